section
-- ===== PART A: goes FIRST, ahead of the names: the tables' words, and 'selects' of the private methods out of them =====
/-- a private method of a class that the tables say can be made, by its rows of tables_1 -/
def lw_okq (q : MethodName × Nat) : Prop := (q.1.cls ≠ "java/lang/invoke/MethodHandle" ∧ q.1.cls ≠ "java/lang/invoke/VarHandle") ∧ Cond.instantiable q.1.cls q.2 ∈ tables_1 ∧ Cond.privateMethod q.1 ∈ tables_1 ∧ Cond.instanceMethod q.1 ∈ tables_1
theorem lw_p0 : lw_okq (⟨"BakedBefore", "isLoaf", "(I)Z"⟩, 12) := ⟨⟨by decide +kernel, by decide +kernel⟩, List.mem_of_getElem? (i := 22) (by decide +kernel), List.mem_of_getElem? (i := 353) (by decide +kernel), List.mem_of_getElem? (i := 354) (by decide +kernel)⟩
theorem lw_p1 : lw_okq (⟨"BakedBefore$Kiln", "holds", "(II)Z"⟩, 9) := ⟨⟨by decide +kernel, by decide +kernel⟩, List.mem_of_getElem? (i := 167) (by decide +kernel), List.mem_of_getElem? (i := 376) (by decide +kernel), List.mem_of_getElem? (i := 377) (by decide +kernel)⟩
theorem lw_p2 : lw_okq (⟨"BakedBefore", "ofTaste", "(LBakedBefore$Loaf;II)I"⟩, 12) := ⟨⟨by decide +kernel, by decide +kernel⟩, List.mem_of_getElem? (i := 22) (by decide +kernel), List.mem_of_getElem? (i := 405) (by decide +kernel), List.mem_of_getElem? (i := 406) (by decide +kernel)⟩
theorem lw_p3 : lw_okq (⟨"BakedBefore$Reader", "readClause", "()Z"⟩, 5) := ⟨⟨by decide +kernel, by decide +kernel⟩, List.mem_of_getElem? (i := 143) (by decide +kernel), List.mem_of_getElem? (i := 438) (by decide +kernel), List.mem_of_getElem? (i := 439) (by decide +kernel)⟩
theorem lw_p4 : lw_okq (⟨"BakedBefore$Reader", "here", "()I"⟩, 5) := ⟨⟨by decide +kernel, by decide +kernel⟩, List.mem_of_getElem? (i := 143) (by decide +kernel), List.mem_of_getElem? (i := 442) (by decide +kernel), List.mem_of_getElem? (i := 443) (by decide +kernel)⟩
theorem lw_p5 : lw_okq (⟨"BakedBefore$Reader", "readWord", "(Ljava/lang/String;)Z"⟩, 5) := ⟨⟨by decide +kernel, by decide +kernel⟩, List.mem_of_getElem? (i := 143) (by decide +kernel), List.mem_of_getElem? (i := 456) (by decide +kernel), List.mem_of_getElem? (i := 457) (by decide +kernel)⟩
theorem lw_p6 : lw_okq (⟨"BakedBefore$Reader", "skip", "(C)Z"⟩, 5) := ⟨⟨by decide +kernel, by decide +kernel⟩, List.mem_of_getElem? (i := 143) (by decide +kernel), List.mem_of_getElem? (i := 508) (by decide +kernel), List.mem_of_getElem? (i := 509) (by decide +kernel)⟩
theorem lw_p7 : lw_okq (⟨"BakedBefore$Reader", "readNumber", "()Z"⟩, 5) := ⟨⟨by decide +kernel, by decide +kernel⟩, List.mem_of_getElem? (i := 143) (by decide +kernel), List.mem_of_getElem? (i := 512) (by decide +kernel), List.mem_of_getElem? (i := 513) (by decide +kernel)⟩
theorem lw_p8 : lw_okq (⟨"BakedBefore$Reader", "readEither", "(I)Z"⟩, 5) := ⟨⟨by decide +kernel, by decide +kernel⟩, List.mem_of_getElem? (i := 143) (by decide +kernel), List.mem_of_getElem? (i := 523) (by decide +kernel), List.mem_of_getElem? (i := 524) (by decide +kernel)⟩
theorem lw_p9 : lw_okq (⟨"BakedBefore$Reader", "readBoth", "(I)Z"⟩, 5) := ⟨⟨by decide +kernel, by decide +kernel⟩, List.mem_of_getElem? (i := 143) (by decide +kernel), List.mem_of_getElem? (i := 527) (by decide +kernel), List.mem_of_getElem? (i := 528) (by decide +kernel)⟩
theorem lw_p10 : lw_okq (⟨"BakedBefore$Reader", "readPart", "(I)Z"⟩, 5) := ⟨⟨by decide +kernel, by decide +kernel⟩, List.mem_of_getElem? (i := 143) (by decide +kernel), List.mem_of_getElem? (i := 531) (by decide +kernel), List.mem_of_getElem? (i := 532) (by decide +kernel)⟩
theorem lw_p11 : lw_okq (⟨"BakedBefore$Reader", "readTest", "()Z"⟩, 5) := ⟨⟨by decide +kernel, by decide +kernel⟩, List.mem_of_getElem? (i := 143) (by decide +kernel), List.mem_of_getElem? (i := 535) (by decide +kernel), List.mem_of_getElem? (i := 536) (by decide +kernel)⟩
theorem lw_p12 : lw_okq (⟨"BakedBefore", "isSet", "(II)Z"⟩, 12) := ⟨⟨by decide +kernel, by decide +kernel⟩, List.mem_of_getElem? (i := 22) (by decide +kernel), List.mem_of_getElem? (i := 593) (by decide +kernel), List.mem_of_getElem? (i := 594) (by decide +kernel)⟩
theorem lw_p13 : lw_okq (⟨"BakedBefore$Search", "goOnOrder", "(III)V"⟩, 7) := ⟨⟨by decide +kernel, by decide +kernel⟩, List.mem_of_getElem? (i := 236) (by decide +kernel), List.mem_of_getElem? (i := 609) (by decide +kernel), List.mem_of_getElem? (i := 610) (by decide +kernel)⟩
theorem lw_p14 : lw_okq (⟨"BakedBefore$Search", "keep", "(I)V"⟩, 7) := ⟨⟨by decide +kernel, by decide +kernel⟩, List.mem_of_getElem? (i := 236) (by decide +kernel), List.mem_of_getElem? (i := 613) (by decide +kernel), List.mem_of_getElem? (i := 614) (by decide +kernel)⟩
theorem lw_p15 : lw_okq (⟨"BakedBefore$Search", "goOnColds", "(III)V"⟩, 7) := ⟨⟨by decide +kernel, by decide +kernel⟩, List.mem_of_getElem? (i := 236) (by decide +kernel), List.mem_of_getElem? (i := 626) (by decide +kernel), List.mem_of_getElem? (i := 627) (by decide +kernel)⟩
def lw_privs_1 : List (MethodName × Nat) := [(⟨"BakedBefore", "isLoaf", "(I)Z"⟩, 12), (⟨"BakedBefore$Kiln", "holds", "(II)Z"⟩, 9), (⟨"BakedBefore", "ofTaste", "(LBakedBefore$Loaf;II)I"⟩, 12), (⟨"BakedBefore$Reader", "readClause", "()Z"⟩, 5), (⟨"BakedBefore$Reader", "here", "()I"⟩, 5), (⟨"BakedBefore$Reader", "readWord", "(Ljava/lang/String;)Z"⟩, 5), (⟨"BakedBefore$Reader", "skip", "(C)Z"⟩, 5), (⟨"BakedBefore$Reader", "readNumber", "()Z"⟩, 5), (⟨"BakedBefore$Reader", "readEither", "(I)Z"⟩, 5), (⟨"BakedBefore$Reader", "readBoth", "(I)Z"⟩, 5), (⟨"BakedBefore$Reader", "readPart", "(I)Z"⟩, 5), (⟨"BakedBefore$Reader", "readTest", "()Z"⟩, 5), (⟨"BakedBefore", "isSet", "(II)Z"⟩, 12), (⟨"BakedBefore$Search", "goOnOrder", "(III)V"⟩, 7), (⟨"BakedBefore$Search", "keep", "(I)V"⟩, 7), (⟨"BakedBefore$Search", "goOnColds", "(III)V"⟩, 7)]
theorem lw_r1 : ∀ q ∈ lw_privs_1, lw_okq q := List.forall_mem_cons.mpr ⟨lw_p0, List.forall_mem_cons.mpr ⟨lw_p1, List.forall_mem_cons.mpr ⟨lw_p2, List.forall_mem_cons.mpr ⟨lw_p3, List.forall_mem_cons.mpr ⟨lw_p4, List.forall_mem_cons.mpr ⟨lw_p5, List.forall_mem_cons.mpr ⟨lw_p6, List.forall_mem_cons.mpr ⟨lw_p7, List.forall_mem_cons.mpr ⟨lw_p8, List.forall_mem_cons.mpr ⟨lw_p9, List.forall_mem_cons.mpr ⟨lw_p10, List.forall_mem_cons.mpr ⟨lw_p11, List.forall_mem_cons.mpr ⟨lw_p12, List.forall_mem_cons.mpr ⟨lw_p13, List.forall_mem_cons.mpr ⟨lw_p14, List.forall_mem_cons.mpr ⟨lw_p15, fun _ h => absurd h List.not_mem_nil⟩⟩⟩⟩⟩⟩⟩⟩⟩⟩⟩⟩⟩⟩⟩⟩
theorem lw_p16 : lw_okq (⟨"BakedBefore$Asker", "spoilsWithout", "(II)Z"⟩, 4) := ⟨⟨by decide +kernel, by decide +kernel⟩, List.mem_of_getElem? (i := 215) (by decide +kernel), List.mem_of_getElem? (i := 654) (by decide +kernel), List.mem_of_getElem? (i := 655) (by decide +kernel)⟩
theorem lw_p17 : lw_okq (⟨"BakedBefore$Asker", "spoiledIn", "(I)I"⟩, 4) := ⟨⟨by decide +kernel, by decide +kernel⟩, List.mem_of_getElem? (i := 215) (by decide +kernel), List.mem_of_getElem? (i := 666) (by decide +kernel), List.mem_of_getElem? (i := 667) (by decide +kernel)⟩
theorem lw_p18 : lw_okq (⟨"BakedBefore$Asker", "gainOfFirst", "(I)I"⟩, 4) := ⟨⟨by decide +kernel, by decide +kernel⟩, List.mem_of_getElem? (i := 215) (by decide +kernel), List.mem_of_getElem? (i := 679) (by decide +kernel), List.mem_of_getElem? (i := 680) (by decide +kernel)⟩
theorem lw_p19 : lw_okq (⟨"BakedBefore$Asker", "bakeAhead", "(I)V"⟩, 4) := ⟨⟨by decide +kernel, by decide +kernel⟩, List.mem_of_getElem? (i := 215) (by decide +kernel), List.mem_of_getElem? (i := 692) (by decide +kernel), List.mem_of_getElem? (i := 693) (by decide +kernel)⟩
theorem lw_p20 : lw_okq (⟨"BakedBefore$Acts", "run", "(LBakedBefore$Loaf;IIII)I"⟩, 2) := ⟨⟨by decide +kernel, by decide +kernel⟩, List.mem_of_getElem? (i := 270) (by decide +kernel), List.mem_of_getElem? (i := 797) (by decide +kernel), List.mem_of_getElem? (i := 798) (by decide +kernel)⟩
theorem lw_p21 : lw_okq (⟨"BakedBefore$Acts", "note", "(I)V"⟩, 2) := ⟨⟨by decide +kernel, by decide +kernel⟩, List.mem_of_getElem? (i := 270) (by decide +kernel), List.mem_of_getElem? (i := 808) (by decide +kernel), List.mem_of_getElem? (i := 809) (by decide +kernel)⟩
theorem lw_p22 : lw_okq (⟨"BakedBeforeModel", "reads", "(III)V"⟩, 31) := ⟨⟨by decide +kernel, by decide +kernel⟩, List.mem_of_getElem? (i := 869) (by decide +kernel), List.mem_of_getElem? (i := 980) (by decide +kernel), List.mem_of_getElem? (i := 981) (by decide +kernel)⟩
theorem lw_p23 : lw_okq (⟨"BakedBeforeModel", "readsClause", "()V"⟩, 31) := ⟨⟨by decide +kernel, by decide +kernel⟩, List.mem_of_getElem? (i := 869) (by decide +kernel), List.mem_of_getElem? (i := 984) (by decide +kernel), List.mem_of_getElem? (i := 985) (by decide +kernel)⟩
theorem lw_p24 : lw_okq (⟨"BakedBeforeModel", "here", "()I"⟩, 31) := ⟨⟨by decide +kernel, by decide +kernel⟩, List.mem_of_getElem? (i := 869) (by decide +kernel), List.mem_of_getElem? (i := 988) (by decide +kernel), List.mem_of_getElem? (i := 989) (by decide +kernel)⟩
theorem lw_p25 : lw_okq (⟨"BakedBeforeModel", "readsWord", "(Ljava/lang/String;)V"⟩, 31) := ⟨⟨by decide +kernel, by decide +kernel⟩, List.mem_of_getElem? (i := 869) (by decide +kernel), List.mem_of_getElem? (i := 996) (by decide +kernel), List.mem_of_getElem? (i := 997) (by decide +kernel)⟩
theorem lw_p26 : lw_okq (⟨"BakedBeforeModel", "takes", "(I)Z"⟩, 31) := ⟨⟨by decide +kernel, by decide +kernel⟩, List.mem_of_getElem? (i := 869) (by decide +kernel), List.mem_of_getElem? (i := 1002) (by decide +kernel), List.mem_of_getElem? (i := 1003) (by decide +kernel)⟩
theorem lw_p27 : lw_okq (⟨"BakedBeforeModel", "readsNumber", "()I"⟩, 31) := ⟨⟨by decide +kernel, by decide +kernel⟩, List.mem_of_getElem? (i := 869) (by decide +kernel), List.mem_of_getElem? (i := 1006) (by decide +kernel), List.mem_of_getElem? (i := 1007) (by decide +kernel)⟩
theorem lw_p28 : lw_okq (⟨"BakedBeforeModel", "isDigit", "()Z"⟩, 31) := ⟨⟨by decide +kernel, by decide +kernel⟩, List.mem_of_getElem? (i := 869) (by decide +kernel), List.mem_of_getElem? (i := 1010) (by decide +kernel), List.mem_of_getElem? (i := 1011) (by decide +kernel)⟩
theorem lw_p29 : lw_okq (⟨"BakedBeforeModel", "readsE", "(I)Z"⟩, 31) := ⟨⟨by decide +kernel, by decide +kernel⟩, List.mem_of_getElem? (i := 869) (by decide +kernel), List.mem_of_getElem? (i := 1014) (by decide +kernel), List.mem_of_getElem? (i := 1015) (by decide +kernel)⟩
theorem lw_p30 : lw_okq (⟨"BakedBeforeModel", "readsT", "(I)Z"⟩, 31) := ⟨⟨by decide +kernel, by decide +kernel⟩, List.mem_of_getElem? (i := 869) (by decide +kernel), List.mem_of_getElem? (i := 1018) (by decide +kernel), List.mem_of_getElem? (i := 1019) (by decide +kernel)⟩
theorem lw_p31 : lw_okq (⟨"BakedBeforeModel", "readsF", "(I)Z"⟩, 31) := ⟨⟨by decide +kernel, by decide +kernel⟩, List.mem_of_getElem? (i := 869) (by decide +kernel), List.mem_of_getElem? (i := 1022) (by decide +kernel), List.mem_of_getElem? (i := 1023) (by decide +kernel)⟩
def lw_privs_2 : List (MethodName × Nat) := [(⟨"BakedBefore$Asker", "spoilsWithout", "(II)Z"⟩, 4), (⟨"BakedBefore$Asker", "spoiledIn", "(I)I"⟩, 4), (⟨"BakedBefore$Asker", "gainOfFirst", "(I)I"⟩, 4), (⟨"BakedBefore$Asker", "bakeAhead", "(I)V"⟩, 4), (⟨"BakedBefore$Acts", "run", "(LBakedBefore$Loaf;IIII)I"⟩, 2), (⟨"BakedBefore$Acts", "note", "(I)V"⟩, 2), (⟨"BakedBeforeModel", "reads", "(III)V"⟩, 31), (⟨"BakedBeforeModel", "readsClause", "()V"⟩, 31), (⟨"BakedBeforeModel", "here", "()I"⟩, 31), (⟨"BakedBeforeModel", "readsWord", "(Ljava/lang/String;)V"⟩, 31), (⟨"BakedBeforeModel", "takes", "(I)Z"⟩, 31), (⟨"BakedBeforeModel", "readsNumber", "()I"⟩, 31), (⟨"BakedBeforeModel", "isDigit", "()Z"⟩, 31), (⟨"BakedBeforeModel", "readsE", "(I)Z"⟩, 31), (⟨"BakedBeforeModel", "readsT", "(I)Z"⟩, 31), (⟨"BakedBeforeModel", "readsF", "(I)Z"⟩, 31)]
theorem lw_r2 : ∀ q ∈ lw_privs_2, lw_okq q := List.forall_mem_cons.mpr ⟨lw_p16, List.forall_mem_cons.mpr ⟨lw_p17, List.forall_mem_cons.mpr ⟨lw_p18, List.forall_mem_cons.mpr ⟨lw_p19, List.forall_mem_cons.mpr ⟨lw_p20, List.forall_mem_cons.mpr ⟨lw_p21, List.forall_mem_cons.mpr ⟨lw_p22, List.forall_mem_cons.mpr ⟨lw_p23, List.forall_mem_cons.mpr ⟨lw_p24, List.forall_mem_cons.mpr ⟨lw_p25, List.forall_mem_cons.mpr ⟨lw_p26, List.forall_mem_cons.mpr ⟨lw_p27, List.forall_mem_cons.mpr ⟨lw_p28, List.forall_mem_cons.mpr ⟨lw_p29, List.forall_mem_cons.mpr ⟨lw_p30, List.forall_mem_cons.mpr ⟨lw_p31, fun _ h => absurd h List.not_mem_nil⟩⟩⟩⟩⟩⟩⟩⟩⟩⟩⟩⟩⟩⟩⟩⟩
theorem lw_p32 : lw_okq (⟨"BakedBeforeModel", "readsTest", "()Z"⟩, 31) := ⟨⟨by decide +kernel, by decide +kernel⟩, List.mem_of_getElem? (i := 869) (by decide +kernel), List.mem_of_getElem? (i := 1026) (by decide +kernel), List.mem_of_getElem? (i := 1027) (by decide +kernel)⟩
theorem lw_p33 : lw_okq (⟨"BakedBeforeModel", "valueOf", "(I)I"⟩, 31) := ⟨⟨by decide +kernel, by decide +kernel⟩, List.mem_of_getElem? (i := 869) (by decide +kernel), List.mem_of_getElem? (i := 1033) (by decide +kernel), List.mem_of_getElem? (i := 1034) (by decide +kernel)⟩
theorem lw_p34 : lw_okq (⟨"BakedBeforeModel", "kind", "(I)I"⟩, 31) := ⟨⟨by decide +kernel, by decide +kernel⟩, List.mem_of_getElem? (i := 869) (by decide +kernel), List.mem_of_getElem? (i := 1037) (by decide +kernel), List.mem_of_getElem? (i := 1038) (by decide +kernel)⟩
theorem lw_p35 : lw_okq (⟨"BakedBeforeModel", "get", "(II)I"⟩, 31) := ⟨⟨by decide +kernel, by decide +kernel⟩, List.mem_of_getElem? (i := 869) (by decide +kernel), List.mem_of_getElem? (i := 1041) (by decide +kernel), List.mem_of_getElem? (i := 1042) (by decide +kernel)⟩
theorem lw_p36 : lw_okq (⟨"BakedBeforeModel", "number", "(I)I"⟩, 31) := ⟨⟨by decide +kernel, by decide +kernel⟩, List.mem_of_getElem? (i := 869) (by decide +kernel), List.mem_of_getElem? (i := 1045) (by decide +kernel), List.mem_of_getElem? (i := 1046) (by decide +kernel)⟩
theorem lw_p37 : lw_okq (⟨"BakedBeforeModel", "isLoaf", "(I)Z"⟩, 31) := ⟨⟨by decide +kernel, by decide +kernel⟩, List.mem_of_getElem? (i := 869) (by decide +kernel), List.mem_of_getElem? (i := 1057) (by decide +kernel), List.mem_of_getElem? (i := 1058) (by decide +kernel)⟩
theorem lw_p38 : lw_okq (⟨"BakedBeforeModel", "feeOf", "(I)I"⟩, 31) := ⟨⟨by decide +kernel, by decide +kernel⟩, List.mem_of_getElem? (i := 869) (by decide +kernel), List.mem_of_getElem? (i := 1068) (by decide +kernel), List.mem_of_getElem? (i := 1069) (by decide +kernel)⟩
theorem lw_p39 : lw_okq (⟨"BakedBeforeModel", "readsNow", "(II)V"⟩, 31) := ⟨⟨by decide +kernel, by decide +kernel⟩, List.mem_of_getElem? (i := 869) (by decide +kernel), List.mem_of_getElem? (i := 1072) (by decide +kernel), List.mem_of_getElem? (i := 1073) (by decide +kernel)⟩
theorem lw_p40 : lw_okq (⟨"BakedBeforeModel", "isSpoiled", "(I)Z"⟩, 31) := ⟨⟨by decide +kernel, by decide +kernel⟩, List.mem_of_getElem? (i := 869) (by decide +kernel), List.mem_of_getElem? (i := 1076) (by decide +kernel), List.mem_of_getElem? (i := 1077) (by decide +kernel)⟩
theorem lw_p41 : lw_okq (⟨"BakedBeforeModel", "takesOf", "(II)I"⟩, 31) := ⟨⟨by decide +kernel, by decide +kernel⟩, List.mem_of_getElem? (i := 869) (by decide +kernel), List.mem_of_getElem? (i := 1080) (by decide +kernel), List.mem_of_getElem? (i := 1081) (by decide +kernel)⟩
theorem lw_p42 : lw_okq (⟨"BakedBeforeModel", "partOf", "(II)I"⟩, 31) := ⟨⟨by decide +kernel, by decide +kernel⟩, List.mem_of_getElem? (i := 869) (by decide +kernel), List.mem_of_getElem? (i := 1084) (by decide +kernel), List.mem_of_getElem? (i := 1085) (by decide +kernel)⟩
theorem lw_p43 : lw_okq (⟨"BakedBeforeModel", "takesBy", "(IIII)I"⟩, 31) := ⟨⟨by decide +kernel, by decide +kernel⟩, List.mem_of_getElem? (i := 869) (by decide +kernel), List.mem_of_getElem? (i := 1088) (by decide +kernel), List.mem_of_getElem? (i := 1089) (by decide +kernel)⟩
theorem lw_p44 : lw_okq (⟨"BakedBeforeModel", "leavesOf", "(II)I"⟩, 31) := ⟨⟨by decide +kernel, by decide +kernel⟩, List.mem_of_getElem? (i := 869) (by decide +kernel), List.mem_of_getElem? (i := 1092) (by decide +kernel), List.mem_of_getElem? (i := 1093) (by decide +kernel)⟩
theorem lw_p45 : lw_okq (⟨"BakedBeforeModel", "bakes", "(I)Z"⟩, 31) := ⟨⟨by decide +kernel, by decide +kernel⟩, List.mem_of_getElem? (i := 869) (by decide +kernel), List.mem_of_getElem? (i := 1108) (by decide +kernel), List.mem_of_getElem? (i := 1109) (by decide +kernel)⟩
theorem lw_p46 : lw_okq (⟨"BakedBeforeModel", "ages", "()V"⟩, 31) := ⟨⟨by decide +kernel, by decide +kernel⟩, List.mem_of_getElem? (i := 869) (by decide +kernel), List.mem_of_getElem? (i := 1112) (by decide +kernel), List.mem_of_getElem? (i := 1113) (by decide +kernel)⟩
theorem lw_p47 : lw_okq (⟨"BakedBeforeModel", "cools", "()V"⟩, 31) := ⟨⟨by decide +kernel, by decide +kernel⟩, List.mem_of_getElem? (i := 869) (by decide +kernel), List.mem_of_getElem? (i := 1120) (by decide +kernel), List.mem_of_getElem? (i := 1121) (by decide +kernel)⟩
def lw_privs_3 : List (MethodName × Nat) := [(⟨"BakedBeforeModel", "readsTest", "()Z"⟩, 31), (⟨"BakedBeforeModel", "valueOf", "(I)I"⟩, 31), (⟨"BakedBeforeModel", "kind", "(I)I"⟩, 31), (⟨"BakedBeforeModel", "get", "(II)I"⟩, 31), (⟨"BakedBeforeModel", "number", "(I)I"⟩, 31), (⟨"BakedBeforeModel", "isLoaf", "(I)Z"⟩, 31), (⟨"BakedBeforeModel", "feeOf", "(I)I"⟩, 31), (⟨"BakedBeforeModel", "readsNow", "(II)V"⟩, 31), (⟨"BakedBeforeModel", "isSpoiled", "(I)Z"⟩, 31), (⟨"BakedBeforeModel", "takesOf", "(II)I"⟩, 31), (⟨"BakedBeforeModel", "partOf", "(II)I"⟩, 31), (⟨"BakedBeforeModel", "takesBy", "(IIII)I"⟩, 31), (⟨"BakedBeforeModel", "leavesOf", "(II)I"⟩, 31), (⟨"BakedBeforeModel", "bakes", "(I)Z"⟩, 31), (⟨"BakedBeforeModel", "ages", "()V"⟩, 31), (⟨"BakedBeforeModel", "cools", "()V"⟩, 31)]
theorem lw_r3 : ∀ q ∈ lw_privs_3, lw_okq q := List.forall_mem_cons.mpr ⟨lw_p32, List.forall_mem_cons.mpr ⟨lw_p33, List.forall_mem_cons.mpr ⟨lw_p34, List.forall_mem_cons.mpr ⟨lw_p35, List.forall_mem_cons.mpr ⟨lw_p36, List.forall_mem_cons.mpr ⟨lw_p37, List.forall_mem_cons.mpr ⟨lw_p38, List.forall_mem_cons.mpr ⟨lw_p39, List.forall_mem_cons.mpr ⟨lw_p40, List.forall_mem_cons.mpr ⟨lw_p41, List.forall_mem_cons.mpr ⟨lw_p42, List.forall_mem_cons.mpr ⟨lw_p43, List.forall_mem_cons.mpr ⟨lw_p44, List.forall_mem_cons.mpr ⟨lw_p45, List.forall_mem_cons.mpr ⟨lw_p46, List.forall_mem_cons.mpr ⟨lw_p47, fun _ h => absurd h List.not_mem_nil⟩⟩⟩⟩⟩⟩⟩⟩⟩⟩⟩⟩⟩⟩⟩⟩
theorem lw_p48 : lw_okq (⟨"BakedBeforeModel", "begins", "()V"⟩, 31) := ⟨⟨by decide +kernel, by decide +kernel⟩, List.mem_of_getElem? (i := 869) (by decide +kernel), List.mem_of_getElem? (i := 1128) (by decide +kernel), List.mem_of_getElem? (i := 1129) (by decide +kernel)⟩
theorem lw_p49 : lw_okq (⟨"BakedBeforeModel", "ends", "()V"⟩, 31) := ⟨⟨by decide +kernel, by decide +kernel⟩, List.mem_of_getElem? (i := 869) (by decide +kernel), List.mem_of_getElem? (i := 1135) (by decide +kernel), List.mem_of_getElem? (i := 1136) (by decide +kernel)⟩
theorem lw_p50 : lw_okq (⟨"BakedBeforeModel", "areLoaves", "(I)Z"⟩, 31) := ⟨⟨by decide +kernel, by decide +kernel⟩, List.mem_of_getElem? (i := 869) (by decide +kernel), List.mem_of_getElem? (i := 1143) (by decide +kernel), List.mem_of_getElem? (i := 1144) (by decide +kernel)⟩
theorem lw_p51 : lw_okq (⟨"BakedBeforeModel", "orders", "(III)V"⟩, 31) := ⟨⟨by decide +kernel, by decide +kernel⟩, List.mem_of_getElem? (i := 869) (by decide +kernel), List.mem_of_getElem? (i := 1150) (by decide +kernel), List.mem_of_getElem? (i := 1151) (by decide +kernel)⟩
theorem lw_p52 : lw_okq (⟨"BakedBeforeModel", "spoiledBy", "(I)I"⟩, 31) := ⟨⟨by decide +kernel, by decide +kernel⟩, List.mem_of_getElem? (i := 869) (by decide +kernel), List.mem_of_getElem? (i := 1154) (by decide +kernel), List.mem_of_getElem? (i := 1155) (by decide +kernel)⟩
theorem lw_p53 : lw_okq (⟨"BakedBeforeModel", "isWellBy", "(III)Z"⟩, 31) := ⟨⟨by decide +kernel, by decide +kernel⟩, List.mem_of_getElem? (i := 869) (by decide +kernel), List.mem_of_getElem? (i := 1162) (by decide +kernel), List.mem_of_getElem? (i := 1163) (by decide +kernel)⟩
theorem lw_p54 : lw_okq (⟨"BakedBeforeModel", "takesAt", "(II)I"⟩, 31) := ⟨⟨by decide +kernel, by decide +kernel⟩, List.mem_of_getElem? (i := 869) (by decide +kernel), List.mem_of_getElem? (i := 1173) (by decide +kernel), List.mem_of_getElem? (i := 1174) (by decide +kernel)⟩
theorem lw_p55 : lw_okq (⟨"BakedBeforeModel", "allTakes", "(I)I"⟩, 31) := ⟨⟨by decide +kernel, by decide +kernel⟩, List.mem_of_getElem? (i := 869) (by decide +kernel), List.mem_of_getElem? (i := 1177) (by decide +kernel), List.mem_of_getElem? (i := 1178) (by decide +kernel)⟩
theorem lw_p56 : lw_okq (⟨"BakedBeforeModel", "isSpoiledBehind", "(II)Z"⟩, 31) := ⟨⟨by decide +kernel, by decide +kernel⟩, List.mem_of_getElem? (i := 869) (by decide +kernel), List.mem_of_getElem? (i := 1185) (by decide +kernel), List.mem_of_getElem? (i := 1186) (by decide +kernel)⟩
theorem lw_p57 : lw_okq (⟨"BakedBeforeModel", "spoiledIn", "(I)I"⟩, 31) := ⟨⟨by decide +kernel, by decide +kernel⟩, List.mem_of_getElem? (i := 869) (by decide +kernel), List.mem_of_getElem? (i := 1193) (by decide +kernel), List.mem_of_getElem? (i := 1194) (by decide +kernel)⟩
theorem lw_p58 : lw_okq (⟨"BakedBeforeModel", "takesBehind", "(II)I"⟩, 31) := ⟨⟨by decide +kernel, by decide +kernel⟩, List.mem_of_getElem? (i := 869) (by decide +kernel), List.mem_of_getElem? (i := 1202) (by decide +kernel), List.mem_of_getElem? (i := 1203) (by decide +kernel)⟩
theorem lw_p59 : lw_okq (⟨"BakedBeforeModel", "takesInRow", "(II)I"⟩, 31) := ⟨⟨by decide +kernel, by decide +kernel⟩, List.mem_of_getElem? (i := 869) (by decide +kernel), List.mem_of_getElem? (i := 1210) (by decide +kernel), List.mem_of_getElem? (i := 1211) (by decide +kernel)⟩
theorem lw_p60 : lw_okq (⟨"BakedBeforeModel", "isBookedSo", "(I)Z"⟩, 31) := ⟨⟨by decide +kernel, by decide +kernel⟩, List.mem_of_getElem? (i := 869) (by decide +kernel), List.mem_of_getElem? (i := 1247) (by decide +kernel), List.mem_of_getElem? (i := 1248) (by decide +kernel)⟩
theorem lw_p61 : lw_okq (⟨"BakedBeforeModel", "rises", "(II)I"⟩, 31) := ⟨⟨by decide +kernel, by decide +kernel⟩, List.mem_of_getElem? (i := 869) (by decide +kernel), List.mem_of_getElem? (i := 1270) (by decide +kernel), List.mem_of_getElem? (i := 1271) (by decide +kernel)⟩
theorem lw_p62 : lw_okq (⟨"BakedBeforeModel", "runs", "(I)V"⟩, 31) := ⟨⟨by decide +kernel, by decide +kernel⟩, List.mem_of_getElem? (i := 869) (by decide +kernel), List.mem_of_getElem? (i := 1274) (by decide +kernel), List.mem_of_getElem? (i := 1275) (by decide +kernel)⟩
theorem lw_p63 : lw_okq (⟨"BakedBeforeModel", "bakesFrom", "(II)I"⟩, 31) := ⟨⟨by decide +kernel, by decide +kernel⟩, List.mem_of_getElem? (i := 869) (by decide +kernel), List.mem_of_getElem? (i := 1278) (by decide +kernel), List.mem_of_getElem? (i := 1279) (by decide +kernel)⟩
def lw_privs_4 : List (MethodName × Nat) := [(⟨"BakedBeforeModel", "begins", "()V"⟩, 31), (⟨"BakedBeforeModel", "ends", "()V"⟩, 31), (⟨"BakedBeforeModel", "areLoaves", "(I)Z"⟩, 31), (⟨"BakedBeforeModel", "orders", "(III)V"⟩, 31), (⟨"BakedBeforeModel", "spoiledBy", "(I)I"⟩, 31), (⟨"BakedBeforeModel", "isWellBy", "(III)Z"⟩, 31), (⟨"BakedBeforeModel", "takesAt", "(II)I"⟩, 31), (⟨"BakedBeforeModel", "allTakes", "(I)I"⟩, 31), (⟨"BakedBeforeModel", "isSpoiledBehind", "(II)Z"⟩, 31), (⟨"BakedBeforeModel", "spoiledIn", "(I)I"⟩, 31), (⟨"BakedBeforeModel", "takesBehind", "(II)I"⟩, 31), (⟨"BakedBeforeModel", "takesInRow", "(II)I"⟩, 31), (⟨"BakedBeforeModel", "isBookedSo", "(I)Z"⟩, 31), (⟨"BakedBeforeModel", "rises", "(II)I"⟩, 31), (⟨"BakedBeforeModel", "runs", "(I)V"⟩, 31), (⟨"BakedBeforeModel", "bakesFrom", "(II)I"⟩, 31)]
theorem lw_r4 : ∀ q ∈ lw_privs_4, lw_okq q := List.forall_mem_cons.mpr ⟨lw_p48, List.forall_mem_cons.mpr ⟨lw_p49, List.forall_mem_cons.mpr ⟨lw_p50, List.forall_mem_cons.mpr ⟨lw_p51, List.forall_mem_cons.mpr ⟨lw_p52, List.forall_mem_cons.mpr ⟨lw_p53, List.forall_mem_cons.mpr ⟨lw_p54, List.forall_mem_cons.mpr ⟨lw_p55, List.forall_mem_cons.mpr ⟨lw_p56, List.forall_mem_cons.mpr ⟨lw_p57, List.forall_mem_cons.mpr ⟨lw_p58, List.forall_mem_cons.mpr ⟨lw_p59, List.forall_mem_cons.mpr ⟨lw_p60, List.forall_mem_cons.mpr ⟨lw_p61, List.forall_mem_cons.mpr ⟨lw_p62, List.forall_mem_cons.mpr ⟨lw_p63, fun _ h => absurd h List.not_mem_nil⟩⟩⟩⟩⟩⟩⟩⟩⟩⟩⟩⟩⟩⟩⟩⟩
theorem lw_p64 : lw_okq (⟨"BakedBeforeModel", "tells", "(II)I"⟩, 31) := ⟨⟨by decide +kernel, by decide +kernel⟩, List.mem_of_getElem? (i := 869) (by decide +kernel), List.mem_of_getElem? (i := 1282) (by decide +kernel), List.mem_of_getElem? (i := 1283) (by decide +kernel)⟩
def lw_privs_5 : List (MethodName × Nat) := [(⟨"BakedBeforeModel", "tells", "(II)I"⟩, 31)]
theorem lw_r5 : ∀ q ∈ lw_privs_5, lw_okq q := List.forall_mem_cons.mpr ⟨lw_p64, fun _ h => absurd h List.not_mem_nil⟩
def lw_privs : List (MethodName × Nat) := lw_privs_1 ++ (lw_privs_2 ++ (lw_privs_3 ++ (lw_privs_4 ++ (lw_privs_5))))
def lw_tbl : List Cond := k2_sels lw_privs ++ tables_1
theorem lw_privs_ok : ∀ q ∈ lw_privs, lw_okq q := by
  show ∀ q ∈ lw_privs_1 ++ (lw_privs_2 ++ (lw_privs_3 ++ (lw_privs_4 ++ (lw_privs_5)))), lw_okq q
  exact List.forall_mem_append.mpr ⟨lw_r1, List.forall_mem_append.mpr ⟨lw_r2, List.forall_mem_append.mpr ⟨lw_r3, List.forall_mem_append.mpr ⟨lw_r4, lw_r5⟩⟩⟩⟩
end
section
/-! names: classes, tables of their fields; the words that stay good in every call -/
def R_BB : String := "BakedBefore"
def F_BB : u_T := fun k => match k with
  | 0 => ("BakedBefore", "now", "LBakedBefore$Stand;", true)
  | 1 => ("BakedBefore", "kept", "LBakedBefore$Stand;", true)
  | 2 => ("BakedBefore", "reader", "LBakedBefore$Reader;", true)
  | 3 => ("BakedBefore", "kilns", "[LBakedBefore$Kiln;", true)
  | 4 => ("BakedBefore", "blank", "LBakedBefore$Kiln;", true)
  | 5 => ("BakedBefore", "baker", "LBakedBefore$Baker;", true)
  | 6 => ("BakedBefore", "asker", "LBakedBefore$Asker;", true)
  | 7 => ("BakedBefore", "search", "LBakedBefore$Search;", true)
  | 8 => ("BakedBefore", "acts", "LBakedBefore$Acts;", true)
  | 9 => ("BakedBefore", "tapes", "LBakedBefore$Tapes;", true)
  | 10 => ("BakedBefore", "kilnCount", "I", false)
  | _ => ("BakedBefore", "imaged", "Z", false)
def t_BB : Nat → FieldType := fun k => match k with
  | 0 => (.object "BakedBefore$Stand")
  | 1 => (.object "BakedBefore$Stand")
  | 2 => (.object "BakedBefore$Reader")
  | 3 => (.array (.object "BakedBefore$Kiln"))
  | 4 => (.object "BakedBefore$Kiln")
  | 5 => (.object "BakedBefore$Baker")
  | 6 => (.object "BakedBefore$Asker")
  | 7 => (.object "BakedBefore$Search")
  | 8 => (.object "BakedBefore$Acts")
  | 9 => (.object "BakedBefore$Tapes")
  | 10 => .int
  | _ => .boolean
def R_Acts : String := "BakedBefore$Acts"
def F_Acts : u_T := fun k => match k with
  | 0 => ("BakedBefore$Acts", "bodies", "[I", true)
  | _ => ("BakedBefore$Acts", "ran", "I", false)
def t_Acts : Nat → FieldType := fun k => match k with
  | 0 => (.array .int)
  | _ => .int
def R_Asker : String := "BakedBefore$Asker"
def F_Asker : u_T := fun k => match k with
  | 0 => ("BakedBefore$Asker", "now", "LBakedBefore$Stand;", true)
  | 1 => ("BakedBefore$Asker", "baker", "LBakedBefore$Baker;", true)
  | 2 => ("BakedBefore$Asker", "trial", "LBakedBefore$Oven;", true)
  | _ => ("BakedBefore$Asker", "spoiledOf", "[I", true)
def t_Asker : Nat → FieldType := fun k => match k with
  | 0 => (.object "BakedBefore$Stand")
  | 1 => (.object "BakedBefore$Baker")
  | 2 => (.object "BakedBefore$Oven")
  | _ => (.array .int)
def R_Baker : String := "BakedBefore$Baker"
def F_Baker : u_T := fun k => match k with
  | _ => ("BakedBefore$Baker", "kiln", "LBakedBefore$Kiln;", false)
def t_Baker : Nat → FieldType := fun k => match k with
  | _ => (.object "BakedBefore$Kiln")
def R_Book : String := "BakedBefore$Book"
def F_Book : u_T := fun k => match k with
  | 0 => ("BakedBefore$Book", "loaves", "[I", true)
  | 1 => ("BakedBefore$Book", "spoiled", "[Z", true)
  | _ => ("BakedBefore$Book", "rows", "I", false)
def t_Book : Nat → FieldType := fun k => match k with
  | 0 => (.array .int)
  | 1 => (.array .boolean)
  | _ => .int
def R_Kiln : String := "BakedBefore$Kiln"
def F_Kiln : u_T := fun k => match k with
  | 0 => ("BakedBefore$Kiln", "words", "[I", true)
  | 1 => ("BakedBefore$Kiln", "numbers", "[I", true)
  | 2 => ("BakedBefore$Kiln", "ends", "[I", true)
  | 3 => ("BakedBefore$Kiln", "steps", "[I", true)
  | 4 => ("BakedBefore$Kiln", "letters", "[I", true)
  | 5 => ("BakedBefore$Kiln", "clauses", "I", false)
  | 6 => ("BakedBefore$Kiln", "stepCount", "I", false)
  | 7 => ("BakedBefore$Kiln", "takeClauses", "I", false)
  | _ => ("BakedBefore$Kiln", "coldPart", "I", false)
def t_Kiln : Nat → FieldType := fun k => match k with
  | 0 => (.array .int)
  | 1 => (.array .int)
  | 2 => (.array .int)
  | 3 => (.array .int)
  | 4 => (.array .int)
  | 5 => .int
  | 6 => .int
  | 7 => .int
  | _ => .int
def R_Loaf : String := "BakedBefore$Loaf"
def F_Loaf : u_T := fun k => match k with
  | 0 => ("BakedBefore$Loaf", "number", "I", true)
  | 1 => ("BakedBefore$Loaf", "gives", "[I", true)
  | 2 => ("BakedBefore$Loaf", "bears", "[I", true)
  | 3 => ("BakedBefore$Loaf", "kind", "I", false)
  | _ => ("BakedBefore$Loaf", "v", "I", false)
def t_Loaf : Nat → FieldType := fun k => match k with
  | 0 => .int
  | 1 => (.array .int)
  | 2 => (.array .int)
  | 3 => .int
  | _ => .int
def R_Oven : String := "BakedBefore$Oven"
def F_Oven : u_T := fun k => match k with
  | 0 => ("BakedBefore$Oven", "held", "[I", true)
  | _ => ("BakedBefore$Oven", "hour", "I", false)
def t_Oven : Nat → FieldType := fun k => match k with
  | 0 => (.array .int)
  | _ => .int
def R_Reader : String := "BakedBefore$Reader"
def F_Reader : u_T := fun k => match k with
  | 0 => ("BakedBefore$Reader", "text", "[I", true)
  | 1 => ("BakedBefore$Reader", "length", "I", false)
  | 2 => ("BakedBefore$Reader", "at", "I", false)
  | 3 => ("BakedBefore$Reader", "number", "I", false)
  | _ => ("BakedBefore$Reader", "kiln", "LBakedBefore$Kiln;", false)
def t_Reader : Nat → FieldType := fun k => match k with
  | 0 => (.array .int)
  | 1 => .int
  | 2 => .int
  | 3 => .int
  | _ => (.object "BakedBefore$Kiln")
def R_Search : String := "BakedBefore$Search"
def F_Search : u_T := fun k => match k with
  | 0 => ("BakedBefore$Search", "now", "LBakedBefore$Stand;", true)
  | 1 => ("BakedBefore$Search", "baker", "LBakedBefore$Baker;", true)
  | 2 => ("BakedBefore$Search", "ovens", "[LBakedBefore$Oven;", true)
  | 3 => ("BakedBefore$Search", "row", "[I", true)
  | 4 => ("BakedBefore$Search", "best", "[I", true)
  | 5 => ("BakedBefore$Search", "length", "I", false)
  | _ => ("BakedBefore$Search", "fewest", "I", false)
def t_Search : Nat → FieldType := fun k => match k with
  | 0 => (.object "BakedBefore$Stand")
  | 1 => (.object "BakedBefore$Baker")
  | 2 => (.array (.object "BakedBefore$Oven"))
  | 3 => (.array .int)
  | 4 => (.array .int)
  | 5 => .int
  | _ => .int
def R_Stand : String := "BakedBefore$Stand"
def F_Stand : u_T := fun k => match k with
  | 0 => ("BakedBefore$Stand", "loaves", "[LBakedBefore$Loaf;", true)
  | 1 => ("BakedBefore$Stand", "oven", "LBakedBefore$Oven;", true)
  | 2 => ("BakedBefore$Stand", "book", "LBakedBefore$Book;", true)
  | 3 => ("BakedBefore$Stand", "many", "I", false)
  | _ => ("BakedBefore$Stand", "holding", "I", false)
def t_Stand : Nat → FieldType := fun k => match k with
  | 0 => (.array (.object "BakedBefore$Loaf"))
  | 1 => (.object "BakedBefore$Oven")
  | 2 => (.object "BakedBefore$Book")
  | 3 => .int
  | _ => .int
def R_Tapes : String := "BakedBefore$Tapes"
def F_Tapes : u_T := fun k => match k with
  | 0 => ("BakedBefore$Tapes", "rows", "[[J", true)
  | 1 => ("BakedBefore$Tapes", "sorts", "[I", true)
  | _ => ("BakedBefore$Tapes", "lengths", "[I", true)
def t_Tapes : Nat → FieldType := fun k => match k with
  | 0 => (.array (.array .long))
  | 1 => (.array .int)
  | _ => (.array .int)
def R_Model : String := "BakedBeforeModel"
def F_Model : u_T := fun k => match k with
  | 0 => ("BakedBeforeModel", "s", "[I", true)
  | 1 => ("BakedBeforeModel", "image", "[I", true)
  | 2 => ("BakedBeforeModel", "mind", "[I", true)
  | 3 => ("BakedBeforeModel", "hasImage", "Z", false)
  | 4 => ("BakedBeforeModel", "text", "[I", true)
  | 5 => ("BakedBeforeModel", "kilnText", "[I", true)
  | 6 => ("BakedBeforeModel", "kilnLong", "[I", true)
  | 7 => ("BakedBeforeModel", "texted", "I", false)
  | 8 => ("BakedBeforeModel", "kilns", "I", false)
  | 9 => ("BakedBeforeModel", "base", "I", false)
  | 10 => ("BakedBeforeModel", "end", "I", false)
  | 11 => ("BakedBeforeModel", "at", "I", false)
  | 12 => ("BakedBeforeModel", "loaf", "I", false)
  | 13 => ("BakedBeforeModel", "taste", "I", false)
  | 14 => ("BakedBeforeModel", "wrong", "Z", false)
  | 15 => ("BakedBeforeModel", "isFee", "Z", false)
  | 16 => ("BakedBeforeModel", "part", "I", false)
  | 17 => ("BakedBeforeModel", "parts", "I", false)
  | 18 => ("BakedBeforeModel", "more", "I", false)
  | 19 => ("BakedBeforeModel", "cold", "I", false)
  | 20 => ("BakedBeforeModel", "fee", "I", false)
  | 21 => ("BakedBeforeModel", "held", "[I", true)
  | 22 => ("BakedBeforeModel", "line", "[I", true)
  | 23 => ("BakedBeforeModel", "best", "[I", true)
  | 24 => ("BakedBeforeModel", "fewest", "I", false)
  | 25 => ("BakedBeforeModel", "tapeSort", "[I", true)
  | 26 => ("BakedBeforeModel", "tapeLong", "[I", true)
  | 27 => ("BakedBeforeModel", "item", "[J", true)
  | 28 => ("BakedBeforeModel", "trace", "[I", true)
  | 29 => ("BakedBeforeModel", "ran", "I", false)
  | _ => ("BakedBeforeModel", "own", "I", false)
def t_Model : Nat → FieldType := fun k => match k with
  | 0 => (.array .int)
  | 1 => (.array .int)
  | 2 => (.array .int)
  | 3 => .boolean
  | 4 => (.array .int)
  | 5 => (.array .int)
  | 6 => (.array .int)
  | 7 => .int
  | 8 => .int
  | 9 => .int
  | 10 => .int
  | 11 => .int
  | 12 => .int
  | 13 => .int
  | 14 => .boolean
  | 15 => .boolean
  | 16 => .int
  | 17 => .int
  | 18 => .int
  | 19 => .int
  | 20 => .int
  | 21 => (.array .int)
  | 22 => (.array .int)
  | 23 => (.array .int)
  | 24 => .int
  | 25 => (.array .int)
  | 26 => (.array .int)
  | 27 => (.array .long)
  | 28 => (.array .int)
  | 29 => .int
  | _ => .int
abbrev zcl : List vw_C := [(R_BB, F_BB, 12), (R_Acts, F_Acts, 2), (R_Asker, F_Asker, 4), (R_Baker, F_Baker, 1), (R_Book, F_Book, 3), (R_Kiln, F_Kiln, 9), (R_Loaf, F_Loaf, 5), (R_Oven, F_Oven, 2), (R_Reader, F_Reader, 5), (R_Search, F_Search, 7), (R_Stand, F_Stand, 5), (R_Tapes, F_Tapes, 3), (R_Model, F_Model, 31)]
def zW0 : List Cond := lw_tbl.filter goodWord
theorem n_BB : ∀ a, a < 12 → ∀ b, b < 12 → a ≠ b → (F_BB a).2.1 ≠ (F_BB b).2.1 := by decide +kernel
theorem t_BB_ok : ∀ k, k < 12 → parseFieldDescriptor (F_BB k).2.2.1 = some (t_BB k) := by decide +kernel
theorem i_BB : ∀ w ∈ u_ws R_BB F_BB 12, w ∈ zW0 := by decide +kernel
theorem n_Acts : ∀ a, a < 2 → ∀ b, b < 2 → a ≠ b → (F_Acts a).2.1 ≠ (F_Acts b).2.1 := by decide +kernel
theorem t_Acts_ok : ∀ k, k < 2 → parseFieldDescriptor (F_Acts k).2.2.1 = some (t_Acts k) := by decide +kernel
theorem i_Acts : ∀ w ∈ u_ws R_Acts F_Acts 2, w ∈ zW0 := by decide +kernel
theorem n_Asker : ∀ a, a < 4 → ∀ b, b < 4 → a ≠ b → (F_Asker a).2.1 ≠ (F_Asker b).2.1 := by decide +kernel
theorem t_Asker_ok : ∀ k, k < 4 → parseFieldDescriptor (F_Asker k).2.2.1 = some (t_Asker k) := by decide +kernel
theorem i_Asker : ∀ w ∈ u_ws R_Asker F_Asker 4, w ∈ zW0 := by decide +kernel
theorem n_Baker : ∀ a, a < 1 → ∀ b, b < 1 → a ≠ b → (F_Baker a).2.1 ≠ (F_Baker b).2.1 := by decide +kernel
theorem t_Baker_ok : ∀ k, k < 1 → parseFieldDescriptor (F_Baker k).2.2.1 = some (t_Baker k) := by decide +kernel
theorem i_Baker : ∀ w ∈ u_ws R_Baker F_Baker 1, w ∈ zW0 := by decide +kernel
theorem n_Book : ∀ a, a < 3 → ∀ b, b < 3 → a ≠ b → (F_Book a).2.1 ≠ (F_Book b).2.1 := by decide +kernel
theorem t_Book_ok : ∀ k, k < 3 → parseFieldDescriptor (F_Book k).2.2.1 = some (t_Book k) := by decide +kernel
theorem i_Book : ∀ w ∈ u_ws R_Book F_Book 3, w ∈ zW0 := by decide +kernel
theorem n_Kiln : ∀ a, a < 9 → ∀ b, b < 9 → a ≠ b → (F_Kiln a).2.1 ≠ (F_Kiln b).2.1 := by decide +kernel
theorem t_Kiln_ok : ∀ k, k < 9 → parseFieldDescriptor (F_Kiln k).2.2.1 = some (t_Kiln k) := by decide +kernel
theorem i_Kiln : ∀ w ∈ u_ws R_Kiln F_Kiln 9, w ∈ zW0 := by decide +kernel
theorem n_Loaf : ∀ a, a < 5 → ∀ b, b < 5 → a ≠ b → (F_Loaf a).2.1 ≠ (F_Loaf b).2.1 := by decide +kernel
theorem t_Loaf_ok : ∀ k, k < 5 → parseFieldDescriptor (F_Loaf k).2.2.1 = some (t_Loaf k) := by decide +kernel
theorem i_Loaf : ∀ w ∈ u_ws R_Loaf F_Loaf 5, w ∈ zW0 := by decide +kernel
theorem n_Oven : ∀ a, a < 2 → ∀ b, b < 2 → a ≠ b → (F_Oven a).2.1 ≠ (F_Oven b).2.1 := by decide +kernel
theorem t_Oven_ok : ∀ k, k < 2 → parseFieldDescriptor (F_Oven k).2.2.1 = some (t_Oven k) := by decide +kernel
theorem i_Oven : ∀ w ∈ u_ws R_Oven F_Oven 2, w ∈ zW0 := by decide +kernel
theorem n_Reader : ∀ a, a < 5 → ∀ b, b < 5 → a ≠ b → (F_Reader a).2.1 ≠ (F_Reader b).2.1 := by decide +kernel
theorem t_Reader_ok : ∀ k, k < 5 → parseFieldDescriptor (F_Reader k).2.2.1 = some (t_Reader k) := by decide +kernel
theorem i_Reader : ∀ w ∈ u_ws R_Reader F_Reader 5, w ∈ zW0 := by decide +kernel
theorem n_Search : ∀ a, a < 7 → ∀ b, b < 7 → a ≠ b → (F_Search a).2.1 ≠ (F_Search b).2.1 := by decide +kernel
theorem t_Search_ok : ∀ k, k < 7 → parseFieldDescriptor (F_Search k).2.2.1 = some (t_Search k) := by decide +kernel
theorem i_Search : ∀ w ∈ u_ws R_Search F_Search 7, w ∈ zW0 := by decide +kernel
theorem n_Stand : ∀ a, a < 5 → ∀ b, b < 5 → a ≠ b → (F_Stand a).2.1 ≠ (F_Stand b).2.1 := by decide +kernel
theorem t_Stand_ok : ∀ k, k < 5 → parseFieldDescriptor (F_Stand k).2.2.1 = some (t_Stand k) := by decide +kernel
theorem i_Stand : ∀ w ∈ u_ws R_Stand F_Stand 5, w ∈ zW0 := by decide +kernel
theorem n_Tapes : ∀ a, a < 3 → ∀ b, b < 3 → a ≠ b → (F_Tapes a).2.1 ≠ (F_Tapes b).2.1 := by decide +kernel
theorem t_Tapes_ok : ∀ k, k < 3 → parseFieldDescriptor (F_Tapes k).2.2.1 = some (t_Tapes k) := by decide +kernel
theorem i_Tapes : ∀ w ∈ u_ws R_Tapes F_Tapes 3, w ∈ zW0 := by decide +kernel
theorem n_Model : ∀ a, a < 31 → ∀ b, b < 31 → a ≠ b → (F_Model a).2.1 ≠ (F_Model b).2.1 := by decide +kernel
theorem t_Model_ok : ∀ k, k < 31 → parseFieldDescriptor (F_Model k).2.2.1 = some (t_Model k) := by decide +kernel
theorem i_Model : ∀ w ∈ u_ws R_Model F_Model 31, w ∈ zW0 := by decide +kernel
end
section
/-! THE MEMORY: ints, longs, references by the number of a cell and a place in it; the cells' kinds; the world of a memory -/
abbrev ZM : Type := (Nat → Nat → Int32) × (Nat → Nat → Int64) × (Nat → Nat → Nat)
def zI (σ : ZM) (o k : Nat) : Int32 := σ.1 o k
def zL (σ : ZM) (o k : Nat) : Int64 := σ.2.1 o k
def zP (σ : ZM) (o k : Nat) : Nat := σ.2.2 o k
def zsI (σ : ZM) (o k : Nat) (v : Int32) : ZM := (fun a => if a = o then upd (σ.1 a) k v else σ.1 a, σ.2.1, σ.2.2)
def zsL (σ : ZM) (o k : Nat) (v : Int64) : ZM := (σ.1, fun a => if a = o then vp_updL (σ.2.1 a) k v else σ.2.1 a, σ.2.2)
def zsP (σ : ZM) (o k : Nat) (v : Nat) : ZM := (σ.1, σ.2.1, fun a => if a = o then va_up (σ.2.2 a) k v else σ.2.2 a)
def zcpL (σ : ZM) (o o2 sp dp n : Nat) : ZM := (σ.1, fun a => if a = o2 then va_cpy (σ.2.1 o) (σ.2.1 a) sp dp n else σ.2.1 a, σ.2.2)
abbrev ZT : Type := va_G × (Nat → ClassId) × (Nat → Nat) × (Nat → Nat)
abbrev zD (θ : ZT) : va_G := θ.1
abbrev zA (θ : ZT) : Nat → ClassId := θ.2.1
abbrev za (θ : ZT) : Nat → Nat := θ.2.2.1
abbrev zf (θ : ZT) : Nat → Nat := θ.2.2.2
/-- kinds of cells: 0 ints, 1 booleans, 2 longs; 3 loaves, 4 ovens, 5 kilns, 6 rows of longs; 10 and on the classes -/
def ztab : List (Nat × Nat) := [(10, 0), (20, 0), (20, 0), (18, 0), (0, 100), (13, 0), (12, 0), (19, 0), (11, 0), (0, 20), (21, 0), (6, 6), (0, 6), (0, 6), (2, 60), (2, 60), (2, 60), (2, 60), (2, 60), (2, 60), (5, 6), (0, 64), (0, 5), (0, 5), (4, 6), (3, 6), (3, 6), (14, 0), (14, 0), (0, 12), (0, 12), (1, 12), (1, 12)]
  ++ List.replicate 9 (17, 0) ++ List.replicate 9 (0, 4) ++ List.replicate 12 (16, 0) ++ List.replicate 24 (0, 4) ++ List.replicate 7 (15, 0) ++ List.replicate 7 (0, 10) ++ List.replicate 7 (0, 10) ++ List.replicate 7 (0, 10) ++ List.replicate 7 (0, 100) ++ List.replicate 7 (0, 6)
  ++ [(22, 0), (0, 92), (0, 92), (0, 92), (0, 100), (0, 600), (0, 6), (0, 4), (0, 6), (0, 6), (0, 6), (0, 6), (2, 360), (0, 20)]
def zkd (o : Nat) : Nat := (ztab.getD o (99, 0)).1
def zln (o : Nat) : Nat := (ztab.getD o (99, 0)).2
/-- the cell o is of kind c -/
def zk (o c : Nat) : Bool := zkd o == c
def zrf (θ : ZT) (k : Nat) : Value := if k = 999 then .null else .ref (za θ k)
/-- the elements of the arrays of references -/
def zel (o j : Nat) : Nat := if o = 11 then 14 + j else if o = 20 then 87 + j else if o = 24 then 36 + j else 51 + 6 * (o - 25) + j
def zobj (θ : ZT) (c o : Nat) (I : Nat → Int32) (P : Nat → Nat) : List Value :=
  match c with
  | 10 => [.ref (za θ 1), .ref (za θ 2), .ref (za θ 3), .ref (za θ 20), .ref (za θ 93), .ref (za θ 5), .ref (za θ 6), .ref (za θ 7), .ref (za θ 8), .ref (za θ 10), .int (I 10), .int (I 11)]
  | 11 => [.ref (za θ 9), .int (I 1)]
  | 12 => [.ref (za θ 1), .ref (za θ 5), .ref (za θ 35), .ref (za θ 21)]
  | 13 => [zrf θ (P 0)]
  | 14 => [.ref (za θ (o + 2)), .ref (za θ (o + 4)), .int (I 2)]
  | 15 => [.ref (za θ (o + 7)), .ref (za θ (o + 14)), .ref (za θ (o + 21)), .ref (za θ (o + 28)), .ref (za θ (o + 35)), .int (I 5), .int (I 6), .int (I 7), .int (I 8)]
  | 16 => [.int (I 0), .ref (za θ (o + 12)), .ref (za θ (o + 24)), .int (I 3), .int (I 4)]
  | 17 => [.ref (za θ (o + 9)), .int (I 1)]
  | 18 => [.ref (za θ 4), .int (I 1), .int (I 2), .int (I 3), zrf θ (P 4)]
  | 19 => [.ref (za θ 1), .ref (za θ 5), .ref (za θ 24), .ref (za θ 22), .ref (za θ 23), .int (I 5), .int (I 6)]
  | 20 => [.ref (za θ (o + 24)), .ref (za θ (o + 32)), .ref (za θ (o + 26)), .int (I 3), .int (I 4)]
  | 21 => [.ref (za θ 11), .ref (za θ 12), .ref (za θ 13)]
  | 22 => [.ref (za θ 130), .ref (za θ 131), .ref (za θ 132), .int (I 3), .ref (za θ 133), .ref (za θ 134), .ref (za θ 135), .int (I 7), .int (I 8), .int (I 9), .int (I 10), .int (I 11), .int (I 12), .int (I 13), .int (I 14), .int (I 15), .int (I 16), .int (I 17), .int (I 18), .int (I 19), .int (I 20), .ref (za θ 136), .ref (za θ 137), .ref (za θ 138), .int (I 24), .ref (za θ 139), .ref (za θ 140), .ref (za θ 141), .ref (za θ 142), .int (I 29), .int (I 30)]
  | _ => []
def zce (θ : ZT) (c n o : Nat) (I : Nat → Int32) (L : Nat → Int64) (P : Nat → Nat) : va_E :=
  match c with
  | 0 => .inl (zA θ 0, n, .inl I)
  | 1 => .inl (zA θ 1, n, .inl I)
  | 2 => .inl (zA θ 2, n, .inr (.inl L))
  | 3 => .inl (zA θ 3, n, .inr (.inr (.inr (.inr (fun j => some (za θ (zel o j)))))))
  | 4 => .inl (zA θ 4, n, .inr (.inr (.inr (.inr (fun j => some (za θ (zel o j)))))))
  | 5 => .inl (zA θ 5, n, .inr (.inr (.inr (.inr (fun j => some (za θ (zel o j)))))))
  | 6 => .inl (zA θ 6, n, .inr (.inr (.inr (.inr (fun j => some (za θ (zel o j)))))))
  | c => .inr (c - 10, zobj θ c o I P)
def zcell (θ : ZT) (σ : ZM) (o : Nat) : va_E := zce θ (zkd o) (zln o) o (σ.1 o) (σ.2.1 o) (σ.2.2 o)
def zwd (lo n : Nat) (θ : ZT) (σ : ZM) : va_W := (List.range n).map (fun j => (za θ (lo + j), zcell θ σ (lo + j)))
def zty (θ : ZT) : List (ClassId × FieldType) := [(zA θ 0, .int), (zA θ 1, .boolean), (zA θ 2, .long), (zA θ 3, .object R_Loaf), (zA θ 4, .object R_Oven), (zA θ 5, .object R_Kiln), (zA θ 6, .array .long)]
def zAA (lo n : Nat) (θ : ZT) : Nat → Prop := fun q => ∃ o, lo ≤ o ∧ o < lo + n ∧ q = za θ o
def zJ (θ : ZT) : Prop := ∀ i j, i < 143 → j < 143 → za θ i = za θ j → i = j
theorem zwd_at {lo n : Nat} {θ : ZT} {σ : ZM} {o : Nat} (h1 : lo ≤ o) (h2 : o < lo + n) : (zwd lo n θ σ)[o - lo]? = some (za θ o, zcell θ σ o) := by
  have h3 : o - lo < n := by omega
  have h4 : lo + (o - lo) = o := by omega
  simp [zwd, h3, h4]
theorem zwd_len {lo n : Nat} {θ : ZT} {σ : ZM} : (zwd lo n θ σ).length = n := by simp [zwd]
theorem zwd_D {lo n : Nat} {θ : ZT} {σ : ZM} (hJ : zJ θ) (hn : lo + n ≤ 143) : va_D (zAA lo n θ) (zwd lo n θ σ) := by
  refine ⟨fun i j x y hi hj hxy => ?_, fun k q hk => ?_⟩
  · have li : i < n := by have := (List.getElem?_eq_some_iff.mp hi).1; rwa [zwd_len] at this
    have lj : j < n := by have := (List.getElem?_eq_some_iff.mp hj).1; rwa [zwd_len] at this
    simp [zwd, li] at hi
    simp [zwd, lj] at hj
    subst hi; subst hj
    have := hJ (lo + i) (lo + j) (by omega) (by omega) hxy
    omega
  · have lk : k < n := by have := (List.getElem?_eq_some_iff.mp hk).1; rwa [zwd_len] at this
    simp [zwd, lk] at hk
    subst hk
    exact ⟨lo + k, by omega, by omega, rfl⟩
theorem zwd_set {lo n : Nat} {θ : ZT} {σ σ' : ZM} {o : Nat} {e : va_E} (h1 : lo ≤ o) (h2 : o < lo + n) (he : zcell θ σ' o = e) (hne : ∀ a, a ≠ o → zcell θ σ' a = zcell θ σ a) : (zwd lo n θ σ).set (o - lo) (za θ o, e) = zwd lo n θ σ' := by
  apply List.ext_getElem?
  intro k
  by_cases hk : k = o - lo
  · subst hk
    rw [List.getElem?_set_self (by rw [zwd_len]; omega), zwd_at h1 h2, he]
  · rw [List.getElem?_set_ne (Ne.symm hk)]
    by_cases hl : k < n
    · have e1 := hne (lo + k) (by omega)
      simp [zwd, hl, e1]
    · rw [List.getElem?_eq_none (by rw [zwd_len]; omega), List.getElem?_eq_none (by rw [zwd_len]; omega)]
theorem zsI_self (σ : ZM) (o k : Nat) (v : Int32) : (zsI σ o k v).1 o = upd (σ.1 o) k v := if_pos rfl
theorem zsI_ne (σ : ZM) {o a : Nat} (k : Nat) (v : Int32) (h : a ≠ o) : (zsI σ o k v).1 a = σ.1 a := if_neg h
theorem zcell_sI {θ : ZT} {σ : ZM} {o k : Nat} {v : Int32} : ∀ a, a ≠ o → zcell θ (zsI σ o k v) a = zcell θ σ a := by
  intro a h
  show zce θ (zkd a) (zln a) a ((zsI σ o k v).1 a) _ _ = _
  rw [zsI_ne σ k v h]; rfl
theorem zcell_sL {θ : ZT} {σ : ZM} {o k : Nat} {v : Int64} : ∀ a, a ≠ o → zcell θ (zsL σ o k v) a = zcell θ σ a := by
  intro a h
  show zce θ (zkd a) (zln a) a _ (if a = o then vp_updL (σ.2.1 a) k v else σ.2.1 a) _ = _
  rw [if_neg h]; rfl
theorem zcell_sP {θ : ZT} {σ : ZM} {o k v : Nat} : ∀ a, a ≠ o → zcell θ (zsP σ o k v) a = zcell θ σ a := by
  intro a h
  show zce θ (zkd a) (zln a) a _ _ (if a = o then va_up (σ.2.2 a) k v else σ.2.2 a) = _
  rw [if_neg h]; rfl
theorem zcell_cpL {θ : ZT} {σ : ZM} {o o2 sp dp n : Nat} : ∀ a, a ≠ o2 → zcell θ (zcpL σ o o2 sp dp n) a = zcell θ σ a := by
  intro a h
  show zce θ (zkd a) (zln a) a _ (if a = o2 then va_cpy (σ.2.1 o) (σ.2.1 a) sp dp n else σ.2.1 a) _ = _
  rw [if_neg h]; rfl
theorem zk_eq {o c : Nat} (h : zk o c = true) : zkd o = c := by simpa [zk] using h
theorem zk_lt {o c : Nat} (h : zk o c = true) (hc : c ≠ 99) : o < 143 := by
  have h1 := zk_eq h
  by_cases ho : o < 143
  · exact ho
  · exfalso
    have hl : ztab.length = 143 := by decide +kernel
    have : zkd o = 99 := by simp [zkd, List.getElem?_eq_none (show ztab.length ≤ o by omega)]
    exact hc (h1.symm.trans this)
end
section
/-! THE RULES: facts that never change, the world, the judgement WZ, a rule an instruction -/
def zabove (j : Nat) : Int32 := ([-1, 0, 0, 0, 1, 2, 3] : List Int32).getD j 0
def zbodies (j : Nat) : Int32 := ([10, 11, 12, 0, 20, 0, 30, 0, 0, 0, 0, 40, 50, 51, 0, 0, 0, 60, 71, 70, 0] : List Int32).getD j 0
def zslen : List Nat := [4, 4, 4, 3, 5, 5, 5, 4]
def zsbyt : List (List Int32) := [[116, 97, 107, 101], [109, 111, 114, 101], [99, 111, 108, 100], [102, 101, 101], [116, 97, 107, 101, 32], [109, 111, 114, 101, 32], [99, 111, 108, 100, 32], [102, 101, 101, 32]]
def zn_acts : Cond := .fieldLinkNest "BakedBefore$Acts" 36 "BakedBefore" "ABOVE" "[I" "BakedBefore"
def zn_loaf : Cond := .fieldLinkNest "BakedBefore$Loaf" 28 "BakedBefore" "ABOVE" "[I" "BakedBefore"
def zn_flag : Cond := .methodLinkNest "BakedBefore$Asker" 57 ⟨"BakedBefore", "flag", "(Z)I"⟩ "BakedBefore"
/-- what the machine's constants are: static tables, links to nest mates, texts -/
def zFX (A : Nat → Prop) (θ : ZT) (U : State) (H : Heap) : Prop :=
  (va_Z "BakedBefore" "ABOVE" "[I" (.ref (zf θ 0)) A U H ∧ va_T .int (zf θ 0) 7 (fun j => .int (zabove j)) A U H) ∧
  (va_Z "BakedBefore$Acts" "BODIES" "[I" (.ref (zf θ 1)) A U H ∧ va_T .int (zf θ 1) 21 (fun j => .int (zbodies j)) A U H) ∧
  (va_Nw zn_acts U ∧ va_Nw zn_loaf U ∧ va_Nw zn_flag U) ∧
  (vk_R "BakedBefore$Reader" 96 "take" (zf θ 2) U ∧ vk_R "BakedBefore$Reader" 98 "more" (zf θ 3) U ∧ vk_R "BakedBefore$Reader" 100 "cold" (zf θ 4) U ∧ vk_R "BakedBefore$Reader" 102 "fee" (zf θ 5) U ∧
   vk_R "BakedBeforeModel" 139 "take " (zf θ 6) U ∧ vk_R "BakedBeforeModel" 141 "more " (zf θ 7) U ∧ vk_R "BakedBeforeModel" 143 "cold " (zf θ 8) U ∧ vk_R "BakedBeforeModel" 145 "fee " (zf θ 9) U) ∧
  vk_S 8 zslen zsbyt (fun i => zf θ (2 + i)) (fun i => zf θ (10 + i)) A U H ∧
  va_Z "java/lang/String" "COMPACT_STRINGS" "Z" (.int 1) A U H ∧ va_Zq "jdk/internal/util/Preconditions" "SIOOBE_FORMATTER" "Ljava/util/function/BiFunction;" A U H
theorem zFX.kept {A : Nat → Prop} {θ : ZT} {U : State} {H H1 : Heap} (h : zFX A θ U H) (hq : ∀ a : Nat, a < H.size → ¬ A a → H1[a]? = H[a]?) : zFX A θ U H1 := by
  obtain ⟨⟨a1, a2⟩, ⟨b1, b2⟩, c, d, e, f, g⟩ := h
  exact ⟨⟨a1.kept hq, a2.kept hq⟩, ⟨b1.kept hq, b2.kept hq⟩, c, d, e.kept hq, f.kept hq, g.kept hq⟩
theorem zFX.warm {A : Nat → Prop} {θ : ZT} {s U : State} {H : Heap} (hW : s.WarmedH U.vm) (h : zFX A θ s H) : zFX A θ U H := by
  obtain ⟨⟨a1, a2⟩, ⟨b1, b2⟩, ⟨c1, c2, c3⟩, ⟨d1, d2, d3, d4, d5, d6, d7, d8⟩, e, f, g⟩ := h
  have hv := hW.alike
  exact ⟨⟨a1.moved hv, a2.moved hv⟩, ⟨b1.moved hv, b2.moved hv⟩, ⟨va_Nw.warmF hW c1, va_Nw.warmF hW c2, va_Nw.warmM hW c3⟩, ⟨d1.warm hW, d2.warm hW, d3.warm hW, d4.warm hW, d5.warm hW, d6.warm hW, d7.warm hW, d8.warm hW⟩, e.moved hv, f.moved hv, g.moved hv⟩
theorem zFX.calling {A : Nat → Prop} {θ : ZT} {U : State} {H : Heap} (g : JFrame) (mk : MethodId) (a : Array Value) (h : zFX A θ U H) : zFX A θ (U.calling g mk a) H := by
  obtain ⟨⟨a1, a2⟩, ⟨b1, b2⟩, ⟨c1, c2, c3⟩, ⟨d1, d2, d3, d4, d5, d6, d7, d8⟩, e, f, g1⟩ := h
  have hv : U.vm.Alike (U.calling g mk a).vm := Vm.Alike.refl U.vm
  have hu : U.vm = (U.calling g mk a).vm := rfl
  exact ⟨⟨a1.moved hv, a2.moved hv⟩, ⟨b1.moved hv, b2.moved hv⟩, ⟨va_Nw.same rfl hu c1, va_Nw.same rfl hu c2, va_Nw.same rfl hu c3⟩, ⟨d1.same hu.symm, d2.same hu.symm, d3.same hu.symm, d4.same hu.symm, d5.same hu.symm, d6.same hu.symm, d7.same hu.symm, d8.same hu.symm⟩, e.moved hv, f.moved hv, g1.moved hv⟩
/-- the world of a memory, in a state -/
def zWB (lo n : Nat) (θ : ZT) (σ : ZM) (U : State) : Prop := va_P (zD θ) zcl (zwd lo n θ σ) U.heap ∧ va_K (zD θ) zcl (zty θ) U ∧ zJ θ ∧ zFX (zAA lo n θ) θ U U.heap
theorem zWB.blind {lo n : Nat} {θ : ZT} {σ : ZM} {av : List Value} : FrameBlind (va_Pc av (zWB lo n θ σ)) := by
  intro a U g mk h
  obtain ⟨h0, h1, h2, h3, h4⟩ := h
  exact ⟨h0, h1, va_K.moved (u := U) (U := U.calling g mk a) (Vm.Alike.refl U.vm) h2, h3, h4.calling g mk a⟩
/-- what a method answers: its result and the memory behind it -/
def zQ {α : Type} (mk : ZT → α → Option Value) (lo n : Nat) (θ : ZT) (res : α × ZM) : Array Value → State → Outcome → State → Prop := fun _ st oc t =>
  (oc = .returned (mk θ res.1) ∧ zWB lo n θ res.2 t) ∧ va_F (zAA lo n θ) st t
def mkI (_ : ZT) (r : Int32) : Option Value := some (.int r)
def mkL (_ : ZT) (r : Int64) : Option Value := some (.long r)
def mkV (_ : ZT) (_ : Unit) : Option Value := none
def mkS (θ : ZT) (i : Nat) : Option Value := some (.ref (zf θ (2 + i)))
/-- what is fixed in a method's body -/
def zC (p : Program) (s : State) (m : MethodId) (args : Array Value) (meth : Method) (c : Code) (cc : ByteArray) (nL : Nat) (ret : Option FieldType) (own : String) (lo n : Nat) (θ : ZT) : Prop :=
  p.tables.exec = Jvm.exec ∧ c.code = cc ∧ c.maxLocals = nL ∧ s.vm.findClass own = some m.cls ∧ (∀ w ∈ zW0, w.before args s = true) ∧ meth.locks = false ∧ meth.sig.returnType = ret ∧ va_K (zD θ) zcl (zty θ) s ∧ zJ θ ∧ zFX (zAA lo n θ) θ s s.heap ∧ lo + n ≤ 143
def WZ (l : Launch) (cc : ByteArray) (nL : Nat) (ret : Option FieldType) (own : String) (lo n : Nat) (θ : ZT) (R : Room) (Q : Array Value → State → Outcome → State → Prop) (σ : ZM) (lv : List (Nat × Value)) (pc : Nat) (st : List Value) : Prop :=
  ∀ (p : Program) (e : Env) (s : State) (m : MethodId) (args : Array Value) (below : List Frame) (meth : Method) (c : Code) (H : Heap) (locs : List Loc) (ls : Array Slot), zC p s m args meth c cc nL ret own lo n θ → va_P (zD θ) zcl (zwd lo n θ σ) H → va_S (zAA lo n θ) s.heap H locs → lv_has ls nL lv →
    W p l e R s m args below meth c H locs 0 0 (MQ below Q args s 0 0 (zAA lo n θ)) (F0 m pc ls st)
def zck {α : Type} (b : Bool) (k : Option α) : Option α := if b = true then k else none
def zbd {α β : Type} (o : Option (α × ZM)) (k : α → ZM → Option β) : Option β := match o with
  | none => none
  | some r => k r.1 r.2
def zlp {α β : Type} (body : (α → Option β) → α → Option β) : Nat → α → Option β
  | 0, _ => none
  | n + 1, a => body (zlp body n) a
theorem zck_i {α : Type} {b : Bool} {k : Option α} {r : α} (h : zck b k = some r) : b = true ∧ k = some r := by
  unfold zck at h
  split at h
  · exact ⟨‹_›, h⟩
  · cases h
theorem zbd_i {α β : Type} {o : Option (α × ZM)} {k : α → ZM → Option β} {r : β} (h : zbd o k = some r) : ∃ x : α × ZM, o = some x ∧ k x.1 x.2 = some r := by
  cases o with
  | none => cases h
  | some x => exact ⟨x, rfl, h⟩
def zin (i : Int32) (n : Nat) : Bool := decide (0 ≤ i) && decide (i.toNatClampNeg < n)
theorem zin_i {i : Int32} {n : Nat} (h : zin i n = true) : vp_in i n := by
  simp only [zin, Bool.and_eq_true, decide_eq_true_eq] at h
  intro q
  rcases q with q | q
  · exact absurd h.1 (Int32.not_le.mpr q)
  · omega
def zbl (v : Int32) : Bool := v == 0 || v == 1
theorem zbl_i {v : Int32} (h : zbl v = true) : narrow .boolean (.int v) = .int v := by
  simp only [zbl, Bool.or_eq_true, beq_iff_eq] at h
  rcases h with rfl | rfl <;> rfl
section RULES
variable {l : Launch} {cc : ByteArray} {nL : Nat} {ret : Option FieldType} {own : String} {lo n : Nat} {θ : ZT} {R : Room} {Q : Array Value → State → Outcome → State → Prop} {σ : ZM} {lv : List (Nat × Value)} {pc : Nat} {st : List Value}
theorem z_iconst {k : Int} {v : Int32} (d : decode cc pc = .ok (.iconst k, 1)) (hv : Int32.ofInt k = v) (g : WZ l cc nL ret own lo n θ R Q σ lv (pc + 1) (.int v :: st)) : WZ l cc nL ret own lo n θ R Q σ lv pc st :=
  fun _ _ _ _ _ _ _ _ _ _ _ C hP hS hl => lv_iconst C.1 C.2.1 d hv (g _ _ _ _ _ _ _ _ _ _ _ C hP hS hl)
theorem z_bipush {k : Int} {v : Int32} (d : decode cc pc = .ok (.bipush k, 2)) (hv : (Int8.ofInt k).toInt32 = v) (g : WZ l cc nL ret own lo n θ R Q σ lv (pc + 2) (.int v :: st)) : WZ l cc nL ret own lo n θ R Q σ lv pc st :=
  fun _ _ _ _ _ _ _ _ _ _ _ C hP hS hl => lv_bipush C.1 C.2.1 d hv (g _ _ _ _ _ _ _ _ _ _ _ C hP hS hl)
theorem z_sipush {k : Int} {v : Int32} (d : decode cc pc = .ok (.sipush k, 3)) (hv : (Int16.ofInt k).toInt32 = v) (g : WZ l cc nL ret own lo n θ R Q σ lv (pc + 3) (.int v :: st)) : WZ l cc nL ret own lo n θ R Q σ lv pc st :=
  fun _ _ _ _ _ _ _ _ _ _ _ C hP hS hl => lv_sipush C.1 C.2.1 d hv (g _ _ _ _ _ _ _ _ _ _ _ C hP hS hl)
theorem z_lconst {k : Fin 2} {v : Int64} (d : decode cc pc = .ok (.lconst k, 1)) (hv : Int64.ofNat (k : Nat) = v) (g : WZ l cc nL ret own lo n θ R Q σ lv (pc + 1) (.long v :: st)) : WZ l cc nL ret own lo n θ R Q σ lv pc st :=
  fun _ _ _ _ _ _ _ _ _ _ _ C hP hS hl => lv_lconst C.1 C.2.1 d hv (g _ _ _ _ _ _ _ _ _ _ _ C hP hS hl)
theorem z_ldc {k : Nat} {v : Int32} (d : decode cc pc = .ok (.ldc k, 2)) (hw : Cond.constant own k v ∈ zW0) (g : WZ l cc nL ret own lo n θ R Q σ lv (pc + 2) (.int v :: st)) : WZ l cc nL ret own lo n θ R Q σ lv pc st :=
  fun _ _ _ _ _ _ _ _ _ _ _ C hP hS hl => lv_ldc C.1 C.2.1 C.2.2.2.1 (C.2.2.2.2.1 _ hw) d (g _ _ _ _ _ _ _ _ _ _ _ C hP hS hl)
theorem z_ldcw {k : Nat} {v : Int32} (d : decode cc pc = .ok (.ldc_w k, 3)) (hw : Cond.constant own k v ∈ zW0) (g : WZ l cc nL ret own lo n θ R Q σ lv (pc + 3) (.int v :: st)) : WZ l cc nL ret own lo n θ R Q σ lv pc st :=
  fun _ _ _ _ _ _ _ _ _ _ _ C hP hS hl => lv_ldcw C.1 C.2.1 C.2.2.2.1 (C.2.2.2.2.1 _ hw) d (g _ _ _ _ _ _ _ _ _ _ _ C hP hS hl)
theorem z_ldc2 {k : Nat} {v : Int64} (d : decode cc pc = .ok (.ldc2_w k, 3)) (hw : Cond.constantLong own k v ∈ zW0) (g : WZ l cc nL ret own lo n θ R Q σ lv (pc + 3) (.long v :: st)) : WZ l cc nL ret own lo n θ R Q σ lv pc st :=
  fun _ _ _ _ _ _ _ _ _ _ _ C hP hS hl => lv_ldc2 C.1 C.2.1 C.2.2.2.1 (C.2.2.2.2.1 _ hw) d (g _ _ _ _ _ _ _ _ _ _ _ C hP hS hl)
theorem z_iload_n {k : Fin 4} {i : Nat} (j : Nat) {x : Int32} (d : decode cc pc = .ok (.iload_n k, 1)) (hi : (k : Nat) = i) (hj : lv[j]? = some (i, .int x)) (g : WZ l cc nL ret own lo n θ R Q σ lv (pc + 1) (.int x :: st)) : WZ l cc nL ret own lo n θ R Q σ lv pc st :=
  fun _ _ _ _ _ _ _ _ _ _ _ C hP hS hl => lv_iload_n C.1 C.2.1 d hi (lv_at hl j hj) (g _ _ _ _ _ _ _ _ _ _ _ C hP hS hl)
theorem z_iload {i : Nat} (j : Nat) {x : Int32} (d : decode cc pc = .ok (.iload i, 2)) (hj : lv[j]? = some (i, .int x)) (g : WZ l cc nL ret own lo n θ R Q σ lv (pc + 2) (.int x :: st)) : WZ l cc nL ret own lo n θ R Q σ lv pc st :=
  fun _ _ _ _ _ _ _ _ _ _ _ C hP hS hl => lv_iload C.1 C.2.1 d (lv_at hl j hj) (g _ _ _ _ _ _ _ _ _ _ _ C hP hS hl)
theorem z_lload_n {k : Fin 4} {i : Nat} (j : Nat) {x : Int64} (d : decode cc pc = .ok (.lload_n k, 1)) (hi : (k : Nat) = i) (hj : lv[j]? = some (i, .long x)) (g : WZ l cc nL ret own lo n θ R Q σ lv (pc + 1) (.long x :: st)) : WZ l cc nL ret own lo n θ R Q σ lv pc st :=
  fun _ _ _ _ _ _ _ _ _ _ _ C hP hS hl => lv_lload_n C.1 C.2.1 d hi (lv_at hl j hj) (g _ _ _ _ _ _ _ _ _ _ _ C hP hS hl)
theorem z_lload {i : Nat} (j : Nat) {x : Int64} (d : decode cc pc = .ok (.lload i, 2)) (hj : lv[j]? = some (i, .long x)) (g : WZ l cc nL ret own lo n θ R Q σ lv (pc + 2) (.long x :: st)) : WZ l cc nL ret own lo n θ R Q σ lv pc st :=
  fun _ _ _ _ _ _ _ _ _ _ _ C hP hS hl => lv_lload C.1 C.2.1 d (lv_at hl j hj) (g _ _ _ _ _ _ _ _ _ _ _ C hP hS hl)
theorem z_aload_n {k : Fin 4} {i : Nat} (j : Nat) {x : Nat} (d : decode cc pc = .ok (.aload_n k, 1)) (hi : (k : Nat) = i) (hj : lv[j]? = some (i, .ref x)) (g : WZ l cc nL ret own lo n θ R Q σ lv (pc + 1) (.ref x :: st)) : WZ l cc nL ret own lo n θ R Q σ lv pc st :=
  fun _ _ _ _ _ _ _ _ _ _ _ C hP hS hl => lv_aload_n C.1 C.2.1 d hi (lv_at hl j hj) (g _ _ _ _ _ _ _ _ _ _ _ C hP hS hl)
theorem z_aload {i : Nat} (j : Nat) {x : Nat} (d : decode cc pc = .ok (.aload i, 2)) (hj : lv[j]? = some (i, .ref x)) (g : WZ l cc nL ret own lo n θ R Q σ lv (pc + 2) (.ref x :: st)) : WZ l cc nL ret own lo n θ R Q σ lv pc st :=
  fun _ _ _ _ _ _ _ _ _ _ _ C hP hS hl => lv_aload C.1 C.2.1 d (lv_at hl j hj) (g _ _ _ _ _ _ _ _ _ _ _ C hP hS hl)
theorem z_istore_n {k : Fin 4} {i : Nat} {x : Int32} {lv' : List (Nat × Value)} (d : decode cc pc = .ok (.istore_n k, 1)) (hi : (k : Nat) = i) (hn : i < nL) (hl' : (i, Value.int x) :: lv.filter (fun q => !(q.1 == i) && !(q.1 + 1 == i && q.2.category == 2)) = lv') (g : WZ l cc nL ret own lo n θ R Q σ lv' (pc + 1) st) : WZ l cc nL ret own lo n θ R Q σ lv pc (.int x :: st) :=
  fun _ _ _ _ _ _ _ _ _ _ _ C hP hS hl => lv_istore_n C.1 C.2.1 d hi hl hn hl' (fun _ h => g _ _ _ _ _ _ _ _ _ _ _ C hP hS h)
theorem z_istore {i : Nat} {x : Int32} {lv' : List (Nat × Value)} (d : decode cc pc = .ok (.istore i, 2)) (hn : i < nL) (hl' : (i, Value.int x) :: lv.filter (fun q => !(q.1 == i) && !(q.1 + 1 == i && q.2.category == 2)) = lv') (g : WZ l cc nL ret own lo n θ R Q σ lv' (pc + 2) st) : WZ l cc nL ret own lo n θ R Q σ lv pc (.int x :: st) :=
  fun _ _ _ _ _ _ _ _ _ _ _ C hP hS hl => lv_istore C.1 C.2.1 d hl hn hl' (fun _ h => g _ _ _ _ _ _ _ _ _ _ _ C hP hS h)
theorem z_lstore_n {k : Fin 4} {i : Nat} {x : Int64} {lv' : List (Nat × Value)} (d : decode cc pc = .ok (.lstore_n k, 1)) (hi : (k : Nat) = i) (hn : i + 1 < nL) (hl' : (i, Value.long x) :: lv.filter (fun q => !(q.1 == i) && (!(q.1 == i + 1) && !(q.1 + 1 == i && q.2.category == 2))) = lv') (g : WZ l cc nL ret own lo n θ R Q σ lv' (pc + 1) st) : WZ l cc nL ret own lo n θ R Q σ lv pc (.long x :: st) :=
  fun _ _ _ _ _ _ _ _ _ _ _ C hP hS hl => lv_lstore_n C.1 C.2.1 d hi hl hn hl' (fun _ h => g _ _ _ _ _ _ _ _ _ _ _ C hP hS h)
theorem z_lstore {i : Nat} {x : Int64} {lv' : List (Nat × Value)} (d : decode cc pc = .ok (.lstore i, 2)) (hn : i + 1 < nL) (hl' : (i, Value.long x) :: lv.filter (fun q => !(q.1 == i) && (!(q.1 == i + 1) && !(q.1 + 1 == i && q.2.category == 2))) = lv') (g : WZ l cc nL ret own lo n θ R Q σ lv' (pc + 2) st) : WZ l cc nL ret own lo n θ R Q σ lv pc (.long x :: st) :=
  fun _ _ _ _ _ _ _ _ _ _ _ C hP hS hl => lv_lstore C.1 C.2.1 d hl hn hl' (fun _ h => g _ _ _ _ _ _ _ _ _ _ _ C hP hS h)
theorem z_astore_n {k : Fin 4} {i : Nat} {x : Nat} {lv' : List (Nat × Value)} (d : decode cc pc = .ok (.astore_n k, 1)) (hi : (k : Nat) = i) (hn : i < nL) (hl' : (i, Value.ref x) :: lv.filter (fun q => !(q.1 == i) && !(q.1 + 1 == i && q.2.category == 2)) = lv') (g : WZ l cc nL ret own lo n θ R Q σ lv' (pc + 1) st) : WZ l cc nL ret own lo n θ R Q σ lv pc (.ref x :: st) :=
  fun _ _ _ _ _ _ _ _ _ _ _ C hP hS hl => lv_astore_n C.1 C.2.1 d hi hl hn hl' (fun _ h => g _ _ _ _ _ _ _ _ _ _ _ C hP hS h)
theorem z_astore {i : Nat} {x : Nat} {lv' : List (Nat × Value)} (d : decode cc pc = .ok (.astore i, 2)) (hn : i < nL) (hl' : (i, Value.ref x) :: lv.filter (fun q => !(q.1 == i) && !(q.1 + 1 == i && q.2.category == 2)) = lv') (g : WZ l cc nL ret own lo n θ R Q σ lv' (pc + 2) st) : WZ l cc nL ret own lo n θ R Q σ lv pc (.ref x :: st) :=
  fun _ _ _ _ _ _ _ _ _ _ _ C hP hS hl => lv_astore C.1 C.2.1 d hl hn hl' (fun _ h => g _ _ _ _ _ _ _ _ _ _ _ C hP hS h)
theorem z_iinc {i : Nat} (j : Nat) {k : Int} {x v : Int32} {lv' : List (Nat × Value)} (d : decode cc pc = .ok (.iinc i k, 3)) (hj : lv[j]? = some (i, .int x)) (hv : x + Int32.ofInt k = v) (hn : i < nL) (hl' : (i, Value.int v) :: lv.filter (fun q => !(q.1 == i) && !(q.1 + 1 == i && q.2.category == 2)) = lv') (g : WZ l cc nL ret own lo n θ R Q σ lv' (pc + 3) st) : WZ l cc nL ret own lo n θ R Q σ lv pc st :=
  fun _ _ _ _ _ _ _ _ _ _ _ C hP hS hl => lv_iinc C.1 C.2.1 d hl hj hv hn hl' (fun _ h => g _ _ _ _ _ _ _ _ _ _ _ C hP hS h)
theorem z_sub {lv' : List (Nat × Value)} (ks : List Nat) (hl' : lv_pick lv ks = lv') (g : WZ l cc nL ret own lo n θ R Q σ lv' pc st) : WZ l cc nL ret own lo n θ R Q σ lv pc st :=
  fun _ _ _ _ _ _ _ _ _ _ _ C hP hS hl => g _ _ _ _ _ _ _ _ _ _ _ C hP hS (lv_sub hl ks hl')
theorem z_iadd {x y : Int32} (d : decode cc pc = .ok (.iadd, 1)) (g : WZ l cc nL ret own lo n θ R Q σ lv (pc + 1) (.int (x + y) :: st)) : WZ l cc nL ret own lo n θ R Q σ lv pc (.int y :: .int x :: st) :=
  fun _ _ _ _ _ _ _ _ _ _ _ C hP hS hl => lv_iadd C.1 C.2.1 d (g _ _ _ _ _ _ _ _ _ _ _ C hP hS hl)
theorem z_isub {x y : Int32} (d : decode cc pc = .ok (.isub, 1)) (g : WZ l cc nL ret own lo n θ R Q σ lv (pc + 1) (.int (x - y) :: st)) : WZ l cc nL ret own lo n θ R Q σ lv pc (.int y :: .int x :: st) :=
  fun _ _ _ _ _ _ _ _ _ _ _ C hP hS hl => lv_isub C.1 C.2.1 d (g _ _ _ _ _ _ _ _ _ _ _ C hP hS hl)
theorem z_imul {x y : Int32} (d : decode cc pc = .ok (.imul, 1)) (g : WZ l cc nL ret own lo n θ R Q σ lv (pc + 1) (.int (x * y) :: st)) : WZ l cc nL ret own lo n θ R Q σ lv pc (.int y :: .int x :: st) :=
  fun _ _ _ _ _ _ _ _ _ _ _ C hP hS hl => lv_imul C.1 C.2.1 d (g _ _ _ _ _ _ _ _ _ _ _ C hP hS hl)
theorem z_iand {x y : Int32} (d : decode cc pc = .ok (.iand, 1)) (g : WZ l cc nL ret own lo n θ R Q σ lv (pc + 1) (.int (x &&& y) :: st)) : WZ l cc nL ret own lo n θ R Q σ lv pc (.int y :: .int x :: st) :=
  fun _ _ _ _ _ _ _ _ _ _ _ C hP hS hl => lv_iand C.1 C.2.1 d (g _ _ _ _ _ _ _ _ _ _ _ C hP hS hl)
theorem z_ior {x y : Int32} (d : decode cc pc = .ok (.ior, 1)) (g : WZ l cc nL ret own lo n θ R Q σ lv (pc + 1) (.int (x ||| y) :: st)) : WZ l cc nL ret own lo n θ R Q σ lv pc (.int y :: .int x :: st) :=
  fun _ _ _ _ _ _ _ _ _ _ _ C hP hS hl => lv_ior C.1 C.2.1 d (g _ _ _ _ _ _ _ _ _ _ _ C hP hS hl)
theorem z_ixor {x y : Int32} (d : decode cc pc = .ok (.ixor, 1)) (g : WZ l cc nL ret own lo n θ R Q σ lv (pc + 1) (.int (x ^^^ y) :: st)) : WZ l cc nL ret own lo n θ R Q σ lv pc (.int y :: .int x :: st) :=
  fun _ _ _ _ _ _ _ _ _ _ _ C hP hS hl => lv_ixor C.1 C.2.1 d (g _ _ _ _ _ _ _ _ _ _ _ C hP hS hl)
theorem z_ishl {x y : Int32} (d : decode cc pc = .ok (.ishl, 1)) (g : WZ l cc nL ret own lo n θ R Q σ lv (pc + 1) (.int (x <<< (y &&& 31)) :: st)) : WZ l cc nL ret own lo n θ R Q σ lv pc (.int y :: .int x :: st) :=
  fun _ _ _ _ _ _ _ _ _ _ _ C hP hS hl => lv_ishl C.1 C.2.1 d (g _ _ _ _ _ _ _ _ _ _ _ C hP hS hl)
theorem z_ishr {x y : Int32} (d : decode cc pc = .ok (.ishr, 1)) (g : WZ l cc nL ret own lo n θ R Q σ lv (pc + 1) (.int (x >>> (y &&& 31)) :: st)) : WZ l cc nL ret own lo n θ R Q σ lv pc (.int y :: .int x :: st) :=
  fun _ _ _ _ _ _ _ _ _ _ _ C hP hS hl => lv_ishr C.1 C.2.1 d (g _ _ _ _ _ _ _ _ _ _ _ C hP hS hl)
theorem z_idiv {x y : Int32} (d : decode cc pc = .ok (.idiv, 1)) (hne : (y != 0) = true) (g : WZ l cc nL ret own lo n θ R Q σ lv (pc + 1) (.int (x / y) :: st)) : WZ l cc nL ret own lo n θ R Q σ lv pc (.int y :: .int x :: st) :=
  fun _ _ _ _ _ _ _ _ _ _ _ C hP hS hl => lv_idiv C.1 C.2.1 d (by simpa using hne) (g _ _ _ _ _ _ _ _ _ _ _ C hP hS hl)
theorem z_irem {x y : Int32} (d : decode cc pc = .ok (.irem, 1)) (hne : (y != 0) = true) (g : WZ l cc nL ret own lo n θ R Q σ lv (pc + 1) (.int (x - x / y * y) :: st)) : WZ l cc nL ret own lo n θ R Q σ lv pc (.int y :: .int x :: st) :=
  fun _ _ _ _ _ _ _ _ _ _ _ C hP hS hl => lv_irem C.1 C.2.1 d (by simpa using hne) (g _ _ _ _ _ _ _ _ _ _ _ C hP hS hl)
theorem z_ineg {x : Int32} (d : decode cc pc = .ok (.ineg, 1)) (g : WZ l cc nL ret own lo n θ R Q σ lv (pc + 1) (.int (-x) :: st)) : WZ l cc nL ret own lo n θ R Q σ lv pc (.int x :: st) :=
  fun _ _ _ _ _ _ _ _ _ _ _ C hP hS hl => lv_ineg C.1 C.2.1 d (g _ _ _ _ _ _ _ _ _ _ _ C hP hS hl)
theorem z_land {x y : Int64} (d : decode cc pc = .ok (.land, 1)) (g : WZ l cc nL ret own lo n θ R Q σ lv (pc + 1) (.long (x &&& y) :: st)) : WZ l cc nL ret own lo n θ R Q σ lv pc (.long y :: .long x :: st) :=
  fun _ _ _ _ _ _ _ _ _ _ _ C hP hS hl => lv_land C.1 C.2.1 d (g _ _ _ _ _ _ _ _ _ _ _ C hP hS hl)
theorem z_lor {x y : Int64} (d : decode cc pc = .ok (.lor, 1)) (g : WZ l cc nL ret own lo n θ R Q σ lv (pc + 1) (.long (x ||| y) :: st)) : WZ l cc nL ret own lo n θ R Q σ lv pc (.long y :: .long x :: st) :=
  fun _ _ _ _ _ _ _ _ _ _ _ C hP hS hl => lv_lor C.1 C.2.1 d (g _ _ _ _ _ _ _ _ _ _ _ C hP hS hl)
theorem z_lxor {x y : Int64} (d : decode cc pc = .ok (.lxor, 1)) (g : WZ l cc nL ret own lo n θ R Q σ lv (pc + 1) (.long (x ^^^ y) :: st)) : WZ l cc nL ret own lo n θ R Q σ lv pc (.long y :: .long x :: st) :=
  fun _ _ _ _ _ _ _ _ _ _ _ C hP hS hl => lv_lxor C.1 C.2.1 d (g _ _ _ _ _ _ _ _ _ _ _ C hP hS hl)
theorem z_i2l {x : Int32} (d : decode cc pc = .ok (.i2l, 1)) (g : WZ l cc nL ret own lo n θ R Q σ lv (pc + 1) (.long (x.toInt64) :: st)) : WZ l cc nL ret own lo n θ R Q σ lv pc (.int x :: st) :=
  fun _ _ _ _ _ _ _ _ _ _ _ C hP hS hl => lv_i2l C.1 C.2.1 d rfl (g _ _ _ _ _ _ _ _ _ _ _ C hP hS hl)
theorem z_l2i {x : Int64} (d : decode cc pc = .ok (.l2i, 1)) (g : WZ l cc nL ret own lo n θ R Q σ lv (pc + 1) (.int (x.toInt32) :: st)) : WZ l cc nL ret own lo n θ R Q σ lv pc (.long x :: st) :=
  fun _ _ _ _ _ _ _ _ _ _ _ C hP hS hl => lv_l2i C.1 C.2.1 d rfl (g _ _ _ _ _ _ _ _ _ _ _ C hP hS hl)
theorem z_i2b {x : Int32} (d : decode cc pc = .ok (.i2b, 1)) (g : WZ l cc nL ret own lo n θ R Q σ lv (pc + 1) (.int (x.toInt8.toInt32) :: st)) : WZ l cc nL ret own lo n θ R Q σ lv pc (.int x :: st) :=
  fun _ _ _ _ _ _ _ _ _ _ _ C hP hS hl => lv_i2b C.1 C.2.1 d rfl (g _ _ _ _ _ _ _ _ _ _ _ C hP hS hl)
theorem z_i2s {x : Int32} (d : decode cc pc = .ok (.i2s, 1)) (g : WZ l cc nL ret own lo n θ R Q σ lv (pc + 1) (.int (x.toInt16.toInt32) :: st)) : WZ l cc nL ret own lo n θ R Q σ lv pc (.int x :: st) :=
  fun _ _ _ _ _ _ _ _ _ _ _ C hP hS hl => lv_i2s C.1 C.2.1 d rfl (g _ _ _ _ _ _ _ _ _ _ _ C hP hS hl)
theorem z_lshl {x : Int64} {y : Int32} (d : decode cc pc = .ok (.lshl, 1)) (g : WZ l cc nL ret own lo n θ R Q σ lv (pc + 1) (.long (x <<< (y.toInt64 &&& 63)) :: st)) : WZ l cc nL ret own lo n θ R Q σ lv pc (.int y :: .long x :: st) :=
  fun _ _ _ _ _ _ _ _ _ _ _ C hP hS hl => lv_lshl C.1 C.2.1 d rfl (g _ _ _ _ _ _ _ _ _ _ _ C hP hS hl)
theorem z_lshr {x : Int64} {y : Int32} (d : decode cc pc = .ok (.lshr, 1)) (g : WZ l cc nL ret own lo n θ R Q σ lv (pc + 1) (.long (x >>> (y.toInt64 &&& 63)) :: st)) : WZ l cc nL ret own lo n θ R Q σ lv pc (.int y :: .long x :: st) :=
  fun _ _ _ _ _ _ _ _ _ _ _ C hP hS hl => lv_lshr C.1 C.2.1 d rfl (g _ _ _ _ _ _ _ _ _ _ _ C hP hS hl)
theorem z_lcmp {x y : Int64} (d : decode cc pc = .ok (.lcmp, 1)) (g : WZ l cc nL ret own lo n θ R Q σ lv (pc + 1) (.int (lg_cmp x y) :: st)) : WZ l cc nL ret own lo n θ R Q σ lv pc (.long y :: .long x :: st) :=
  fun _ _ _ _ _ _ _ _ _ _ _ C hP hS hl => W.lcmp C.1 C.2.1 d (g _ _ _ _ _ _ _ _ _ _ _ C hP hS hl)
theorem z_dup {v : Value} (d : decode cc pc = .ok (.dup, 1)) (hv : v.category = 1) (g : WZ l cc nL ret own lo n θ R Q σ lv (pc + 1) (v :: v :: st)) : WZ l cc nL ret own lo n θ R Q σ lv pc (v :: st) :=
  fun _ _ _ _ _ _ _ _ _ _ _ C hP hS hl => lv_dup C.1 C.2.1 d hv (g _ _ _ _ _ _ _ _ _ _ _ C hP hS hl)
theorem z_pop {v : Value} (d : decode cc pc = .ok (.pop, 1)) (hv : v.category = 1) (g : WZ l cc nL ret own lo n θ R Q σ lv (pc + 1) st) : WZ l cc nL ret own lo n θ R Q σ lv pc (v :: st) :=
  fun _ _ _ _ _ _ _ _ _ _ _ C hP hS hl => lv_pop C.1 C.2.1 d hv (g _ _ _ _ _ _ _ _ _ _ _ C hP hS hl)
theorem z_dup2 {v w : Value} (d : decode cc pc = .ok (.dup2, 1)) (hv : v.category = 1) (hw : w.category = 1) (g : WZ l cc nL ret own lo n θ R Q σ lv (pc + 1) (v :: w :: v :: w :: st)) : WZ l cc nL ret own lo n θ R Q σ lv pc (v :: w :: st) :=
  fun _ _ _ _ _ _ _ _ _ _ _ C hP hS hl => lv_dup2_11 C.1 C.2.1 d hv hw (g _ _ _ _ _ _ _ _ _ _ _ C hP hS hl)
theorem z_goto {off : Int} {tgt : Nat} (d : decode cc pc = .ok (.goto off, 3)) (ht : (pc : Int) + off = (tgt : Int)) (g : WZ l cc nL ret own lo n θ R Q σ lv tgt st) : WZ l cc nL ret own lo n θ R Q σ lv pc st :=
  fun _ _ _ _ _ _ _ _ _ _ _ C hP hS hl => lv_goto C.1 C.2.1 d ht (g _ _ _ _ _ _ _ _ _ _ _ C hP hS hl)
theorem z_if_eq {x : Int32} {off : Int} {tgt : Nat} (d : decode cc pc = .ok (.ifCond .eq off, 3)) (ht : (pc : Int) + off = (tgt : Int)) (kt : x = 0 → WZ l cc nL ret own lo n θ R Q σ lv tgt st) (kf : ¬ x = 0 → WZ l cc nL ret own lo n θ R Q σ lv (pc + 3) st) : WZ l cc nL ret own lo n θ R Q σ lv pc (.int x :: st) :=
  fun _ _ _ _ _ _ _ _ _ _ _ C hP hS hl => lv_if_eq C.1 C.2.1 d ht (fun q => kt q _ _ _ _ _ _ _ _ _ _ _ C hP hS hl) (fun q => kf q _ _ _ _ _ _ _ _ _ _ _ C hP hS hl)
theorem z_if_ne {x : Int32} {off : Int} {tgt : Nat} (d : decode cc pc = .ok (.ifCond .ne off, 3)) (ht : (pc : Int) + off = (tgt : Int)) (kt : ¬ x = 0 → WZ l cc nL ret own lo n θ R Q σ lv tgt st) (kf : x = 0 → WZ l cc nL ret own lo n θ R Q σ lv (pc + 3) st) : WZ l cc nL ret own lo n θ R Q σ lv pc (.int x :: st) :=
  fun _ _ _ _ _ _ _ _ _ _ _ C hP hS hl => lv_if_ne C.1 C.2.1 d ht (fun q => kt q _ _ _ _ _ _ _ _ _ _ _ C hP hS hl) (fun q => kf q _ _ _ _ _ _ _ _ _ _ _ C hP hS hl)
theorem z_if_lt {x : Int32} {off : Int} {tgt : Nat} (d : decode cc pc = .ok (.ifCond .lt off, 3)) (ht : (pc : Int) + off = (tgt : Int)) (kt : x < 0 → WZ l cc nL ret own lo n θ R Q σ lv tgt st) (kf : ¬ x < 0 → WZ l cc nL ret own lo n θ R Q σ lv (pc + 3) st) : WZ l cc nL ret own lo n θ R Q σ lv pc (.int x :: st) :=
  fun _ _ _ _ _ _ _ _ _ _ _ C hP hS hl => lv_if_lt C.1 C.2.1 d ht (fun q => kt q _ _ _ _ _ _ _ _ _ _ _ C hP hS hl) (fun q => kf q _ _ _ _ _ _ _ _ _ _ _ C hP hS hl)
theorem z_if_ge {x : Int32} {off : Int} {tgt : Nat} (d : decode cc pc = .ok (.ifCond .ge off, 3)) (ht : (pc : Int) + off = (tgt : Int)) (kt : 0 ≤ x → WZ l cc nL ret own lo n θ R Q σ lv tgt st) (kf : ¬ 0 ≤ x → WZ l cc nL ret own lo n θ R Q σ lv (pc + 3) st) : WZ l cc nL ret own lo n θ R Q σ lv pc (.int x :: st) :=
  fun _ _ _ _ _ _ _ _ _ _ _ C hP hS hl => lv_if_ge C.1 C.2.1 d ht (fun q => kt q _ _ _ _ _ _ _ _ _ _ _ C hP hS hl) (fun q => kf q _ _ _ _ _ _ _ _ _ _ _ C hP hS hl)
theorem z_if_gt {x : Int32} {off : Int} {tgt : Nat} (d : decode cc pc = .ok (.ifCond .gt off, 3)) (ht : (pc : Int) + off = (tgt : Int)) (kt : 0 < x → WZ l cc nL ret own lo n θ R Q σ lv tgt st) (kf : ¬ 0 < x → WZ l cc nL ret own lo n θ R Q σ lv (pc + 3) st) : WZ l cc nL ret own lo n θ R Q σ lv pc (.int x :: st) :=
  fun _ _ _ _ _ _ _ _ _ _ _ C hP hS hl => lv_if_gt C.1 C.2.1 d ht (fun q => kt q _ _ _ _ _ _ _ _ _ _ _ C hP hS hl) (fun q => kf q _ _ _ _ _ _ _ _ _ _ _ C hP hS hl)
theorem z_if_le {x : Int32} {off : Int} {tgt : Nat} (d : decode cc pc = .ok (.ifCond .le off, 3)) (ht : (pc : Int) + off = (tgt : Int)) (kt : x ≤ 0 → WZ l cc nL ret own lo n θ R Q σ lv tgt st) (kf : ¬ x ≤ 0 → WZ l cc nL ret own lo n θ R Q σ lv (pc + 3) st) : WZ l cc nL ret own lo n θ R Q σ lv pc (.int x :: st) :=
  fun _ _ _ _ _ _ _ _ _ _ _ C hP hS hl => lv_if_le C.1 C.2.1 d ht (fun q => kt q _ _ _ _ _ _ _ _ _ _ _ C hP hS hl) (fun q => kf q _ _ _ _ _ _ _ _ _ _ _ C hP hS hl)
theorem z_icmp_eq {x y : Int32} {off : Int} {tgt : Nat} (d : decode cc pc = .ok (.if_icmp .eq off, 3)) (ht : (pc : Int) + off = (tgt : Int)) (kt : x = y → WZ l cc nL ret own lo n θ R Q σ lv tgt st) (kf : ¬ x = y → WZ l cc nL ret own lo n θ R Q σ lv (pc + 3) st) : WZ l cc nL ret own lo n θ R Q σ lv pc (.int y :: .int x :: st) :=
  fun _ _ _ _ _ _ _ _ _ _ _ C hP hS hl => lv_icmp_eq C.1 C.2.1 d ht (fun q => kt q _ _ _ _ _ _ _ _ _ _ _ C hP hS hl) (fun q => kf q _ _ _ _ _ _ _ _ _ _ _ C hP hS hl)
theorem z_icmp_ne {x y : Int32} {off : Int} {tgt : Nat} (d : decode cc pc = .ok (.if_icmp .ne off, 3)) (ht : (pc : Int) + off = (tgt : Int)) (kt : ¬ x = y → WZ l cc nL ret own lo n θ R Q σ lv tgt st) (kf : x = y → WZ l cc nL ret own lo n θ R Q σ lv (pc + 3) st) : WZ l cc nL ret own lo n θ R Q σ lv pc (.int y :: .int x :: st) :=
  fun _ _ _ _ _ _ _ _ _ _ _ C hP hS hl => lv_icmp_ne C.1 C.2.1 d ht (fun q => kt q _ _ _ _ _ _ _ _ _ _ _ C hP hS hl) (fun q => kf q _ _ _ _ _ _ _ _ _ _ _ C hP hS hl)
theorem z_icmp_lt {x y : Int32} {off : Int} {tgt : Nat} (d : decode cc pc = .ok (.if_icmp .lt off, 3)) (ht : (pc : Int) + off = (tgt : Int)) (kt : x < y → WZ l cc nL ret own lo n θ R Q σ lv tgt st) (kf : ¬ x < y → WZ l cc nL ret own lo n θ R Q σ lv (pc + 3) st) : WZ l cc nL ret own lo n θ R Q σ lv pc (.int y :: .int x :: st) :=
  fun _ _ _ _ _ _ _ _ _ _ _ C hP hS hl => lv_icmp_lt C.1 C.2.1 d ht (fun q => kt q _ _ _ _ _ _ _ _ _ _ _ C hP hS hl) (fun q => kf q _ _ _ _ _ _ _ _ _ _ _ C hP hS hl)
theorem z_icmp_ge {x y : Int32} {off : Int} {tgt : Nat} (d : decode cc pc = .ok (.if_icmp .ge off, 3)) (ht : (pc : Int) + off = (tgt : Int)) (kt : y ≤ x → WZ l cc nL ret own lo n θ R Q σ lv tgt st) (kf : ¬ y ≤ x → WZ l cc nL ret own lo n θ R Q σ lv (pc + 3) st) : WZ l cc nL ret own lo n θ R Q σ lv pc (.int y :: .int x :: st) :=
  fun _ _ _ _ _ _ _ _ _ _ _ C hP hS hl => lv_icmp_ge C.1 C.2.1 d ht (fun q => kt q _ _ _ _ _ _ _ _ _ _ _ C hP hS hl) (fun q => kf q _ _ _ _ _ _ _ _ _ _ _ C hP hS hl)
theorem z_icmp_gt {x y : Int32} {off : Int} {tgt : Nat} (d : decode cc pc = .ok (.if_icmp .gt off, 3)) (ht : (pc : Int) + off = (tgt : Int)) (kt : y < x → WZ l cc nL ret own lo n θ R Q σ lv tgt st) (kf : ¬ y < x → WZ l cc nL ret own lo n θ R Q σ lv (pc + 3) st) : WZ l cc nL ret own lo n θ R Q σ lv pc (.int y :: .int x :: st) :=
  fun _ _ _ _ _ _ _ _ _ _ _ C hP hS hl => lv_icmp_gt C.1 C.2.1 d ht (fun q => kt q _ _ _ _ _ _ _ _ _ _ _ C hP hS hl) (fun q => kf q _ _ _ _ _ _ _ _ _ _ _ C hP hS hl)
theorem z_icmp_le {x y : Int32} {off : Int} {tgt : Nat} (d : decode cc pc = .ok (.if_icmp .le off, 3)) (ht : (pc : Int) + off = (tgt : Int)) (kt : x ≤ y → WZ l cc nL ret own lo n θ R Q σ lv tgt st) (kf : ¬ x ≤ y → WZ l cc nL ret own lo n θ R Q σ lv (pc + 3) st) : WZ l cc nL ret own lo n θ R Q σ lv pc (.int y :: .int x :: st) :=
  fun _ _ _ _ _ _ _ _ _ _ _ C hP hS hl => lv_icmp_le C.1 C.2.1 d ht (fun q => kt q _ _ _ _ _ _ _ _ _ _ _ C hP hS hl) (fun q => kf q _ _ _ _ _ _ _ _ _ _ _ C hP hS hl)
end RULES
end
section
/-! THE RULES, on: fields, arrays, calls, returns, a method's contract out of its walk -/
theorem zgood : ∀ w ∈ zW0, (w.onTables && w.keeps) = true ∨ ∃ ty, w = .arrayClass ty := fun _ h => good_of_word (List.mem_filter.mp h).2
theorem zgoodIn {y : MethodName} {b : ByteArray} {nM : Nat} {rt : Option FieldType} (h : Cond.code y b nM rt ∈ zW0) : GoodIn zW0 (Cond.code y b nM rt :: zW0) := fun w hw => by
  rcases List.mem_cons.mp hw with e | e
  · subst e; exact ⟨h, zgood _ h⟩
  · exact ⟨e, zgood _ e⟩
theorem zcell_obj {θ : ZT} {σ : ZM} {o c : Nat} {e : va_E} (hk : zk o c = true) (he : zce θ c (zln o) o (σ.1 o) (σ.2.1 o) (σ.2.2 o) = e) : zcell θ σ o = e := by
  rw [← he]; show zce θ (zkd o) _ _ _ _ _ = _; rw [zk_eq hk]
theorem zcell_arr {θ : ZT} {σ : ZM} {o c N : Nat} {e : va_E} (hk : zkd o = c) (hN : zln o = N) (he : zce θ c N o (σ.1 o) (σ.2.1 o) (σ.2.2 o) = e) : zcell θ σ o = e := by
  rw [← he]; show zce θ (zkd o) (zln o) _ _ _ _ = _; rw [hk, hN]
section CELLS
variable {l : Launch} {cc : ByteArray} {nL : Nat} {ret : Option FieldType} {own : String} {lo n : Nat} {θ : ZT} {R : Room} {Q : Array Value → State → Outcome → State → Prop} {σ : ZM} {lv : List (Nat × Value)} {pc : Nat} {st : List Value}
theorem z_getG {C : String} {T : u_T} {N ci index o k : Nat} {fs : List Value} {v : Value} (d : decode cc pc = .ok (.getfield index, 3)) (hlo : lo ≤ o) (hhi : o < lo + n) (he : zcell θ σ o = .inr (ci, fs)) (hc : zcl[ci]? = some (C, T, N)) (hin : ∀ w ∈ u_ws C T N, w ∈ zW0) (hk : k < N) (hT : (T k).1 = C) (hw : Cond.fieldLink own index C (T k).2.1 (T k).2.2.1 ∈ zW0) (hv : fs[k]? = some v)
    (g : WZ l cc nL ret own lo n θ R Q σ lv (pc + 3) (v :: st)) : WZ l cc nL ret own lo n θ R Q σ lv pc (.ref (za θ o) :: st) :=
  fun _ _ _ _ _ _ _ _ _ _ _ Z hP hS hl => va_get (D := zD θ) (cl := zcl) (ci := ci) (C := C) (T := T) (N := N) (ref := C) Z.1 Z.2.1 Z.2.2.2.2.1 hin Z.2.2.2.1 Z.2.2.2.2.2.2.2.1 hP (o - lo) (by rw [zwd_at hlo hhi, he]) hc k hk (Z.2.2.2.2.1 _ hw) (fun x hx => by rw [hT] at hx; exact hx) hv d (g _ _ _ _ _ _ _ _ _ _ _ Z hP hS hl)
theorem z_putG {C : String} {T : u_T} {N ci index o k : Nat} {fs : List Value} {v : Value} {ty : FieldType} {ty0 : Nat → FieldType} {σ' : ZM} (d : decode cc pc = .ok (.putfield index, 3)) (hlo : lo ≤ o) (hhi : o < lo + n) (he : zcell θ σ o = .inr (ci, fs)) (hc : zcl[ci]? = some (C, T, N)) (hin : ∀ w ∈ u_ws C T N, w ∈ zW0) (hty : ∀ k, k < N → parseFieldDescriptor (T k).2.2.1 = some (ty0 k)) (hnm : ∀ a, a < N → ∀ b, b < N → a ≠ b → (T a).2.1 ≠ (T b).2.1) (hk : k < N) (hT : (T k).1 = C) (hw : Cond.fieldLink own index C (T k).2.1 (T k).2.2.1 ∈ zW0)
    (hfin : (T k).2.2.2 = false) (hd : parseFieldDescriptor (T k).2.2.1 = some ty) (hn : narrow ty v = v) (hfit : fits ty v = true) (hle : k < fs.length) (he' : zcell θ σ' o = .inr (ci, fs.set k v)) (hne : ∀ a, a ≠ o → zcell θ σ' a = zcell θ σ a)
    (g : WZ l cc nL ret own lo n θ R Q σ' lv (pc + 3) st) : WZ l cc nL ret own lo n θ R Q σ lv pc (v :: .ref (za θ o) :: st) :=
  fun _ _ _ _ _ _ _ _ _ _ _ Z hP hS hl => va_put (D := zD θ) (cl := zcl) (ci := ci) (C := C) (T := T) (N := N) (ref := C) (ty := ty) Z.1 Z.2.1 Z.2.2.2.2.1 hin ty0 hty hnm Z.2.2.2.1 Z.2.2.2.2.2.2.2.1 hP (zwd_D Z.2.2.2.2.2.2.2.2.1 Z.2.2.2.2.2.2.2.2.2.2) hS (o - lo) (by rw [zwd_at hlo hhi, he]) hc k hk (Z.2.2.2.2.1 _ hw) (fun x hx => by rw [hT] at hx; exact hx) hfin hd hn hfit hle d
    (fun _ _ hP1 _ hS1 => g _ _ _ _ _ _ _ _ _ _ _ Z (by rw [← zwd_set hlo hhi he' hne]; exact hP1) hS1 hl)
theorem z_iald {o N : Nat} {i : Int32} (d : decode cc pc = .ok (.iaload, 1)) (hk : zkd o = 0) (hN : zln o = N) (hlo : lo ≤ o) (hhi : o < lo + n) (hi : zin i N = true)
    (g : WZ l cc nL ret own lo n θ R Q σ lv (pc + 1) (.int (zI σ o i.toNatClampNeg) :: st)) : WZ l cc nL ret own lo n θ R Q σ lv pc (.int i :: .ref (za θ o) :: st) :=
  fun _ _ _ _ _ _ _ _ _ _ _ Z hP hS hl => va_iald (D := zD θ) (cl := zcl) (f := σ.1 o) Z.1 Z.2.1 Z.2.2.2.2.2.2.2.1 hP (o - lo) 0 (by rw [zwd_at hlo hhi, zcell_arr hk hN rfl]; rfl) rfl (zin_i hi) d (g _ _ _ _ _ _ _ _ _ _ _ Z hP hS hl)
theorem z_bald {o N : Nat} {i : Int32} (d : decode cc pc = .ok (.baload, 1)) (hk : zkd o = 1) (hN : zln o = N) (hlo : lo ≤ o) (hhi : o < lo + n) (hi : zin i N = true)
    (g : WZ l cc nL ret own lo n θ R Q σ lv (pc + 1) (.int (zI σ o i.toNatClampNeg) :: st)) : WZ l cc nL ret own lo n θ R Q σ lv pc (.int i :: .ref (za θ o) :: st) :=
  fun _ _ _ _ _ _ _ _ _ _ _ Z hP hS hl => va_zald (D := zD θ) (cl := zcl) (f := σ.1 o) Z.1 Z.2.1 Z.2.2.2.2.2.2.2.1 hP (o - lo) 1 (by rw [zwd_at hlo hhi, zcell_arr hk hN rfl]; rfl) rfl (zin_i hi) d (g _ _ _ _ _ _ _ _ _ _ _ Z hP hS hl)
theorem z_lald {o N : Nat} {i : Int32} (d : decode cc pc = .ok (.laload, 1)) (hk : zkd o = 2) (hN : zln o = N) (hlo : lo ≤ o) (hhi : o < lo + n) (hi : zin i N = true)
    (g : WZ l cc nL ret own lo n θ R Q σ lv (pc + 1) (.long (zL σ o i.toNatClampNeg) :: st)) : WZ l cc nL ret own lo n θ R Q σ lv pc (.int i :: .ref (za θ o) :: st) :=
  fun _ _ _ _ _ _ _ _ _ _ _ Z hP hS hl => va_lald (D := zD θ) (cl := zcl) (f := σ.2.1 o) Z.1 Z.2.1 Z.2.2.2.2.2.2.2.1 hP (o - lo) 2 (by rw [zwd_at hlo hhi, zcell_arr hk hN rfl]; rfl) rfl (zin_i hi) d (g _ _ _ _ _ _ _ _ _ _ _ Z hP hS hl)
theorem z_iast {o N : Nat} {i x : Int32} (d : decode cc pc = .ok (.iastore, 1)) (hk : zkd o = 0) (hN : zln o = N) (hlo : lo ≤ o) (hhi : o < lo + n) (hi : zin i N = true)
    (g : WZ l cc nL ret own lo n θ R Q (zsI σ o i.toNatClampNeg x) lv (pc + 1) st) : WZ l cc nL ret own lo n θ R Q σ lv pc (.int x :: .int i :: .ref (za θ o) :: st) :=
  fun _ _ _ _ _ _ _ _ _ _ _ Z hP hS hl => va_iast (D := zD θ) (cl := zcl) (f := σ.1 o) Z.1 Z.2.1 Z.2.2.2.2.2.2.2.1 hP (zwd_D Z.2.2.2.2.2.2.2.2.1 Z.2.2.2.2.2.2.2.2.2.2) hS (o - lo) 0 (by rw [zwd_at hlo hhi, zcell_arr hk hN rfl]; rfl) rfl (zin_i hi) d
    (fun _ _ hP1 _ hS1 => g _ _ _ _ _ _ _ _ _ _ _ Z (by rw [← zwd_set (σ' := zsI σ o i.toNatClampNeg x) hlo hhi (zcell_arr hk hN (by rw [zsI_self])) zcell_sI]; exact hP1) hS1 hl)
theorem zbl_nar {x : Int32} (h : zbl x = true) : vp_nar .boolean x = x := by
  simp only [zbl, Bool.or_eq_true, beq_iff_eq] at h
  rcases h with rfl | rfl <;> rfl
theorem z_bast {o N : Nat} {i x : Int32} (d : decode cc pc = .ok (.bastore, 1)) (hk : zkd o = 1) (hN : zln o = N) (hlo : lo ≤ o) (hhi : o < lo + n) (hi : zin i N = true) (hx : zbl x = true)
    (g : WZ l cc nL ret own lo n θ R Q (zsI σ o i.toNatClampNeg x) lv (pc + 1) st) : WZ l cc nL ret own lo n θ R Q σ lv pc (.int x :: .int i :: .ref (za θ o) :: st) :=
  fun _ _ _ _ _ _ _ _ _ _ _ Z hP hS hl => va_zast (D := zD θ) (cl := zcl) (f := σ.1 o) Z.1 Z.2.1 Z.2.2.2.2.2.2.2.1 hP (zwd_D Z.2.2.2.2.2.2.2.2.1 Z.2.2.2.2.2.2.2.2.2.2) hS (o - lo) 1 (by rw [zwd_at hlo hhi, zcell_arr hk hN rfl]; rfl) rfl (zin_i hi) d
    (fun _ _ hP1 _ hS1 => g _ _ _ _ _ _ _ _ _ _ _ Z (by rw [zbl_nar hx] at hP1; rw [← zwd_set (σ' := zsI σ o i.toNatClampNeg x) hlo hhi (zcell_arr hk hN (by rw [zsI_self])) zcell_sI]; exact hP1) hS1 hl)
theorem zsL_self (σ : ZM) (o k : Nat) (v : Int64) : (zsL σ o k v).2.1 o = vp_updL (σ.2.1 o) k v := if_pos rfl
theorem z_last {o N : Nat} {i : Int32} {x : Int64} (d : decode cc pc = .ok (.lastore, 1)) (hk : zkd o = 2) (hN : zln o = N) (hlo : lo ≤ o) (hhi : o < lo + n) (hi : zin i N = true)
    (g : WZ l cc nL ret own lo n θ R Q (zsL σ o i.toNatClampNeg x) lv (pc + 1) st) : WZ l cc nL ret own lo n θ R Q σ lv pc (.long x :: .int i :: .ref (za θ o) :: st) :=
  fun _ _ _ _ _ _ _ _ _ _ _ Z hP hS hl => va_last (D := zD θ) (cl := zcl) (f := σ.2.1 o) Z.1 Z.2.1 Z.2.2.2.2.2.2.2.1 hP (zwd_D Z.2.2.2.2.2.2.2.2.1 Z.2.2.2.2.2.2.2.2.2.2) hS (o - lo) 2 (by rw [zwd_at hlo hhi, zcell_arr hk hN rfl]; rfl) rfl (zin_i hi) d
    (fun _ _ hP1 _ hS1 => g _ _ _ _ _ _ _ _ _ _ _ Z (by rw [← zwd_set (σ' := zsL σ o i.toNatClampNeg x) hlo hhi (zcell_arr hk hN (by rw [zsL_self])) zcell_sL]; exact hP1) hS1 hl)
theorem z_aald {o N kk t0 : Nat} {C : String} {i : Int32} (d : decode cc pc = .ok (.aaload, 1)) (hk : zkd o = kk) (hN : zln o = N) (he : zce θ kk N o (σ.1 o) (σ.2.1 o) (σ.2.2 o) = .inl (zA θ kk, N, .inr (.inr (.inr (.inr (fun j => some (za θ (zel o j)))))))) (ht : (zty θ)[t0]? = some (zA θ kk, .object C)) (hlo : lo ≤ o) (hhi : o < lo + n) (hi : zin i N = true)
    (g : WZ l cc nL ret own lo n θ R Q σ lv (pc + 1) (.ref (za θ (zel o i.toNatClampNeg)) :: st)) : WZ l cc nL ret own lo n θ R Q σ lv pc (.int i :: .ref (za θ o) :: st) :=
  fun _ _ _ _ _ _ _ _ _ _ _ Z hP hS hl => va_aldq (D := zD θ) (cl := zcl) Z.1 Z.2.1 Z.2.2.2.2.2.2.2.1 hP (o - lo) t0 (by rw [zwd_at hlo hhi, zcell_arr hk hN he]) ht (zin_i hi) d (g _ _ _ _ _ _ _ _ _ _ _ Z hP hS hl)
/-- a row of the array of rows of longs -/
theorem z_aald6 {i : Int32} (d : decode cc pc = .ok (.aaload, 1)) (hlo : lo ≤ 11) (hhi : 11 < lo + n) (hi : zin i 6 = true)
    (g : WZ l cc nL ret own lo n θ R Q σ lv (pc + 1) (.ref (za θ (zel 11 i.toNatClampNeg)) :: st)) : WZ l cc nL ret own lo n θ R Q σ lv pc (.int i :: .ref (za θ 11) :: st) :=
  fun _ _ _ _ _ _ _ _ _ _ _ Z hP hS hl => by
    have ha : (zwd lo n θ σ)[11 - lo]? = some (za θ 11, .inl (zA θ 6, 6, .inr (.inr (.inr (.inr (fun j => some (za θ (zel 11 j)))))))) := by rw [zwd_at hlo hhi]; rfl
    have hin := zin_i hi
    have hlt : i.toNatClampNeg < 6 := Nat.not_le.mp fun q => hin (Or.inr q)
    exact W.aald (v := va_rf (some (za θ (zel 11 i.toNatClampNeg)))) (ty := .array .long) Z.1 Z.2.1 (hP (11 - lo) _ ha) ((Z.2.2.2.2.2.2.2.1.2 6 _ rfl).1 6 (fun j => va_rf (some (za θ (zel 11 j))))) rfl (fun q => by cases q) (by show ¬ (i < 0 ∨ (arrV _ _ _).slots.size ≤ _); rw [arrV_size]; exact hin) (by show (arrV _ _ _).slots[_]? = _; rw [arrV_read _ _ hlt]) rfl rfl d (g _ _ _ _ _ _ _ _ _ _ _ Z hP hS hl)
theorem z_alen {o N kk t0 : Nat} {x : vp_A} {ty : FieldType} {v : Int32} (d : decode cc pc = .ok (.arraylength, 1)) (hk : zkd o = kk) (hN : zln o = N) (he : zce θ kk N o (σ.1 o) (σ.2.1 o) (σ.2.2 o) = .inl (zA θ kk, x)) (ht : (zty θ)[t0]? = some (zA θ kk, ty)) (hlo : lo ≤ o) (hhi : o < lo + n) (hv : Int32.ofNat x.1 = v)
    (g : WZ l cc nL ret own lo n θ R Q σ lv (pc + 1) (.int v :: st)) : WZ l cc nL ret own lo n θ R Q σ lv pc (.ref (za θ o) :: st) :=
  fun _ _ _ _ _ _ _ _ _ _ _ Z hP hS hl => va_alen (D := zD θ) (cl := zcl) Z.1 Z.2.1 Z.2.2.2.2.2.2.2.1 hP (o - lo) t0 (by rw [zwd_at hlo hhi, zcell_arr hk hN he]) ht hv d (g _ _ _ _ _ _ _ _ _ _ _ Z hP hS hl)
/-! static tables -/
theorem z_above {index : Nat} (d : decode cc pc = .ok (.getstatic index, 3)) (hw : Cond.fieldLinkNest own index "BakedBefore" "ABOVE" "[I" "BakedBefore" = zn_acts ∨ Cond.fieldLinkNest own index "BakedBefore" "ABOVE" "[I" "BakedBefore" = zn_loaf)
    (g : WZ l cc nL ret own lo n θ R Q σ lv (pc + 3) (.ref (zf θ 0) :: st)) : WZ l cc nL ret own lo n θ R Q σ lv pc st :=
  fun _ _ _ _ _ _ _ _ _ _ _ Z hP hS hl => va_getsN (ref := "BakedBefore") (host := "BakedBefore") Z.1 Z.2.1 Z.2.2.2.2.2.2.2.2.2.1.1.1 hS Z.2.2.2.1 (by
    have h := Z.2.2.2.2.2.2.2.2.2.1.2.2.1
    rcases hw with e | e
    · rw [e]; exact va_Nw.use rfl h.1
    · rw [e]; exact va_Nw.use rfl h.2.1) (fun _ h => h) d (g _ _ _ _ _ _ _ _ _ _ _ Z hP hS hl)
theorem z_bodies {index : Nat} (d : decode cc pc = .ok (.getstatic index, 3)) (hw : Cond.fieldLink own index "BakedBefore$Acts" "BODIES" "[I" ∈ zW0)
    (g : WZ l cc nL ret own lo n θ R Q σ lv (pc + 3) (.ref (zf θ 1) :: st)) : WZ l cc nL ret own lo n θ R Q σ lv pc st :=
  fun _ _ _ _ _ _ _ _ _ _ _ Z hP hS hl => va_gets (ref := "BakedBefore$Acts") Z.1 Z.2.1 Z.2.2.2.2.2.2.2.2.2.1.2.1.1 hS Z.2.2.2.1 (Z.2.2.2.2.1 _ hw) (fun _ h => h) d (g _ _ _ _ _ _ _ _ _ _ _ Z hP hS hl)
theorem z_ialdA {i : Int32} (d : decode cc pc = .ok (.iaload, 1)) (hi : zin i 7 = true)
    (g : WZ l cc nL ret own lo n θ R Q σ lv (pc + 1) (.int (zabove i.toNatClampNeg) :: st)) : WZ l cc nL ret own lo n θ R Q σ lv pc (.int i :: .ref (zf θ 0) :: st) :=
  fun _ _ _ _ _ _ _ _ _ _ _ Z hP hS hl => va_ti Z.1 Z.2.1 Z.2.2.2.2.2.2.2.2.2.1.1.2 hS (zin_i hi) rfl d (g _ _ _ _ _ _ _ _ _ _ _ Z hP hS hl)
theorem z_ialdB {i : Int32} (d : decode cc pc = .ok (.iaload, 1)) (hi : zin i 21 = true)
    (g : WZ l cc nL ret own lo n θ R Q σ lv (pc + 1) (.int (zbodies i.toNatClampNeg) :: st)) : WZ l cc nL ret own lo n θ R Q σ lv pc (.int i :: .ref (zf θ 1) :: st) :=
  fun _ _ _ _ _ _ _ _ _ _ _ Z hP hS hl => va_ti Z.1 Z.2.1 Z.2.2.2.2.2.2.2.2.2.1.2.1.2 hS (zin_i hi) rfl d (g _ _ _ _ _ _ _ _ _ _ _ Z hP hS hl)
/-! returns -/
theorem z_iret {v : Int32} {res : Int32 × ZM} (d : decode cc pc = .ok (.ireturn, 1)) (h : some (v, σ) = some res) : WZ l cc nL (some .int) own lo n θ R (zQ mkI lo n θ res) σ lv pc [.int v] :=
  fun _ _ _ _ _ _ _ _ _ _ _ Z hP hS hl => W.iret (hlocks := Z.2.2.2.2.2.1) Z.1 Z.2.1 Z.2.2.2.2.2.2.1 (fun t ht hW => by
    cases h
    exact ⟨⟨rfl, by rw [ht]; exact hP, va_K.moved hW.alike Z.2.2.2.2.2.2.2.1, Z.2.2.2.2.2.2.2.2.1, zFX.warm hW (by rw [ht]; exact Z.2.2.2.2.2.2.2.2.2.1.kept hS.2.1)⟩, hS.F ht⟩) hS.2.2 d
theorem z_zret {v : Int32} {res : Int32 × ZM} (d : decode cc pc = .ok (.ireturn, 1)) (hb : zbl v = true) (h : some (v, σ) = some res) : WZ l cc nL (some .boolean) own lo n θ R (zQ mkI lo n θ res) σ lv pc [.int v] :=
  fun _ _ _ _ _ _ _ _ _ _ _ Z hP hS hl => W.zret (hlocks := Z.2.2.2.2.2.1) Z.1 Z.2.1 Z.2.2.2.2.2.2.1 (zbl_i hb) (fun t ht hW => by
    cases h
    exact ⟨⟨rfl, by rw [ht]; exact hP, va_K.moved hW.alike Z.2.2.2.2.2.2.2.1, Z.2.2.2.2.2.2.2.2.1, zFX.warm hW (by rw [ht]; exact Z.2.2.2.2.2.2.2.2.2.1.kept hS.2.1)⟩, hS.F ht⟩) hS.2.2 d
theorem z_lret {v : Int64} {res : Int64 × ZM} (d : decode cc pc = .ok (.lreturn, 1)) (h : some (v, σ) = some res) : WZ l cc nL (some .long) own lo n θ R (zQ mkL lo n θ res) σ lv pc [.long v] :=
  fun _ _ _ _ _ _ _ _ _ _ _ Z hP hS hl => W.lret (hlocks := Z.2.2.2.2.2.1) Z.1 Z.2.1 Z.2.2.2.2.2.2.1 (fun t ht hW => by
    cases h
    exact ⟨⟨rfl, by rw [ht]; exact hP, va_K.moved hW.alike Z.2.2.2.2.2.2.2.1, Z.2.2.2.2.2.2.2.2.1, zFX.warm hW (by rw [ht]; exact Z.2.2.2.2.2.2.2.2.2.1.kept hS.2.1)⟩, hS.F ht⟩) hS.2.2 d
theorem z_vret {res : Unit × ZM} (d : decode cc pc = .ok (.return_, 1)) (h : some ((), σ) = some res) : WZ l cc nL none own lo n θ R (zQ mkV lo n θ res) σ lv pc [] :=
  fun _ _ _ _ _ _ _ _ _ _ _ Z hP hS hl => W.vret (hlocks := Z.2.2.2.2.2.1) Z.1 Z.2.1 Z.2.2.2.2.2.2.1 (fun t ht hW => by
    cases h
    exact ⟨⟨rfl, by rw [ht]; exact hP, va_K.moved hW.alike Z.2.2.2.2.2.2.2.1, Z.2.2.2.2.2.2.2.2.1, zFX.warm hW (by rw [ht]; exact Z.2.2.2.2.2.2.2.2.2.1.kept hS.2.1)⟩, hS.F ht⟩) hS.2.2 d
theorem z_sret {i : Nat} {C : String} {res : Nat × ZM} (d : decode cc pc = .ok (.areturn, 1)) (h : some (i, σ) = some res) : WZ l cc nL (some (.object C)) own lo n θ R (zQ mkS lo n θ res) σ lv pc [.ref (zf θ (2 + i))] :=
  fun _ _ _ _ _ _ _ _ _ _ _ Z hP hS hl => W.aret (hlocks := Z.2.2.2.2.2.1) Z.1 Z.2.1 Z.2.2.2.2.2.2.1 (Or.inl ⟨_, rfl⟩) (Or.inr ⟨_, rfl⟩) (fun t ht hW => by
    cases h
    exact ⟨⟨rfl, by rw [ht]; exact hP, va_K.moved hW.alike Z.2.2.2.2.2.2.2.1, Z.2.2.2.2.2.2.2.2.1, zFX.warm hW (by rw [ht]; exact Z.2.2.2.2.2.2.2.2.2.1.kept hS.2.1)⟩, hS.F ht⟩) hS.2.2 d
end CELLS
/-- a method's contract -/
abbrev zMet {α : Type} (mk : ZT → α → Option Value) (l : Launch) (lo n : Nat) (θ : ZT) (y : MethodName) (b : ByteArray) (nL : Nat) (ret : Option FieldType) (rm : Room) (av : List Value) (σ : ZM) (res : α × ZM) : Prop :=
  Met l y (Cond.code y b nL ret :: zW0) rm (va_Pc av (zWB lo n θ σ)) (zQ mk lo n θ res) 0 0 (zAA lo n θ)
theorem z_met {α : Type} {mk : ZT → α → Option Value} {l : Launch} {lo n : Nat} {θ : ZT} {y : MethodName} {b : ByteArray} {nL : Nat} {ret : Option FieldType} {rm : Room} {av : List Value} {σ : ZM} {res : α × ZM} {lv : List (Nat × Value)} (hy : plainName y.cls = true) (hlv : lv_args 0 av = lv) (hlen : (lg_sl av).length ≤ nL) (hn : lo + n ≤ 143)
    (g : WZ l b nL ret y.cls lo n θ rm (zQ mk lo n θ res) σ lv 0 []) : zMet mk l lo n θ y b nL ret rm av σ res := by
  refine Met.ofW (cc := b) (maxL := nL) (ret := ret) hy rfl ?_
  intro p e s m args below meth c s₁ B hml hv
  obtain ⟨rfl, hP, hK, hJ, hF⟩ := hv
  have hts := atoms_spec (ws := Cond.code y b nL ret :: zW0) B.pre
  have hl := lv_entry av (n := nL) hlen
  rw [lg_entry_eq]
  rw [hlv] at hl
  exact g p e s m _ below meth c s.heap [] _ ⟨B.exec, B.bytes, hml, findClass_of_methodNamed B.named, fun w hw => hts w (List.mem_cons_of_mem _ hw), B.notSynchronized, B.returns, hK, hJ, hF, hn⟩ hP va_S.rf hl
end
section
/-! THE RULES, on: calls -/
def zcf (y : MethodName) (b : ByteArray) (nM : Nat) (rt : Option FieldType) (k : Nat) : Prop :=
  Cond.code y b nM rt ∈ zW0 ∧ Cond.initialized y.cls ∈ zW0 ∧ (y.cls ≠ "java/lang/invoke/MethodHandle" ∧ y.cls ≠ "java/lang/invoke/VarHandle" ∧ (parseMethodDescriptor y.desc).map (fun d => d.parameters.length) = some k)
def zcfV (y : MethodName) (b : ByteArray) (nM : Nat) (rt : Option FieldType) (k : Nat) : Prop := zcf y b nM rt k ∧ Cond.instanceMethod y ∈ zW0 ∧ Cond.selects y.cls y y ∈ zW0
def zcfS (y : MethodName) (b : ByteArray) (nM : Nat) (rt : Option FieldType) (k : Nat) : Prop := zcf y b nM rt k ∧ Cond.static y ∈ zW0
def zrm (f c : Nat) : Room := { frames := f, cells := 0, slots := 0, locals := c }
section CALLS
variable {l : Launch} {cc : ByteArray} {nL : Nat} {ret : Option FieldType} {own : String} {lo n : Nat} {θ : ZT} {R : Room} {Q : Array Value → State → Outcome → State → Prop} {σ : ZM} {lv : List (Nat × Value)} {pc : Nat} {st : List Value}
theorem z_run {α : Type} {mk : ZT → α → Option Value} {res : α × ZM} {st1 : List Value} {p : Program} {e : Env} {s : State} {m : MethodId} {args : Array Value} {below : List Frame} {meth : Method} {c : Code} {H : Heap} {locs : List Loc} {ls : Array Slot} {a : Array Value} (Z : zC p s m args meth c cc nL ret own lo n θ) (hS : va_S (zAA lo n θ) s.heap H locs) (hl : lv_has ls nL lv)
    (hr : va_Run p l e R s m args below meth c H locs 0 0 0 0 (F0 m pc ls st1) st (zQ mk lo n θ res a) (zAA lo n θ)) (g : WZ l cc nL ret own lo n θ R Q res.2 lv (pc + 3) ((mk θ res.1).toList ++ st)) :
    W p l e R s m args below meth c H locs 0 0 (MQ below Q args s 0 0 (zAA lo n θ)) (F0 m pc ls st1) := by
  intro T hT X
  obtain ⟨v, st₀, t, T', L, h0, X', hL, e1, e2, ⟨⟨hv, hb⟩, hz, hk⟩, sx⟩ := hr T hT X
  cases hv
  rw [h0] at hz hk
  obtain ⟨t2, a1, b1⟩ := g p e s m args below meth c T'.heap (locs ++ L) ls Z (by rw [e1]; exact hb.1)
    ⟨Nat.le_trans hS.1 (by rw [e1]; exact hz), fun q h1 h2 => by rw [e1, hk q (Nat.lt_of_lt_of_le h1 hS.1) h2]; exact hS.2.1 q h1 h2, fun q hq => by
      rcases List.mem_append.mp hq with h | h
      · exact hS.2.2 q h
      · exact hL q h⟩ hl T' rfl X'
  exact ⟨t2, sx t2 a1, b1⟩
theorem z_pre {p : Program} {s : State} {m : MethodId} {args : Array Value} {meth : Method} {c : Code} {H : Heap} {locs : List Loc} (Z : zC p s m args meth c cc nL ret own lo n θ) (hP : va_P (zD θ) zcl (zwd lo n θ σ) H) (hS : va_S (zAA lo n θ) s.heap H locs) : ∀ U : State, U.heap = H → s.WarmedH U.vm → zWB lo n θ σ U :=
  fun U hU hW => ⟨by rw [hU]; exact hP, va_K.moved hW.alike Z.2.2.2.2.2.2.2.1, Z.2.2.2.2.2.2.2.2.1, by rw [hU]; exact (Z.2.2.2.2.2.2.2.2.2.1.kept hS.2.1).warm hW⟩
theorem z_callV {α : Type} {mk : ZT → α → Option Value} {res : α × ZM} {y : MethodName} {b : ByteArray} {nM k o index ci kc : Nat} {rt : Option FieldType} {rm : Room} {q : vw_C} {fs : List Value} {st1 As : List Value} (hM : zMet mk l lo n θ y b nM rt rm (.ref (za θ o) :: As) σ res) (F : zcfV y b nM rt k) (hw : Cond.methodLink own index y ∈ zW0) (d : decode cc pc = .ok (.invokevirtual index, 3))
    (hk : zk o kc = true) (he : zce θ kc (zln o) o (σ.1 o) (σ.2.1 o) (σ.2.2 o) = .inr (ci, fs)) (hc : zcl[ci]? = some q) (hq : q.1 = y.cls) (hlo : lo ≤ o) (hhi : o < lo + n) (hAs : As.length = k) (hst : st1 = As.reverse ++ .ref (za θ o) :: st) (hcat : (st.map fun v => v.category).sum ≤ 8) (hr0 : rm.cells = 0) (hr1 : rm.slots = 0) (hR : rm.frames + 1 ≤ R.frames ∧ 8 + (nM + 11) + rm.locals ≤ R.locals)
    (g : WZ l cc nL ret own lo n θ R Q res.2 lv (pc + 3) ((mk θ res.1).toList ++ st)) : WZ l cc nL ret own lo n θ R Q σ lv pc st1 := by
  intro p e s m args below meth c H locs ls Z hP hS hl
  obtain ⟨⟨f1, f2, f3⟩, f4, f5⟩ := F
  have hts := Z.2.2.2.2.1
  have hcell : (zwd lo n θ σ)[o - lo]? = some (za θ o, .inr (ci, fs)) := by rw [zwd_at hlo hhi, zcell_obj hk he]
  refine z_run Z hS hl (va_runV (S := ⟨Z.1, Z.2.1, Z.2.2.1, Z.2.2.2.1, hts⟩) hM (C := y.cls) ⟨callB_of k hts (zgoodIn f1) rfl hr0 hr1 (hts _ f2) (hts _ hw) f3 hR, hts _ f4, hts _ f5⟩ ⟨zWB.blind, hq ▸ va_recv Z.2.2.2.2.2.2.2.1 hP hc hcell, fun U hU hW => ⟨rfl, z_pre Z hP hS U hU hW⟩⟩ rfl hAs hl.1 hst (lv_room hcat) d ⟨Nat.zero_le _, Nat.zero_le _⟩) g
theorem z_callS {α : Type} {mk : ZT → α → Option Value} {res : α × ZM} {y : MethodName} {b : ByteArray} {nM k index : Nat} {rt : Option FieldType} {rm : Room} {st1 As : List Value} (hM : zMet mk l lo n θ y b nM rt rm As σ res) (F : zcfS y b nM rt k) (hw : Cond.methodLink own index y ∈ zW0) (d : decode cc pc = .ok (.invokestatic index, 3))
    (hAs : As.length = k) (hst : st1 = As.reverse ++ st) (hcat : (st.map fun v => v.category).sum ≤ 8) (hr0 : rm.cells = 0) (hr1 : rm.slots = 0) (hR : rm.frames + 1 ≤ R.frames ∧ 8 + (nM + 11) + rm.locals ≤ R.locals)
    (g : WZ l cc nL ret own lo n θ R Q res.2 lv (pc + 3) ((mk θ res.1).toList ++ st)) : WZ l cc nL ret own lo n θ R Q σ lv pc st1 := by
  intro p e s m args below meth c H locs ls Z hP hS hl
  obtain ⟨⟨f1, f2, f3⟩, f4⟩ := F
  have hts := Z.2.2.2.2.1
  exact z_run Z hS hl (va_runS (S := ⟨Z.1, Z.2.1, Z.2.2.1, Z.2.2.2.1, hts⟩) hM ⟨callB_of k hts (zgoodIn f1) rfl hr0 hr1 (hts _ f2) (hts _ hw) f3 hR, hts _ f4⟩ ⟨zWB.blind, fun U hU hW => ⟨rfl, z_pre Z hP hS U hU hW⟩⟩ rfl hAs hl.1 hst (lv_room hcat) d ⟨Nat.zero_le _, Nat.zero_le _⟩) g
/-- BakedBefore.flag from a nest mate -/
theorem z_flag {res : Int32 × ZM} {b : ByteArray} {nM : Nat} {rt : Option FieldType} {rm : Room} {x : Int32} (hM : zMet mkI l lo n θ ⟨"BakedBefore", "flag", "(Z)I"⟩ b nM rt rm [.int x] σ res) (F : zcfS ⟨"BakedBefore", "flag", "(Z)I"⟩ b nM rt 1) (d : decode cc pc = .ok (.invokestatic 57, 3)) (ho : own = "BakedBefore$Asker")
    (hcat : (st.map fun v => v.category).sum ≤ 8) (hr0 : rm.cells = 0) (hr1 : rm.slots = 0) (hR : rm.frames + 1 ≤ R.frames ∧ 8 + (nM + 11) + rm.locals ≤ R.locals)
    (g : WZ l cc nL ret own lo n θ R Q res.2 lv (pc + 3) (.int res.1 :: st)) : WZ l cc nL ret own lo n θ R Q σ lv pc (.int x :: st) := by
  subst ho
  intro p e s m args below meth c H locs ls Z hP hS hl
  obtain ⟨⟨f1, f2, f3⟩, f4⟩ := F
  have hts := Z.2.2.2.2.1
  exact z_run Z hS hl (va_runSN (S := ⟨Z.1, Z.2.1, Z.2.2.1, Z.2.2.2.1, hts⟩) hM ⟨va_cnB 1 hts (zgoodIn f1) rfl hr0 hr1 Z.2.2.2.2.2.2.2.2.2.1.2.2.1.2.2 (hts _ f2) f3 hR, hts _ f4, trivial⟩ ⟨zWB.blind, fun U hU hW => ⟨rfl, z_pre Z hP hS U hU hW⟩⟩ rfl rfl hl.1 rfl (lv_room hcat) d ⟨Nat.zero_le _, Nat.zero_le _⟩) g
theorem z_mmax {x y : Int32} {index : Nat} (d : decode cc pc = .ok (.invokestatic index, 3)) (hw : Cond.methodLink own index Lib.Math.max.name ∈ zW0) (hs : Cond.static Lib.Math.max.name ∈ zW0) (hi : Cond.initialized "java/lang/Math" ∈ zW0) (hc : Cond.code Lib.Math.max.name Lib.Math.max.code 2 (some .int) ∈ zW0) (hf : 1 ≤ R.frames) (hlc : (st.map fun v => v.category).sum + 13 ≤ R.locals)
    (g : WZ l cc nL ret own lo n θ R Q σ lv (pc + 3) (.int (if x < y then y else x) :: st)) : WZ l cc nL ret own lo n θ R Q σ lv pc (.int y :: .int x :: st) :=
  fun _ _ _ _ _ _ _ _ _ _ _ Z hP hS hl => va_mmax Z.1 Z.2.1 (Z.2.2.1.trans hl.1.symm) Z.2.2.2.1 (Z.2.2.2.2.1 _ hw) (Z.2.2.2.2.1 _ hs) (Z.2.2.2.2.1 _ hi) (Z.2.2.2.2.1 _ hc) hf hlc (Nat.zero_le _) (Nat.zero_le _) d (g _ _ _ _ _ _ _ _ _ _ _ Z hP hS hl)
theorem z_mmin {x y : Int32} {index : Nat} (d : decode cc pc = .ok (.invokestatic index, 3)) (hw : Cond.methodLink own index Lib.Math.min.name ∈ zW0) (hs : Cond.static Lib.Math.min.name ∈ zW0) (hi : Cond.initialized "java/lang/Math" ∈ zW0) (hc : Cond.code Lib.Math.min.name Lib.Math.min.code 2 (some .int) ∈ zW0) (hf : 1 ≤ R.frames) (hlc : (st.map fun v => v.category).sum + 13 ≤ R.locals)
    (g : WZ l cc nL ret own lo n θ R Q σ lv (pc + 3) (.int (if y < x then y else x) :: st)) : WZ l cc nL ret own lo n θ R Q σ lv pc (.int y :: .int x :: st) :=
  fun _ _ _ _ _ _ _ _ _ _ _ Z hP hS hl => va_mmin Z.1 Z.2.1 (Z.2.2.1.trans hl.1.symm) Z.2.2.2.1 (Z.2.2.2.2.1 _ hw) (Z.2.2.2.2.1 _ hs) (Z.2.2.2.2.1 _ hi) (Z.2.2.2.2.1 _ hc) hf hlc (Nat.zero_le _) (Nat.zero_le _) d (g _ _ _ _ _ _ _ _ _ _ _ Z hP hS hl)
theorem z_tableIn {dflt lw hi : Int} {offs : Array Int} {len : Nat} {x : Int32} {k : Int32} {off : Int} {tgt : Nat} (d : decode cc pc = .ok (.tableswitch dflt lw hi offs, len)) (hx : x = k) (h : ¬ k.toInt < lw ∧ ¬ hi < k.toInt ∧ offs[(k.toInt - lw).toNat]? = some off ∧ (pc : Int) + off = (tgt : Int))
    (g : WZ l cc nL ret own lo n θ R Q σ lv tgt st) : WZ l cc nL ret own lo n θ R Q σ lv pc (.int x :: st) :=
  fun _ _ _ _ _ _ _ _ _ _ _ Z hP hS hl => by subst hx; exact lv_tableIn Z.1 Z.2.1 d h.1 h.2.1 h.2.2.1 h.2.2.2 (g _ _ _ _ _ _ _ _ _ _ _ Z hP hS hl)
theorem z_tableOut {dflt lw hi : Int} {offs : Array Int} {len : Nat} {x : Int32} {tgt : Nat} (d : decode cc pc = .ok (.tableswitch dflt lw hi offs, len)) (h : x.toInt < lw ∨ hi < x.toInt) (ht : (pc : Int) + dflt = (tgt : Int))
    (g : WZ l cc nL ret own lo n θ R Q σ lv tgt st) : WZ l cc nL ret own lo n θ R Q σ lv pc (.int x :: st) :=
  fun _ _ _ _ _ _ _ _ _ _ _ Z hP hS hl => lv_tableOut Z.1 Z.2.1 d h ht (g _ _ _ _ _ _ _ _ _ _ _ Z hP hS hl)
theorem z_lookup {dflt : Int} {ps : Array (Int × Int)} {len : Nat} {x : Int32} {off : Int} {tgt : Nat} (d : decode cc pc = .ok (.lookupswitch dflt ps, len)) (hp : (ps.toList.zip (ps.toList.drop 1)).all (fun (a, next) => a.1 < next.1) = true) (ho : Op.lookupswitch.offset ps.toList dflt x.toInt = off) (ht : (pc : Int) + off = (tgt : Int))
    (g : WZ l cc nL ret own lo n θ R Q σ lv tgt st) : WZ l cc nL ret own lo n θ R Q σ lv pc (.int x :: st) :=
  fun _ _ _ _ _ _ _ _ _ _ _ Z hP hS hl => lv_lookup Z.1 Z.2.1 d hp ho ht (g _ _ _ _ _ _ _ _ _ _ _ Z hP hS hl)
theorem z_iushr {x y : Int32} {v : Int32} (d : decode cc pc = .ok (.iushr, 1)) (hv : (x.toUInt32 >>> (y.toUInt32 &&& 31)).toInt32 = v) (g : WZ l cc nL ret own lo n θ R Q σ lv (pc + 1) (.int v :: st)) : WZ l cc nL ret own lo n θ R Q σ lv pc (.int y :: .int x :: st) :=
  fun _ _ _ _ _ _ _ _ _ _ _ C hP hS hl => lv_iushr C.1 C.2.1 d hv (g _ _ _ _ _ _ _ _ _ _ _ C hP hS hl)
end CALLS
end
