section
-- ===== PART A: goes FIRST, ahead of the names: the tables' words, and 'selects' of the private methods out of them =====
/-- a private method of a class that the tables say can be made, by its rows of tables_1 -/
def lw_okq (q : MethodName × Nat) : Prop := (q.1.cls ≠ "java/lang/invoke/MethodHandle" ∧ q.1.cls ≠ "java/lang/invoke/VarHandle") ∧ Cond.instantiable q.1.cls q.2 ∈ tables_1 ∧ Cond.privateMethod q.1 ∈ tables_1 ∧ Cond.instanceMethod q.1 ∈ tables_1
theorem lw_p0 : lw_okq (⟨"BakedBefore", "isLoaf", "(I)Z"⟩, 12) := ⟨⟨by decide +kernel, by decide +kernel⟩, List.mem_of_getElem? (i := 22) (by decide +kernel), List.mem_of_getElem? (i := 353) (by decide +kernel), List.mem_of_getElem? (i := 354) (by decide +kernel)⟩
theorem lw_p1 : lw_okq (⟨"BakedBefore$Kiln", "holds", "(II)Z"⟩, 9) := ⟨⟨by decide +kernel, by decide +kernel⟩, List.mem_of_getElem? (i := 167) (by decide +kernel), List.mem_of_getElem? (i := 376) (by decide +kernel), List.mem_of_getElem? (i := 377) (by decide +kernel)⟩
theorem lw_p2 : lw_okq (⟨"BakedBefore", "ofTaste", "(LBakedBefore$Loaf;II)I"⟩, 12) := ⟨⟨by decide +kernel, by decide +kernel⟩, List.mem_of_getElem? (i := 22) (by decide +kernel), List.mem_of_getElem? (i := 405) (by decide +kernel), List.mem_of_getElem? (i := 406) (by decide +kernel)⟩
theorem lw_p3 : lw_okq (⟨"BakedBefore$Reade\x72", "readClause", "()Z"⟩, 5) := ⟨⟨by decide +kernel, by decide +kernel⟩, List.mem_of_getElem? (i := 143) (by decide +kernel), List.mem_of_getElem? (i := 438) (by decide +kernel), List.mem_of_getElem? (i := 439) (by decide +kernel)⟩
theorem lw_p4 : lw_okq (⟨"BakedBefore$Reade\x72", "here", "()I"⟩, 5) := ⟨⟨by decide +kernel, by decide +kernel⟩, List.mem_of_getElem? (i := 143) (by decide +kernel), List.mem_of_getElem? (i := 442) (by decide +kernel), List.mem_of_getElem? (i := 443) (by decide +kernel)⟩
theorem lw_p5 : lw_okq (⟨"BakedBefore$Reade\x72", "readWord", "(Ljava/lang/String;)Z"⟩, 5) := ⟨⟨by decide +kernel, by decide +kernel⟩, List.mem_of_getElem? (i := 143) (by decide +kernel), List.mem_of_getElem? (i := 456) (by decide +kernel), List.mem_of_getElem? (i := 457) (by decide +kernel)⟩
theorem lw_p6 : lw_okq (⟨"BakedBefore$Reade\x72", "skip", "(C)Z"⟩, 5) := ⟨⟨by decide +kernel, by decide +kernel⟩, List.mem_of_getElem? (i := 143) (by decide +kernel), List.mem_of_getElem? (i := 508) (by decide +kernel), List.mem_of_getElem? (i := 509) (by decide +kernel)⟩
theorem lw_p7 : lw_okq (⟨"BakedBefore$Reade\x72", "readNumbe\x72", "()Z"⟩, 5) := ⟨⟨by decide +kernel, by decide +kernel⟩, List.mem_of_getElem? (i := 143) (by decide +kernel), List.mem_of_getElem? (i := 512) (by decide +kernel), List.mem_of_getElem? (i := 513) (by decide +kernel)⟩
theorem lw_p8 : lw_okq (⟨"BakedBefore$Reade\x72", "readEithe\x72", "(I)Z"⟩, 5) := ⟨⟨by decide +kernel, by decide +kernel⟩, List.mem_of_getElem? (i := 143) (by decide +kernel), List.mem_of_getElem? (i := 523) (by decide +kernel), List.mem_of_getElem? (i := 524) (by decide +kernel)⟩
theorem lw_p9 : lw_okq (⟨"BakedBefore$Reade\x72", "readBoth", "(I)Z"⟩, 5) := ⟨⟨by decide +kernel, by decide +kernel⟩, List.mem_of_getElem? (i := 143) (by decide +kernel), List.mem_of_getElem? (i := 527) (by decide +kernel), List.mem_of_getElem? (i := 528) (by decide +kernel)⟩
theorem lw_p10 : lw_okq (⟨"BakedBefore$Reade\x72", "readPart", "(I)Z"⟩, 5) := ⟨⟨by decide +kernel, by decide +kernel⟩, List.mem_of_getElem? (i := 143) (by decide +kernel), List.mem_of_getElem? (i := 531) (by decide +kernel), List.mem_of_getElem? (i := 532) (by decide +kernel)⟩
theorem lw_p11 : lw_okq (⟨"BakedBefore$Reade\x72", "readTest", "()Z"⟩, 5) := ⟨⟨by decide +kernel, by decide +kernel⟩, List.mem_of_getElem? (i := 143) (by decide +kernel), List.mem_of_getElem? (i := 535) (by decide +kernel), List.mem_of_getElem? (i := 536) (by decide +kernel)⟩
theorem lw_p12 : lw_okq (⟨"BakedBefore", "isSet", "(II)Z"⟩, 12) := ⟨⟨by decide +kernel, by decide +kernel⟩, List.mem_of_getElem? (i := 22) (by decide +kernel), List.mem_of_getElem? (i := 593) (by decide +kernel), List.mem_of_getElem? (i := 594) (by decide +kernel)⟩
theorem lw_p13 : lw_okq (⟨"BakedBefore$Search", "goOnOrde\x72", "(III)V"⟩, 7) := ⟨⟨by decide +kernel, by decide +kernel⟩, List.mem_of_getElem? (i := 236) (by decide +kernel), List.mem_of_getElem? (i := 609) (by decide +kernel), List.mem_of_getElem? (i := 610) (by decide +kernel)⟩
theorem lw_p14 : lw_okq (⟨"BakedBefore$Search", "keep", "(I)V"⟩, 7) := ⟨⟨by decide +kernel, by decide +kernel⟩, List.mem_of_getElem? (i := 236) (by decide +kernel), List.mem_of_getElem? (i := 613) (by decide +kernel), List.mem_of_getElem? (i := 614) (by decide +kernel)⟩
theorem lw_p15 : lw_okq (⟨"BakedBefore$Search", "goOnColds", "(III)V"⟩, 7) := ⟨⟨by decide +kernel, by decide +kernel⟩, List.mem_of_getElem? (i := 236) (by decide +kernel), List.mem_of_getElem? (i := 626) (by decide +kernel), List.mem_of_getElem? (i := 627) (by decide +kernel)⟩
def lw_privs_1 : List (MethodName × Nat) := [(⟨"BakedBefore", "isLoaf", "(I)Z"⟩, 12), (⟨"BakedBefore$Kiln", "holds", "(II)Z"⟩, 9), (⟨"BakedBefore", "ofTaste", "(LBakedBefore$Loaf;II)I"⟩, 12), (⟨"BakedBefore$Reade\x72", "readClause", "()Z"⟩, 5), (⟨"BakedBefore$Reade\x72", "here", "()I"⟩, 5), (⟨"BakedBefore$Reade\x72", "readWord", "(Ljava/lang/String;)Z"⟩, 5), (⟨"BakedBefore$Reade\x72", "skip", "(C)Z"⟩, 5), (⟨"BakedBefore$Reade\x72", "readNumbe\x72", "()Z"⟩, 5), (⟨"BakedBefore$Reade\x72", "readEithe\x72", "(I)Z"⟩, 5), (⟨"BakedBefore$Reade\x72", "readBoth", "(I)Z"⟩, 5), (⟨"BakedBefore$Reade\x72", "readPart", "(I)Z"⟩, 5), (⟨"BakedBefore$Reade\x72", "readTest", "()Z"⟩, 5), (⟨"BakedBefore", "isSet", "(II)Z"⟩, 12), (⟨"BakedBefore$Search", "goOnOrde\x72", "(III)V"⟩, 7), (⟨"BakedBefore$Search", "keep", "(I)V"⟩, 7), (⟨"BakedBefore$Search", "goOnColds", "(III)V"⟩, 7)]
theorem lw_r1 : ∀ q ∈ lw_privs_1, lw_okq q := List.forall_mem_cons.mpr ⟨lw_p0, List.forall_mem_cons.mpr ⟨lw_p1, List.forall_mem_cons.mpr ⟨lw_p2, List.forall_mem_cons.mpr ⟨lw_p3, List.forall_mem_cons.mpr ⟨lw_p4, List.forall_mem_cons.mpr ⟨lw_p5, List.forall_mem_cons.mpr ⟨lw_p6, List.forall_mem_cons.mpr ⟨lw_p7, List.forall_mem_cons.mpr ⟨lw_p8, List.forall_mem_cons.mpr ⟨lw_p9, List.forall_mem_cons.mpr ⟨lw_p10, List.forall_mem_cons.mpr ⟨lw_p11, List.forall_mem_cons.mpr ⟨lw_p12, List.forall_mem_cons.mpr ⟨lw_p13, List.forall_mem_cons.mpr ⟨lw_p14, List.forall_mem_cons.mpr ⟨lw_p15, fun _ h => absurd h List.not_mem_nil⟩⟩⟩⟩⟩⟩⟩⟩⟩⟩⟩⟩⟩⟩⟩⟩
theorem lw_p16 : lw_okq (⟨"BakedBefore$Aske\x72", "spoilsWithout", "(II)Z"⟩, 4) := ⟨⟨by decide +kernel, by decide +kernel⟩, List.mem_of_getElem? (i := 215) (by decide +kernel), List.mem_of_getElem? (i := 654) (by decide +kernel), List.mem_of_getElem? (i := 655) (by decide +kernel)⟩
theorem lw_p17 : lw_okq (⟨"BakedBefore$Aske\x72", "spoiledIn", "(I)I"⟩, 4) := ⟨⟨by decide +kernel, by decide +kernel⟩, List.mem_of_getElem? (i := 215) (by decide +kernel), List.mem_of_getElem? (i := 666) (by decide +kernel), List.mem_of_getElem? (i := 667) (by decide +kernel)⟩
theorem lw_p18 : lw_okq (⟨"BakedBefore$Aske\x72", "gainOfFirst", "(I)I"⟩, 4) := ⟨⟨by decide +kernel, by decide +kernel⟩, List.mem_of_getElem? (i := 215) (by decide +kernel), List.mem_of_getElem? (i := 679) (by decide +kernel), List.mem_of_getElem? (i := 680) (by decide +kernel)⟩
theorem lw_p19 : lw_okq (⟨"BakedBefore$Aske\x72", "bakeAhead", "(I)V"⟩, 4) := ⟨⟨by decide +kernel, by decide +kernel⟩, List.mem_of_getElem? (i := 215) (by decide +kernel), List.mem_of_getElem? (i := 692) (by decide +kernel), List.mem_of_getElem? (i := 693) (by decide +kernel)⟩
theorem lw_p20 : lw_okq (⟨"BakedBefore$Acts", "run", "(LBakedBefore$Loaf;IIII)I"⟩, 2) := ⟨⟨by decide +kernel, by decide +kernel⟩, List.mem_of_getElem? (i := 270) (by decide +kernel), List.mem_of_getElem? (i := 797) (by decide +kernel), List.mem_of_getElem? (i := 798) (by decide +kernel)⟩
theorem lw_p21 : lw_okq (⟨"BakedBefore$Acts", "note", "(I)V"⟩, 2) := ⟨⟨by decide +kernel, by decide +kernel⟩, List.mem_of_getElem? (i := 270) (by decide +kernel), List.mem_of_getElem? (i := 808) (by decide +kernel), List.mem_of_getElem? (i := 809) (by decide +kernel)⟩
theorem lw_p22 : lw_okq (⟨"BakedBeforeModel", "reads", "(III)V"⟩, 31) := ⟨⟨by decide +kernel, by decide +kernel⟩, List.mem_of_getElem? (i := 869) (by decide +kernel), List.mem_of_getElem? (i := 980) (by decide +kernel), List.mem_of_getElem? (i := 981) (by decide +kernel)⟩
theorem lw_p23 : lw_okq (⟨"BakedBeforeModel", "readsClause", "()V"⟩, 31) := ⟨⟨by decide +kernel, by decide +kernel⟩, List.mem_of_getElem? (i := 869) (by decide +kernel), List.mem_of_getElem? (i := 984) (by decide +kernel), List.mem_of_getElem? (i := 985) (by decide +kernel)⟩
theorem lw_p24 : lw_okq (⟨"BakedBeforeModel", "here", "()I"⟩, 31) := ⟨⟨by decide +kernel, by decide +kernel⟩, List.mem_of_getElem? (i := 869) (by decide +kernel), List.mem_of_getElem? (i := 988) (by decide +kernel), List.mem_of_getElem? (i := 989) (by decide +kernel)⟩
theorem lw_p25 : lw_okq (⟨"BakedBeforeModel", "readsWord", "(Ljava/lang/String;)V"⟩, 31) := ⟨⟨by decide +kernel, by decide +kernel⟩, List.mem_of_getElem? (i := 869) (by decide +kernel), List.mem_of_getElem? (i := 996) (by decide +kernel), List.mem_of_getElem? (i := 997) (by decide +kernel)⟩
theorem lw_p26 : lw_okq (⟨"BakedBeforeModel", "takes", "(I)Z"⟩, 31) := ⟨⟨by decide +kernel, by decide +kernel⟩, List.mem_of_getElem? (i := 869) (by decide +kernel), List.mem_of_getElem? (i := 1002) (by decide +kernel), List.mem_of_getElem? (i := 1003) (by decide +kernel)⟩
theorem lw_p27 : lw_okq (⟨"BakedBeforeModel", "readsNumbe\x72", "()I"⟩, 31) := ⟨⟨by decide +kernel, by decide +kernel⟩, List.mem_of_getElem? (i := 869) (by decide +kernel), List.mem_of_getElem? (i := 1006) (by decide +kernel), List.mem_of_getElem? (i := 1007) (by decide +kernel)⟩
theorem lw_p28 : lw_okq (⟨"BakedBeforeModel", "isDigit", "()Z"⟩, 31) := ⟨⟨by decide +kernel, by decide +kernel⟩, List.mem_of_getElem? (i := 869) (by decide +kernel), List.mem_of_getElem? (i := 1010) (by decide +kernel), List.mem_of_getElem? (i := 1011) (by decide +kernel)⟩
theorem lw_p29 : lw_okq (⟨"BakedBeforeModel", "readsE", "(I)Z"⟩, 31) := ⟨⟨by decide +kernel, by decide +kernel⟩, List.mem_of_getElem? (i := 869) (by decide +kernel), List.mem_of_getElem? (i := 1014) (by decide +kernel), List.mem_of_getElem? (i := 1015) (by decide +kernel)⟩
theorem lw_p30 : lw_okq (⟨"BakedBeforeModel", "readsT", "(I)Z"⟩, 31) := ⟨⟨by decide +kernel, by decide +kernel⟩, List.mem_of_getElem? (i := 869) (by decide +kernel), List.mem_of_getElem? (i := 1018) (by decide +kernel), List.mem_of_getElem? (i := 1019) (by decide +kernel)⟩
theorem lw_p31 : lw_okq (⟨"BakedBeforeModel", "readsF", "(I)Z"⟩, 31) := ⟨⟨by decide +kernel, by decide +kernel⟩, List.mem_of_getElem? (i := 869) (by decide +kernel), List.mem_of_getElem? (i := 1022) (by decide +kernel), List.mem_of_getElem? (i := 1023) (by decide +kernel)⟩
def lw_privs_2 : List (MethodName × Nat) := [(⟨"BakedBefore$Aske\x72", "spoilsWithout", "(II)Z"⟩, 4), (⟨"BakedBefore$Aske\x72", "spoiledIn", "(I)I"⟩, 4), (⟨"BakedBefore$Aske\x72", "gainOfFirst", "(I)I"⟩, 4), (⟨"BakedBefore$Aske\x72", "bakeAhead", "(I)V"⟩, 4), (⟨"BakedBefore$Acts", "run", "(LBakedBefore$Loaf;IIII)I"⟩, 2), (⟨"BakedBefore$Acts", "note", "(I)V"⟩, 2), (⟨"BakedBeforeModel", "reads", "(III)V"⟩, 31), (⟨"BakedBeforeModel", "readsClause", "()V"⟩, 31), (⟨"BakedBeforeModel", "here", "()I"⟩, 31), (⟨"BakedBeforeModel", "readsWord", "(Ljava/lang/String;)V"⟩, 31), (⟨"BakedBeforeModel", "takes", "(I)Z"⟩, 31), (⟨"BakedBeforeModel", "readsNumbe\x72", "()I"⟩, 31), (⟨"BakedBeforeModel", "isDigit", "()Z"⟩, 31), (⟨"BakedBeforeModel", "readsE", "(I)Z"⟩, 31), (⟨"BakedBeforeModel", "readsT", "(I)Z"⟩, 31), (⟨"BakedBeforeModel", "readsF", "(I)Z"⟩, 31)]
theorem lw_r2 : ∀ q ∈ lw_privs_2, lw_okq q := List.forall_mem_cons.mpr ⟨lw_p16, List.forall_mem_cons.mpr ⟨lw_p17, List.forall_mem_cons.mpr ⟨lw_p18, List.forall_mem_cons.mpr ⟨lw_p19, List.forall_mem_cons.mpr ⟨lw_p20, List.forall_mem_cons.mpr ⟨lw_p21, List.forall_mem_cons.mpr ⟨lw_p22, List.forall_mem_cons.mpr ⟨lw_p23, List.forall_mem_cons.mpr ⟨lw_p24, List.forall_mem_cons.mpr ⟨lw_p25, List.forall_mem_cons.mpr ⟨lw_p26, List.forall_mem_cons.mpr ⟨lw_p27, List.forall_mem_cons.mpr ⟨lw_p28, List.forall_mem_cons.mpr ⟨lw_p29, List.forall_mem_cons.mpr ⟨lw_p30, List.forall_mem_cons.mpr ⟨lw_p31, fun _ h => absurd h List.not_mem_nil⟩⟩⟩⟩⟩⟩⟩⟩⟩⟩⟩⟩⟩⟩⟩⟩
theorem lw_p32 : lw_okq (⟨"BakedBeforeModel", "readsTest", "()Z"⟩, 31) := ⟨⟨by decide +kernel, by decide +kernel⟩, List.mem_of_getElem? (i := 869) (by decide +kernel), List.mem_of_getElem? (i := 1026) (by decide +kernel), List.mem_of_getElem? (i := 1027) (by decide +kernel)⟩
theorem lw_p33 : lw_okq (⟨"BakedBeforeModel", "valueOf", "(I)I"⟩, 31) := ⟨⟨by decide +kernel, by decide +kernel⟩, List.mem_of_getElem? (i := 869) (by decide +kernel), List.mem_of_getElem? (i := 1033) (by decide +kernel), List.mem_of_getElem? (i := 1034) (by decide +kernel)⟩
theorem lw_p34 : lw_okq (⟨"BakedBeforeModel", "kind", "(I)I"⟩, 31) := ⟨⟨by decide +kernel, by decide +kernel⟩, List.mem_of_getElem? (i := 869) (by decide +kernel), List.mem_of_getElem? (i := 1037) (by decide +kernel), List.mem_of_getElem? (i := 1038) (by decide +kernel)⟩
theorem lw_p35 : lw_okq (⟨"BakedBeforeModel", "get", "(II)I"⟩, 31) := ⟨⟨by decide +kernel, by decide +kernel⟩, List.mem_of_getElem? (i := 869) (by decide +kernel), List.mem_of_getElem? (i := 1041) (by decide +kernel), List.mem_of_getElem? (i := 1042) (by decide +kernel)⟩
theorem lw_p36 : lw_okq (⟨"BakedBeforeModel", "numbe\x72", "(I)I"⟩, 31) := ⟨⟨by decide +kernel, by decide +kernel⟩, List.mem_of_getElem? (i := 869) (by decide +kernel), List.mem_of_getElem? (i := 1045) (by decide +kernel), List.mem_of_getElem? (i := 1046) (by decide +kernel)⟩
theorem lw_p37 : lw_okq (⟨"BakedBeforeModel", "isLoaf", "(I)Z"⟩, 31) := ⟨⟨by decide +kernel, by decide +kernel⟩, List.mem_of_getElem? (i := 869) (by decide +kernel), List.mem_of_getElem? (i := 1057) (by decide +kernel), List.mem_of_getElem? (i := 1058) (by decide +kernel)⟩
theorem lw_p38 : lw_okq (⟨"BakedBeforeModel", "feeOf", "(I)I"⟩, 31) := ⟨⟨by decide +kernel, by decide +kernel⟩, List.mem_of_getElem? (i := 869) (by decide +kernel), List.mem_of_getElem? (i := 1068) (by decide +kernel), List.mem_of_getElem? (i := 1069) (by decide +kernel)⟩
theorem lw_p39 : lw_okq (⟨"BakedBeforeModel", "readsNow", "(II)V"⟩, 31) := ⟨⟨by decide +kernel, by decide +kernel⟩, List.mem_of_getElem? (i := 869) (by decide +kernel), List.mem_of_getElem? (i := 1072) (by decide +kernel), List.mem_of_getElem? (i := 1073) (by decide +kernel)⟩
theorem lw_p40 : lw_okq (⟨"BakedBeforeModel", "isSpoiled", "(I)Z"⟩, 31) := ⟨⟨by decide +kernel, by decide +kernel⟩, List.mem_of_getElem? (i := 869) (by decide +kernel), List.mem_of_getElem? (i := 1076) (by decide +kernel), List.mem_of_getElem? (i := 1077) (by decide +kernel)⟩
theorem lw_p41 : lw_okq (⟨"BakedBeforeModel", "takesOf", "(II)I"⟩, 31) := ⟨⟨by decide +kernel, by decide +kernel⟩, List.mem_of_getElem? (i := 869) (by decide +kernel), List.mem_of_getElem? (i := 1080) (by decide +kernel), List.mem_of_getElem? (i := 1081) (by decide +kernel)⟩
theorem lw_p42 : lw_okq (⟨"BakedBeforeModel", "partOf", "(II)I"⟩, 31) := ⟨⟨by decide +kernel, by decide +kernel⟩, List.mem_of_getElem? (i := 869) (by decide +kernel), List.mem_of_getElem? (i := 1084) (by decide +kernel), List.mem_of_getElem? (i := 1085) (by decide +kernel)⟩
theorem lw_p43 : lw_okq (⟨"BakedBeforeModel", "takesBy", "(IIII)I"⟩, 31) := ⟨⟨by decide +kernel, by decide +kernel⟩, List.mem_of_getElem? (i := 869) (by decide +kernel), List.mem_of_getElem? (i := 1088) (by decide +kernel), List.mem_of_getElem? (i := 1089) (by decide +kernel)⟩
theorem lw_p44 : lw_okq (⟨"BakedBeforeModel", "leavesOf", "(II)I"⟩, 31) := ⟨⟨by decide +kernel, by decide +kernel⟩, List.mem_of_getElem? (i := 869) (by decide +kernel), List.mem_of_getElem? (i := 1092) (by decide +kernel), List.mem_of_getElem? (i := 1093) (by decide +kernel)⟩
theorem lw_p45 : lw_okq (⟨"BakedBeforeModel", "bakes", "(I)Z"⟩, 31) := ⟨⟨by decide +kernel, by decide +kernel⟩, List.mem_of_getElem? (i := 869) (by decide +kernel), List.mem_of_getElem? (i := 1108) (by decide +kernel), List.mem_of_getElem? (i := 1109) (by decide +kernel)⟩
theorem lw_p46 : lw_okq (⟨"BakedBeforeModel", "ages", "()V"⟩, 31) := ⟨⟨by decide +kernel, by decide +kernel⟩, List.mem_of_getElem? (i := 869) (by decide +kernel), List.mem_of_getElem? (i := 1112) (by decide +kernel), List.mem_of_getElem? (i := 1113) (by decide +kernel)⟩
theorem lw_p47 : lw_okq (⟨"BakedBeforeModel", "cools", "()V"⟩, 31) := ⟨⟨by decide +kernel, by decide +kernel⟩, List.mem_of_getElem? (i := 869) (by decide +kernel), List.mem_of_getElem? (i := 1120) (by decide +kernel), List.mem_of_getElem? (i := 1121) (by decide +kernel)⟩
def lw_privs_3 : List (MethodName × Nat) := [(⟨"BakedBeforeModel", "readsTest", "()Z"⟩, 31), (⟨"BakedBeforeModel", "valueOf", "(I)I"⟩, 31), (⟨"BakedBeforeModel", "kind", "(I)I"⟩, 31), (⟨"BakedBeforeModel", "get", "(II)I"⟩, 31), (⟨"BakedBeforeModel", "numbe\x72", "(I)I"⟩, 31), (⟨"BakedBeforeModel", "isLoaf", "(I)Z"⟩, 31), (⟨"BakedBeforeModel", "feeOf", "(I)I"⟩, 31), (⟨"BakedBeforeModel", "readsNow", "(II)V"⟩, 31), (⟨"BakedBeforeModel", "isSpoiled", "(I)Z"⟩, 31), (⟨"BakedBeforeModel", "takesOf", "(II)I"⟩, 31), (⟨"BakedBeforeModel", "partOf", "(II)I"⟩, 31), (⟨"BakedBeforeModel", "takesBy", "(IIII)I"⟩, 31), (⟨"BakedBeforeModel", "leavesOf", "(II)I"⟩, 31), (⟨"BakedBeforeModel", "bakes", "(I)Z"⟩, 31), (⟨"BakedBeforeModel", "ages", "()V"⟩, 31), (⟨"BakedBeforeModel", "cools", "()V"⟩, 31)]
theorem lw_r3 : ∀ q ∈ lw_privs_3, lw_okq q := List.forall_mem_cons.mpr ⟨lw_p32, List.forall_mem_cons.mpr ⟨lw_p33, List.forall_mem_cons.mpr ⟨lw_p34, List.forall_mem_cons.mpr ⟨lw_p35, List.forall_mem_cons.mpr ⟨lw_p36, List.forall_mem_cons.mpr ⟨lw_p37, List.forall_mem_cons.mpr ⟨lw_p38, List.forall_mem_cons.mpr ⟨lw_p39, List.forall_mem_cons.mpr ⟨lw_p40, List.forall_mem_cons.mpr ⟨lw_p41, List.forall_mem_cons.mpr ⟨lw_p42, List.forall_mem_cons.mpr ⟨lw_p43, List.forall_mem_cons.mpr ⟨lw_p44, List.forall_mem_cons.mpr ⟨lw_p45, List.forall_mem_cons.mpr ⟨lw_p46, List.forall_mem_cons.mpr ⟨lw_p47, fun _ h => absurd h List.not_mem_nil⟩⟩⟩⟩⟩⟩⟩⟩⟩⟩⟩⟩⟩⟩⟩⟩
theorem lw_p48 : lw_okq (⟨"BakedBeforeModel", "begins", "()V"⟩, 31) := ⟨⟨by decide +kernel, by decide +kernel⟩, List.mem_of_getElem? (i := 869) (by decide +kernel), List.mem_of_getElem? (i := 1128) (by decide +kernel), List.mem_of_getElem? (i := 1129) (by decide +kernel)⟩
theorem lw_p49 : lw_okq (⟨"BakedBeforeModel", "ends", "()V"⟩, 31) := ⟨⟨by decide +kernel, by decide +kernel⟩, List.mem_of_getElem? (i := 869) (by decide +kernel), List.mem_of_getElem? (i := 1135) (by decide +kernel), List.mem_of_getElem? (i := 1136) (by decide +kernel)⟩
theorem lw_p50 : lw_okq (⟨"BakedBeforeModel", "areLoaves", "(I)Z"⟩, 31) := ⟨⟨by decide +kernel, by decide +kernel⟩, List.mem_of_getElem? (i := 869) (by decide +kernel), List.mem_of_getElem? (i := 1143) (by decide +kernel), List.mem_of_getElem? (i := 1144) (by decide +kernel)⟩
theorem lw_p51 : lw_okq (⟨"BakedBeforeModel", "orders", "(III)V"⟩, 31) := ⟨⟨by decide +kernel, by decide +kernel⟩, List.mem_of_getElem? (i := 869) (by decide +kernel), List.mem_of_getElem? (i := 1150) (by decide +kernel), List.mem_of_getElem? (i := 1151) (by decide +kernel)⟩
theorem lw_p52 : lw_okq (⟨"BakedBeforeModel", "spoiledBy", "(I)I"⟩, 31) := ⟨⟨by decide +kernel, by decide +kernel⟩, List.mem_of_getElem? (i := 869) (by decide +kernel), List.mem_of_getElem? (i := 1154) (by decide +kernel), List.mem_of_getElem? (i := 1155) (by decide +kernel)⟩
theorem lw_p53 : lw_okq (⟨"BakedBeforeModel", "isWellBy", "(III)Z"⟩, 31) := ⟨⟨by decide +kernel, by decide +kernel⟩, List.mem_of_getElem? (i := 869) (by decide +kernel), List.mem_of_getElem? (i := 1162) (by decide +kernel), List.mem_of_getElem? (i := 1163) (by decide +kernel)⟩
theorem lw_p54 : lw_okq (⟨"BakedBeforeModel", "takesAt", "(II)I"⟩, 31) := ⟨⟨by decide +kernel, by decide +kernel⟩, List.mem_of_getElem? (i := 869) (by decide +kernel), List.mem_of_getElem? (i := 1173) (by decide +kernel), List.mem_of_getElem? (i := 1174) (by decide +kernel)⟩
theorem lw_p55 : lw_okq (⟨"BakedBeforeModel", "allTakes", "(I)I"⟩, 31) := ⟨⟨by decide +kernel, by decide +kernel⟩, List.mem_of_getElem? (i := 869) (by decide +kernel), List.mem_of_getElem? (i := 1177) (by decide +kernel), List.mem_of_getElem? (i := 1178) (by decide +kernel)⟩
theorem lw_p56 : lw_okq (⟨"BakedBeforeModel", "isSpoiledBehind", "(II)Z"⟩, 31) := ⟨⟨by decide +kernel, by decide +kernel⟩, List.mem_of_getElem? (i := 869) (by decide +kernel), List.mem_of_getElem? (i := 1185) (by decide +kernel), List.mem_of_getElem? (i := 1186) (by decide +kernel)⟩
theorem lw_p57 : lw_okq (⟨"BakedBeforeModel", "spoiledIn", "(I)I"⟩, 31) := ⟨⟨by decide +kernel, by decide +kernel⟩, List.mem_of_getElem? (i := 869) (by decide +kernel), List.mem_of_getElem? (i := 1193) (by decide +kernel), List.mem_of_getElem? (i := 1194) (by decide +kernel)⟩
theorem lw_p58 : lw_okq (⟨"BakedBeforeModel", "takesBehind", "(II)I"⟩, 31) := ⟨⟨by decide +kernel, by decide +kernel⟩, List.mem_of_getElem? (i := 869) (by decide +kernel), List.mem_of_getElem? (i := 1202) (by decide +kernel), List.mem_of_getElem? (i := 1203) (by decide +kernel)⟩
theorem lw_p59 : lw_okq (⟨"BakedBeforeModel", "takesInRow", "(II)I"⟩, 31) := ⟨⟨by decide +kernel, by decide +kernel⟩, List.mem_of_getElem? (i := 869) (by decide +kernel), List.mem_of_getElem? (i := 1210) (by decide +kernel), List.mem_of_getElem? (i := 1211) (by decide +kernel)⟩
theorem lw_p60 : lw_okq (⟨"BakedBeforeModel", "isBookedSo", "(I)Z"⟩, 31) := ⟨⟨by decide +kernel, by decide +kernel⟩, List.mem_of_getElem? (i := 869) (by decide +kernel), List.mem_of_getElem? (i := 1247) (by decide +kernel), List.mem_of_getElem? (i := 1248) (by decide +kernel)⟩
theorem lw_p61 : lw_okq (⟨"BakedBeforeModel", "rises", "(II)I"⟩, 31) := ⟨⟨by decide +kernel, by decide +kernel⟩, List.mem_of_getElem? (i := 869) (by decide +kernel), List.mem_of_getElem? (i := 1270) (by decide +kernel), List.mem_of_getElem? (i := 1271) (by decide +kernel)⟩
theorem lw_p62 : lw_okq (⟨"BakedBeforeModel", "runs", "(I)V"⟩, 31) := ⟨⟨by decide +kernel, by decide +kernel⟩, List.mem_of_getElem? (i := 869) (by decide +kernel), List.mem_of_getElem? (i := 1274) (by decide +kernel), List.mem_of_getElem? (i := 1275) (by decide +kernel)⟩
theorem lw_p63 : lw_okq (⟨"BakedBeforeModel", "bakesFrom", "(II)I"⟩, 31) := ⟨⟨by decide +kernel, by decide +kernel⟩, List.mem_of_getElem? (i := 869) (by decide +kernel), List.mem_of_getElem? (i := 1278) (by decide +kernel), List.mem_of_getElem? (i := 1279) (by decide +kernel)⟩
def lw_privs_4 : List (MethodName × Nat) := [(⟨"BakedBeforeModel", "begins", "()V"⟩, 31), (⟨"BakedBeforeModel", "ends", "()V"⟩, 31), (⟨"BakedBeforeModel", "areLoaves", "(I)Z"⟩, 31), (⟨"BakedBeforeModel", "orders", "(III)V"⟩, 31), (⟨"BakedBeforeModel", "spoiledBy", "(I)I"⟩, 31), (⟨"BakedBeforeModel", "isWellBy", "(III)Z"⟩, 31), (⟨"BakedBeforeModel", "takesAt", "(II)I"⟩, 31), (⟨"BakedBeforeModel", "allTakes", "(I)I"⟩, 31), (⟨"BakedBeforeModel", "isSpoiledBehind", "(II)Z"⟩, 31), (⟨"BakedBeforeModel", "spoiledIn", "(I)I"⟩, 31), (⟨"BakedBeforeModel", "takesBehind", "(II)I"⟩, 31), (⟨"BakedBeforeModel", "takesInRow", "(II)I"⟩, 31), (⟨"BakedBeforeModel", "isBookedSo", "(I)Z"⟩, 31), (⟨"BakedBeforeModel", "rises", "(II)I"⟩, 31), (⟨"BakedBeforeModel", "runs", "(I)V"⟩, 31), (⟨"BakedBeforeModel", "bakesFrom", "(II)I"⟩, 31)]
theorem lw_r4 : ∀ q ∈ lw_privs_4, lw_okq q := List.forall_mem_cons.mpr ⟨lw_p48, List.forall_mem_cons.mpr ⟨lw_p49, List.forall_mem_cons.mpr ⟨lw_p50, List.forall_mem_cons.mpr ⟨lw_p51, List.forall_mem_cons.mpr ⟨lw_p52, List.forall_mem_cons.mpr ⟨lw_p53, List.forall_mem_cons.mpr ⟨lw_p54, List.forall_mem_cons.mpr ⟨lw_p55, List.forall_mem_cons.mpr ⟨lw_p56, List.forall_mem_cons.mpr ⟨lw_p57, List.forall_mem_cons.mpr ⟨lw_p58, List.forall_mem_cons.mpr ⟨lw_p59, List.forall_mem_cons.mpr ⟨lw_p60, List.forall_mem_cons.mpr ⟨lw_p61, List.forall_mem_cons.mpr ⟨lw_p62, List.forall_mem_cons.mpr ⟨lw_p63, fun _ h => absurd h List.not_mem_nil⟩⟩⟩⟩⟩⟩⟩⟩⟩⟩⟩⟩⟩⟩⟩⟩
theorem lw_p64 : lw_okq (⟨"BakedBeforeModel", "tells", "(II)I"⟩, 31) := ⟨⟨by decide +kernel, by decide +kernel⟩, List.mem_of_getElem? (i := 869) (by decide +kernel), List.mem_of_getElem? (i := 1282) (by decide +kernel), List.mem_of_getElem? (i := 1283) (by decide +kernel)⟩
def lw_privs_5 : List (MethodName × Nat) := [(⟨"BakedBeforeModel", "tells", "(II)I"⟩, 31)]
theorem lw_r5 : ∀ q ∈ lw_privs_5, lw_okq q := List.forall_mem_cons.mpr ⟨lw_p64, fun _ h => absurd h List.not_mem_nil⟩
def lw_privs : List (MethodName × Nat) := lw_privs_1 ++ (lw_privs_2 ++ (lw_privs_3 ++ (lw_privs_4 ++ (lw_privs_5))))
def lw_tbl : List Cond := k2_sels lw_privs ++ tables_1
theorem lw_privs_ok : ∀ q ∈ lw_privs, lw_okq q := by
  show ∀ q ∈ lw_privs_1 ++ (lw_privs_2 ++ (lw_privs_3 ++ (lw_privs_4 ++ (lw_privs_5)))), lw_okq q
  exact List.forall_mem_append.mpr ⟨lw_r1, List.forall_mem_append.mpr ⟨lw_r2, List.forall_mem_append.mpr ⟨lw_r3, List.forall_mem_append.mpr ⟨lw_r4, lw_r5⟩⟩⟩⟩
end
section
/-! names: classes, tables of their fields; the words that stay good in every call -/
def R_BB : String := "BakedBefore"
def F_BB : u_T := fun k => match k with
  | 0 => ("BakedBefore", "now", "LBakedBefore$Stand;", true)
  | 1 => ("BakedBefore", "kept", "LBakedBefore$Stand;", true)
  | 2 => ("BakedBefore", "reade\x72", "LBakedBefore$Reader;", true)
  | 3 => ("BakedBefore", "kilns", "[LBakedBefore$Kiln;", true)
  | 4 => ("BakedBefore", "blank", "LBakedBefore$Kiln;", true)
  | 5 => ("BakedBefore", "bake\x72", "LBakedBefore$Baker;", true)
  | 6 => ("BakedBefore", "aske\x72", "LBakedBefore$Asker;", true)
  | 7 => ("BakedBefore", "search", "LBakedBefore$Search;", true)
  | 8 => ("BakedBefore", "acts", "LBakedBefore$Acts;", true)
  | 9 => ("BakedBefore", "tapes", "LBakedBefore$Tapes;", true)
  | 10 => ("BakedBefore", "kilnCount", "I", false)
  | _ => ("BakedBefore", "imaged", "Z", false)
def t_BB : Nat → FieldType := fun k => match k with
  | 0 => (.object "BakedBefore$Stand")
  | 1 => (.object "BakedBefore$Stand")
  | 2 => (.object "BakedBefore$Reade\x72")
  | 3 => (.array (.object "BakedBefore$Kiln"))
  | 4 => (.object "BakedBefore$Kiln")
  | 5 => (.object "BakedBefore$Bake\x72")
  | 6 => (.object "BakedBefore$Aske\x72")
  | 7 => (.object "BakedBefore$Search")
  | 8 => (.object "BakedBefore$Acts")
  | 9 => (.object "BakedBefore$Tapes")
  | 10 => .int
  | _ => .boolean
def R_Acts : String := "BakedBefore$Acts"
def F_Acts : u_T := fun k => match k with
  | 0 => ("BakedBefore$Acts", "bodies", "[I", true)
  | _ => ("BakedBefore$Acts", "ran", "I", false)
def t_Acts : Nat → FieldType := fun k => match k with
  | 0 => (.array .int)
  | _ => .int
def R_Asker : String := "BakedBefore$Aske\x72"
def F_Asker : u_T := fun k => match k with
  | 0 => ("BakedBefore$Aske\x72", "now", "LBakedBefore$Stand;", true)
  | 1 => ("BakedBefore$Aske\x72", "bake\x72", "LBakedBefore$Baker;", true)
  | 2 => ("BakedBefore$Aske\x72", "trial", "LBakedBefore$Oven;", true)
  | _ => ("BakedBefore$Aske\x72", "spoiledOf", "[I", true)
def t_Asker : Nat → FieldType := fun k => match k with
  | 0 => (.object "BakedBefore$Stand")
  | 1 => (.object "BakedBefore$Bake\x72")
  | 2 => (.object "BakedBefore$Oven")
  | _ => (.array .int)
def R_Baker : String := "BakedBefore$Bake\x72"
def F_Baker : u_T := fun k => match k with
  | _ => ("BakedBefore$Bake\x72", "kiln", "LBakedBefore$Kiln;", false)
def t_Baker : Nat → FieldType := fun k => match k with
  | _ => (.object "BakedBefore$Kiln")
def R_Book : String := "BakedBefore$Book"
def F_Book : u_T := fun k => match k with
  | 0 => ("BakedBefore$Book", "loaves", "[I", true)
  | 1 => ("BakedBefore$Book", "spoiled", "[Z", true)
  | _ => ("BakedBefore$Book", "rows", "I", false)
def t_Book : Nat → FieldType := fun k => match k with
  | 0 => (.array .int)
  | 1 => (.array .boolean)
  | _ => .int
def R_Kiln : String := "BakedBefore$Kiln"
def F_Kiln : u_T := fun k => match k with
  | 0 => ("BakedBefore$Kiln", "words", "[I", true)
  | 1 => ("BakedBefore$Kiln", "numbers", "[I", true)
  | 2 => ("BakedBefore$Kiln", "ends", "[I", true)
  | 3 => ("BakedBefore$Kiln", "steps", "[I", true)
  | 4 => ("BakedBefore$Kiln", "letters", "[I", true)
  | 5 => ("BakedBefore$Kiln", "clauses", "I", false)
  | 6 => ("BakedBefore$Kiln", "stepCount", "I", false)
  | 7 => ("BakedBefore$Kiln", "takeClauses", "I", false)
  | _ => ("BakedBefore$Kiln", "coldPart", "I", false)
def t_Kiln : Nat → FieldType := fun k => match k with
  | 0 => (.array .int)
  | 1 => (.array .int)
  | 2 => (.array .int)
  | 3 => (.array .int)
  | 4 => (.array .int)
  | 5 => .int
  | 6 => .int
  | 7 => .int
  | _ => .int
def R_Loaf : String := "BakedBefore$Loaf"
def F_Loaf : u_T := fun k => match k with
  | 0 => ("BakedBefore$Loaf", "numbe\x72", "I", true)
  | 1 => ("BakedBefore$Loaf", "gives", "[I", true)
  | 2 => ("BakedBefore$Loaf", "bears", "[I", true)
  | 3 => ("BakedBefore$Loaf", "kind", "I", false)
  | _ => ("BakedBefore$Loaf", "v", "I", false)
def t_Loaf : Nat → FieldType := fun k => match k with
  | 0 => .int
  | 1 => (.array .int)
  | 2 => (.array .int)
  | 3 => .int
  | _ => .int
def R_Oven : String := "BakedBefore$Oven"
def F_Oven : u_T := fun k => match k with
  | 0 => ("BakedBefore$Oven", "held", "[I", true)
  | _ => ("BakedBefore$Oven", "hou\x72", "I", false)
def t_Oven : Nat → FieldType := fun k => match k with
  | 0 => (.array .int)
  | _ => .int
def R_Reader : String := "BakedBefore$Reade\x72"
def F_Reader : u_T := fun k => match k with
  | 0 => ("BakedBefore$Reade\x72", "text", "[I", true)
  | 1 => ("BakedBefore$Reade\x72", "length", "I", false)
  | 2 => ("BakedBefore$Reade\x72", "at", "I", false)
  | 3 => ("BakedBefore$Reade\x72", "numbe\x72", "I", false)
  | _ => ("BakedBefore$Reade\x72", "kiln", "LBakedBefore$Kiln;", false)
def t_Reader : Nat → FieldType := fun k => match k with
  | 0 => (.array .int)
  | 1 => .int
  | 2 => .int
  | 3 => .int
  | _ => (.object "BakedBefore$Kiln")
def R_Search : String := "BakedBefore$Search"
def F_Search : u_T := fun k => match k with
  | 0 => ("BakedBefore$Search", "now", "LBakedBefore$Stand;", true)
  | 1 => ("BakedBefore$Search", "bake\x72", "LBakedBefore$Baker;", true)
  | 2 => ("BakedBefore$Search", "ovens", "[LBakedBefore$Oven;", true)
  | 3 => ("BakedBefore$Search", "row", "[I", true)
  | 4 => ("BakedBefore$Search", "best", "[I", true)
  | 5 => ("BakedBefore$Search", "length", "I", false)
  | _ => ("BakedBefore$Search", "fewest", "I", false)
def t_Search : Nat → FieldType := fun k => match k with
  | 0 => (.object "BakedBefore$Stand")
  | 1 => (.object "BakedBefore$Bake\x72")
  | 2 => (.array (.object "BakedBefore$Oven"))
  | 3 => (.array .int)
  | 4 => (.array .int)
  | 5 => .int
  | _ => .int
def R_Stand : String := "BakedBefore$Stand"
def F_Stand : u_T := fun k => match k with
  | 0 => ("BakedBefore$Stand", "loaves", "[LBakedBefore$Loaf;", true)
  | 1 => ("BakedBefore$Stand", "oven", "LBakedBefore$Oven;", true)
  | 2 => ("BakedBefore$Stand", "book", "LBakedBefore$Book;", true)
  | 3 => ("BakedBefore$Stand", "many", "I", false)
  | _ => ("BakedBefore$Stand", "holding", "I", false)
def t_Stand : Nat → FieldType := fun k => match k with
  | 0 => (.array (.object "BakedBefore$Loaf"))
  | 1 => (.object "BakedBefore$Oven")
  | 2 => (.object "BakedBefore$Book")
  | 3 => .int
  | _ => .int
def R_Tapes : String := "BakedBefore$Tapes"
def F_Tapes : u_T := fun k => match k with
  | 0 => ("BakedBefore$Tapes", "rows", "[[J", true)
  | 1 => ("BakedBefore$Tapes", "sorts", "[I", true)
  | _ => ("BakedBefore$Tapes", "lengths", "[I", true)
def t_Tapes : Nat → FieldType := fun k => match k with
  | 0 => (.array (.array .long))
  | 1 => (.array .int)
  | _ => (.array .int)
def R_Model : String := "BakedBeforeModel"
def F_Model : u_T := fun k => match k with
  | 0 => ("BakedBeforeModel", "s", "[I", true)
  | 1 => ("BakedBeforeModel", "image", "[I", true)
  | 2 => ("BakedBeforeModel", "mind", "[I", true)
  | 3 => ("BakedBeforeModel", "hasImage", "Z", false)
  | 4 => ("BakedBeforeModel", "text", "[I", true)
  | 5 => ("BakedBeforeModel", "kilnText", "[I", true)
  | 6 => ("BakedBeforeModel", "kilnLong", "[I", true)
  | 7 => ("BakedBeforeModel", "texted", "I", false)
  | 8 => ("BakedBeforeModel", "kilns", "I", false)
  | 9 => ("BakedBeforeModel", "base", "I", false)
  | 10 => ("BakedBeforeModel", "end", "I", false)
  | 11 => ("BakedBeforeModel", "at", "I", false)
  | 12 => ("BakedBeforeModel", "loaf", "I", false)
  | 13 => ("BakedBeforeModel", "taste", "I", false)
  | 14 => ("BakedBeforeModel", "wrong", "Z", false)
  | 15 => ("BakedBeforeModel", "isFee", "Z", false)
  | 16 => ("BakedBeforeModel", "part", "I", false)
  | 17 => ("BakedBeforeModel", "parts", "I", false)
  | 18 => ("BakedBeforeModel", "more", "I", false)
  | 19 => ("BakedBeforeModel", "cold", "I", false)
  | 20 => ("BakedBeforeModel", "fee", "I", false)
  | 21 => ("BakedBeforeModel", "held", "[I", true)
  | 22 => ("BakedBeforeModel", "line", "[I", true)
  | 23 => ("BakedBeforeModel", "best", "[I", true)
  | 24 => ("BakedBeforeModel", "fewest", "I", false)
  | 25 => ("BakedBeforeModel", "tapeSort", "[I", true)
  | 26 => ("BakedBeforeModel", "tapeLong", "[I", true)
  | 27 => ("BakedBeforeModel", "item", "[J", true)
  | 28 => ("BakedBeforeModel", "trace", "[I", true)
  | 29 => ("BakedBeforeModel", "ran", "I", false)
  | _ => ("BakedBeforeModel", "own", "I", false)
def t_Model : Nat → FieldType := fun k => match k with
  | 0 => (.array .int)
  | 1 => (.array .int)
  | 2 => (.array .int)
  | 3 => .boolean
  | 4 => (.array .int)
  | 5 => (.array .int)
  | 6 => (.array .int)
  | 7 => .int
  | 8 => .int
  | 9 => .int
  | 10 => .int
  | 11 => .int
  | 12 => .int
  | 13 => .int
  | 14 => .boolean
  | 15 => .boolean
  | 16 => .int
  | 17 => .int
  | 18 => .int
  | 19 => .int
  | 20 => .int
  | 21 => (.array .int)
  | 22 => (.array .int)
  | 23 => (.array .int)
  | 24 => .int
  | 25 => (.array .int)
  | 26 => (.array .int)
  | 27 => (.array .long)
  | 28 => (.array .int)
  | 29 => .int
  | _ => .int
abbrev zcl : List vw_C := [(R_BB, F_BB, 12), (R_Acts, F_Acts, 2), (R_Asker, F_Asker, 4), (R_Baker, F_Baker, 1), (R_Book, F_Book, 3), (R_Kiln, F_Kiln, 9), (R_Loaf, F_Loaf, 5), (R_Oven, F_Oven, 2), (R_Reader, F_Reader, 5), (R_Search, F_Search, 7), (R_Stand, F_Stand, 5), (R_Tapes, F_Tapes, 3), (R_Model, F_Model, 31)]
def zW0 : List Cond := lw_tbl.filter goodWord
theorem n_BB : ∀ a, a < 12 → ∀ b, b < 12 → a ≠ b → (F_BB a).2.1 ≠ (F_BB b).2.1 := by decide +kernel
theorem t_BB_ok : ∀ k, k < 12 → parseFieldDescriptor (F_BB k).2.2.1 = some (t_BB k) := by decide +kernel
theorem i_BB : ∀ w ∈ u_ws R_BB F_BB 12, w ∈ zW0 := by decide +kernel
theorem n_Acts : ∀ a, a < 2 → ∀ b, b < 2 → a ≠ b → (F_Acts a).2.1 ≠ (F_Acts b).2.1 := by decide +kernel
theorem t_Acts_ok : ∀ k, k < 2 → parseFieldDescriptor (F_Acts k).2.2.1 = some (t_Acts k) := by decide +kernel
theorem i_Acts : ∀ w ∈ u_ws R_Acts F_Acts 2, w ∈ zW0 := by decide +kernel
theorem n_Asker : ∀ a, a < 4 → ∀ b, b < 4 → a ≠ b → (F_Asker a).2.1 ≠ (F_Asker b).2.1 := by decide +kernel
theorem t_Asker_ok : ∀ k, k < 4 → parseFieldDescriptor (F_Asker k).2.2.1 = some (t_Asker k) := by decide +kernel
theorem i_Asker : ∀ w ∈ u_ws R_Asker F_Asker 4, w ∈ zW0 := by decide +kernel
theorem n_Baker : ∀ a, a < 1 → ∀ b, b < 1 → a ≠ b → (F_Baker a).2.1 ≠ (F_Baker b).2.1 := by decide +kernel
theorem t_Baker_ok : ∀ k, k < 1 → parseFieldDescriptor (F_Baker k).2.2.1 = some (t_Baker k) := by decide +kernel
theorem i_Baker : ∀ w ∈ u_ws R_Baker F_Baker 1, w ∈ zW0 := by decide +kernel
theorem n_Book : ∀ a, a < 3 → ∀ b, b < 3 → a ≠ b → (F_Book a).2.1 ≠ (F_Book b).2.1 := by decide +kernel
theorem t_Book_ok : ∀ k, k < 3 → parseFieldDescriptor (F_Book k).2.2.1 = some (t_Book k) := by decide +kernel
theorem i_Book : ∀ w ∈ u_ws R_Book F_Book 3, w ∈ zW0 := by decide +kernel
theorem n_Kiln : ∀ a, a < 9 → ∀ b, b < 9 → a ≠ b → (F_Kiln a).2.1 ≠ (F_Kiln b).2.1 := by decide +kernel
theorem t_Kiln_ok : ∀ k, k < 9 → parseFieldDescriptor (F_Kiln k).2.2.1 = some (t_Kiln k) := by decide +kernel
theorem i_Kiln : ∀ w ∈ u_ws R_Kiln F_Kiln 9, w ∈ zW0 := by decide +kernel
theorem n_Loaf : ∀ a, a < 5 → ∀ b, b < 5 → a ≠ b → (F_Loaf a).2.1 ≠ (F_Loaf b).2.1 := by decide +kernel
theorem t_Loaf_ok : ∀ k, k < 5 → parseFieldDescriptor (F_Loaf k).2.2.1 = some (t_Loaf k) := by decide +kernel
theorem i_Loaf : ∀ w ∈ u_ws R_Loaf F_Loaf 5, w ∈ zW0 := by decide +kernel
theorem n_Oven : ∀ a, a < 2 → ∀ b, b < 2 → a ≠ b → (F_Oven a).2.1 ≠ (F_Oven b).2.1 := by decide +kernel
theorem t_Oven_ok : ∀ k, k < 2 → parseFieldDescriptor (F_Oven k).2.2.1 = some (t_Oven k) := by decide +kernel
theorem i_Oven : ∀ w ∈ u_ws R_Oven F_Oven 2, w ∈ zW0 := by decide +kernel
theorem n_Reader : ∀ a, a < 5 → ∀ b, b < 5 → a ≠ b → (F_Reader a).2.1 ≠ (F_Reader b).2.1 := by decide +kernel
theorem t_Reader_ok : ∀ k, k < 5 → parseFieldDescriptor (F_Reader k).2.2.1 = some (t_Reader k) := by decide +kernel
theorem i_Reader : ∀ w ∈ u_ws R_Reader F_Reader 5, w ∈ zW0 := by decide +kernel
theorem n_Search : ∀ a, a < 7 → ∀ b, b < 7 → a ≠ b → (F_Search a).2.1 ≠ (F_Search b).2.1 := by decide +kernel
theorem t_Search_ok : ∀ k, k < 7 → parseFieldDescriptor (F_Search k).2.2.1 = some (t_Search k) := by decide +kernel
theorem i_Search : ∀ w ∈ u_ws R_Search F_Search 7, w ∈ zW0 := by decide +kernel
theorem n_Stand : ∀ a, a < 5 → ∀ b, b < 5 → a ≠ b → (F_Stand a).2.1 ≠ (F_Stand b).2.1 := by decide +kernel
theorem t_Stand_ok : ∀ k, k < 5 → parseFieldDescriptor (F_Stand k).2.2.1 = some (t_Stand k) := by decide +kernel
theorem i_Stand : ∀ w ∈ u_ws R_Stand F_Stand 5, w ∈ zW0 := by decide +kernel
theorem n_Tapes : ∀ a, a < 3 → ∀ b, b < 3 → a ≠ b → (F_Tapes a).2.1 ≠ (F_Tapes b).2.1 := by decide +kernel
theorem t_Tapes_ok : ∀ k, k < 3 → parseFieldDescriptor (F_Tapes k).2.2.1 = some (t_Tapes k) := by decide +kernel
theorem i_Tapes : ∀ w ∈ u_ws R_Tapes F_Tapes 3, w ∈ zW0 := by decide +kernel
theorem n_Model : ∀ a, a < 31 → ∀ b, b < 31 → a ≠ b → (F_Model a).2.1 ≠ (F_Model b).2.1 := by decide +kernel
theorem t_Model_ok : ∀ k, k < 31 → parseFieldDescriptor (F_Model k).2.2.1 = some (t_Model k) := by decide +kernel
theorem i_Model : ∀ w ∈ u_ws R_Model F_Model 31, w ∈ zW0 := by decide +kernel
end
section
/-! THE MEMORY: ints, longs, references by the number of a cell and a place in it; the cells' kinds; the world of a memory -/
abbrev ZM : Type := (Nat → Nat → Int32) × (Nat → Nat → Int64) × (Nat → Nat → Nat)
def zI (σ : ZM) (o k : Nat) : Int32 := σ.1 o k
def zL (σ : ZM) (o k : Nat) : Int64 := σ.2.1 o k
def zP (σ : ZM) (o k : Nat) : Nat := σ.2.2 o k
def zsI (σ : ZM) (o k : Nat) (v : Int32) : ZM := (fun a => if a = o then upd (σ.1 a) k v else σ.1 a, σ.2.1, σ.2.2)
def zsL (σ : ZM) (o k : Nat) (v : Int64) : ZM := (σ.1, fun a => if a = o then vp_updL (σ.2.1 a) k v else σ.2.1 a, σ.2.2)
def zsP (σ : ZM) (o k : Nat) (v : Nat) : ZM := (σ.1, σ.2.1, fun a => if a = o then va_up (σ.2.2 a) k v else σ.2.2 a)
def zcpL (σ : ZM) (o o2 sp dp n : Nat) : ZM := (σ.1, fun a => if a = o2 then va_cpy (σ.2.1 o) (σ.2.1 a) sp dp n else σ.2.1 a, σ.2.2)
abbrev ZT : Type := va_G × (Nat → ClassId) × (Nat → Nat) × (Nat → Nat)
abbrev zD (θ : ZT) : va_G := θ.1
abbrev zA (θ : ZT) : Nat → ClassId := θ.2.1
abbrev za (θ : ZT) : Nat → Nat := θ.2.2.1
abbrev zf (θ : ZT) : Nat → Nat := θ.2.2.2
/-- kinds of cells: 0 ints, 1 booleans, 2 longs; 3 loaves, 4 ovens, 5 kilns, 6 rows of longs; 10 and on the classes -/
def ztab : List (Nat × Nat) := [(10, 0), (20, 0), (20, 0), (18, 0), (0, 100), (13, 0), (12, 0), (19, 0), (11, 0), (0, 20), (21, 0), (6, 6), (0, 6), (0, 6), (2, 60), (2, 60), (2, 60), (2, 60), (2, 60), (2, 60), (5, 6), (0, 64), (0, 5), (0, 5), (4, 6), (3, 6), (3, 6), (14, 0), (14, 0), (0, 12), (0, 12), (1, 12), (1, 12)]
  ++ List.replicate 9 (17, 0) ++ List.replicate 9 (0, 4) ++ List.replicate 12 (16, 0) ++ List.replicate 24 (0, 4) ++ List.replicate 7 (15, 0) ++ List.replicate 7 (0, 10) ++ List.replicate 7 (0, 10) ++ List.replicate 7 (0, 10) ++ List.replicate 7 (0, 100) ++ List.replicate 7 (0, 6)
  ++ [(22, 0), (0, 92), (0, 92), (0, 92), (0, 100), (0, 600), (0, 6), (0, 4), (0, 6), (0, 6), (0, 6), (0, 6), (2, 360), (0, 20)]
def zkd (o : Nat) : Nat := (ztab.getD o (99, 0)).1
def zln (o : Nat) : Nat := (ztab.getD o (99, 0)).2
/-- the cell o is of kind c -/
def zk (o c : Nat) : Bool := zkd o == c
def zrf (θ : ZT) (k : Nat) : Value := if k = 999 then .null else .ref (za θ k)
/-- the elements of the arrays of references -/
def zel (o j : Nat) : Nat := if o = 11 then 14 + j else if o = 20 then 87 + j else if o = 24 then 36 + j else 51 + 6 * (o - 25) + j
def zobj (θ : ZT) (c o : Nat) (I : Nat → Int32) (P : Nat → Nat) : List Value :=
  match c with
  | 10 => [.ref (za θ 1), .ref (za θ 2), .ref (za θ 3), .ref (za θ 20), .ref (za θ 93), .ref (za θ 5), .ref (za θ 6), .ref (za θ 7), .ref (za θ 8), .ref (za θ 10), .int (I 10), .int (I 11)]
  | 11 => [.ref (za θ 9), .int (I 1)]
  | 12 => [.ref (za θ 1), .ref (za θ 5), .ref (za θ 35), .ref (za θ 21)]
  | 13 => [zrf θ (P 0)]
  | 14 => [.ref (za θ (o + 2)), .ref (za θ (o + 4)), .int (I 2)]
  | 15 => [.ref (za θ (o + 7)), .ref (za θ (o + 14)), .ref (za θ (o + 21)), .ref (za θ (o + 28)), .ref (za θ (o + 35)), .int (I 5), .int (I 6), .int (I 7), .int (I 8)]
  | 16 => [.int (I 0), .ref (za θ (o + 12)), .ref (za θ (o + 24)), .int (I 3), .int (I 4)]
  | 17 => [.ref (za θ (o + 9)), .int (I 1)]
  | 18 => [.ref (za θ 4), .int (I 1), .int (I 2), .int (I 3), zrf θ (P 4)]
  | 19 => [.ref (za θ 1), .ref (za θ 5), .ref (za θ 24), .ref (za θ 22), .ref (za θ 23), .int (I 5), .int (I 6)]
  | 20 => [.ref (za θ (o + 24)), .ref (za θ (o + 32)), .ref (za θ (o + 26)), .int (I 3), .int (I 4)]
  | 21 => [.ref (za θ 11), .ref (za θ 12), .ref (za θ 13)]
  | 22 => [.ref (za θ 130), .ref (za θ 131), .ref (za θ 132), .int (I 3), .ref (za θ 133), .ref (za θ 134), .ref (za θ 135), .int (I 7), .int (I 8), .int (I 9), .int (I 10), .int (I 11), .int (I 12), .int (I 13), .int (I 14), .int (I 15), .int (I 16), .int (I 17), .int (I 18), .int (I 19), .int (I 20), .ref (za θ 136), .ref (za θ 137), .ref (za θ 138), .int (I 24), .ref (za θ 139), .ref (za θ 140), .ref (za θ 141), .ref (za θ 142), .int (I 29), .int (I 30)]
  | _ => []
def zce (θ : ZT) (c n o : Nat) (I : Nat → Int32) (L : Nat → Int64) (P : Nat → Nat) : va_E :=
  match c with
  | 0 => .inl (zA θ 0, n, .inl I)
  | 1 => .inl (zA θ 1, n, .inl I)
  | 2 => .inl (zA θ 2, n, .inr (.inl L))
  | 3 => .inl (zA θ 3, n, .inr (.inr (.inr (.inr (fun j => some (za θ (zel o j)))))))
  | 4 => .inl (zA θ 4, n, .inr (.inr (.inr (.inr (fun j => some (za θ (zel o j)))))))
  | 5 => .inl (zA θ 5, n, .inr (.inr (.inr (.inr (fun j => some (za θ (zel o j)))))))
  | 6 => .inl (zA θ 6, n, .inr (.inr (.inr (.inr (fun j => some (za θ (zel o j)))))))
  | c => .inr (c - 10, zobj θ c o I P)
def zcell (θ : ZT) (σ : ZM) (o : Nat) : va_E := zce θ (zkd o) (zln o) o (σ.1 o) (σ.2.1 o) (σ.2.2 o)
def zwd (lo n : Nat) (θ : ZT) (σ : ZM) : va_W := (List.range n).map (fun j => (za θ (lo + j), zcell θ σ (lo + j)))
def zty (θ : ZT) : List (ClassId × FieldType) := [(zA θ 0, .int), (zA θ 1, .boolean), (zA θ 2, .long), (zA θ 3, .object R_Loaf), (zA θ 4, .object R_Oven), (zA θ 5, .object R_Kiln), (zA θ 6, .array .long)]
def zAA (lo n : Nat) (θ : ZT) : Nat → Prop := fun q => ∃ o, lo ≤ o ∧ o < lo + n ∧ q = za θ o
def zJ (θ : ZT) : Prop := ∀ i j, i < 143 → j < 143 → za θ i = za θ j → i = j
theorem zwd_at {lo n : Nat} {θ : ZT} {σ : ZM} {o : Nat} (h1 : lo ≤ o) (h2 : o < lo + n) : (zwd lo n θ σ)[o - lo]? = some (za θ o, zcell θ σ o) := by
  have h3 : o - lo < n := by omega
  have h4 : lo + (o - lo) = o := by omega
  simp [zwd, h3, h4]
theorem zwd_len {lo n : Nat} {θ : ZT} {σ : ZM} : (zwd lo n θ σ).length = n := by simp [zwd]
theorem zwd_D {lo n : Nat} {θ : ZT} {σ : ZM} (hJ : zJ θ) (hn : lo + n ≤ 143) : va_D (zAA lo n θ) (zwd lo n θ σ) := by
  refine ⟨fun i j x y hi hj hxy => ?_, fun k q hk => ?_⟩
  · have li : i < n := by have := (List.getElem?_eq_some_iff.mp hi).1; rwa [zwd_len] at this
    have lj : j < n := by have := (List.getElem?_eq_some_iff.mp hj).1; rwa [zwd_len] at this
    simp [zwd, li] at hi
    simp [zwd, lj] at hj
    subst hi; subst hj
    have := hJ (lo + i) (lo + j) (by omega) (by omega) hxy
    omega
  · have lk : k < n := by have := (List.getElem?_eq_some_iff.mp hk).1; rwa [zwd_len] at this
    simp [zwd, lk] at hk
    subst hk
    exact ⟨lo + k, by omega, by omega, rfl⟩
theorem zwd_set {lo n : Nat} {θ : ZT} {σ σ' : ZM} {o : Nat} {e : va_E} (h1 : lo ≤ o) (h2 : o < lo + n) (he : zcell θ σ' o = e) (hne : ∀ a, a ≠ o → zcell θ σ' a = zcell θ σ a) : (zwd lo n θ σ).set (o - lo) (za θ o, e) = zwd lo n θ σ' := by
  apply List.ext_getElem?
  intro k
  by_cases hk : k = o - lo
  · subst hk
    rw [List.getElem?_set_self (by rw [zwd_len]; omega), zwd_at h1 h2, he]
  · rw [List.getElem?_set_ne (Ne.symm hk)]
    by_cases hl : k < n
    · have e1 := hne (lo + k) (by omega)
      simp [zwd, hl, e1]
    · rw [List.getElem?_eq_none (by rw [zwd_len]; omega), List.getElem?_eq_none (by rw [zwd_len]; omega)]
theorem zsI_self (σ : ZM) (o k : Nat) (v : Int32) : (zsI σ o k v).1 o = upd (σ.1 o) k v := if_pos rfl
theorem zsI_ne (σ : ZM) {o a : Nat} (k : Nat) (v : Int32) (h : a ≠ o) : (zsI σ o k v).1 a = σ.1 a := if_neg h
theorem zcell_sI {θ : ZT} {σ : ZM} {o k : Nat} {v : Int32} : ∀ a, a ≠ o → zcell θ (zsI σ o k v) a = zcell θ σ a := by
  intro a h
  show zce θ (zkd a) (zln a) a ((zsI σ o k v).1 a) _ _ = _
  rw [zsI_ne σ k v h]; rfl
theorem zcell_sL {θ : ZT} {σ : ZM} {o k : Nat} {v : Int64} : ∀ a, a ≠ o → zcell θ (zsL σ o k v) a = zcell θ σ a := by
  intro a h
  show zce θ (zkd a) (zln a) a _ (if a = o then vp_updL (σ.2.1 a) k v else σ.2.1 a) _ = _
  rw [if_neg h]; rfl
theorem zcell_sP {θ : ZT} {σ : ZM} {o k v : Nat} : ∀ a, a ≠ o → zcell θ (zsP σ o k v) a = zcell θ σ a := by
  intro a h
  show zce θ (zkd a) (zln a) a _ _ (if a = o then va_up (σ.2.2 a) k v else σ.2.2 a) = _
  rw [if_neg h]; rfl
theorem zcell_cpL {θ : ZT} {σ : ZM} {o o2 sp dp n : Nat} : ∀ a, a ≠ o2 → zcell θ (zcpL σ o o2 sp dp n) a = zcell θ σ a := by
  intro a h
  show zce θ (zkd a) (zln a) a _ (if a = o2 then va_cpy (σ.2.1 o) (σ.2.1 a) sp dp n else σ.2.1 a) _ = _
  rw [if_neg h]; rfl
theorem zk_eq {o c : Nat} (h : zk o c = true) : zkd o = c := by simpa [zk] using h
theorem zk_lt {o c : Nat} (h : zk o c = true) (hc : c ≠ 99) : o < 143 := by
  have h1 := zk_eq h
  by_cases ho : o < 143
  · exact ho
  · exfalso
    have hl : ztab.length = 143 := by decide +kernel
    have : zkd o = 99 := by simp [zkd, List.getElem?_eq_none (show ztab.length ≤ o by omega)]
    exact hc (h1.symm.trans this)
end
section
/-! THE RULES: facts that never change, the world, the judgement WZ, a rule an instruction -/
def zabove (j : Nat) : Int32 := ([-1, 0, 0, 0, 1, 2, 3] : List Int32).getD j 0
def zbodies (j : Nat) : Int32 := ([10, 11, 12, 0, 20, 0, 30, 0, 0, 0, 0, 40, 50, 51, 0, 0, 0, 60, 71, 70, 0] : List Int32).getD j 0
def zslen : List Nat := [4, 4, 4, 3, 5, 5, 5, 4]
def zsbyt : List (List Int32) := [[116, 97, 107, 101], [109, 111, 114, 101], [99, 111, 108, 100], [102, 101, 101], [116, 97, 107, 101, 32], [109, 111, 114, 101, 32], [99, 111, 108, 100, 32], [102, 101, 101, 32]]
def zn_acts : Cond := .fieldLinkNest "BakedBefore$Acts" 36 "BakedBefore" "ABOVE" "[I" "BakedBefore"
def zn_loaf : Cond := .fieldLinkNest "BakedBefore$Loaf" 28 "BakedBefore" "ABOVE" "[I" "BakedBefore"
def zn_flag : Cond := .methodLinkNest "BakedBefore$Aske\x72" 57 ⟨"BakedBefore", "flag", "(Z)I"⟩ "BakedBefore"
/-- what the machine's constants are: static tables, links to nest mates, texts -/
def zFX (A : Nat → Prop) (θ : ZT) (U : State) (H : Heap) : Prop :=
  (va_Z "BakedBefore" "ABOVE" "[I" (.ref (zf θ 0)) A U H ∧ va_T .int (zf θ 0) 7 (fun j => .int (zabove j)) A U H) ∧
  (va_Z "BakedBefore$Acts" "BODIES" "[I" (.ref (zf θ 1)) A U H ∧ va_T .int (zf θ 1) 21 (fun j => .int (zbodies j)) A U H) ∧
  (va_Nw zn_acts U ∧ va_Nw zn_loaf U ∧ va_Nw zn_flag U) ∧
  (vk_R "BakedBefore$Reade\x72" 96 "take" (zf θ 2) U ∧ vk_R "BakedBefore$Reade\x72" 98 "more" (zf θ 3) U ∧ vk_R "BakedBefore$Reade\x72" 100 "cold" (zf θ 4) U ∧ vk_R "BakedBefore$Reade\x72" 102 "fee" (zf θ 5) U ∧
   vk_R "BakedBeforeModel" 139 "take " (zf θ 6) U ∧ vk_R "BakedBeforeModel" 141 "more " (zf θ 7) U ∧ vk_R "BakedBeforeModel" 143 "cold " (zf θ 8) U ∧ vk_R "BakedBeforeModel" 145 "fee " (zf θ 9) U) ∧
  vk_S 8 zslen zsbyt (fun i => zf θ (2 + i)) (fun i => zf θ (10 + i)) A U H ∧
  va_Z "java/lang/String" "COMPACT_STRINGS" "Z" (.int 1) A U H ∧ va_Zq "jdk/internal/util/Preconditions" "SIOOBE_FORMATTER" "Ljava/util/function/BiFunction;" A U H
theorem zFX.kept {A : Nat → Prop} {θ : ZT} {U : State} {H H1 : Heap} (h : zFX A θ U H) (hq : ∀ a : Nat, a < H.size → ¬ A a → H1[a]? = H[a]?) : zFX A θ U H1 := by
  obtain ⟨⟨a1, a2⟩, ⟨b1, b2⟩, c, d, e, f, g⟩ := h
  exact ⟨⟨a1.kept hq, a2.kept hq⟩, ⟨b1.kept hq, b2.kept hq⟩, c, d, e.kept hq, f.kept hq, g.kept hq⟩
theorem zFX.warm {A : Nat → Prop} {θ : ZT} {s U : State} {H : Heap} (hW : s.WarmedH U.vm) (h : zFX A θ s H) : zFX A θ U H := by
  obtain ⟨⟨a1, a2⟩, ⟨b1, b2⟩, ⟨c1, c2, c3⟩, ⟨d1, d2, d3, d4, d5, d6, d7, d8⟩, e, f, g⟩ := h
  have hv := hW.alike
  exact ⟨⟨a1.moved hv, a2.moved hv⟩, ⟨b1.moved hv, b2.moved hv⟩, ⟨va_Nw.warmF hW c1, va_Nw.warmF hW c2, va_Nw.warmM hW c3⟩, ⟨d1.warm hW, d2.warm hW, d3.warm hW, d4.warm hW, d5.warm hW, d6.warm hW, d7.warm hW, d8.warm hW⟩, e.moved hv, f.moved hv, g.moved hv⟩
theorem zFX.calling {A : Nat → Prop} {θ : ZT} {U : State} {H : Heap} (g : JFrame) (mk : MethodId) (a : Array Value) (h : zFX A θ U H) : zFX A θ (U.calling g mk a) H := by
  obtain ⟨⟨a1, a2⟩, ⟨b1, b2⟩, ⟨c1, c2, c3⟩, ⟨d1, d2, d3, d4, d5, d6, d7, d8⟩, e, f, g1⟩ := h
  have hv : U.vm.Alike (U.calling g mk a).vm := Vm.Alike.refl U.vm
  have hu : U.vm = (U.calling g mk a).vm := rfl
  exact ⟨⟨a1.moved hv, a2.moved hv⟩, ⟨b1.moved hv, b2.moved hv⟩, ⟨va_Nw.same rfl hu c1, va_Nw.same rfl hu c2, va_Nw.same rfl hu c3⟩, ⟨d1.same hu.symm, d2.same hu.symm, d3.same hu.symm, d4.same hu.symm, d5.same hu.symm, d6.same hu.symm, d7.same hu.symm, d8.same hu.symm⟩, e.moved hv, f.moved hv, g1.moved hv⟩
/-- the world of a memory, in a state -/
def zWB (lo n : Nat) (θ : ZT) (σ : ZM) (U : State) : Prop := va_P (zD θ) zcl (zwd lo n θ σ) U.heap ∧ va_K (zD θ) zcl (zty θ) U ∧ zJ θ ∧ zFX (zAA lo n θ) θ U U.heap
theorem zWB.blind {lo n : Nat} {θ : ZT} {σ : ZM} {av : List Value} : FrameBlind (va_Pc av (zWB lo n θ σ)) := by
  intro a U g mk h
  obtain ⟨h0, h1, h2, h3, h4⟩ := h
  exact ⟨h0, h1, va_K.moved (u := U) (U := U.calling g mk a) (Vm.Alike.refl U.vm) h2, h3, h4.calling g mk a⟩
/-- what a method answers: its result and the memory behind it -/
def zQ {α : Type} (mk : ZT → α → Option Value) (lo n : Nat) (θ : ZT) (res : α × ZM) : Array Value → State → Outcome → State → Prop := fun _ st oc t =>
  (oc = .returned (mk θ res.1) ∧ zWB lo n θ res.2 t) ∧ va_F (zAA lo n θ) st t
def mkI (_ : ZT) (r : Int32) : Option Value := some (.int r)
def mkL (_ : ZT) (r : Int64) : Option Value := some (.long r)
def mkV (_ : ZT) (_ : Unit) : Option Value := none
def mkS (θ : ZT) (i : Nat) : Option Value := some (.ref (zf θ (2 + i)))
/-- what is fixed in a method's body -/
def zC (p : Program) (s : State) (m : MethodId) (args : Array Value) (meth : Method) (c : Code) (cc : ByteArray) (nL : Nat) (ret : Option FieldType) (own : String) (lo n : Nat) (θ : ZT) : Prop :=
  p.tables.exec = Jvm.exec ∧ c.code = cc ∧ c.maxLocals = nL ∧ s.vm.findClass own = some m.cls ∧ (∀ w ∈ zW0, w.before args s = true) ∧ meth.locks = false ∧ meth.sig.returnType = ret ∧ va_K (zD θ) zcl (zty θ) s ∧ zJ θ ∧ zFX (zAA lo n θ) θ s s.heap ∧ lo + n ≤ 143
def WZ (l : Launch) (cc : ByteArray) (nL : Nat) (ret : Option FieldType) (own : String) (lo n : Nat) (θ : ZT) (R : Room) (Q : Array Value → State → Outcome → State → Prop) (σ : ZM) (lv : List (Nat × Value)) (pc : Nat) (st : List Value) : Prop :=
  ∀ (p : Program) (e : Env) (s : State) (m : MethodId) (args : Array Value) (below : List Frame) (meth : Method) (c : Code) (H : Heap) (locs : List Loc) (ls : Array Slot), zC p s m args meth c cc nL ret own lo n θ → va_P (zD θ) zcl (zwd lo n θ σ) H → va_S (zAA lo n θ) s.heap H locs → lv_has ls nL lv →
    W p l e R s m args below meth c H locs 0 0 (MQ below Q args s 0 0 (zAA lo n θ)) (F0 m pc ls st)
def zck {α : Type} (b : Bool) (k : Option α) : Option α := if b = true then k else none
def zbd {α β : Type} (o : Option (α × ZM)) (k : α → ZM → Option β) : Option β := match o with
  | none => none
  | some r => k r.1 r.2
def zlp {α β : Type} (body : (α → Option β) → α → Option β) : Nat → α → Option β
  | 0, _ => none
  | n + 1, a => body (zlp body n) a
theorem zck_i {α : Type} {b : Bool} {k : Option α} {r : α} (h : zck b k = some r) : b = true ∧ k = some r := by
  unfold zck at h
  split at h
  · exact ⟨‹_›, h⟩
  · cases h
theorem zbd_i {α β : Type} {o : Option (α × ZM)} {k : α → ZM → Option β} {r : β} (h : zbd o k = some r) : ∃ x : α × ZM, o = some x ∧ k x.1 x.2 = some r := by
  cases o with
  | none => cases h
  | some x => exact ⟨x, rfl, h⟩
def zin (i : Int32) (n : Nat) : Bool := decide (0 ≤ i) && decide (i.toNatClampNeg < n)
theorem zin_i {i : Int32} {n : Nat} (h : zin i n = true) : vp_in i n := by
  simp only [zin, Bool.and_eq_true, decide_eq_true_eq] at h
  intro q
  rcases q with q | q
  · exact absurd h.1 (Int32.not_le.mpr q)
  · omega
def zbl (v : Int32) : Bool := v == 0 || v == 1
theorem zbl_i {v : Int32} (h : zbl v = true) : narrow .boolean (.int v) = .int v := by
  simp only [zbl, Bool.or_eq_true, beq_iff_eq] at h
  rcases h with rfl | rfl <;> rfl
section RULES
variable {l : Launch} {cc : ByteArray} {nL : Nat} {ret : Option FieldType} {own : String} {lo n : Nat} {θ : ZT} {R : Room} {Q : Array Value → State → Outcome → State → Prop} {σ : ZM} {lv : List (Nat × Value)} {pc : Nat} {st : List Value}
theorem z_iconst {k : Int} {v : Int32} (d : decode cc pc = .ok (.iconst k, 1)) (hv : Int32.ofInt k = v) (g : WZ l cc nL ret own lo n θ R Q σ lv (pc + 1) (.int v :: st)) : WZ l cc nL ret own lo n θ R Q σ lv pc st :=
  fun _ _ _ _ _ _ _ _ _ _ _ C hP hS hl => lv_iconst C.1 C.2.1 d hv (g _ _ _ _ _ _ _ _ _ _ _ C hP hS hl)
theorem z_bipush {k : Int} {v : Int32} (d : decode cc pc = .ok (.bipush k, 2)) (hv : (Int8.ofInt k).toInt32 = v) (g : WZ l cc nL ret own lo n θ R Q σ lv (pc + 2) (.int v :: st)) : WZ l cc nL ret own lo n θ R Q σ lv pc st :=
  fun _ _ _ _ _ _ _ _ _ _ _ C hP hS hl => lv_bipush C.1 C.2.1 d hv (g _ _ _ _ _ _ _ _ _ _ _ C hP hS hl)
theorem z_sipush {k : Int} {v : Int32} (d : decode cc pc = .ok (.sipush k, 3)) (hv : (Int16.ofInt k).toInt32 = v) (g : WZ l cc nL ret own lo n θ R Q σ lv (pc + 3) (.int v :: st)) : WZ l cc nL ret own lo n θ R Q σ lv pc st :=
  fun _ _ _ _ _ _ _ _ _ _ _ C hP hS hl => lv_sipush C.1 C.2.1 d hv (g _ _ _ _ _ _ _ _ _ _ _ C hP hS hl)
theorem z_lconst {k : Fin 2} {v : Int64} (d : decode cc pc = .ok (.lconst k, 1)) (hv : Int64.ofNat (k : Nat) = v) (g : WZ l cc nL ret own lo n θ R Q σ lv (pc + 1) (.long v :: st)) : WZ l cc nL ret own lo n θ R Q σ lv pc st :=
  fun _ _ _ _ _ _ _ _ _ _ _ C hP hS hl => lv_lconst C.1 C.2.1 d hv (g _ _ _ _ _ _ _ _ _ _ _ C hP hS hl)
theorem z_ldc {k : Nat} {v : Int32} (d : decode cc pc = .ok (.ldc k, 2)) (hw : Cond.constant own k v ∈ zW0) (g : WZ l cc nL ret own lo n θ R Q σ lv (pc + 2) (.int v :: st)) : WZ l cc nL ret own lo n θ R Q σ lv pc st :=
  fun _ _ _ _ _ _ _ _ _ _ _ C hP hS hl => lv_ldc C.1 C.2.1 C.2.2.2.1 (C.2.2.2.2.1 _ hw) d (g _ _ _ _ _ _ _ _ _ _ _ C hP hS hl)
theorem z_ldcw {k : Nat} {v : Int32} (d : decode cc pc = .ok (.ldc_w k, 3)) (hw : Cond.constant own k v ∈ zW0) (g : WZ l cc nL ret own lo n θ R Q σ lv (pc + 3) (.int v :: st)) : WZ l cc nL ret own lo n θ R Q σ lv pc st :=
  fun _ _ _ _ _ _ _ _ _ _ _ C hP hS hl => lv_ldcw C.1 C.2.1 C.2.2.2.1 (C.2.2.2.2.1 _ hw) d (g _ _ _ _ _ _ _ _ _ _ _ C hP hS hl)
theorem z_ldc2 {k : Nat} {v : Int64} (d : decode cc pc = .ok (.ldc2_w k, 3)) (hw : Cond.constantLong own k v ∈ zW0) (g : WZ l cc nL ret own lo n θ R Q σ lv (pc + 3) (.long v :: st)) : WZ l cc nL ret own lo n θ R Q σ lv pc st :=
  fun _ _ _ _ _ _ _ _ _ _ _ C hP hS hl => lv_ldc2 C.1 C.2.1 C.2.2.2.1 (C.2.2.2.2.1 _ hw) d (g _ _ _ _ _ _ _ _ _ _ _ C hP hS hl)
theorem z_iload_n {k : Fin 4} {i : Nat} (j : Nat) {x : Int32} (d : decode cc pc = .ok (.iload_n k, 1)) (hi : (k : Nat) = i) (hj : lv[j]? = some (i, .int x)) (g : WZ l cc nL ret own lo n θ R Q σ lv (pc + 1) (.int x :: st)) : WZ l cc nL ret own lo n θ R Q σ lv pc st :=
  fun _ _ _ _ _ _ _ _ _ _ _ C hP hS hl => lv_iload_n C.1 C.2.1 d hi (lv_at hl j hj) (g _ _ _ _ _ _ _ _ _ _ _ C hP hS hl)
theorem z_iload {i : Nat} (j : Nat) {x : Int32} (d : decode cc pc = .ok (.iload i, 2)) (hj : lv[j]? = some (i, .int x)) (g : WZ l cc nL ret own lo n θ R Q σ lv (pc + 2) (.int x :: st)) : WZ l cc nL ret own lo n θ R Q σ lv pc st :=
  fun _ _ _ _ _ _ _ _ _ _ _ C hP hS hl => lv_iload C.1 C.2.1 d (lv_at hl j hj) (g _ _ _ _ _ _ _ _ _ _ _ C hP hS hl)
theorem z_lload_n {k : Fin 4} {i : Nat} (j : Nat) {x : Int64} (d : decode cc pc = .ok (.lload_n k, 1)) (hi : (k : Nat) = i) (hj : lv[j]? = some (i, .long x)) (g : WZ l cc nL ret own lo n θ R Q σ lv (pc + 1) (.long x :: st)) : WZ l cc nL ret own lo n θ R Q σ lv pc st :=
  fun _ _ _ _ _ _ _ _ _ _ _ C hP hS hl => lv_lload_n C.1 C.2.1 d hi (lv_at hl j hj) (g _ _ _ _ _ _ _ _ _ _ _ C hP hS hl)
theorem z_lload {i : Nat} (j : Nat) {x : Int64} (d : decode cc pc = .ok (.lload i, 2)) (hj : lv[j]? = some (i, .long x)) (g : WZ l cc nL ret own lo n θ R Q σ lv (pc + 2) (.long x :: st)) : WZ l cc nL ret own lo n θ R Q σ lv pc st :=
  fun _ _ _ _ _ _ _ _ _ _ _ C hP hS hl => lv_lload C.1 C.2.1 d (lv_at hl j hj) (g _ _ _ _ _ _ _ _ _ _ _ C hP hS hl)
theorem z_aload_n {k : Fin 4} {i : Nat} (j : Nat) {x : Nat} (d : decode cc pc = .ok (.aload_n k, 1)) (hi : (k : Nat) = i) (hj : lv[j]? = some (i, .ref x)) (g : WZ l cc nL ret own lo n θ R Q σ lv (pc + 1) (.ref x :: st)) : WZ l cc nL ret own lo n θ R Q σ lv pc st :=
  fun _ _ _ _ _ _ _ _ _ _ _ C hP hS hl => lv_aload_n C.1 C.2.1 d hi (lv_at hl j hj) (g _ _ _ _ _ _ _ _ _ _ _ C hP hS hl)
theorem z_aload {i : Nat} (j : Nat) {x : Nat} (d : decode cc pc = .ok (.aload i, 2)) (hj : lv[j]? = some (i, .ref x)) (g : WZ l cc nL ret own lo n θ R Q σ lv (pc + 2) (.ref x :: st)) : WZ l cc nL ret own lo n θ R Q σ lv pc st :=
  fun _ _ _ _ _ _ _ _ _ _ _ C hP hS hl => lv_aload C.1 C.2.1 d (lv_at hl j hj) (g _ _ _ _ _ _ _ _ _ _ _ C hP hS hl)
theorem z_istore_n {k : Fin 4} {i : Nat} {x : Int32} {lv' : List (Nat × Value)} (d : decode cc pc = .ok (.istore_n k, 1)) (hi : (k : Nat) = i) (hn : i < nL) (hl' : (i, Value.int x) :: lv.filter (fun q => !(q.1 == i) && !(q.1 + 1 == i && q.2.category == 2)) = lv') (g : WZ l cc nL ret own lo n θ R Q σ lv' (pc + 1) st) : WZ l cc nL ret own lo n θ R Q σ lv pc (.int x :: st) :=
  fun _ _ _ _ _ _ _ _ _ _ _ C hP hS hl => lv_istore_n C.1 C.2.1 d hi hl hn hl' (fun _ h => g _ _ _ _ _ _ _ _ _ _ _ C hP hS h)
theorem z_istore {i : Nat} {x : Int32} {lv' : List (Nat × Value)} (d : decode cc pc = .ok (.istore i, 2)) (hn : i < nL) (hl' : (i, Value.int x) :: lv.filter (fun q => !(q.1 == i) && !(q.1 + 1 == i && q.2.category == 2)) = lv') (g : WZ l cc nL ret own lo n θ R Q σ lv' (pc + 2) st) : WZ l cc nL ret own lo n θ R Q σ lv pc (.int x :: st) :=
  fun _ _ _ _ _ _ _ _ _ _ _ C hP hS hl => lv_istore C.1 C.2.1 d hl hn hl' (fun _ h => g _ _ _ _ _ _ _ _ _ _ _ C hP hS h)
theorem z_lstore_n {k : Fin 4} {i : Nat} {x : Int64} {lv' : List (Nat × Value)} (d : decode cc pc = .ok (.lstore_n k, 1)) (hi : (k : Nat) = i) (hn : i + 1 < nL) (hl' : (i, Value.long x) :: lv.filter (fun q => !(q.1 == i) && (!(q.1 == i + 1) && !(q.1 + 1 == i && q.2.category == 2))) = lv') (g : WZ l cc nL ret own lo n θ R Q σ lv' (pc + 1) st) : WZ l cc nL ret own lo n θ R Q σ lv pc (.long x :: st) :=
  fun _ _ _ _ _ _ _ _ _ _ _ C hP hS hl => lv_lstore_n C.1 C.2.1 d hi hl hn hl' (fun _ h => g _ _ _ _ _ _ _ _ _ _ _ C hP hS h)
theorem z_lstore {i : Nat} {x : Int64} {lv' : List (Nat × Value)} (d : decode cc pc = .ok (.lstore i, 2)) (hn : i + 1 < nL) (hl' : (i, Value.long x) :: lv.filter (fun q => !(q.1 == i) && (!(q.1 == i + 1) && !(q.1 + 1 == i && q.2.category == 2))) = lv') (g : WZ l cc nL ret own lo n θ R Q σ lv' (pc + 2) st) : WZ l cc nL ret own lo n θ R Q σ lv pc (.long x :: st) :=
  fun _ _ _ _ _ _ _ _ _ _ _ C hP hS hl => lv_lstore C.1 C.2.1 d hl hn hl' (fun _ h => g _ _ _ _ _ _ _ _ _ _ _ C hP hS h)
theorem z_astore_n {k : Fin 4} {i : Nat} {x : Nat} {lv' : List (Nat × Value)} (d : decode cc pc = .ok (.astore_n k, 1)) (hi : (k : Nat) = i) (hn : i < nL) (hl' : (i, Value.ref x) :: lv.filter (fun q => !(q.1 == i) && !(q.1 + 1 == i && q.2.category == 2)) = lv') (g : WZ l cc nL ret own lo n θ R Q σ lv' (pc + 1) st) : WZ l cc nL ret own lo n θ R Q σ lv pc (.ref x :: st) :=
  fun _ _ _ _ _ _ _ _ _ _ _ C hP hS hl => lv_astore_n C.1 C.2.1 d hi hl hn hl' (fun _ h => g _ _ _ _ _ _ _ _ _ _ _ C hP hS h)
theorem z_astore {i : Nat} {x : Nat} {lv' : List (Nat × Value)} (d : decode cc pc = .ok (.astore i, 2)) (hn : i < nL) (hl' : (i, Value.ref x) :: lv.filter (fun q => !(q.1 == i) && !(q.1 + 1 == i && q.2.category == 2)) = lv') (g : WZ l cc nL ret own lo n θ R Q σ lv' (pc + 2) st) : WZ l cc nL ret own lo n θ R Q σ lv pc (.ref x :: st) :=
  fun _ _ _ _ _ _ _ _ _ _ _ C hP hS hl => lv_astore C.1 C.2.1 d hl hn hl' (fun _ h => g _ _ _ _ _ _ _ _ _ _ _ C hP hS h)
theorem z_iinc {i : Nat} (j : Nat) {k : Int} {x v : Int32} {lv' : List (Nat × Value)} (d : decode cc pc = .ok (.iinc i k, 3)) (hj : lv[j]? = some (i, .int x)) (hv : x + Int32.ofInt k = v) (hn : i < nL) (hl' : (i, Value.int v) :: lv.filter (fun q => !(q.1 == i) && !(q.1 + 1 == i && q.2.category == 2)) = lv') (g : WZ l cc nL ret own lo n θ R Q σ lv' (pc + 3) st) : WZ l cc nL ret own lo n θ R Q σ lv pc st :=
  fun _ _ _ _ _ _ _ _ _ _ _ C hP hS hl => lv_iinc C.1 C.2.1 d hl hj hv hn hl' (fun _ h => g _ _ _ _ _ _ _ _ _ _ _ C hP hS h)
theorem z_sub {lv' : List (Nat × Value)} (ks : List Nat) (hl' : lv_pick lv ks = lv') (g : WZ l cc nL ret own lo n θ R Q σ lv' pc st) : WZ l cc nL ret own lo n θ R Q σ lv pc st :=
  fun _ _ _ _ _ _ _ _ _ _ _ C hP hS hl => g _ _ _ _ _ _ _ _ _ _ _ C hP hS (lv_sub hl ks hl')
theorem z_iadd {x y : Int32} (d : decode cc pc = .ok (.iadd, 1)) (g : WZ l cc nL ret own lo n θ R Q σ lv (pc + 1) (.int (x + y) :: st)) : WZ l cc nL ret own lo n θ R Q σ lv pc (.int y :: .int x :: st) :=
  fun _ _ _ _ _ _ _ _ _ _ _ C hP hS hl => lv_iadd C.1 C.2.1 d (g _ _ _ _ _ _ _ _ _ _ _ C hP hS hl)
theorem z_isub {x y : Int32} (d : decode cc pc = .ok (.isub, 1)) (g : WZ l cc nL ret own lo n θ R Q σ lv (pc + 1) (.int (x - y) :: st)) : WZ l cc nL ret own lo n θ R Q σ lv pc (.int y :: .int x :: st) :=
  fun _ _ _ _ _ _ _ _ _ _ _ C hP hS hl => lv_isub C.1 C.2.1 d (g _ _ _ _ _ _ _ _ _ _ _ C hP hS hl)
theorem z_imul {x y : Int32} (d : decode cc pc = .ok (.imul, 1)) (g : WZ l cc nL ret own lo n θ R Q σ lv (pc + 1) (.int (x * y) :: st)) : WZ l cc nL ret own lo n θ R Q σ lv pc (.int y :: .int x :: st) :=
  fun _ _ _ _ _ _ _ _ _ _ _ C hP hS hl => lv_imul C.1 C.2.1 d (g _ _ _ _ _ _ _ _ _ _ _ C hP hS hl)
theorem z_iand {x y : Int32} (d : decode cc pc = .ok (.iand, 1)) (g : WZ l cc nL ret own lo n θ R Q σ lv (pc + 1) (.int (x &&& y) :: st)) : WZ l cc nL ret own lo n θ R Q σ lv pc (.int y :: .int x :: st) :=
  fun _ _ _ _ _ _ _ _ _ _ _ C hP hS hl => lv_iand C.1 C.2.1 d (g _ _ _ _ _ _ _ _ _ _ _ C hP hS hl)
theorem z_ior {x y : Int32} (d : decode cc pc = .ok (.ior, 1)) (g : WZ l cc nL ret own lo n θ R Q σ lv (pc + 1) (.int (x ||| y) :: st)) : WZ l cc nL ret own lo n θ R Q σ lv pc (.int y :: .int x :: st) :=
  fun _ _ _ _ _ _ _ _ _ _ _ C hP hS hl => lv_ior C.1 C.2.1 d (g _ _ _ _ _ _ _ _ _ _ _ C hP hS hl)
theorem z_ixor {x y : Int32} (d : decode cc pc = .ok (.ixor, 1)) (g : WZ l cc nL ret own lo n θ R Q σ lv (pc + 1) (.int (x ^^^ y) :: st)) : WZ l cc nL ret own lo n θ R Q σ lv pc (.int y :: .int x :: st) :=
  fun _ _ _ _ _ _ _ _ _ _ _ C hP hS hl => lv_ixor C.1 C.2.1 d (g _ _ _ _ _ _ _ _ _ _ _ C hP hS hl)
theorem z_ishl {x y : Int32} (d : decode cc pc = .ok (.ishl, 1)) (g : WZ l cc nL ret own lo n θ R Q σ lv (pc + 1) (.int (x <<< (y &&& 31)) :: st)) : WZ l cc nL ret own lo n θ R Q σ lv pc (.int y :: .int x :: st) :=
  fun _ _ _ _ _ _ _ _ _ _ _ C hP hS hl => lv_ishl C.1 C.2.1 d (g _ _ _ _ _ _ _ _ _ _ _ C hP hS hl)
theorem z_ishr {x y : Int32} (d : decode cc pc = .ok (.ishr, 1)) (g : WZ l cc nL ret own lo n θ R Q σ lv (pc + 1) (.int (x >>> (y &&& 31)) :: st)) : WZ l cc nL ret own lo n θ R Q σ lv pc (.int y :: .int x :: st) :=
  fun _ _ _ _ _ _ _ _ _ _ _ C hP hS hl => lv_ishr C.1 C.2.1 d (g _ _ _ _ _ _ _ _ _ _ _ C hP hS hl)
theorem z_idiv {x y : Int32} (d : decode cc pc = .ok (.idiv, 1)) (hne : (y != 0) = true) (g : WZ l cc nL ret own lo n θ R Q σ lv (pc + 1) (.int (x / y) :: st)) : WZ l cc nL ret own lo n θ R Q σ lv pc (.int y :: .int x :: st) :=
  fun _ _ _ _ _ _ _ _ _ _ _ C hP hS hl => lv_idiv C.1 C.2.1 d (by simpa using hne) (g _ _ _ _ _ _ _ _ _ _ _ C hP hS hl)
theorem z_irem {x y : Int32} (d : decode cc pc = .ok (.irem, 1)) (hne : (y != 0) = true) (g : WZ l cc nL ret own lo n θ R Q σ lv (pc + 1) (.int (x - x / y * y) :: st)) : WZ l cc nL ret own lo n θ R Q σ lv pc (.int y :: .int x :: st) :=
  fun _ _ _ _ _ _ _ _ _ _ _ C hP hS hl => lv_irem C.1 C.2.1 d (by simpa using hne) (g _ _ _ _ _ _ _ _ _ _ _ C hP hS hl)
theorem z_ineg {x : Int32} (d : decode cc pc = .ok (.ineg, 1)) (g : WZ l cc nL ret own lo n θ R Q σ lv (pc + 1) (.int (-x) :: st)) : WZ l cc nL ret own lo n θ R Q σ lv pc (.int x :: st) :=
  fun _ _ _ _ _ _ _ _ _ _ _ C hP hS hl => lv_ineg C.1 C.2.1 d (g _ _ _ _ _ _ _ _ _ _ _ C hP hS hl)
theorem z_land {x y : Int64} (d : decode cc pc = .ok (.land, 1)) (g : WZ l cc nL ret own lo n θ R Q σ lv (pc + 1) (.long (x &&& y) :: st)) : WZ l cc nL ret own lo n θ R Q σ lv pc (.long y :: .long x :: st) :=
  fun _ _ _ _ _ _ _ _ _ _ _ C hP hS hl => lv_land C.1 C.2.1 d (g _ _ _ _ _ _ _ _ _ _ _ C hP hS hl)
theorem z_lor {x y : Int64} (d : decode cc pc = .ok (.lor, 1)) (g : WZ l cc nL ret own lo n θ R Q σ lv (pc + 1) (.long (x ||| y) :: st)) : WZ l cc nL ret own lo n θ R Q σ lv pc (.long y :: .long x :: st) :=
  fun _ _ _ _ _ _ _ _ _ _ _ C hP hS hl => lv_lor C.1 C.2.1 d (g _ _ _ _ _ _ _ _ _ _ _ C hP hS hl)
theorem z_lxor {x y : Int64} (d : decode cc pc = .ok (.lxor, 1)) (g : WZ l cc nL ret own lo n θ R Q σ lv (pc + 1) (.long (x ^^^ y) :: st)) : WZ l cc nL ret own lo n θ R Q σ lv pc (.long y :: .long x :: st) :=
  fun _ _ _ _ _ _ _ _ _ _ _ C hP hS hl => lv_lxor C.1 C.2.1 d (g _ _ _ _ _ _ _ _ _ _ _ C hP hS hl)
theorem z_i2l {x : Int32} (d : decode cc pc = .ok (.i2l, 1)) (g : WZ l cc nL ret own lo n θ R Q σ lv (pc + 1) (.long (x.toInt64) :: st)) : WZ l cc nL ret own lo n θ R Q σ lv pc (.int x :: st) :=
  fun _ _ _ _ _ _ _ _ _ _ _ C hP hS hl => lv_i2l C.1 C.2.1 d rfl (g _ _ _ _ _ _ _ _ _ _ _ C hP hS hl)
theorem z_l2i {x : Int64} (d : decode cc pc = .ok (.l2i, 1)) (g : WZ l cc nL ret own lo n θ R Q σ lv (pc + 1) (.int (x.toInt32) :: st)) : WZ l cc nL ret own lo n θ R Q σ lv pc (.long x :: st) :=
  fun _ _ _ _ _ _ _ _ _ _ _ C hP hS hl => lv_l2i C.1 C.2.1 d rfl (g _ _ _ _ _ _ _ _ _ _ _ C hP hS hl)
theorem z_i2b {x : Int32} (d : decode cc pc = .ok (.i2b, 1)) (g : WZ l cc nL ret own lo n θ R Q σ lv (pc + 1) (.int (x.toInt8.toInt32) :: st)) : WZ l cc nL ret own lo n θ R Q σ lv pc (.int x :: st) :=
  fun _ _ _ _ _ _ _ _ _ _ _ C hP hS hl => lv_i2b C.1 C.2.1 d rfl (g _ _ _ _ _ _ _ _ _ _ _ C hP hS hl)
theorem z_i2s {x : Int32} (d : decode cc pc = .ok (.i2s, 1)) (g : WZ l cc nL ret own lo n θ R Q σ lv (pc + 1) (.int (x.toInt16.toInt32) :: st)) : WZ l cc nL ret own lo n θ R Q σ lv pc (.int x :: st) :=
  fun _ _ _ _ _ _ _ _ _ _ _ C hP hS hl => lv_i2s C.1 C.2.1 d rfl (g _ _ _ _ _ _ _ _ _ _ _ C hP hS hl)
theorem z_lshl {x : Int64} {y : Int32} (d : decode cc pc = .ok (.lshl, 1)) (g : WZ l cc nL ret own lo n θ R Q σ lv (pc + 1) (.long (x <<< (y.toInt64 &&& 63)) :: st)) : WZ l cc nL ret own lo n θ R Q σ lv pc (.int y :: .long x :: st) :=
  fun _ _ _ _ _ _ _ _ _ _ _ C hP hS hl => lv_lshl C.1 C.2.1 d rfl (g _ _ _ _ _ _ _ _ _ _ _ C hP hS hl)
theorem z_lshr {x : Int64} {y : Int32} (d : decode cc pc = .ok (.lshr, 1)) (g : WZ l cc nL ret own lo n θ R Q σ lv (pc + 1) (.long (x >>> (y.toInt64 &&& 63)) :: st)) : WZ l cc nL ret own lo n θ R Q σ lv pc (.int y :: .long x :: st) :=
  fun _ _ _ _ _ _ _ _ _ _ _ C hP hS hl => lv_lshr C.1 C.2.1 d rfl (g _ _ _ _ _ _ _ _ _ _ _ C hP hS hl)
theorem z_lcmp {x y : Int64} (d : decode cc pc = .ok (.lcmp, 1)) (g : WZ l cc nL ret own lo n θ R Q σ lv (pc + 1) (.int (lg_cmp x y) :: st)) : WZ l cc nL ret own lo n θ R Q σ lv pc (.long y :: .long x :: st) :=
  fun _ _ _ _ _ _ _ _ _ _ _ C hP hS hl => W.lcmp C.1 C.2.1 d (g _ _ _ _ _ _ _ _ _ _ _ C hP hS hl)
theorem z_dup {v : Value} (d : decode cc pc = .ok (.dup, 1)) (hv : v.category = 1) (g : WZ l cc nL ret own lo n θ R Q σ lv (pc + 1) (v :: v :: st)) : WZ l cc nL ret own lo n θ R Q σ lv pc (v :: st) :=
  fun _ _ _ _ _ _ _ _ _ _ _ C hP hS hl => lv_dup C.1 C.2.1 d hv (g _ _ _ _ _ _ _ _ _ _ _ C hP hS hl)
theorem z_pop {v : Value} (d : decode cc pc = .ok (.pop, 1)) (hv : v.category = 1) (g : WZ l cc nL ret own lo n θ R Q σ lv (pc + 1) st) : WZ l cc nL ret own lo n θ R Q σ lv pc (v :: st) :=
  fun _ _ _ _ _ _ _ _ _ _ _ C hP hS hl => lv_pop C.1 C.2.1 d hv (g _ _ _ _ _ _ _ _ _ _ _ C hP hS hl)
theorem z_dup2 {v w : Value} (d : decode cc pc = .ok (.dup2, 1)) (hv : v.category = 1) (hw : w.category = 1) (g : WZ l cc nL ret own lo n θ R Q σ lv (pc + 1) (v :: w :: v :: w :: st)) : WZ l cc nL ret own lo n θ R Q σ lv pc (v :: w :: st) :=
  fun _ _ _ _ _ _ _ _ _ _ _ C hP hS hl => lv_dup2_11 C.1 C.2.1 d hv hw (g _ _ _ _ _ _ _ _ _ _ _ C hP hS hl)
theorem z_goto {off : Int} {tgt : Nat} (d : decode cc pc = .ok (.goto off, 3)) (ht : (pc : Int) + off = (tgt : Int)) (g : WZ l cc nL ret own lo n θ R Q σ lv tgt st) : WZ l cc nL ret own lo n θ R Q σ lv pc st :=
  fun _ _ _ _ _ _ _ _ _ _ _ C hP hS hl => lv_goto C.1 C.2.1 d ht (g _ _ _ _ _ _ _ _ _ _ _ C hP hS hl)
theorem z_if_eq {x : Int32} {off : Int} {tgt : Nat} (d : decode cc pc = .ok (.ifCond .eq off, 3)) (ht : (pc : Int) + off = (tgt : Int)) (kt : x = 0 → WZ l cc nL ret own lo n θ R Q σ lv tgt st) (kf : ¬ x = 0 → WZ l cc nL ret own lo n θ R Q σ lv (pc + 3) st) : WZ l cc nL ret own lo n θ R Q σ lv pc (.int x :: st) :=
  fun _ _ _ _ _ _ _ _ _ _ _ C hP hS hl => lv_if_eq C.1 C.2.1 d ht (fun q => kt q _ _ _ _ _ _ _ _ _ _ _ C hP hS hl) (fun q => kf q _ _ _ _ _ _ _ _ _ _ _ C hP hS hl)
theorem z_if_ne {x : Int32} {off : Int} {tgt : Nat} (d : decode cc pc = .ok (.ifCond .ne off, 3)) (ht : (pc : Int) + off = (tgt : Int)) (kt : ¬ x = 0 → WZ l cc nL ret own lo n θ R Q σ lv tgt st) (kf : x = 0 → WZ l cc nL ret own lo n θ R Q σ lv (pc + 3) st) : WZ l cc nL ret own lo n θ R Q σ lv pc (.int x :: st) :=
  fun _ _ _ _ _ _ _ _ _ _ _ C hP hS hl => lv_if_ne C.1 C.2.1 d ht (fun q => kt q _ _ _ _ _ _ _ _ _ _ _ C hP hS hl) (fun q => kf q _ _ _ _ _ _ _ _ _ _ _ C hP hS hl)
theorem z_if_lt {x : Int32} {off : Int} {tgt : Nat} (d : decode cc pc = .ok (.ifCond .lt off, 3)) (ht : (pc : Int) + off = (tgt : Int)) (kt : x < 0 → WZ l cc nL ret own lo n θ R Q σ lv tgt st) (kf : ¬ x < 0 → WZ l cc nL ret own lo n θ R Q σ lv (pc + 3) st) : WZ l cc nL ret own lo n θ R Q σ lv pc (.int x :: st) :=
  fun _ _ _ _ _ _ _ _ _ _ _ C hP hS hl => lv_if_lt C.1 C.2.1 d ht (fun q => kt q _ _ _ _ _ _ _ _ _ _ _ C hP hS hl) (fun q => kf q _ _ _ _ _ _ _ _ _ _ _ C hP hS hl)
theorem z_if_ge {x : Int32} {off : Int} {tgt : Nat} (d : decode cc pc = .ok (.ifCond .ge off, 3)) (ht : (pc : Int) + off = (tgt : Int)) (kt : 0 ≤ x → WZ l cc nL ret own lo n θ R Q σ lv tgt st) (kf : ¬ 0 ≤ x → WZ l cc nL ret own lo n θ R Q σ lv (pc + 3) st) : WZ l cc nL ret own lo n θ R Q σ lv pc (.int x :: st) :=
  fun _ _ _ _ _ _ _ _ _ _ _ C hP hS hl => lv_if_ge C.1 C.2.1 d ht (fun q => kt q _ _ _ _ _ _ _ _ _ _ _ C hP hS hl) (fun q => kf q _ _ _ _ _ _ _ _ _ _ _ C hP hS hl)
theorem z_if_gt {x : Int32} {off : Int} {tgt : Nat} (d : decode cc pc = .ok (.ifCond .gt off, 3)) (ht : (pc : Int) + off = (tgt : Int)) (kt : 0 < x → WZ l cc nL ret own lo n θ R Q σ lv tgt st) (kf : ¬ 0 < x → WZ l cc nL ret own lo n θ R Q σ lv (pc + 3) st) : WZ l cc nL ret own lo n θ R Q σ lv pc (.int x :: st) :=
  fun _ _ _ _ _ _ _ _ _ _ _ C hP hS hl => lv_if_gt C.1 C.2.1 d ht (fun q => kt q _ _ _ _ _ _ _ _ _ _ _ C hP hS hl) (fun q => kf q _ _ _ _ _ _ _ _ _ _ _ C hP hS hl)
theorem z_if_le {x : Int32} {off : Int} {tgt : Nat} (d : decode cc pc = .ok (.ifCond .le off, 3)) (ht : (pc : Int) + off = (tgt : Int)) (kt : x ≤ 0 → WZ l cc nL ret own lo n θ R Q σ lv tgt st) (kf : ¬ x ≤ 0 → WZ l cc nL ret own lo n θ R Q σ lv (pc + 3) st) : WZ l cc nL ret own lo n θ R Q σ lv pc (.int x :: st) :=
  fun _ _ _ _ _ _ _ _ _ _ _ C hP hS hl => lv_if_le C.1 C.2.1 d ht (fun q => kt q _ _ _ _ _ _ _ _ _ _ _ C hP hS hl) (fun q => kf q _ _ _ _ _ _ _ _ _ _ _ C hP hS hl)
theorem z_icmp_eq {x y : Int32} {off : Int} {tgt : Nat} (d : decode cc pc = .ok (.if_icmp .eq off, 3)) (ht : (pc : Int) + off = (tgt : Int)) (kt : x = y → WZ l cc nL ret own lo n θ R Q σ lv tgt st) (kf : ¬ x = y → WZ l cc nL ret own lo n θ R Q σ lv (pc + 3) st) : WZ l cc nL ret own lo n θ R Q σ lv pc (.int y :: .int x :: st) :=
  fun _ _ _ _ _ _ _ _ _ _ _ C hP hS hl => lv_icmp_eq C.1 C.2.1 d ht (fun q => kt q _ _ _ _ _ _ _ _ _ _ _ C hP hS hl) (fun q => kf q _ _ _ _ _ _ _ _ _ _ _ C hP hS hl)
theorem z_icmp_ne {x y : Int32} {off : Int} {tgt : Nat} (d : decode cc pc = .ok (.if_icmp .ne off, 3)) (ht : (pc : Int) + off = (tgt : Int)) (kt : ¬ x = y → WZ l cc nL ret own lo n θ R Q σ lv tgt st) (kf : x = y → WZ l cc nL ret own lo n θ R Q σ lv (pc + 3) st) : WZ l cc nL ret own lo n θ R Q σ lv pc (.int y :: .int x :: st) :=
  fun _ _ _ _ _ _ _ _ _ _ _ C hP hS hl => lv_icmp_ne C.1 C.2.1 d ht (fun q => kt q _ _ _ _ _ _ _ _ _ _ _ C hP hS hl) (fun q => kf q _ _ _ _ _ _ _ _ _ _ _ C hP hS hl)
theorem z_icmp_lt {x y : Int32} {off : Int} {tgt : Nat} (d : decode cc pc = .ok (.if_icmp .lt off, 3)) (ht : (pc : Int) + off = (tgt : Int)) (kt : x < y → WZ l cc nL ret own lo n θ R Q σ lv tgt st) (kf : ¬ x < y → WZ l cc nL ret own lo n θ R Q σ lv (pc + 3) st) : WZ l cc nL ret own lo n θ R Q σ lv pc (.int y :: .int x :: st) :=
  fun _ _ _ _ _ _ _ _ _ _ _ C hP hS hl => lv_icmp_lt C.1 C.2.1 d ht (fun q => kt q _ _ _ _ _ _ _ _ _ _ _ C hP hS hl) (fun q => kf q _ _ _ _ _ _ _ _ _ _ _ C hP hS hl)
theorem z_icmp_ge {x y : Int32} {off : Int} {tgt : Nat} (d : decode cc pc = .ok (.if_icmp .ge off, 3)) (ht : (pc : Int) + off = (tgt : Int)) (kt : y ≤ x → WZ l cc nL ret own lo n θ R Q σ lv tgt st) (kf : ¬ y ≤ x → WZ l cc nL ret own lo n θ R Q σ lv (pc + 3) st) : WZ l cc nL ret own lo n θ R Q σ lv pc (.int y :: .int x :: st) :=
  fun _ _ _ _ _ _ _ _ _ _ _ C hP hS hl => lv_icmp_ge C.1 C.2.1 d ht (fun q => kt q _ _ _ _ _ _ _ _ _ _ _ C hP hS hl) (fun q => kf q _ _ _ _ _ _ _ _ _ _ _ C hP hS hl)
theorem z_icmp_gt {x y : Int32} {off : Int} {tgt : Nat} (d : decode cc pc = .ok (.if_icmp .gt off, 3)) (ht : (pc : Int) + off = (tgt : Int)) (kt : y < x → WZ l cc nL ret own lo n θ R Q σ lv tgt st) (kf : ¬ y < x → WZ l cc nL ret own lo n θ R Q σ lv (pc + 3) st) : WZ l cc nL ret own lo n θ R Q σ lv pc (.int y :: .int x :: st) :=
  fun _ _ _ _ _ _ _ _ _ _ _ C hP hS hl => lv_icmp_gt C.1 C.2.1 d ht (fun q => kt q _ _ _ _ _ _ _ _ _ _ _ C hP hS hl) (fun q => kf q _ _ _ _ _ _ _ _ _ _ _ C hP hS hl)
theorem z_icmp_le {x y : Int32} {off : Int} {tgt : Nat} (d : decode cc pc = .ok (.if_icmp .le off, 3)) (ht : (pc : Int) + off = (tgt : Int)) (kt : x ≤ y → WZ l cc nL ret own lo n θ R Q σ lv tgt st) (kf : ¬ x ≤ y → WZ l cc nL ret own lo n θ R Q σ lv (pc + 3) st) : WZ l cc nL ret own lo n θ R Q σ lv pc (.int y :: .int x :: st) :=
  fun _ _ _ _ _ _ _ _ _ _ _ C hP hS hl => lv_icmp_le C.1 C.2.1 d ht (fun q => kt q _ _ _ _ _ _ _ _ _ _ _ C hP hS hl) (fun q => kf q _ _ _ _ _ _ _ _ _ _ _ C hP hS hl)
end RULES
end
section
/-! THE RULES, on: fields, arrays, calls, returns, a method's contract out of its walk -/
theorem zgood : ∀ w ∈ zW0, (w.onTables && w.keeps) = true ∨ ∃ ty, w = .arrayClass ty := fun _ h => good_of_word (List.mem_filter.mp h).2
theorem zgoodIn {y : MethodName} {b : ByteArray} {nM : Nat} {rt : Option FieldType} (h : Cond.code y b nM rt ∈ zW0) : GoodIn zW0 (Cond.code y b nM rt :: zW0) := fun w hw => by
  rcases List.mem_cons.mp hw with e | e
  · subst e; exact ⟨h, zgood _ h⟩
  · exact ⟨e, zgood _ e⟩
theorem zcell_obj {θ : ZT} {σ : ZM} {o c : Nat} {e : va_E} (hk : zk o c = true) (he : zce θ c (zln o) o (σ.1 o) (σ.2.1 o) (σ.2.2 o) = e) : zcell θ σ o = e := by
  rw [← he]; show zce θ (zkd o) _ _ _ _ _ = _; rw [zk_eq hk]
theorem zcell_arr {θ : ZT} {σ : ZM} {o c N : Nat} {e : va_E} (hk : zkd o = c) (hN : zln o = N) (he : zce θ c N o (σ.1 o) (σ.2.1 o) (σ.2.2 o) = e) : zcell θ σ o = e := by
  rw [← he]; show zce θ (zkd o) (zln o) _ _ _ _ = _; rw [hk, hN]
section CELLS
variable {l : Launch} {cc : ByteArray} {nL : Nat} {ret : Option FieldType} {own : String} {lo n : Nat} {θ : ZT} {R : Room} {Q : Array Value → State → Outcome → State → Prop} {σ : ZM} {lv : List (Nat × Value)} {pc : Nat} {st : List Value}
theorem z_getG {C : String} {T : u_T} {N ci index o k : Nat} {fs : List Value} {v : Value} (d : decode cc pc = .ok (.getfield index, 3)) (hlo : lo ≤ o) (hhi : o < lo + n) (he : zcell θ σ o = .inr (ci, fs)) (hc : zcl[ci]? = some (C, T, N)) (hin : ∀ w ∈ u_ws C T N, w ∈ zW0) (hk : k < N) (hT : (T k).1 = C) (hw : Cond.fieldLink own index C (T k).2.1 (T k).2.2.1 ∈ zW0) (hv : fs[k]? = some v)
    (g : WZ l cc nL ret own lo n θ R Q σ lv (pc + 3) (v :: st)) : WZ l cc nL ret own lo n θ R Q σ lv pc (.ref (za θ o) :: st) :=
  fun _ _ _ _ _ _ _ _ _ _ _ Z hP hS hl => va_get (D := zD θ) (cl := zcl) (ci := ci) (C := C) (T := T) (N := N) (ref := C) Z.1 Z.2.1 Z.2.2.2.2.1 hin Z.2.2.2.1 Z.2.2.2.2.2.2.2.1 hP (o - lo) (by rw [zwd_at hlo hhi, he]) hc k hk (Z.2.2.2.2.1 _ hw) (fun x hx => by rw [hT] at hx; exact hx) hv d (g _ _ _ _ _ _ _ _ _ _ _ Z hP hS hl)
theorem z_putG {C : String} {T : u_T} {N ci index o k : Nat} {fs : List Value} {v : Value} {ty : FieldType} {ty0 : Nat → FieldType} {σ' : ZM} (d : decode cc pc = .ok (.putfield index, 3)) (hlo : lo ≤ o) (hhi : o < lo + n) (he : zcell θ σ o = .inr (ci, fs)) (hc : zcl[ci]? = some (C, T, N)) (hin : ∀ w ∈ u_ws C T N, w ∈ zW0) (hty : ∀ k, k < N → parseFieldDescriptor (T k).2.2.1 = some (ty0 k)) (hnm : ∀ a, a < N → ∀ b, b < N → a ≠ b → (T a).2.1 ≠ (T b).2.1) (hk : k < N) (hT : (T k).1 = C) (hw : Cond.fieldLink own index C (T k).2.1 (T k).2.2.1 ∈ zW0)
    (hfin : (T k).2.2.2 = false) (hd : parseFieldDescriptor (T k).2.2.1 = some ty) (hn : narrow ty v = v) (hfit : fits ty v = true) (hle : k < fs.length) (he' : zcell θ σ' o = .inr (ci, fs.set k v)) (hne : ∀ a, a ≠ o → zcell θ σ' a = zcell θ σ a)
    (g : WZ l cc nL ret own lo n θ R Q σ' lv (pc + 3) st) : WZ l cc nL ret own lo n θ R Q σ lv pc (v :: .ref (za θ o) :: st) :=
  fun _ _ _ _ _ _ _ _ _ _ _ Z hP hS hl => va_put (D := zD θ) (cl := zcl) (ci := ci) (C := C) (T := T) (N := N) (ref := C) (ty := ty) Z.1 Z.2.1 Z.2.2.2.2.1 hin ty0 hty hnm Z.2.2.2.1 Z.2.2.2.2.2.2.2.1 hP (zwd_D Z.2.2.2.2.2.2.2.2.1 Z.2.2.2.2.2.2.2.2.2.2) hS (o - lo) (by rw [zwd_at hlo hhi, he]) hc k hk (Z.2.2.2.2.1 _ hw) (fun x hx => by rw [hT] at hx; exact hx) hfin hd hn hfit hle d
    (fun _ _ hP1 _ hS1 => g _ _ _ _ _ _ _ _ _ _ _ Z (by rw [← zwd_set hlo hhi he' hne]; exact hP1) hS1 hl)
theorem z_iald {o N : Nat} {i : Int32} (d : decode cc pc = .ok (.iaload, 1)) (hk : zkd o = 0) (hN : zln o = N) (hlo : lo ≤ o) (hhi : o < lo + n) (hi : zin i N = true)
    (g : WZ l cc nL ret own lo n θ R Q σ lv (pc + 1) (.int (zI σ o i.toNatClampNeg) :: st)) : WZ l cc nL ret own lo n θ R Q σ lv pc (.int i :: .ref (za θ o) :: st) :=
  fun _ _ _ _ _ _ _ _ _ _ _ Z hP hS hl => va_iald (D := zD θ) (cl := zcl) (f := σ.1 o) Z.1 Z.2.1 Z.2.2.2.2.2.2.2.1 hP (o - lo) 0 (by rw [zwd_at hlo hhi, zcell_arr hk hN rfl]; rfl) rfl (zin_i hi) d (g _ _ _ _ _ _ _ _ _ _ _ Z hP hS hl)
theorem z_bald {o N : Nat} {i : Int32} (d : decode cc pc = .ok (.baload, 1)) (hk : zkd o = 1) (hN : zln o = N) (hlo : lo ≤ o) (hhi : o < lo + n) (hi : zin i N = true)
    (g : WZ l cc nL ret own lo n θ R Q σ lv (pc + 1) (.int (zI σ o i.toNatClampNeg) :: st)) : WZ l cc nL ret own lo n θ R Q σ lv pc (.int i :: .ref (za θ o) :: st) :=
  fun _ _ _ _ _ _ _ _ _ _ _ Z hP hS hl => va_zald (D := zD θ) (cl := zcl) (f := σ.1 o) Z.1 Z.2.1 Z.2.2.2.2.2.2.2.1 hP (o - lo) 1 (by rw [zwd_at hlo hhi, zcell_arr hk hN rfl]; rfl) rfl (zin_i hi) d (g _ _ _ _ _ _ _ _ _ _ _ Z hP hS hl)
theorem z_lald {o N : Nat} {i : Int32} (d : decode cc pc = .ok (.laload, 1)) (hk : zkd o = 2) (hN : zln o = N) (hlo : lo ≤ o) (hhi : o < lo + n) (hi : zin i N = true)
    (g : WZ l cc nL ret own lo n θ R Q σ lv (pc + 1) (.long (zL σ o i.toNatClampNeg) :: st)) : WZ l cc nL ret own lo n θ R Q σ lv pc (.int i :: .ref (za θ o) :: st) :=
  fun _ _ _ _ _ _ _ _ _ _ _ Z hP hS hl => va_lald (D := zD θ) (cl := zcl) (f := σ.2.1 o) Z.1 Z.2.1 Z.2.2.2.2.2.2.2.1 hP (o - lo) 2 (by rw [zwd_at hlo hhi, zcell_arr hk hN rfl]; rfl) rfl (zin_i hi) d (g _ _ _ _ _ _ _ _ _ _ _ Z hP hS hl)
theorem z_iast {o N : Nat} {i x : Int32} (d : decode cc pc = .ok (.iastore, 1)) (hk : zkd o = 0) (hN : zln o = N) (hlo : lo ≤ o) (hhi : o < lo + n) (hi : zin i N = true)
    (g : WZ l cc nL ret own lo n θ R Q (zsI σ o i.toNatClampNeg x) lv (pc + 1) st) : WZ l cc nL ret own lo n θ R Q σ lv pc (.int x :: .int i :: .ref (za θ o) :: st) :=
  fun _ _ _ _ _ _ _ _ _ _ _ Z hP hS hl => va_iast (D := zD θ) (cl := zcl) (f := σ.1 o) Z.1 Z.2.1 Z.2.2.2.2.2.2.2.1 hP (zwd_D Z.2.2.2.2.2.2.2.2.1 Z.2.2.2.2.2.2.2.2.2.2) hS (o - lo) 0 (by rw [zwd_at hlo hhi, zcell_arr hk hN rfl]; rfl) rfl (zin_i hi) d
    (fun _ _ hP1 _ hS1 => g _ _ _ _ _ _ _ _ _ _ _ Z (by rw [← zwd_set (σ' := zsI σ o i.toNatClampNeg x) hlo hhi (zcell_arr hk hN (by rw [zsI_self])) zcell_sI]; exact hP1) hS1 hl)
theorem zbl_nar {x : Int32} (h : zbl x = true) : vp_nar .boolean x = x := by
  simp only [zbl, Bool.or_eq_true, beq_iff_eq] at h
  rcases h with rfl | rfl <;> rfl
theorem z_bast {o N : Nat} {i x : Int32} (d : decode cc pc = .ok (.bastore, 1)) (hk : zkd o = 1) (hN : zln o = N) (hlo : lo ≤ o) (hhi : o < lo + n) (hi : zin i N = true) (hx : zbl x = true)
    (g : WZ l cc nL ret own lo n θ R Q (zsI σ o i.toNatClampNeg x) lv (pc + 1) st) : WZ l cc nL ret own lo n θ R Q σ lv pc (.int x :: .int i :: .ref (za θ o) :: st) :=
  fun _ _ _ _ _ _ _ _ _ _ _ Z hP hS hl => va_zast (D := zD θ) (cl := zcl) (f := σ.1 o) Z.1 Z.2.1 Z.2.2.2.2.2.2.2.1 hP (zwd_D Z.2.2.2.2.2.2.2.2.1 Z.2.2.2.2.2.2.2.2.2.2) hS (o - lo) 1 (by rw [zwd_at hlo hhi, zcell_arr hk hN rfl]; rfl) rfl (zin_i hi) d
    (fun _ _ hP1 _ hS1 => g _ _ _ _ _ _ _ _ _ _ _ Z (by rw [zbl_nar hx] at hP1; rw [← zwd_set (σ' := zsI σ o i.toNatClampNeg x) hlo hhi (zcell_arr hk hN (by rw [zsI_self])) zcell_sI]; exact hP1) hS1 hl)
theorem zsL_self (σ : ZM) (o k : Nat) (v : Int64) : (zsL σ o k v).2.1 o = vp_updL (σ.2.1 o) k v := if_pos rfl
theorem z_last {o N : Nat} {i : Int32} {x : Int64} (d : decode cc pc = .ok (.lastore, 1)) (hk : zkd o = 2) (hN : zln o = N) (hlo : lo ≤ o) (hhi : o < lo + n) (hi : zin i N = true)
    (g : WZ l cc nL ret own lo n θ R Q (zsL σ o i.toNatClampNeg x) lv (pc + 1) st) : WZ l cc nL ret own lo n θ R Q σ lv pc (.long x :: .int i :: .ref (za θ o) :: st) :=
  fun _ _ _ _ _ _ _ _ _ _ _ Z hP hS hl => va_last (D := zD θ) (cl := zcl) (f := σ.2.1 o) Z.1 Z.2.1 Z.2.2.2.2.2.2.2.1 hP (zwd_D Z.2.2.2.2.2.2.2.2.1 Z.2.2.2.2.2.2.2.2.2.2) hS (o - lo) 2 (by rw [zwd_at hlo hhi, zcell_arr hk hN rfl]; rfl) rfl (zin_i hi) d
    (fun _ _ hP1 _ hS1 => g _ _ _ _ _ _ _ _ _ _ _ Z (by rw [← zwd_set (σ' := zsL σ o i.toNatClampNeg x) hlo hhi (zcell_arr hk hN (by rw [zsL_self])) zcell_sL]; exact hP1) hS1 hl)
theorem z_aald {o N kk t0 : Nat} {C : String} {i : Int32} (d : decode cc pc = .ok (.aaload, 1)) (hk : zkd o = kk) (hN : zln o = N) (he : zce θ kk N o (σ.1 o) (σ.2.1 o) (σ.2.2 o) = .inl (zA θ kk, N, .inr (.inr (.inr (.inr (fun j => some (za θ (zel o j)))))))) (ht : (zty θ)[t0]? = some (zA θ kk, .object C)) (hlo : lo ≤ o) (hhi : o < lo + n) (hi : zin i N = true)
    (g : WZ l cc nL ret own lo n θ R Q σ lv (pc + 1) (.ref (za θ (zel o i.toNatClampNeg)) :: st)) : WZ l cc nL ret own lo n θ R Q σ lv pc (.int i :: .ref (za θ o) :: st) :=
  fun _ _ _ _ _ _ _ _ _ _ _ Z hP hS hl => va_aldq (D := zD θ) (cl := zcl) Z.1 Z.2.1 Z.2.2.2.2.2.2.2.1 hP (o - lo) t0 (by rw [zwd_at hlo hhi, zcell_arr hk hN he]) ht (zin_i hi) d (g _ _ _ _ _ _ _ _ _ _ _ Z hP hS hl)
/-- a row of the array of rows of longs -/
theorem z_aald6 {i : Int32} (d : decode cc pc = .ok (.aaload, 1)) (hlo : lo ≤ 11) (hhi : 11 < lo + n) (hi : zin i 6 = true)
    (g : WZ l cc nL ret own lo n θ R Q σ lv (pc + 1) (.ref (za θ (zel 11 i.toNatClampNeg)) :: st)) : WZ l cc nL ret own lo n θ R Q σ lv pc (.int i :: .ref (za θ 11) :: st) :=
  fun _ _ _ _ _ _ _ _ _ _ _ Z hP hS hl => by
    have ha : (zwd lo n θ σ)[11 - lo]? = some (za θ 11, .inl (zA θ 6, 6, .inr (.inr (.inr (.inr (fun j => some (za θ (zel 11 j)))))))) := by rw [zwd_at hlo hhi]; rfl
    have hin := zin_i hi
    have hlt : i.toNatClampNeg < 6 := Nat.not_le.mp fun q => hin (Or.inr q)
    exact W.aald (v := va_rf (some (za θ (zel 11 i.toNatClampNeg)))) (ty := .array .long) Z.1 Z.2.1 (hP (11 - lo) _ ha) ((Z.2.2.2.2.2.2.2.1.2 6 _ rfl).1 6 (fun j => va_rf (some (za θ (zel 11 j))))) rfl (fun q => by cases q) (by show ¬ (i < 0 ∨ (arrV _ _ _).slots.size ≤ _); rw [arrV_size]; exact hin) (by show (arrV _ _ _).slots[_]? = _; rw [arrV_read _ _ hlt]) rfl rfl d (g _ _ _ _ _ _ _ _ _ _ _ Z hP hS hl)
theorem z_alen {o N kk t0 : Nat} {x : vp_A} {ty : FieldType} {v : Int32} (d : decode cc pc = .ok (.arraylength, 1)) (hk : zkd o = kk) (hN : zln o = N) (he : zce θ kk N o (σ.1 o) (σ.2.1 o) (σ.2.2 o) = .inl (zA θ kk, x)) (ht : (zty θ)[t0]? = some (zA θ kk, ty)) (hlo : lo ≤ o) (hhi : o < lo + n) (hv : Int32.ofNat x.1 = v)
    (g : WZ l cc nL ret own lo n θ R Q σ lv (pc + 1) (.int v :: st)) : WZ l cc nL ret own lo n θ R Q σ lv pc (.ref (za θ o) :: st) :=
  fun _ _ _ _ _ _ _ _ _ _ _ Z hP hS hl => va_alen (D := zD θ) (cl := zcl) Z.1 Z.2.1 Z.2.2.2.2.2.2.2.1 hP (o - lo) t0 (by rw [zwd_at hlo hhi, zcell_arr hk hN he]) ht hv d (g _ _ _ _ _ _ _ _ _ _ _ Z hP hS hl)
/-! static tables -/
theorem z_above {index : Nat} (d : decode cc pc = .ok (.getstatic index, 3)) (hw : Cond.fieldLinkNest own index "BakedBefore" "ABOVE" "[I" "BakedBefore" = zn_acts ∨ Cond.fieldLinkNest own index "BakedBefore" "ABOVE" "[I" "BakedBefore" = zn_loaf)
    (g : WZ l cc nL ret own lo n θ R Q σ lv (pc + 3) (.ref (zf θ 0) :: st)) : WZ l cc nL ret own lo n θ R Q σ lv pc st :=
  fun _ _ _ _ _ _ _ _ _ _ _ Z hP hS hl => va_getsN (ref := "BakedBefore") (host := "BakedBefore") Z.1 Z.2.1 Z.2.2.2.2.2.2.2.2.2.1.1.1 hS Z.2.2.2.1 (by
    have h := Z.2.2.2.2.2.2.2.2.2.1.2.2.1
    rcases hw with e | e
    · rw [e]; exact va_Nw.use rfl h.1
    · rw [e]; exact va_Nw.use rfl h.2.1) (fun _ h => h) d (g _ _ _ _ _ _ _ _ _ _ _ Z hP hS hl)
theorem z_bodies {index : Nat} (d : decode cc pc = .ok (.getstatic index, 3)) (hw : Cond.fieldLink own index "BakedBefore$Acts" "BODIES" "[I" ∈ zW0)
    (g : WZ l cc nL ret own lo n θ R Q σ lv (pc + 3) (.ref (zf θ 1) :: st)) : WZ l cc nL ret own lo n θ R Q σ lv pc st :=
  fun _ _ _ _ _ _ _ _ _ _ _ Z hP hS hl => va_gets (ref := "BakedBefore$Acts") Z.1 Z.2.1 Z.2.2.2.2.2.2.2.2.2.1.2.1.1 hS Z.2.2.2.1 (Z.2.2.2.2.1 _ hw) (fun _ h => h) d (g _ _ _ _ _ _ _ _ _ _ _ Z hP hS hl)
theorem z_ialdA {i : Int32} (d : decode cc pc = .ok (.iaload, 1)) (hi : zin i 7 = true)
    (g : WZ l cc nL ret own lo n θ R Q σ lv (pc + 1) (.int (zabove i.toNatClampNeg) :: st)) : WZ l cc nL ret own lo n θ R Q σ lv pc (.int i :: .ref (zf θ 0) :: st) :=
  fun _ _ _ _ _ _ _ _ _ _ _ Z hP hS hl => va_ti Z.1 Z.2.1 Z.2.2.2.2.2.2.2.2.2.1.1.2 hS (zin_i hi) rfl d (g _ _ _ _ _ _ _ _ _ _ _ Z hP hS hl)
theorem z_ialdB {i : Int32} (d : decode cc pc = .ok (.iaload, 1)) (hi : zin i 21 = true)
    (g : WZ l cc nL ret own lo n θ R Q σ lv (pc + 1) (.int (zbodies i.toNatClampNeg) :: st)) : WZ l cc nL ret own lo n θ R Q σ lv pc (.int i :: .ref (zf θ 1) :: st) :=
  fun _ _ _ _ _ _ _ _ _ _ _ Z hP hS hl => va_ti Z.1 Z.2.1 Z.2.2.2.2.2.2.2.2.2.1.2.1.2 hS (zin_i hi) rfl d (g _ _ _ _ _ _ _ _ _ _ _ Z hP hS hl)
/-! returns -/
theorem z_iret {v : Int32} {res : Int32 × ZM} (d : decode cc pc = .ok (.ireturn, 1)) (h : some (v, σ) = some res) : WZ l cc nL (some .int) own lo n θ R (zQ mkI lo n θ res) σ lv pc [.int v] :=
  fun _ _ _ _ _ _ _ _ _ _ _ Z hP hS hl => W.iret (hlocks := Z.2.2.2.2.2.1) Z.1 Z.2.1 Z.2.2.2.2.2.2.1 (fun t ht hW => by
    cases h
    exact ⟨⟨rfl, by rw [ht]; exact hP, va_K.moved hW.alike Z.2.2.2.2.2.2.2.1, Z.2.2.2.2.2.2.2.2.1, zFX.warm hW (by rw [ht]; exact Z.2.2.2.2.2.2.2.2.2.1.kept hS.2.1)⟩, hS.F ht⟩) hS.2.2 d
theorem z_zret {v : Int32} {res : Int32 × ZM} (d : decode cc pc = .ok (.ireturn, 1)) (hb : zbl v = true) (h : some (v, σ) = some res) : WZ l cc nL (some .boolean) own lo n θ R (zQ mkI lo n θ res) σ lv pc [.int v] :=
  fun _ _ _ _ _ _ _ _ _ _ _ Z hP hS hl => W.zret (hlocks := Z.2.2.2.2.2.1) Z.1 Z.2.1 Z.2.2.2.2.2.2.1 (zbl_i hb) (fun t ht hW => by
    cases h
    exact ⟨⟨rfl, by rw [ht]; exact hP, va_K.moved hW.alike Z.2.2.2.2.2.2.2.1, Z.2.2.2.2.2.2.2.2.1, zFX.warm hW (by rw [ht]; exact Z.2.2.2.2.2.2.2.2.2.1.kept hS.2.1)⟩, hS.F ht⟩) hS.2.2 d
theorem z_lret {v : Int64} {res : Int64 × ZM} (d : decode cc pc = .ok (.lreturn, 1)) (h : some (v, σ) = some res) : WZ l cc nL (some .long) own lo n θ R (zQ mkL lo n θ res) σ lv pc [.long v] :=
  fun _ _ _ _ _ _ _ _ _ _ _ Z hP hS hl => W.lret (hlocks := Z.2.2.2.2.2.1) Z.1 Z.2.1 Z.2.2.2.2.2.2.1 (fun t ht hW => by
    cases h
    exact ⟨⟨rfl, by rw [ht]; exact hP, va_K.moved hW.alike Z.2.2.2.2.2.2.2.1, Z.2.2.2.2.2.2.2.2.1, zFX.warm hW (by rw [ht]; exact Z.2.2.2.2.2.2.2.2.2.1.kept hS.2.1)⟩, hS.F ht⟩) hS.2.2 d
theorem z_vret {res : Unit × ZM} (d : decode cc pc = .ok (.return_, 1)) (h : some ((), σ) = some res) : WZ l cc nL none own lo n θ R (zQ mkV lo n θ res) σ lv pc [] :=
  fun _ _ _ _ _ _ _ _ _ _ _ Z hP hS hl => W.vret (hlocks := Z.2.2.2.2.2.1) Z.1 Z.2.1 Z.2.2.2.2.2.2.1 (fun t ht hW => by
    cases h
    exact ⟨⟨rfl, by rw [ht]; exact hP, va_K.moved hW.alike Z.2.2.2.2.2.2.2.1, Z.2.2.2.2.2.2.2.2.1, zFX.warm hW (by rw [ht]; exact Z.2.2.2.2.2.2.2.2.2.1.kept hS.2.1)⟩, hS.F ht⟩) hS.2.2 d
theorem z_sret {i : Nat} {C : String} {res : Nat × ZM} (d : decode cc pc = .ok (.areturn, 1)) (h : some (i, σ) = some res) : WZ l cc nL (some (.object C)) own lo n θ R (zQ mkS lo n θ res) σ lv pc [.ref (zf θ (2 + i))] :=
  fun _ _ _ _ _ _ _ _ _ _ _ Z hP hS hl => W.aret (hlocks := Z.2.2.2.2.2.1) Z.1 Z.2.1 Z.2.2.2.2.2.2.1 (Or.inl ⟨_, rfl⟩) (Or.inr ⟨_, rfl⟩) (fun t ht hW => by
    cases h
    exact ⟨⟨rfl, by rw [ht]; exact hP, va_K.moved hW.alike Z.2.2.2.2.2.2.2.1, Z.2.2.2.2.2.2.2.2.1, zFX.warm hW (by rw [ht]; exact Z.2.2.2.2.2.2.2.2.2.1.kept hS.2.1)⟩, hS.F ht⟩) hS.2.2 d
end CELLS
/-- a method's contract -/
abbrev zMet {α : Type} (mk : ZT → α → Option Value) (l : Launch) (lo n : Nat) (θ : ZT) (y : MethodName) (b : ByteArray) (nL : Nat) (ret : Option FieldType) (rm : Room) (av : List Value) (σ : ZM) (res : α × ZM) : Prop :=
  Met l y (Cond.code y b nL ret :: zW0) rm (va_Pc av (zWB lo n θ σ)) (zQ mk lo n θ res) 0 0 (zAA lo n θ)
theorem z_met {α : Type} {mk : ZT → α → Option Value} {l : Launch} {lo n : Nat} {θ : ZT} {y : MethodName} {b : ByteArray} {nL : Nat} {ret : Option FieldType} {rm : Room} {av : List Value} {σ : ZM} {res : α × ZM} {lv : List (Nat × Value)} (hy : plainName y.cls = true) (hlv : lv_args 0 av = lv) (hlen : (lg_sl av).length ≤ nL) (hn : lo + n ≤ 143)
    (g : WZ l b nL ret y.cls lo n θ rm (zQ mk lo n θ res) σ lv 0 []) : zMet mk l lo n θ y b nL ret rm av σ res := by
  refine Met.ofW (cc := b) (maxL := nL) (ret := ret) hy rfl ?_
  intro p e s m args below meth c s₁ B hml hv
  obtain ⟨rfl, hP, hK, hJ, hF⟩ := hv
  have hts := atoms_spec (ws := Cond.code y b nL ret :: zW0) B.pre
  have hl := lv_entry av (n := nL) hlen
  rw [lg_entry_eq]
  rw [hlv] at hl
  exact g p e s m _ below meth c s.heap [] _ ⟨B.exec, B.bytes, hml, findClass_of_methodNamed B.named, fun w hw => hts w (List.mem_cons_of_mem _ hw), B.notSynchronized, B.returns, hK, hJ, hF, hn⟩ hP va_S.rf hl
end
section
/-! THE RULES, on: calls -/
def zcf (y : MethodName) (b : ByteArray) (nM : Nat) (rt : Option FieldType) (k : Nat) : Prop :=
  Cond.code y b nM rt ∈ zW0 ∧ Cond.initialized y.cls ∈ zW0 ∧ (y.cls ≠ "java/lang/invoke/MethodHandle" ∧ y.cls ≠ "java/lang/invoke/VarHandle" ∧ (parseMethodDescriptor y.desc).map (fun d => d.parameters.length) = some k)
def zcfV (y : MethodName) (b : ByteArray) (nM : Nat) (rt : Option FieldType) (k : Nat) : Prop := zcf y b nM rt k ∧ Cond.instanceMethod y ∈ zW0 ∧ Cond.selects y.cls y y ∈ zW0
def zcfS (y : MethodName) (b : ByteArray) (nM : Nat) (rt : Option FieldType) (k : Nat) : Prop := zcf y b nM rt k ∧ Cond.static y ∈ zW0
def zrm (f c : Nat) : Room := { frames := f, cells := 0, slots := 0, locals := c }
section CALLS
variable {l : Launch} {cc : ByteArray} {nL : Nat} {ret : Option FieldType} {own : String} {lo n : Nat} {θ : ZT} {R : Room} {Q : Array Value → State → Outcome → State → Prop} {σ : ZM} {lv : List (Nat × Value)} {pc : Nat} {st : List Value}
theorem z_run {α : Type} {mk : ZT → α → Option Value} {res : α × ZM} {st1 : List Value} {p : Program} {e : Env} {s : State} {m : MethodId} {args : Array Value} {below : List Frame} {meth : Method} {c : Code} {H : Heap} {locs : List Loc} {ls : Array Slot} {a : Array Value} (Z : zC p s m args meth c cc nL ret own lo n θ) (hS : va_S (zAA lo n θ) s.heap H locs) (hl : lv_has ls nL lv)
    (hr : va_Run p l e R s m args below meth c H locs 0 0 0 0 (F0 m pc ls st1) st (zQ mk lo n θ res a) (zAA lo n θ)) (g : WZ l cc nL ret own lo n θ R Q res.2 lv (pc + 3) ((mk θ res.1).toList ++ st)) :
    W p l e R s m args below meth c H locs 0 0 (MQ below Q args s 0 0 (zAA lo n θ)) (F0 m pc ls st1) := by
  intro T hT X
  obtain ⟨v, st₀, t, T', L, h0, X', hL, e1, e2, ⟨⟨hv, hb⟩, hz, hk⟩, sx⟩ := hr T hT X
  cases hv
  rw [h0] at hz hk
  obtain ⟨t2, a1, b1⟩ := g p e s m args below meth c T'.heap (locs ++ L) ls Z (by rw [e1]; exact hb.1)
    ⟨Nat.le_trans hS.1 (by rw [e1]; exact hz), fun q h1 h2 => by rw [e1, hk q (Nat.lt_of_lt_of_le h1 hS.1) h2]; exact hS.2.1 q h1 h2, fun q hq => by
      rcases List.mem_append.mp hq with h | h
      · exact hS.2.2 q h
      · exact hL q h⟩ hl T' rfl X'
  exact ⟨t2, sx t2 a1, b1⟩
theorem z_pre {p : Program} {s : State} {m : MethodId} {args : Array Value} {meth : Method} {c : Code} {H : Heap} {locs : List Loc} (Z : zC p s m args meth c cc nL ret own lo n θ) (hP : va_P (zD θ) zcl (zwd lo n θ σ) H) (hS : va_S (zAA lo n θ) s.heap H locs) : ∀ U : State, U.heap = H → s.WarmedH U.vm → zWB lo n θ σ U :=
  fun U hU hW => ⟨by rw [hU]; exact hP, va_K.moved hW.alike Z.2.2.2.2.2.2.2.1, Z.2.2.2.2.2.2.2.2.1, by rw [hU]; exact (Z.2.2.2.2.2.2.2.2.2.1.kept hS.2.1).warm hW⟩
theorem z_callV {α : Type} {mk : ZT → α → Option Value} {res : α × ZM} {y : MethodName} {b : ByteArray} {nM k o index ci kc : Nat} {rt : Option FieldType} {rm : Room} {q : vw_C} {fs : List Value} {st1 As : List Value} (hM : zMet mk l lo n θ y b nM rt rm (.ref (za θ o) :: As) σ res) (F : zcfV y b nM rt k) (hw : Cond.methodLink own index y ∈ zW0) (d : decode cc pc = .ok (.invokevirtual index, 3))
    (hk : zk o kc = true) (he : zce θ kc (zln o) o (σ.1 o) (σ.2.1 o) (σ.2.2 o) = .inr (ci, fs)) (hc : zcl[ci]? = some q) (hq : q.1 = y.cls) (hlo : lo ≤ o) (hhi : o < lo + n) (hAs : As.length = k) (hst : st1 = As.reverse ++ .ref (za θ o) :: st) (hcat : (st.map fun v => v.category).sum ≤ 8) (hr0 : rm.cells = 0) (hr1 : rm.slots = 0) (hR : rm.frames + 1 ≤ R.frames ∧ 8 + (nM + 11) + rm.locals ≤ R.locals)
    (g : WZ l cc nL ret own lo n θ R Q res.2 lv (pc + 3) ((mk θ res.1).toList ++ st)) : WZ l cc nL ret own lo n θ R Q σ lv pc st1 := by
  intro p e s m args below meth c H locs ls Z hP hS hl
  obtain ⟨⟨f1, f2, f3⟩, f4, f5⟩ := F
  have hts := Z.2.2.2.2.1
  have hcell : (zwd lo n θ σ)[o - lo]? = some (za θ o, .inr (ci, fs)) := by rw [zwd_at hlo hhi, zcell_obj hk he]
  refine z_run Z hS hl (va_runV (S := ⟨Z.1, Z.2.1, Z.2.2.1, Z.2.2.2.1, hts⟩) hM (C := y.cls) ⟨callB_of k hts (zgoodIn f1) rfl hr0 hr1 (hts _ f2) (hts _ hw) f3 hR, hts _ f4, hts _ f5⟩ ⟨zWB.blind, hq ▸ va_recv Z.2.2.2.2.2.2.2.1 hP hc hcell, fun U hU hW => ⟨rfl, z_pre Z hP hS U hU hW⟩⟩ rfl hAs hl.1 hst (lv_room hcat) d ⟨Nat.zero_le _, Nat.zero_le _⟩) g
theorem z_callS {α : Type} {mk : ZT → α → Option Value} {res : α × ZM} {y : MethodName} {b : ByteArray} {nM k index : Nat} {rt : Option FieldType} {rm : Room} {st1 As : List Value} (hM : zMet mk l lo n θ y b nM rt rm As σ res) (F : zcfS y b nM rt k) (hw : Cond.methodLink own index y ∈ zW0) (d : decode cc pc = .ok (.invokestatic index, 3))
    (hAs : As.length = k) (hst : st1 = As.reverse ++ st) (hcat : (st.map fun v => v.category).sum ≤ 8) (hr0 : rm.cells = 0) (hr1 : rm.slots = 0) (hR : rm.frames + 1 ≤ R.frames ∧ 8 + (nM + 11) + rm.locals ≤ R.locals)
    (g : WZ l cc nL ret own lo n θ R Q res.2 lv (pc + 3) ((mk θ res.1).toList ++ st)) : WZ l cc nL ret own lo n θ R Q σ lv pc st1 := by
  intro p e s m args below meth c H locs ls Z hP hS hl
  obtain ⟨⟨f1, f2, f3⟩, f4⟩ := F
  have hts := Z.2.2.2.2.1
  exact z_run Z hS hl (va_runS (S := ⟨Z.1, Z.2.1, Z.2.2.1, Z.2.2.2.1, hts⟩) hM ⟨callB_of k hts (zgoodIn f1) rfl hr0 hr1 (hts _ f2) (hts _ hw) f3 hR, hts _ f4⟩ ⟨zWB.blind, fun U hU hW => ⟨rfl, z_pre Z hP hS U hU hW⟩⟩ rfl hAs hl.1 hst (lv_room hcat) d ⟨Nat.zero_le _, Nat.zero_le _⟩) g
/-- BakedBefore.flag from a nest mate -/
theorem z_flag {res : Int32 × ZM} {b : ByteArray} {nM : Nat} {rt : Option FieldType} {rm : Room} {x : Int32} (hM : zMet mkI l lo n θ ⟨"BakedBefore", "flag", "(Z)I"⟩ b nM rt rm [.int x] σ res) (F : zcfS ⟨"BakedBefore", "flag", "(Z)I"⟩ b nM rt 1) (d : decode cc pc = .ok (.invokestatic 57, 3)) (ho : own = "BakedBefore$Aske\x72")
    (hcat : (st.map fun v => v.category).sum ≤ 8) (hr0 : rm.cells = 0) (hr1 : rm.slots = 0) (hR : rm.frames + 1 ≤ R.frames ∧ 8 + (nM + 11) + rm.locals ≤ R.locals)
    (g : WZ l cc nL ret own lo n θ R Q res.2 lv (pc + 3) (.int res.1 :: st)) : WZ l cc nL ret own lo n θ R Q σ lv pc (.int x :: st) := by
  subst ho
  intro p e s m args below meth c H locs ls Z hP hS hl
  obtain ⟨⟨f1, f2, f3⟩, f4⟩ := F
  have hts := Z.2.2.2.2.1
  exact z_run Z hS hl (va_runSN (S := ⟨Z.1, Z.2.1, Z.2.2.1, Z.2.2.2.1, hts⟩) hM ⟨va_cnB 1 hts (zgoodIn f1) rfl hr0 hr1 Z.2.2.2.2.2.2.2.2.2.1.2.2.1.2.2 (hts _ f2) f3 hR, hts _ f4, trivial⟩ ⟨zWB.blind, fun U hU hW => ⟨rfl, z_pre Z hP hS U hU hW⟩⟩ rfl rfl hl.1 rfl (lv_room hcat) d ⟨Nat.zero_le _, Nat.zero_le _⟩) g
theorem z_mmax {x y : Int32} {index : Nat} (d : decode cc pc = .ok (.invokestatic index, 3)) (hw : Cond.methodLink own index Lib.Math.max.name ∈ zW0) (hs : Cond.static Lib.Math.max.name ∈ zW0) (hi : Cond.initialized "java/lang/Math" ∈ zW0) (hc : Cond.code Lib.Math.max.name Lib.Math.max.code 2 (some .int) ∈ zW0) (hf : 1 ≤ R.frames) (hlc : (st.map fun v => v.category).sum + 13 ≤ R.locals)
    (g : WZ l cc nL ret own lo n θ R Q σ lv (pc + 3) (.int (if x < y then y else x) :: st)) : WZ l cc nL ret own lo n θ R Q σ lv pc (.int y :: .int x :: st) :=
  fun _ _ _ _ _ _ _ _ _ _ _ Z hP hS hl => va_mmax Z.1 Z.2.1 (Z.2.2.1.trans hl.1.symm) Z.2.2.2.1 (Z.2.2.2.2.1 _ hw) (Z.2.2.2.2.1 _ hs) (Z.2.2.2.2.1 _ hi) (Z.2.2.2.2.1 _ hc) hf hlc (Nat.zero_le _) (Nat.zero_le _) d (g _ _ _ _ _ _ _ _ _ _ _ Z hP hS hl)
theorem z_mmin {x y : Int32} {index : Nat} (d : decode cc pc = .ok (.invokestatic index, 3)) (hw : Cond.methodLink own index Lib.Math.min.name ∈ zW0) (hs : Cond.static Lib.Math.min.name ∈ zW0) (hi : Cond.initialized "java/lang/Math" ∈ zW0) (hc : Cond.code Lib.Math.min.name Lib.Math.min.code 2 (some .int) ∈ zW0) (hf : 1 ≤ R.frames) (hlc : (st.map fun v => v.category).sum + 13 ≤ R.locals)
    (g : WZ l cc nL ret own lo n θ R Q σ lv (pc + 3) (.int (if y < x then y else x) :: st)) : WZ l cc nL ret own lo n θ R Q σ lv pc (.int y :: .int x :: st) :=
  fun _ _ _ _ _ _ _ _ _ _ _ Z hP hS hl => va_mmin Z.1 Z.2.1 (Z.2.2.1.trans hl.1.symm) Z.2.2.2.1 (Z.2.2.2.2.1 _ hw) (Z.2.2.2.2.1 _ hs) (Z.2.2.2.2.1 _ hi) (Z.2.2.2.2.1 _ hc) hf hlc (Nat.zero_le _) (Nat.zero_le _) d (g _ _ _ _ _ _ _ _ _ _ _ Z hP hS hl)
theorem z_tableIn {dflt lw hi : Int} {offs : Array Int} {len : Nat} {x : Int32} {k : Int32} {off : Int} {tgt : Nat} (d : decode cc pc = .ok (.tableswitch dflt lw hi offs, len)) (hx : x = k) (h : ¬ k.toInt < lw ∧ ¬ hi < k.toInt ∧ offs[(k.toInt - lw).toNat]? = some off ∧ (pc : Int) + off = (tgt : Int))
    (g : WZ l cc nL ret own lo n θ R Q σ lv tgt st) : WZ l cc nL ret own lo n θ R Q σ lv pc (.int x :: st) :=
  fun _ _ _ _ _ _ _ _ _ _ _ Z hP hS hl => by subst hx; exact lv_tableIn Z.1 Z.2.1 d h.1 h.2.1 h.2.2.1 h.2.2.2 (g _ _ _ _ _ _ _ _ _ _ _ Z hP hS hl)
theorem z_tableOut {dflt lw hi : Int} {offs : Array Int} {len : Nat} {x : Int32} {tgt : Nat} (d : decode cc pc = .ok (.tableswitch dflt lw hi offs, len)) (h : x.toInt < lw ∨ hi < x.toInt) (ht : (pc : Int) + dflt = (tgt : Int))
    (g : WZ l cc nL ret own lo n θ R Q σ lv tgt st) : WZ l cc nL ret own lo n θ R Q σ lv pc (.int x :: st) :=
  fun _ _ _ _ _ _ _ _ _ _ _ Z hP hS hl => lv_tableOut Z.1 Z.2.1 d h ht (g _ _ _ _ _ _ _ _ _ _ _ Z hP hS hl)
theorem z_lookup {dflt : Int} {ps : Array (Int × Int)} {len : Nat} {x : Int32} {off : Int} {tgt : Nat} (d : decode cc pc = .ok (.lookupswitch dflt ps, len)) (hp : (ps.toList.zip (ps.toList.drop 1)).all (fun (a, next) => a.1 < next.1) = true) (ho : Op.lookupswitch.offset ps.toList dflt x.toInt = off) (ht : (pc : Int) + off = (tgt : Int))
    (g : WZ l cc nL ret own lo n θ R Q σ lv tgt st) : WZ l cc nL ret own lo n θ R Q σ lv pc (.int x :: st) :=
  fun _ _ _ _ _ _ _ _ _ _ _ Z hP hS hl => lv_lookup Z.1 Z.2.1 d hp ho ht (g _ _ _ _ _ _ _ _ _ _ _ Z hP hS hl)
theorem z_iushr {x y : Int32} {v : Int32} (d : decode cc pc = .ok (.iushr, 1)) (hv : (x.toUInt32 >>> (y.toUInt32 &&& 31)).toInt32 = v) (g : WZ l cc nL ret own lo n θ R Q σ lv (pc + 1) (.int v :: st)) : WZ l cc nL ret own lo n θ R Q σ lv pc (.int y :: .int x :: st) :=
  fun _ _ _ _ _ _ _ _ _ _ _ C hP hS hl => lv_iushr C.1 C.2.1 d hv (g _ _ _ _ _ _ _ _ _ _ _ C hP hS hl)
end CALLS
end
section
/-! fields: a rule for each that is read or written; references by the numbers of cells -/
def zR (lo n id kind len : Nat) : Bool := zkd id == kind && (zln id == len && (decide (lo ≤ id) && decide (id < lo + n)))
theorem zR_i {lo n id kind len : Nat} (h : zR lo n id kind len = true) : zkd id = kind ∧ zln id = len ∧ lo ≤ id ∧ id < lo + n := by
  simpa [zR] using h
theorem zR_k {lo n id kind len : Nat} (h : zR lo n id kind len = true) : zk id kind = true := by
  simp [zk, (zR_i h).1]
theorem zl_0 : zR 0 129 0 10 0 = true := by decide +kernel
theorem zl_1 : zR 0 129 1 20 0 = true := by decide +kernel
theorem zl_2 : zR 0 129 2 20 0 = true := by decide +kernel
theorem zl_3 : zR 0 129 3 18 0 = true := by decide +kernel
theorem zl_4 : zR 0 129 4 0 100 = true := by decide +kernel
theorem zl_5 : zR 0 129 5 13 0 = true := by decide +kernel
theorem zl_6 : zR 0 129 6 12 0 = true := by decide +kernel
theorem zl_7 : zR 0 129 7 19 0 = true := by decide +kernel
theorem zl_8 : zR 0 129 8 11 0 = true := by decide +kernel
theorem zl_9 : zR 0 129 9 0 20 = true := by decide +kernel
theorem zl_10 : zR 0 129 10 21 0 = true := by decide +kernel
theorem zl_11 : zR 0 129 11 6 6 = true := by decide +kernel
theorem zl_12 : zR 0 129 12 0 6 = true := by decide +kernel
theorem zl_13 : zR 0 129 13 0 6 = true := by decide +kernel
theorem zl_20 : zR 0 129 20 5 6 = true := by decide +kernel
theorem zl_21 : zR 0 129 21 0 64 = true := by decide +kernel
theorem zl_22 : zR 0 129 22 0 5 = true := by decide +kernel
theorem zl_23 : zR 0 129 23 0 5 = true := by decide +kernel
theorem zl_24 : zR 0 129 24 4 6 = true := by decide +kernel
theorem zl_25 : zR 0 129 25 3 6 = true := by decide +kernel
theorem zl_26 : zR 0 129 26 3 6 = true := by decide +kernel
theorem zl_27 : zR 0 129 27 14 0 = true := by decide +kernel
theorem zl_28 : zR 0 129 28 14 0 = true := by decide +kernel
theorem zl_29 : zR 0 129 29 0 12 = true := by decide +kernel
theorem zl_31 : zR 0 129 31 1 12 = true := by decide +kernel
theorem zl_33 : zR 0 129 33 17 0 = true := by decide +kernel
theorem zl_34 : zR 0 129 34 17 0 = true := by decide +kernel
theorem zl_35 : zR 0 129 35 17 0 = true := by decide +kernel
theorem zl_42 : zR 0 129 42 0 4 = true := by decide +kernel
theorem zl_44 : zR 0 129 44 0 4 = true := by decide +kernel
theorem zl_93 : zR 0 129 93 15 0 = true := by decide +kernel
theorem zl_129 : zR 129 14 129 22 0 = true := by decide +kernel
theorem zl_130 : zR 129 14 130 0 92 = true := by decide +kernel
theorem zl_131 : zR 129 14 131 0 92 = true := by decide +kernel
theorem zl_132 : zR 129 14 132 0 92 = true := by decide +kernel
theorem zl_133 : zR 129 14 133 0 100 = true := by decide +kernel
theorem zl_134 : zR 129 14 134 0 600 = true := by decide +kernel
theorem zl_135 : zR 129 14 135 0 6 = true := by decide +kernel
theorem zl_136 : zR 129 14 136 0 4 = true := by decide +kernel
theorem zl_137 : zR 129 14 137 0 6 = true := by decide +kernel
theorem zl_138 : zR 129 14 138 0 6 = true := by decide +kernel
theorem zl_139 : zR 129 14 139 0 6 = true := by decide +kernel
theorem zl_140 : zR 129 14 140 0 6 = true := by decide +kernel
theorem zl_141 : zR 129 14 141 2 360 = true := by decide +kernel
theorem zl_142 : zR 129 14 142 0 20 = true := by decide +kernel
theorem zr_Book_loaves {o : Nat} (h : zR 0 129 o 14 0 = true) : zR 0 129 (o + 2) 0 12 = true :=
  (by decide +kernel : ∀ o, o < 129 → zR 0 129 o 14 0 = true → zR 0 129 (o + 2) 0 12 = true) o (by have := (zR_i h).2.2.2; omega) h
theorem zr_Book_spoiled {o : Nat} (h : zR 0 129 o 14 0 = true) : zR 0 129 (o + 4) 1 12 = true :=
  (by decide +kernel : ∀ o, o < 129 → zR 0 129 o 14 0 = true → zR 0 129 (o + 4) 1 12 = true) o (by have := (zR_i h).2.2.2; omega) h
theorem zr_Kiln_words {o : Nat} (h : zR 0 129 o 15 0 = true) : zR 0 129 (o + 7) 0 10 = true :=
  (by decide +kernel : ∀ o, o < 129 → zR 0 129 o 15 0 = true → zR 0 129 (o + 7) 0 10 = true) o (by have := (zR_i h).2.2.2; omega) h
theorem zr_Kiln_numbers {o : Nat} (h : zR 0 129 o 15 0 = true) : zR 0 129 (o + 14) 0 10 = true :=
  (by decide +kernel : ∀ o, o < 129 → zR 0 129 o 15 0 = true → zR 0 129 (o + 14) 0 10 = true) o (by have := (zR_i h).2.2.2; omega) h
theorem zr_Kiln_ends {o : Nat} (h : zR 0 129 o 15 0 = true) : zR 0 129 (o + 21) 0 10 = true :=
  (by decide +kernel : ∀ o, o < 129 → zR 0 129 o 15 0 = true → zR 0 129 (o + 21) 0 10 = true) o (by have := (zR_i h).2.2.2; omega) h
theorem zr_Kiln_steps {o : Nat} (h : zR 0 129 o 15 0 = true) : zR 0 129 (o + 28) 0 100 = true :=
  (by decide +kernel : ∀ o, o < 129 → zR 0 129 o 15 0 = true → zR 0 129 (o + 28) 0 100 = true) o (by have := (zR_i h).2.2.2; omega) h
theorem zr_Kiln_letters {o : Nat} (h : zR 0 129 o 15 0 = true) : zR 0 129 (o + 35) 0 6 = true :=
  (by decide +kernel : ∀ o, o < 129 → zR 0 129 o 15 0 = true → zR 0 129 (o + 35) 0 6 = true) o (by have := (zR_i h).2.2.2; omega) h
theorem zr_Loaf_gives {o : Nat} (h : zR 0 129 o 16 0 = true) : zR 0 129 (o + 12) 0 4 = true :=
  (by decide +kernel : ∀ o, o < 129 → zR 0 129 o 16 0 = true → zR 0 129 (o + 12) 0 4 = true) o (by have := (zR_i h).2.2.2; omega) h
theorem zr_Loaf_bears {o : Nat} (h : zR 0 129 o 16 0 = true) : zR 0 129 (o + 24) 0 4 = true :=
  (by decide +kernel : ∀ o, o < 129 → zR 0 129 o 16 0 = true → zR 0 129 (o + 24) 0 4 = true) o (by have := (zR_i h).2.2.2; omega) h
theorem zr_Oven_held {o : Nat} (h : zR 0 129 o 17 0 = true) : zR 0 129 (o + 9) 0 4 = true :=
  (by decide +kernel : ∀ o, o < 129 → zR 0 129 o 17 0 = true → zR 0 129 (o + 9) 0 4 = true) o (by have := (zR_i h).2.2.2; omega) h
theorem zr_Stand_loaves {o : Nat} (h : zR 0 129 o 20 0 = true) : zR 0 129 (o + 24) 3 6 = true :=
  (by decide +kernel : ∀ o, o < 129 → zR 0 129 o 20 0 = true → zR 0 129 (o + 24) 3 6 = true) o (by have := (zR_i h).2.2.2; omega) h
theorem zr_Stand_oven {o : Nat} (h : zR 0 129 o 20 0 = true) : zR 0 129 (o + 32) 17 0 = true :=
  (by decide +kernel : ∀ o, o < 129 → zR 0 129 o 20 0 = true → zR 0 129 (o + 32) 17 0 = true) o (by have := (zR_i h).2.2.2; omega) h
theorem zr_Stand_book {o : Nat} (h : zR 0 129 o 20 0 = true) : zR 0 129 (o + 26) 14 0 = true :=
  (by decide +kernel : ∀ o, o < 129 → zR 0 129 o 20 0 = true → zR 0 129 (o + 26) 14 0 = true) o (by have := (zR_i h).2.2.2; omega) h
section FIELDS
variable {l : Launch} {cc : ByteArray} {nL : Nat} {ret : Option FieldType} {own : String} {lo n : Nat} {θ : ZT} {R : Room} {Q : Array Value → State → Outcome → State → Prop} {σ : ZM} {lv : List (Nat × Value)} {pc : Nat} {st : List Value}
theorem gf_BB_acts {o index : Nat} (hR : zR 0 129 o 10 0 = true) (d : decode cc pc = .ok (.getfield index, 3)) (hw : Cond.fieldLink own index "BakedBefore" "acts" "LBakedBefore$Acts;" ∈ zW0) (g : WZ l cc nL ret own 0 129 θ R Q σ lv (pc + 3) (.ref (za θ 8) :: st)) : WZ l cc nL ret own 0 129 θ R Q σ lv pc (.ref (za θ o) :: st) :=
  z_getG (ci := 0) (k := 8) (C := R_BB) (T := F_BB) (N := 12) d (zR_i hR).2.2.1 (zR_i hR).2.2.2 (zcell_obj (zR_k hR) rfl) rfl i_BB (by decide) rfl hw rfl g
theorem gf_BB_asker {o index : Nat} (hR : zR 0 129 o 10 0 = true) (d : decode cc pc = .ok (.getfield index, 3)) (hw : Cond.fieldLink own index "BakedBefore" "aske\x72" "LBakedBefore$Asker;" ∈ zW0) (g : WZ l cc nL ret own 0 129 θ R Q σ lv (pc + 3) (.ref (za θ 6) :: st)) : WZ l cc nL ret own 0 129 θ R Q σ lv pc (.ref (za θ o) :: st) :=
  z_getG (ci := 0) (k := 6) (C := R_BB) (T := F_BB) (N := 12) d (zR_i hR).2.2.1 (zR_i hR).2.2.2 (zcell_obj (zR_k hR) rfl) rfl i_BB (by decide) rfl hw rfl g
theorem gf_BB_baker {o index : Nat} (hR : zR 0 129 o 10 0 = true) (d : decode cc pc = .ok (.getfield index, 3)) (hw : Cond.fieldLink own index "BakedBefore" "bake\x72" "LBakedBefore$Baker;" ∈ zW0) (g : WZ l cc nL ret own 0 129 θ R Q σ lv (pc + 3) (.ref (za θ 5) :: st)) : WZ l cc nL ret own 0 129 θ R Q σ lv pc (.ref (za θ o) :: st) :=
  z_getG (ci := 0) (k := 5) (C := R_BB) (T := F_BB) (N := 12) d (zR_i hR).2.2.1 (zR_i hR).2.2.2 (zcell_obj (zR_k hR) rfl) rfl i_BB (by decide) rfl hw rfl g
theorem gf_BB_blank {o index : Nat} (hR : zR 0 129 o 10 0 = true) (d : decode cc pc = .ok (.getfield index, 3)) (hw : Cond.fieldLink own index "BakedBefore" "blank" "LBakedBefore$Kiln;" ∈ zW0) (g : WZ l cc nL ret own 0 129 θ R Q σ lv (pc + 3) (.ref (za θ 93) :: st)) : WZ l cc nL ret own 0 129 θ R Q σ lv pc (.ref (za θ o) :: st) :=
  z_getG (ci := 0) (k := 4) (C := R_BB) (T := F_BB) (N := 12) d (zR_i hR).2.2.1 (zR_i hR).2.2.2 (zcell_obj (zR_k hR) rfl) rfl i_BB (by decide) rfl hw rfl g
theorem gf_BB_imaged {o index : Nat} (hR : zR 0 129 o 10 0 = true) (d : decode cc pc = .ok (.getfield index, 3)) (hw : Cond.fieldLink own index "BakedBefore" "imaged" "Z" ∈ zW0) (g : WZ l cc nL ret own 0 129 θ R Q σ lv (pc + 3) (.int (zI σ o 11) :: st)) : WZ l cc nL ret own 0 129 θ R Q σ lv pc (.ref (za θ o) :: st) :=
  z_getG (ci := 0) (k := 11) (C := R_BB) (T := F_BB) (N := 12) d (zR_i hR).2.2.1 (zR_i hR).2.2.2 (zcell_obj (zR_k hR) rfl) rfl i_BB (by decide) rfl hw rfl g
theorem pf_BB_imaged {o index : Nat} {v : Int32} (hR : zR 0 129 o 10 0 = true) (hb : zbl v = true) (d : decode cc pc = .ok (.putfield index, 3)) (hw : Cond.fieldLink own index "BakedBefore" "imaged" "Z" ∈ zW0) (g : WZ l cc nL ret own 0 129 θ R Q (zsI σ o 11 v) lv (pc + 3) st) : WZ l cc nL ret own 0 129 θ R Q σ lv pc (.int v :: .ref (za θ o) :: st) :=
  z_putG (ci := 0) (k := 11) (C := R_BB) (T := F_BB) (N := 12) (ty := .boolean) (σ' := (zsI σ o 11 v)) d (zR_i hR).2.2.1 (zR_i hR).2.2.2 (zcell_obj (zR_k hR) rfl) rfl i_BB t_BB_ok n_BB (by decide) rfl hw rfl (by decide +kernel) (zbl_i hb) (by simp only [zbl, Bool.or_eq_true, beq_iff_eq] at hb; rcases hb with rfl | rfl <;> rfl) (Nat.le_of_ble_eq_true rfl) (zcell_obj (zR_k hR) (by rw [zsI_self]; rfl)) zcell_sI g
theorem gf_BB_kept {o index : Nat} (hR : zR 0 129 o 10 0 = true) (d : decode cc pc = .ok (.getfield index, 3)) (hw : Cond.fieldLink own index "BakedBefore" "kept" "LBakedBefore$Stand;" ∈ zW0) (g : WZ l cc nL ret own 0 129 θ R Q σ lv (pc + 3) (.ref (za θ 2) :: st)) : WZ l cc nL ret own 0 129 θ R Q σ lv pc (.ref (za θ o) :: st) :=
  z_getG (ci := 0) (k := 1) (C := R_BB) (T := F_BB) (N := 12) d (zR_i hR).2.2.1 (zR_i hR).2.2.2 (zcell_obj (zR_k hR) rfl) rfl i_BB (by decide) rfl hw rfl g
theorem gf_BB_kilnCount {o index : Nat} (hR : zR 0 129 o 10 0 = true) (d : decode cc pc = .ok (.getfield index, 3)) (hw : Cond.fieldLink own index "BakedBefore" "kilnCount" "I" ∈ zW0) (g : WZ l cc nL ret own 0 129 θ R Q σ lv (pc + 3) (.int (zI σ o 10) :: st)) : WZ l cc nL ret own 0 129 θ R Q σ lv pc (.ref (za θ o) :: st) :=
  z_getG (ci := 0) (k := 10) (C := R_BB) (T := F_BB) (N := 12) d (zR_i hR).2.2.1 (zR_i hR).2.2.2 (zcell_obj (zR_k hR) rfl) rfl i_BB (by decide) rfl hw rfl g
theorem pf_BB_kilnCount {o index : Nat} {v : Int32} (hR : zR 0 129 o 10 0 = true) (d : decode cc pc = .ok (.putfield index, 3)) (hw : Cond.fieldLink own index "BakedBefore" "kilnCount" "I" ∈ zW0) (g : WZ l cc nL ret own 0 129 θ R Q (zsI σ o 10 v) lv (pc + 3) st) : WZ l cc nL ret own 0 129 θ R Q σ lv pc (.int v :: .ref (za θ o) :: st) :=
  z_putG (ci := 0) (k := 10) (C := R_BB) (T := F_BB) (N := 12) (ty := .int) (σ' := (zsI σ o 10 v)) d (zR_i hR).2.2.1 (zR_i hR).2.2.2 (zcell_obj (zR_k hR) rfl) rfl i_BB t_BB_ok n_BB (by decide) rfl hw rfl (by decide +kernel) rfl rfl (Nat.le_of_ble_eq_true rfl) (zcell_obj (zR_k hR) (by rw [zsI_self]; rfl)) zcell_sI g
theorem gf_BB_kilns {o index : Nat} (hR : zR 0 129 o 10 0 = true) (d : decode cc pc = .ok (.getfield index, 3)) (hw : Cond.fieldLink own index "BakedBefore" "kilns" "[LBakedBefore$Kiln;" ∈ zW0) (g : WZ l cc nL ret own 0 129 θ R Q σ lv (pc + 3) (.ref (za θ 20) :: st)) : WZ l cc nL ret own 0 129 θ R Q σ lv pc (.ref (za θ o) :: st) :=
  z_getG (ci := 0) (k := 3) (C := R_BB) (T := F_BB) (N := 12) d (zR_i hR).2.2.1 (zR_i hR).2.2.2 (zcell_obj (zR_k hR) rfl) rfl i_BB (by decide) rfl hw rfl g
theorem gf_BB_now {o index : Nat} (hR : zR 0 129 o 10 0 = true) (d : decode cc pc = .ok (.getfield index, 3)) (hw : Cond.fieldLink own index "BakedBefore" "now" "LBakedBefore$Stand;" ∈ zW0) (g : WZ l cc nL ret own 0 129 θ R Q σ lv (pc + 3) (.ref (za θ 1) :: st)) : WZ l cc nL ret own 0 129 θ R Q σ lv pc (.ref (za θ o) :: st) :=
  z_getG (ci := 0) (k := 0) (C := R_BB) (T := F_BB) (N := 12) d (zR_i hR).2.2.1 (zR_i hR).2.2.2 (zcell_obj (zR_k hR) rfl) rfl i_BB (by decide) rfl hw rfl g
theorem gf_BB_reader {o index : Nat} (hR : zR 0 129 o 10 0 = true) (d : decode cc pc = .ok (.getfield index, 3)) (hw : Cond.fieldLink own index "BakedBefore" "reade\x72" "LBakedBefore$Reader;" ∈ zW0) (g : WZ l cc nL ret own 0 129 θ R Q σ lv (pc + 3) (.ref (za θ 3) :: st)) : WZ l cc nL ret own 0 129 θ R Q σ lv pc (.ref (za θ o) :: st) :=
  z_getG (ci := 0) (k := 2) (C := R_BB) (T := F_BB) (N := 12) d (zR_i hR).2.2.1 (zR_i hR).2.2.2 (zcell_obj (zR_k hR) rfl) rfl i_BB (by decide) rfl hw rfl g
theorem gf_BB_search {o index : Nat} (hR : zR 0 129 o 10 0 = true) (d : decode cc pc = .ok (.getfield index, 3)) (hw : Cond.fieldLink own index "BakedBefore" "search" "LBakedBefore$Search;" ∈ zW0) (g : WZ l cc nL ret own 0 129 θ R Q σ lv (pc + 3) (.ref (za θ 7) :: st)) : WZ l cc nL ret own 0 129 θ R Q σ lv pc (.ref (za θ o) :: st) :=
  z_getG (ci := 0) (k := 7) (C := R_BB) (T := F_BB) (N := 12) d (zR_i hR).2.2.1 (zR_i hR).2.2.2 (zcell_obj (zR_k hR) rfl) rfl i_BB (by decide) rfl hw rfl g
theorem gf_BB_tapes {o index : Nat} (hR : zR 0 129 o 10 0 = true) (d : decode cc pc = .ok (.getfield index, 3)) (hw : Cond.fieldLink own index "BakedBefore" "tapes" "LBakedBefore$Tapes;" ∈ zW0) (g : WZ l cc nL ret own 0 129 θ R Q σ lv (pc + 3) (.ref (za θ 10) :: st)) : WZ l cc nL ret own 0 129 θ R Q σ lv pc (.ref (za θ o) :: st) :=
  z_getG (ci := 0) (k := 9) (C := R_BB) (T := F_BB) (N := 12) d (zR_i hR).2.2.1 (zR_i hR).2.2.2 (zcell_obj (zR_k hR) rfl) rfl i_BB (by decide) rfl hw rfl g
theorem gf_Acts_bodies {o index : Nat} (hR : zR 0 129 o 11 0 = true) (d : decode cc pc = .ok (.getfield index, 3)) (hw : Cond.fieldLink own index "BakedBefore$Acts" "bodies" "[I" ∈ zW0) (g : WZ l cc nL ret own 0 129 θ R Q σ lv (pc + 3) (.ref (za θ 9) :: st)) : WZ l cc nL ret own 0 129 θ R Q σ lv pc (.ref (za θ o) :: st) :=
  z_getG (ci := 1) (k := 0) (C := R_Acts) (T := F_Acts) (N := 2) d (zR_i hR).2.2.1 (zR_i hR).2.2.2 (zcell_obj (zR_k hR) rfl) rfl i_Acts (by decide) rfl hw rfl g
theorem gf_Acts_ran {o index : Nat} (hR : zR 0 129 o 11 0 = true) (d : decode cc pc = .ok (.getfield index, 3)) (hw : Cond.fieldLink own index "BakedBefore$Acts" "ran" "I" ∈ zW0) (g : WZ l cc nL ret own 0 129 θ R Q σ lv (pc + 3) (.int (zI σ o 1) :: st)) : WZ l cc nL ret own 0 129 θ R Q σ lv pc (.ref (za θ o) :: st) :=
  z_getG (ci := 1) (k := 1) (C := R_Acts) (T := F_Acts) (N := 2) d (zR_i hR).2.2.1 (zR_i hR).2.2.2 (zcell_obj (zR_k hR) rfl) rfl i_Acts (by decide) rfl hw rfl g
theorem pf_Acts_ran {o index : Nat} {v : Int32} (hR : zR 0 129 o 11 0 = true) (d : decode cc pc = .ok (.putfield index, 3)) (hw : Cond.fieldLink own index "BakedBefore$Acts" "ran" "I" ∈ zW0) (g : WZ l cc nL ret own 0 129 θ R Q (zsI σ o 1 v) lv (pc + 3) st) : WZ l cc nL ret own 0 129 θ R Q σ lv pc (.int v :: .ref (za θ o) :: st) :=
  z_putG (ci := 1) (k := 1) (C := R_Acts) (T := F_Acts) (N := 2) (ty := .int) (σ' := (zsI σ o 1 v)) d (zR_i hR).2.2.1 (zR_i hR).2.2.2 (zcell_obj (zR_k hR) rfl) rfl i_Acts t_Acts_ok n_Acts (by decide) rfl hw rfl (by decide +kernel) rfl rfl (Nat.le_of_ble_eq_true rfl) (zcell_obj (zR_k hR) (by rw [zsI_self]; rfl)) zcell_sI g
theorem gf_Asker_baker {o index : Nat} (hR : zR 0 129 o 12 0 = true) (d : decode cc pc = .ok (.getfield index, 3)) (hw : Cond.fieldLink own index "BakedBefore$Aske\x72" "bake\x72" "LBakedBefore$Baker;" ∈ zW0) (g : WZ l cc nL ret own 0 129 θ R Q σ lv (pc + 3) (.ref (za θ 5) :: st)) : WZ l cc nL ret own 0 129 θ R Q σ lv pc (.ref (za θ o) :: st) :=
  z_getG (ci := 2) (k := 1) (C := R_Asker) (T := F_Asker) (N := 4) d (zR_i hR).2.2.1 (zR_i hR).2.2.2 (zcell_obj (zR_k hR) rfl) rfl i_Asker (by decide) rfl hw rfl g
theorem gf_Asker_now {o index : Nat} (hR : zR 0 129 o 12 0 = true) (d : decode cc pc = .ok (.getfield index, 3)) (hw : Cond.fieldLink own index "BakedBefore$Aske\x72" "now" "LBakedBefore$Stand;" ∈ zW0) (g : WZ l cc nL ret own 0 129 θ R Q σ lv (pc + 3) (.ref (za θ 1) :: st)) : WZ l cc nL ret own 0 129 θ R Q σ lv pc (.ref (za θ o) :: st) :=
  z_getG (ci := 2) (k := 0) (C := R_Asker) (T := F_Asker) (N := 4) d (zR_i hR).2.2.1 (zR_i hR).2.2.2 (zcell_obj (zR_k hR) rfl) rfl i_Asker (by decide) rfl hw rfl g
theorem gf_Asker_spoiledOf {o index : Nat} (hR : zR 0 129 o 12 0 = true) (d : decode cc pc = .ok (.getfield index, 3)) (hw : Cond.fieldLink own index "BakedBefore$Aske\x72" "spoiledOf" "[I" ∈ zW0) (g : WZ l cc nL ret own 0 129 θ R Q σ lv (pc + 3) (.ref (za θ 21) :: st)) : WZ l cc nL ret own 0 129 θ R Q σ lv pc (.ref (za θ o) :: st) :=
  z_getG (ci := 2) (k := 3) (C := R_Asker) (T := F_Asker) (N := 4) d (zR_i hR).2.2.1 (zR_i hR).2.2.2 (zcell_obj (zR_k hR) rfl) rfl i_Asker (by decide) rfl hw rfl g
theorem gf_Asker_trial {o index : Nat} (hR : zR 0 129 o 12 0 = true) (d : decode cc pc = .ok (.getfield index, 3)) (hw : Cond.fieldLink own index "BakedBefore$Aske\x72" "trial" "LBakedBefore$Oven;" ∈ zW0) (g : WZ l cc nL ret own 0 129 θ R Q σ lv (pc + 3) (.ref (za θ 35) :: st)) : WZ l cc nL ret own 0 129 θ R Q σ lv pc (.ref (za θ o) :: st) :=
  z_getG (ci := 2) (k := 2) (C := R_Asker) (T := F_Asker) (N := 4) d (zR_i hR).2.2.1 (zR_i hR).2.2.2 (zcell_obj (zR_k hR) rfl) rfl i_Asker (by decide) rfl hw rfl g
theorem gf_Baker_kiln {o index : Nat} (hR : zR 0 129 o 13 0 = true) (hp : zR 0 129 (zP σ o 0) 15 0 = true) (d : decode cc pc = .ok (.getfield index, 3)) (hw : Cond.fieldLink own index "BakedBefore$Bake\x72" "kiln" "LBakedBefore$Kiln;" ∈ zW0) (g : WZ l cc nL ret own 0 129 θ R Q σ lv (pc + 3) (.ref (za θ (zP σ o 0)) :: st)) : WZ l cc nL ret own 0 129 θ R Q σ lv pc (.ref (za θ o) :: st) :=
  z_getG (ci := 3) (k := 0) (C := R_Baker) (T := F_Baker) (N := 1) d (zR_i hR).2.2.1 (zR_i hR).2.2.2 (zcell_obj (zR_k hR) rfl) rfl i_Baker (by decide) rfl hw (by show some (zrf θ (zP σ o 0)) = _; rw [zrf, if_neg (by have := (zR_i hp).2.2.2; omega)]) g
theorem pf_Baker_kiln {o index : Nat} {v : Nat} (hR : zR 0 129 o 13 0 = true) (hb : zR 0 129 v 15 0 = true) (d : decode cc pc = .ok (.putfield index, 3)) (hw : Cond.fieldLink own index "BakedBefore$Bake\x72" "kiln" "LBakedBefore$Kiln;" ∈ zW0) (g : WZ l cc nL ret own 0 129 θ R Q (zsP σ o 0 v) lv (pc + 3) st) : WZ l cc nL ret own 0 129 θ R Q σ lv pc (.ref (za θ v) :: .ref (za θ o) :: st) :=
  z_putG (ci := 3) (k := 0) (C := R_Baker) (T := F_Baker) (N := 1) (ty := (.object "BakedBefore$Kiln")) (σ' := (zsP σ o 0 v)) d (zR_i hR).2.2.1 (zR_i hR).2.2.2 (zcell_obj (zR_k hR) rfl) rfl i_Baker t_Baker_ok n_Baker (by decide) rfl hw rfl (by decide +kernel) rfl rfl (Nat.le_of_ble_eq_true rfl) (zcell_obj (zR_k hR) (by have e : (zsP σ o 0 v).2.2 o = va_up (σ.2.2 o) 0 v := if_pos rfl; have e2 : zrf θ (va_up (σ.2.2 o) 0 v 0) = .ref (za θ v) := by {rw [va_up_self, zrf, if_neg (by have := (zR_i hb).2.2.2; omega)]}; rw [e]; show Sum.inr (_, [zrf θ (va_up (σ.2.2 o) 0 v 0)]) = _; rw [e2]; rfl)) zcell_sP g
theorem gf_Book_loaves {o index : Nat} (hR : zR 0 129 o 14 0 = true) {o2 : Nat} (ho : o + 2 = o2) (d : decode cc pc = .ok (.getfield index, 3)) (hw : Cond.fieldLink own index "BakedBefore$Book" "loaves" "[I" ∈ zW0) (g : WZ l cc nL ret own 0 129 θ R Q σ lv (pc + 3) (.ref (za θ o2) :: st)) : WZ l cc nL ret own 0 129 θ R Q σ lv pc (.ref (za θ o) :: st) :=
  z_getG (ci := 4) (k := 0) (C := R_Book) (T := F_Book) (N := 3) d (zR_i hR).2.2.1 (zR_i hR).2.2.2 (zcell_obj (zR_k hR) rfl) rfl i_Book (by decide) rfl hw (by subst ho; rfl) g
theorem gf_Book_rows {o index : Nat} (hR : zR 0 129 o 14 0 = true) (d : decode cc pc = .ok (.getfield index, 3)) (hw : Cond.fieldLink own index "BakedBefore$Book" "rows" "I" ∈ zW0) (g : WZ l cc nL ret own 0 129 θ R Q σ lv (pc + 3) (.int (zI σ o 2) :: st)) : WZ l cc nL ret own 0 129 θ R Q σ lv pc (.ref (za θ o) :: st) :=
  z_getG (ci := 4) (k := 2) (C := R_Book) (T := F_Book) (N := 3) d (zR_i hR).2.2.1 (zR_i hR).2.2.2 (zcell_obj (zR_k hR) rfl) rfl i_Book (by decide) rfl hw rfl g
theorem pf_Book_rows {o index : Nat} {v : Int32} (hR : zR 0 129 o 14 0 = true) (d : decode cc pc = .ok (.putfield index, 3)) (hw : Cond.fieldLink own index "BakedBefore$Book" "rows" "I" ∈ zW0) (g : WZ l cc nL ret own 0 129 θ R Q (zsI σ o 2 v) lv (pc + 3) st) : WZ l cc nL ret own 0 129 θ R Q σ lv pc (.int v :: .ref (za θ o) :: st) :=
  z_putG (ci := 4) (k := 2) (C := R_Book) (T := F_Book) (N := 3) (ty := .int) (σ' := (zsI σ o 2 v)) d (zR_i hR).2.2.1 (zR_i hR).2.2.2 (zcell_obj (zR_k hR) rfl) rfl i_Book t_Book_ok n_Book (by decide) rfl hw rfl (by decide +kernel) rfl rfl (Nat.le_of_ble_eq_true rfl) (zcell_obj (zR_k hR) (by rw [zsI_self]; rfl)) zcell_sI g
theorem gf_Book_spoiled {o index : Nat} (hR : zR 0 129 o 14 0 = true) {o2 : Nat} (ho : o + 4 = o2) (d : decode cc pc = .ok (.getfield index, 3)) (hw : Cond.fieldLink own index "BakedBefore$Book" "spoiled" "[Z" ∈ zW0) (g : WZ l cc nL ret own 0 129 θ R Q σ lv (pc + 3) (.ref (za θ o2) :: st)) : WZ l cc nL ret own 0 129 θ R Q σ lv pc (.ref (za θ o) :: st) :=
  z_getG (ci := 4) (k := 1) (C := R_Book) (T := F_Book) (N := 3) d (zR_i hR).2.2.1 (zR_i hR).2.2.2 (zcell_obj (zR_k hR) rfl) rfl i_Book (by decide) rfl hw (by subst ho; rfl) g
theorem gf_Kiln_clauses {o index : Nat} (hR : zR 0 129 o 15 0 = true) (d : decode cc pc = .ok (.getfield index, 3)) (hw : Cond.fieldLink own index "BakedBefore$Kiln" "clauses" "I" ∈ zW0) (g : WZ l cc nL ret own 0 129 θ R Q σ lv (pc + 3) (.int (zI σ o 5) :: st)) : WZ l cc nL ret own 0 129 θ R Q σ lv pc (.ref (za θ o) :: st) :=
  z_getG (ci := 5) (k := 5) (C := R_Kiln) (T := F_Kiln) (N := 9) d (zR_i hR).2.2.1 (zR_i hR).2.2.2 (zcell_obj (zR_k hR) rfl) rfl i_Kiln (by decide) rfl hw rfl g
theorem pf_Kiln_clauses {o index : Nat} {v : Int32} (hR : zR 0 129 o 15 0 = true) (d : decode cc pc = .ok (.putfield index, 3)) (hw : Cond.fieldLink own index "BakedBefore$Kiln" "clauses" "I" ∈ zW0) (g : WZ l cc nL ret own 0 129 θ R Q (zsI σ o 5 v) lv (pc + 3) st) : WZ l cc nL ret own 0 129 θ R Q σ lv pc (.int v :: .ref (za θ o) :: st) :=
  z_putG (ci := 5) (k := 5) (C := R_Kiln) (T := F_Kiln) (N := 9) (ty := .int) (σ' := (zsI σ o 5 v)) d (zR_i hR).2.2.1 (zR_i hR).2.2.2 (zcell_obj (zR_k hR) rfl) rfl i_Kiln t_Kiln_ok n_Kiln (by decide) rfl hw rfl (by decide +kernel) rfl rfl (Nat.le_of_ble_eq_true rfl) (zcell_obj (zR_k hR) (by rw [zsI_self]; rfl)) zcell_sI g
theorem gf_Kiln_coldPart {o index : Nat} (hR : zR 0 129 o 15 0 = true) (d : decode cc pc = .ok (.getfield index, 3)) (hw : Cond.fieldLink own index "BakedBefore$Kiln" "coldPart" "I" ∈ zW0) (g : WZ l cc nL ret own 0 129 θ R Q σ lv (pc + 3) (.int (zI σ o 8) :: st)) : WZ l cc nL ret own 0 129 θ R Q σ lv pc (.ref (za θ o) :: st) :=
  z_getG (ci := 5) (k := 8) (C := R_Kiln) (T := F_Kiln) (N := 9) d (zR_i hR).2.2.1 (zR_i hR).2.2.2 (zcell_obj (zR_k hR) rfl) rfl i_Kiln (by decide) rfl hw rfl g
theorem pf_Kiln_coldPart {o index : Nat} {v : Int32} (hR : zR 0 129 o 15 0 = true) (d : decode cc pc = .ok (.putfield index, 3)) (hw : Cond.fieldLink own index "BakedBefore$Kiln" "coldPart" "I" ∈ zW0) (g : WZ l cc nL ret own 0 129 θ R Q (zsI σ o 8 v) lv (pc + 3) st) : WZ l cc nL ret own 0 129 θ R Q σ lv pc (.int v :: .ref (za θ o) :: st) :=
  z_putG (ci := 5) (k := 8) (C := R_Kiln) (T := F_Kiln) (N := 9) (ty := .int) (σ' := (zsI σ o 8 v)) d (zR_i hR).2.2.1 (zR_i hR).2.2.2 (zcell_obj (zR_k hR) rfl) rfl i_Kiln t_Kiln_ok n_Kiln (by decide) rfl hw rfl (by decide +kernel) rfl rfl (Nat.le_of_ble_eq_true rfl) (zcell_obj (zR_k hR) (by rw [zsI_self]; rfl)) zcell_sI g
theorem gf_Kiln_ends {o index : Nat} (hR : zR 0 129 o 15 0 = true) {o2 : Nat} (ho : o + 21 = o2) (d : decode cc pc = .ok (.getfield index, 3)) (hw : Cond.fieldLink own index "BakedBefore$Kiln" "ends" "[I" ∈ zW0) (g : WZ l cc nL ret own 0 129 θ R Q σ lv (pc + 3) (.ref (za θ o2) :: st)) : WZ l cc nL ret own 0 129 θ R Q σ lv pc (.ref (za θ o) :: st) :=
  z_getG (ci := 5) (k := 2) (C := R_Kiln) (T := F_Kiln) (N := 9) d (zR_i hR).2.2.1 (zR_i hR).2.2.2 (zcell_obj (zR_k hR) rfl) rfl i_Kiln (by decide) rfl hw (by subst ho; rfl) g
theorem gf_Kiln_letters {o index : Nat} (hR : zR 0 129 o 15 0 = true) {o2 : Nat} (ho : o + 35 = o2) (d : decode cc pc = .ok (.getfield index, 3)) (hw : Cond.fieldLink own index "BakedBefore$Kiln" "letters" "[I" ∈ zW0) (g : WZ l cc nL ret own 0 129 θ R Q σ lv (pc + 3) (.ref (za θ o2) :: st)) : WZ l cc nL ret own 0 129 θ R Q σ lv pc (.ref (za θ o) :: st) :=
  z_getG (ci := 5) (k := 4) (C := R_Kiln) (T := F_Kiln) (N := 9) d (zR_i hR).2.2.1 (zR_i hR).2.2.2 (zcell_obj (zR_k hR) rfl) rfl i_Kiln (by decide) rfl hw (by subst ho; rfl) g
theorem gf_Kiln_numbers {o index : Nat} (hR : zR 0 129 o 15 0 = true) {o2 : Nat} (ho : o + 14 = o2) (d : decode cc pc = .ok (.getfield index, 3)) (hw : Cond.fieldLink own index "BakedBefore$Kiln" "numbers" "[I" ∈ zW0) (g : WZ l cc nL ret own 0 129 θ R Q σ lv (pc + 3) (.ref (za θ o2) :: st)) : WZ l cc nL ret own 0 129 θ R Q σ lv pc (.ref (za θ o) :: st) :=
  z_getG (ci := 5) (k := 1) (C := R_Kiln) (T := F_Kiln) (N := 9) d (zR_i hR).2.2.1 (zR_i hR).2.2.2 (zcell_obj (zR_k hR) rfl) rfl i_Kiln (by decide) rfl hw (by subst ho; rfl) g
theorem gf_Kiln_stepCount {o index : Nat} (hR : zR 0 129 o 15 0 = true) (d : decode cc pc = .ok (.getfield index, 3)) (hw : Cond.fieldLink own index "BakedBefore$Kiln" "stepCount" "I" ∈ zW0) (g : WZ l cc nL ret own 0 129 θ R Q σ lv (pc + 3) (.int (zI σ o 6) :: st)) : WZ l cc nL ret own 0 129 θ R Q σ lv pc (.ref (za θ o) :: st) :=
  z_getG (ci := 5) (k := 6) (C := R_Kiln) (T := F_Kiln) (N := 9) d (zR_i hR).2.2.1 (zR_i hR).2.2.2 (zcell_obj (zR_k hR) rfl) rfl i_Kiln (by decide) rfl hw rfl g
theorem pf_Kiln_stepCount {o index : Nat} {v : Int32} (hR : zR 0 129 o 15 0 = true) (d : decode cc pc = .ok (.putfield index, 3)) (hw : Cond.fieldLink own index "BakedBefore$Kiln" "stepCount" "I" ∈ zW0) (g : WZ l cc nL ret own 0 129 θ R Q (zsI σ o 6 v) lv (pc + 3) st) : WZ l cc nL ret own 0 129 θ R Q σ lv pc (.int v :: .ref (za θ o) :: st) :=
  z_putG (ci := 5) (k := 6) (C := R_Kiln) (T := F_Kiln) (N := 9) (ty := .int) (σ' := (zsI σ o 6 v)) d (zR_i hR).2.2.1 (zR_i hR).2.2.2 (zcell_obj (zR_k hR) rfl) rfl i_Kiln t_Kiln_ok n_Kiln (by decide) rfl hw rfl (by decide +kernel) rfl rfl (Nat.le_of_ble_eq_true rfl) (zcell_obj (zR_k hR) (by rw [zsI_self]; rfl)) zcell_sI g
theorem gf_Kiln_steps {o index : Nat} (hR : zR 0 129 o 15 0 = true) {o2 : Nat} (ho : o + 28 = o2) (d : decode cc pc = .ok (.getfield index, 3)) (hw : Cond.fieldLink own index "BakedBefore$Kiln" "steps" "[I" ∈ zW0) (g : WZ l cc nL ret own 0 129 θ R Q σ lv (pc + 3) (.ref (za θ o2) :: st)) : WZ l cc nL ret own 0 129 θ R Q σ lv pc (.ref (za θ o) :: st) :=
  z_getG (ci := 5) (k := 3) (C := R_Kiln) (T := F_Kiln) (N := 9) d (zR_i hR).2.2.1 (zR_i hR).2.2.2 (zcell_obj (zR_k hR) rfl) rfl i_Kiln (by decide) rfl hw (by subst ho; rfl) g
theorem gf_Kiln_takeClauses {o index : Nat} (hR : zR 0 129 o 15 0 = true) (d : decode cc pc = .ok (.getfield index, 3)) (hw : Cond.fieldLink own index "BakedBefore$Kiln" "takeClauses" "I" ∈ zW0) (g : WZ l cc nL ret own 0 129 θ R Q σ lv (pc + 3) (.int (zI σ o 7) :: st)) : WZ l cc nL ret own 0 129 θ R Q σ lv pc (.ref (za θ o) :: st) :=
  z_getG (ci := 5) (k := 7) (C := R_Kiln) (T := F_Kiln) (N := 9) d (zR_i hR).2.2.1 (zR_i hR).2.2.2 (zcell_obj (zR_k hR) rfl) rfl i_Kiln (by decide) rfl hw rfl g
theorem pf_Kiln_takeClauses {o index : Nat} {v : Int32} (hR : zR 0 129 o 15 0 = true) (d : decode cc pc = .ok (.putfield index, 3)) (hw : Cond.fieldLink own index "BakedBefore$Kiln" "takeClauses" "I" ∈ zW0) (g : WZ l cc nL ret own 0 129 θ R Q (zsI σ o 7 v) lv (pc + 3) st) : WZ l cc nL ret own 0 129 θ R Q σ lv pc (.int v :: .ref (za θ o) :: st) :=
  z_putG (ci := 5) (k := 7) (C := R_Kiln) (T := F_Kiln) (N := 9) (ty := .int) (σ' := (zsI σ o 7 v)) d (zR_i hR).2.2.1 (zR_i hR).2.2.2 (zcell_obj (zR_k hR) rfl) rfl i_Kiln t_Kiln_ok n_Kiln (by decide) rfl hw rfl (by decide +kernel) rfl rfl (Nat.le_of_ble_eq_true rfl) (zcell_obj (zR_k hR) (by rw [zsI_self]; rfl)) zcell_sI g
theorem gf_Kiln_words {o index : Nat} (hR : zR 0 129 o 15 0 = true) {o2 : Nat} (ho : o + 7 = o2) (d : decode cc pc = .ok (.getfield index, 3)) (hw : Cond.fieldLink own index "BakedBefore$Kiln" "words" "[I" ∈ zW0) (g : WZ l cc nL ret own 0 129 θ R Q σ lv (pc + 3) (.ref (za θ o2) :: st)) : WZ l cc nL ret own 0 129 θ R Q σ lv pc (.ref (za θ o) :: st) :=
  z_getG (ci := 5) (k := 0) (C := R_Kiln) (T := F_Kiln) (N := 9) d (zR_i hR).2.2.1 (zR_i hR).2.2.2 (zcell_obj (zR_k hR) rfl) rfl i_Kiln (by decide) rfl hw (by subst ho; rfl) g
theorem gf_Loaf_bears {o index : Nat} (hR : zR 0 129 o 16 0 = true) {o2 : Nat} (ho : o + 24 = o2) (d : decode cc pc = .ok (.getfield index, 3)) (hw : Cond.fieldLink own index "BakedBefore$Loaf" "bears" "[I" ∈ zW0) (g : WZ l cc nL ret own 0 129 θ R Q σ lv (pc + 3) (.ref (za θ o2) :: st)) : WZ l cc nL ret own 0 129 θ R Q σ lv pc (.ref (za θ o) :: st) :=
  z_getG (ci := 6) (k := 2) (C := R_Loaf) (T := F_Loaf) (N := 5) d (zR_i hR).2.2.1 (zR_i hR).2.2.2 (zcell_obj (zR_k hR) rfl) rfl i_Loaf (by decide) rfl hw (by subst ho; rfl) g
theorem gf_Loaf_gives {o index : Nat} (hR : zR 0 129 o 16 0 = true) {o2 : Nat} (ho : o + 12 = o2) (d : decode cc pc = .ok (.getfield index, 3)) (hw : Cond.fieldLink own index "BakedBefore$Loaf" "gives" "[I" ∈ zW0) (g : WZ l cc nL ret own 0 129 θ R Q σ lv (pc + 3) (.ref (za θ o2) :: st)) : WZ l cc nL ret own 0 129 θ R Q σ lv pc (.ref (za θ o) :: st) :=
  z_getG (ci := 6) (k := 1) (C := R_Loaf) (T := F_Loaf) (N := 5) d (zR_i hR).2.2.1 (zR_i hR).2.2.2 (zcell_obj (zR_k hR) rfl) rfl i_Loaf (by decide) rfl hw (by subst ho; rfl) g
theorem gf_Loaf_kind {o index : Nat} (hR : zR 0 129 o 16 0 = true) (d : decode cc pc = .ok (.getfield index, 3)) (hw : Cond.fieldLink own index "BakedBefore$Loaf" "kind" "I" ∈ zW0) (g : WZ l cc nL ret own 0 129 θ R Q σ lv (pc + 3) (.int (zI σ o 3) :: st)) : WZ l cc nL ret own 0 129 θ R Q σ lv pc (.ref (za θ o) :: st) :=
  z_getG (ci := 6) (k := 3) (C := R_Loaf) (T := F_Loaf) (N := 5) d (zR_i hR).2.2.1 (zR_i hR).2.2.2 (zcell_obj (zR_k hR) rfl) rfl i_Loaf (by decide) rfl hw rfl g
theorem pf_Loaf_kind {o index : Nat} {v : Int32} (hR : zR 0 129 o 16 0 = true) (d : decode cc pc = .ok (.putfield index, 3)) (hw : Cond.fieldLink own index "BakedBefore$Loaf" "kind" "I" ∈ zW0) (g : WZ l cc nL ret own 0 129 θ R Q (zsI σ o 3 v) lv (pc + 3) st) : WZ l cc nL ret own 0 129 θ R Q σ lv pc (.int v :: .ref (za θ o) :: st) :=
  z_putG (ci := 6) (k := 3) (C := R_Loaf) (T := F_Loaf) (N := 5) (ty := .int) (σ' := (zsI σ o 3 v)) d (zR_i hR).2.2.1 (zR_i hR).2.2.2 (zcell_obj (zR_k hR) rfl) rfl i_Loaf t_Loaf_ok n_Loaf (by decide) rfl hw rfl (by decide +kernel) rfl rfl (Nat.le_of_ble_eq_true rfl) (zcell_obj (zR_k hR) (by rw [zsI_self]; rfl)) zcell_sI g
theorem gf_Loaf_number {o index : Nat} (hR : zR 0 129 o 16 0 = true) (d : decode cc pc = .ok (.getfield index, 3)) (hw : Cond.fieldLink own index "BakedBefore$Loaf" "numbe\x72" "I" ∈ zW0) (g : WZ l cc nL ret own 0 129 θ R Q σ lv (pc + 3) (.int (zI σ o 0) :: st)) : WZ l cc nL ret own 0 129 θ R Q σ lv pc (.ref (za θ o) :: st) :=
  z_getG (ci := 6) (k := 0) (C := R_Loaf) (T := F_Loaf) (N := 5) d (zR_i hR).2.2.1 (zR_i hR).2.2.2 (zcell_obj (zR_k hR) rfl) rfl i_Loaf (by decide) rfl hw rfl g
theorem gf_Loaf_v {o index : Nat} (hR : zR 0 129 o 16 0 = true) (d : decode cc pc = .ok (.getfield index, 3)) (hw : Cond.fieldLink own index "BakedBefore$Loaf" "v" "I" ∈ zW0) (g : WZ l cc nL ret own 0 129 θ R Q σ lv (pc + 3) (.int (zI σ o 4) :: st)) : WZ l cc nL ret own 0 129 θ R Q σ lv pc (.ref (za θ o) :: st) :=
  z_getG (ci := 6) (k := 4) (C := R_Loaf) (T := F_Loaf) (N := 5) d (zR_i hR).2.2.1 (zR_i hR).2.2.2 (zcell_obj (zR_k hR) rfl) rfl i_Loaf (by decide) rfl hw rfl g
theorem pf_Loaf_v {o index : Nat} {v : Int32} (hR : zR 0 129 o 16 0 = true) (d : decode cc pc = .ok (.putfield index, 3)) (hw : Cond.fieldLink own index "BakedBefore$Loaf" "v" "I" ∈ zW0) (g : WZ l cc nL ret own 0 129 θ R Q (zsI σ o 4 v) lv (pc + 3) st) : WZ l cc nL ret own 0 129 θ R Q σ lv pc (.int v :: .ref (za θ o) :: st) :=
  z_putG (ci := 6) (k := 4) (C := R_Loaf) (T := F_Loaf) (N := 5) (ty := .int) (σ' := (zsI σ o 4 v)) d (zR_i hR).2.2.1 (zR_i hR).2.2.2 (zcell_obj (zR_k hR) rfl) rfl i_Loaf t_Loaf_ok n_Loaf (by decide) rfl hw rfl (by decide +kernel) rfl rfl (Nat.le_of_ble_eq_true rfl) (zcell_obj (zR_k hR) (by rw [zsI_self]; rfl)) zcell_sI g
theorem gf_Oven_held {o index : Nat} (hR : zR 0 129 o 17 0 = true) {o2 : Nat} (ho : o + 9 = o2) (d : decode cc pc = .ok (.getfield index, 3)) (hw : Cond.fieldLink own index "BakedBefore$Oven" "held" "[I" ∈ zW0) (g : WZ l cc nL ret own 0 129 θ R Q σ lv (pc + 3) (.ref (za θ o2) :: st)) : WZ l cc nL ret own 0 129 θ R Q σ lv pc (.ref (za θ o) :: st) :=
  z_getG (ci := 7) (k := 0) (C := R_Oven) (T := F_Oven) (N := 2) d (zR_i hR).2.2.1 (zR_i hR).2.2.2 (zcell_obj (zR_k hR) rfl) rfl i_Oven (by decide) rfl hw (by subst ho; rfl) g
theorem gf_Oven_hour {o index : Nat} (hR : zR 0 129 o 17 0 = true) (d : decode cc pc = .ok (.getfield index, 3)) (hw : Cond.fieldLink own index "BakedBefore$Oven" "hou\x72" "I" ∈ zW0) (g : WZ l cc nL ret own 0 129 θ R Q σ lv (pc + 3) (.int (zI σ o 1) :: st)) : WZ l cc nL ret own 0 129 θ R Q σ lv pc (.ref (za θ o) :: st) :=
  z_getG (ci := 7) (k := 1) (C := R_Oven) (T := F_Oven) (N := 2) d (zR_i hR).2.2.1 (zR_i hR).2.2.2 (zcell_obj (zR_k hR) rfl) rfl i_Oven (by decide) rfl hw rfl g
theorem pf_Oven_hour {o index : Nat} {v : Int32} (hR : zR 0 129 o 17 0 = true) (d : decode cc pc = .ok (.putfield index, 3)) (hw : Cond.fieldLink own index "BakedBefore$Oven" "hou\x72" "I" ∈ zW0) (g : WZ l cc nL ret own 0 129 θ R Q (zsI σ o 1 v) lv (pc + 3) st) : WZ l cc nL ret own 0 129 θ R Q σ lv pc (.int v :: .ref (za θ o) :: st) :=
  z_putG (ci := 7) (k := 1) (C := R_Oven) (T := F_Oven) (N := 2) (ty := .int) (σ' := (zsI σ o 1 v)) d (zR_i hR).2.2.1 (zR_i hR).2.2.2 (zcell_obj (zR_k hR) rfl) rfl i_Oven t_Oven_ok n_Oven (by decide) rfl hw rfl (by decide +kernel) rfl rfl (Nat.le_of_ble_eq_true rfl) (zcell_obj (zR_k hR) (by rw [zsI_self]; rfl)) zcell_sI g
theorem gf_Reader_at {o index : Nat} (hR : zR 0 129 o 18 0 = true) (d : decode cc pc = .ok (.getfield index, 3)) (hw : Cond.fieldLink own index "BakedBefore$Reade\x72" "at" "I" ∈ zW0) (g : WZ l cc nL ret own 0 129 θ R Q σ lv (pc + 3) (.int (zI σ o 2) :: st)) : WZ l cc nL ret own 0 129 θ R Q σ lv pc (.ref (za θ o) :: st) :=
  z_getG (ci := 8) (k := 2) (C := R_Reader) (T := F_Reader) (N := 5) d (zR_i hR).2.2.1 (zR_i hR).2.2.2 (zcell_obj (zR_k hR) rfl) rfl i_Reader (by decide) rfl hw rfl g
theorem pf_Reader_at {o index : Nat} {v : Int32} (hR : zR 0 129 o 18 0 = true) (d : decode cc pc = .ok (.putfield index, 3)) (hw : Cond.fieldLink own index "BakedBefore$Reade\x72" "at" "I" ∈ zW0) (g : WZ l cc nL ret own 0 129 θ R Q (zsI σ o 2 v) lv (pc + 3) st) : WZ l cc nL ret own 0 129 θ R Q σ lv pc (.int v :: .ref (za θ o) :: st) :=
  z_putG (ci := 8) (k := 2) (C := R_Reader) (T := F_Reader) (N := 5) (ty := .int) (σ' := (zsI σ o 2 v)) d (zR_i hR).2.2.1 (zR_i hR).2.2.2 (zcell_obj (zR_k hR) rfl) rfl i_Reader t_Reader_ok n_Reader (by decide) rfl hw rfl (by decide +kernel) rfl rfl (Nat.le_of_ble_eq_true rfl) (zcell_obj (zR_k hR) (by rw [zsI_self]; rfl)) zcell_sI g
theorem gf_Reader_kiln {o index : Nat} (hR : zR 0 129 o 18 0 = true) (hp : zR 0 129 (zP σ o 4) 15 0 = true) (d : decode cc pc = .ok (.getfield index, 3)) (hw : Cond.fieldLink own index "BakedBefore$Reade\x72" "kiln" "LBakedBefore$Kiln;" ∈ zW0) (g : WZ l cc nL ret own 0 129 θ R Q σ lv (pc + 3) (.ref (za θ (zP σ o 4)) :: st)) : WZ l cc nL ret own 0 129 θ R Q σ lv pc (.ref (za θ o) :: st) :=
  z_getG (ci := 8) (k := 4) (C := R_Reader) (T := F_Reader) (N := 5) d (zR_i hR).2.2.1 (zR_i hR).2.2.2 (zcell_obj (zR_k hR) rfl) rfl i_Reader (by decide) rfl hw (by show some (zrf θ (zP σ o 4)) = _; rw [zrf, if_neg (by have := (zR_i hp).2.2.2; omega)]) g
theorem pf_Reader_kiln {o index : Nat} {v : Nat} (hR : zR 0 129 o 18 0 = true) (hb : zR 0 129 v 15 0 = true) (d : decode cc pc = .ok (.putfield index, 3)) (hw : Cond.fieldLink own index "BakedBefore$Reade\x72" "kiln" "LBakedBefore$Kiln;" ∈ zW0) (g : WZ l cc nL ret own 0 129 θ R Q (zsP σ o 4 v) lv (pc + 3) st) : WZ l cc nL ret own 0 129 θ R Q σ lv pc (.ref (za θ v) :: .ref (za θ o) :: st) :=
  z_putG (ci := 8) (k := 4) (C := R_Reader) (T := F_Reader) (N := 5) (ty := (.object "BakedBefore$Kiln")) (σ' := (zsP σ o 4 v)) d (zR_i hR).2.2.1 (zR_i hR).2.2.2 (zcell_obj (zR_k hR) rfl) rfl i_Reader t_Reader_ok n_Reader (by decide) rfl hw rfl (by decide +kernel) rfl rfl (Nat.le_of_ble_eq_true rfl) (zcell_obj (zR_k hR) (by have e : (zsP σ o 4 v).2.2 o = va_up (σ.2.2 o) 4 v := if_pos rfl; have e2 : zrf θ (va_up (σ.2.2 o) 4 v 4) = .ref (za θ v) := by {rw [va_up_self, zrf, if_neg (by have := (zR_i hb).2.2.2; omega)]}; rw [e]; show Sum.inr (_, [_, _, _, _, zrf θ (va_up (σ.2.2 o) 4 v 4)]) = _; rw [e2]; rfl)) zcell_sP g
theorem gf_Reader_length {o index : Nat} (hR : zR 0 129 o 18 0 = true) (d : decode cc pc = .ok (.getfield index, 3)) (hw : Cond.fieldLink own index "BakedBefore$Reade\x72" "length" "I" ∈ zW0) (g : WZ l cc nL ret own 0 129 θ R Q σ lv (pc + 3) (.int (zI σ o 1) :: st)) : WZ l cc nL ret own 0 129 θ R Q σ lv pc (.ref (za θ o) :: st) :=
  z_getG (ci := 8) (k := 1) (C := R_Reader) (T := F_Reader) (N := 5) d (zR_i hR).2.2.1 (zR_i hR).2.2.2 (zcell_obj (zR_k hR) rfl) rfl i_Reader (by decide) rfl hw rfl g
theorem pf_Reader_length {o index : Nat} {v : Int32} (hR : zR 0 129 o 18 0 = true) (d : decode cc pc = .ok (.putfield index, 3)) (hw : Cond.fieldLink own index "BakedBefore$Reade\x72" "length" "I" ∈ zW0) (g : WZ l cc nL ret own 0 129 θ R Q (zsI σ o 1 v) lv (pc + 3) st) : WZ l cc nL ret own 0 129 θ R Q σ lv pc (.int v :: .ref (za θ o) :: st) :=
  z_putG (ci := 8) (k := 1) (C := R_Reader) (T := F_Reader) (N := 5) (ty := .int) (σ' := (zsI σ o 1 v)) d (zR_i hR).2.2.1 (zR_i hR).2.2.2 (zcell_obj (zR_k hR) rfl) rfl i_Reader t_Reader_ok n_Reader (by decide) rfl hw rfl (by decide +kernel) rfl rfl (Nat.le_of_ble_eq_true rfl) (zcell_obj (zR_k hR) (by rw [zsI_self]; rfl)) zcell_sI g
theorem gf_Reader_number {o index : Nat} (hR : zR 0 129 o 18 0 = true) (d : decode cc pc = .ok (.getfield index, 3)) (hw : Cond.fieldLink own index "BakedBefore$Reade\x72" "numbe\x72" "I" ∈ zW0) (g : WZ l cc nL ret own 0 129 θ R Q σ lv (pc + 3) (.int (zI σ o 3) :: st)) : WZ l cc nL ret own 0 129 θ R Q σ lv pc (.ref (za θ o) :: st) :=
  z_getG (ci := 8) (k := 3) (C := R_Reader) (T := F_Reader) (N := 5) d (zR_i hR).2.2.1 (zR_i hR).2.2.2 (zcell_obj (zR_k hR) rfl) rfl i_Reader (by decide) rfl hw rfl g
theorem pf_Reader_number {o index : Nat} {v : Int32} (hR : zR 0 129 o 18 0 = true) (d : decode cc pc = .ok (.putfield index, 3)) (hw : Cond.fieldLink own index "BakedBefore$Reade\x72" "numbe\x72" "I" ∈ zW0) (g : WZ l cc nL ret own 0 129 θ R Q (zsI σ o 3 v) lv (pc + 3) st) : WZ l cc nL ret own 0 129 θ R Q σ lv pc (.int v :: .ref (za θ o) :: st) :=
  z_putG (ci := 8) (k := 3) (C := R_Reader) (T := F_Reader) (N := 5) (ty := .int) (σ' := (zsI σ o 3 v)) d (zR_i hR).2.2.1 (zR_i hR).2.2.2 (zcell_obj (zR_k hR) rfl) rfl i_Reader t_Reader_ok n_Reader (by decide) rfl hw rfl (by decide +kernel) rfl rfl (Nat.le_of_ble_eq_true rfl) (zcell_obj (zR_k hR) (by rw [zsI_self]; rfl)) zcell_sI g
theorem gf_Reader_text {o index : Nat} (hR : zR 0 129 o 18 0 = true) (d : decode cc pc = .ok (.getfield index, 3)) (hw : Cond.fieldLink own index "BakedBefore$Reade\x72" "text" "[I" ∈ zW0) (g : WZ l cc nL ret own 0 129 θ R Q σ lv (pc + 3) (.ref (za θ 4) :: st)) : WZ l cc nL ret own 0 129 θ R Q σ lv pc (.ref (za θ o) :: st) :=
  z_getG (ci := 8) (k := 0) (C := R_Reader) (T := F_Reader) (N := 5) d (zR_i hR).2.2.1 (zR_i hR).2.2.2 (zcell_obj (zR_k hR) rfl) rfl i_Reader (by decide) rfl hw rfl g
theorem gf_Search_baker {o index : Nat} (hR : zR 0 129 o 19 0 = true) (d : decode cc pc = .ok (.getfield index, 3)) (hw : Cond.fieldLink own index "BakedBefore$Search" "bake\x72" "LBakedBefore$Baker;" ∈ zW0) (g : WZ l cc nL ret own 0 129 θ R Q σ lv (pc + 3) (.ref (za θ 5) :: st)) : WZ l cc nL ret own 0 129 θ R Q σ lv pc (.ref (za θ o) :: st) :=
  z_getG (ci := 9) (k := 1) (C := R_Search) (T := F_Search) (N := 7) d (zR_i hR).2.2.1 (zR_i hR).2.2.2 (zcell_obj (zR_k hR) rfl) rfl i_Search (by decide) rfl hw rfl g
theorem gf_Search_best {o index : Nat} (hR : zR 0 129 o 19 0 = true) (d : decode cc pc = .ok (.getfield index, 3)) (hw : Cond.fieldLink own index "BakedBefore$Search" "best" "[I" ∈ zW0) (g : WZ l cc nL ret own 0 129 θ R Q σ lv (pc + 3) (.ref (za θ 23) :: st)) : WZ l cc nL ret own 0 129 θ R Q σ lv pc (.ref (za θ o) :: st) :=
  z_getG (ci := 9) (k := 4) (C := R_Search) (T := F_Search) (N := 7) d (zR_i hR).2.2.1 (zR_i hR).2.2.2 (zcell_obj (zR_k hR) rfl) rfl i_Search (by decide) rfl hw rfl g
theorem gf_Search_fewest {o index : Nat} (hR : zR 0 129 o 19 0 = true) (d : decode cc pc = .ok (.getfield index, 3)) (hw : Cond.fieldLink own index "BakedBefore$Search" "fewest" "I" ∈ zW0) (g : WZ l cc nL ret own 0 129 θ R Q σ lv (pc + 3) (.int (zI σ o 6) :: st)) : WZ l cc nL ret own 0 129 θ R Q σ lv pc (.ref (za θ o) :: st) :=
  z_getG (ci := 9) (k := 6) (C := R_Search) (T := F_Search) (N := 7) d (zR_i hR).2.2.1 (zR_i hR).2.2.2 (zcell_obj (zR_k hR) rfl) rfl i_Search (by decide) rfl hw rfl g
theorem pf_Search_fewest {o index : Nat} {v : Int32} (hR : zR 0 129 o 19 0 = true) (d : decode cc pc = .ok (.putfield index, 3)) (hw : Cond.fieldLink own index "BakedBefore$Search" "fewest" "I" ∈ zW0) (g : WZ l cc nL ret own 0 129 θ R Q (zsI σ o 6 v) lv (pc + 3) st) : WZ l cc nL ret own 0 129 θ R Q σ lv pc (.int v :: .ref (za θ o) :: st) :=
  z_putG (ci := 9) (k := 6) (C := R_Search) (T := F_Search) (N := 7) (ty := .int) (σ' := (zsI σ o 6 v)) d (zR_i hR).2.2.1 (zR_i hR).2.2.2 (zcell_obj (zR_k hR) rfl) rfl i_Search t_Search_ok n_Search (by decide) rfl hw rfl (by decide +kernel) rfl rfl (Nat.le_of_ble_eq_true rfl) (zcell_obj (zR_k hR) (by rw [zsI_self]; rfl)) zcell_sI g
theorem gf_Search_length {o index : Nat} (hR : zR 0 129 o 19 0 = true) (d : decode cc pc = .ok (.getfield index, 3)) (hw : Cond.fieldLink own index "BakedBefore$Search" "length" "I" ∈ zW0) (g : WZ l cc nL ret own 0 129 θ R Q σ lv (pc + 3) (.int (zI σ o 5) :: st)) : WZ l cc nL ret own 0 129 θ R Q σ lv pc (.ref (za θ o) :: st) :=
  z_getG (ci := 9) (k := 5) (C := R_Search) (T := F_Search) (N := 7) d (zR_i hR).2.2.1 (zR_i hR).2.2.2 (zcell_obj (zR_k hR) rfl) rfl i_Search (by decide) rfl hw rfl g
theorem pf_Search_length {o index : Nat} {v : Int32} (hR : zR 0 129 o 19 0 = true) (d : decode cc pc = .ok (.putfield index, 3)) (hw : Cond.fieldLink own index "BakedBefore$Search" "length" "I" ∈ zW0) (g : WZ l cc nL ret own 0 129 θ R Q (zsI σ o 5 v) lv (pc + 3) st) : WZ l cc nL ret own 0 129 θ R Q σ lv pc (.int v :: .ref (za θ o) :: st) :=
  z_putG (ci := 9) (k := 5) (C := R_Search) (T := F_Search) (N := 7) (ty := .int) (σ' := (zsI σ o 5 v)) d (zR_i hR).2.2.1 (zR_i hR).2.2.2 (zcell_obj (zR_k hR) rfl) rfl i_Search t_Search_ok n_Search (by decide) rfl hw rfl (by decide +kernel) rfl rfl (Nat.le_of_ble_eq_true rfl) (zcell_obj (zR_k hR) (by rw [zsI_self]; rfl)) zcell_sI g
theorem gf_Search_now {o index : Nat} (hR : zR 0 129 o 19 0 = true) (d : decode cc pc = .ok (.getfield index, 3)) (hw : Cond.fieldLink own index "BakedBefore$Search" "now" "LBakedBefore$Stand;" ∈ zW0) (g : WZ l cc nL ret own 0 129 θ R Q σ lv (pc + 3) (.ref (za θ 1) :: st)) : WZ l cc nL ret own 0 129 θ R Q σ lv pc (.ref (za θ o) :: st) :=
  z_getG (ci := 9) (k := 0) (C := R_Search) (T := F_Search) (N := 7) d (zR_i hR).2.2.1 (zR_i hR).2.2.2 (zcell_obj (zR_k hR) rfl) rfl i_Search (by decide) rfl hw rfl g
theorem gf_Search_ovens {o index : Nat} (hR : zR 0 129 o 19 0 = true) (d : decode cc pc = .ok (.getfield index, 3)) (hw : Cond.fieldLink own index "BakedBefore$Search" "ovens" "[LBakedBefore$Oven;" ∈ zW0) (g : WZ l cc nL ret own 0 129 θ R Q σ lv (pc + 3) (.ref (za θ 24) :: st)) : WZ l cc nL ret own 0 129 θ R Q σ lv pc (.ref (za θ o) :: st) :=
  z_getG (ci := 9) (k := 2) (C := R_Search) (T := F_Search) (N := 7) d (zR_i hR).2.2.1 (zR_i hR).2.2.2 (zcell_obj (zR_k hR) rfl) rfl i_Search (by decide) rfl hw rfl g
theorem gf_Search_row {o index : Nat} (hR : zR 0 129 o 19 0 = true) (d : decode cc pc = .ok (.getfield index, 3)) (hw : Cond.fieldLink own index "BakedBefore$Search" "row" "[I" ∈ zW0) (g : WZ l cc nL ret own 0 129 θ R Q σ lv (pc + 3) (.ref (za θ 22) :: st)) : WZ l cc nL ret own 0 129 θ R Q σ lv pc (.ref (za θ o) :: st) :=
  z_getG (ci := 9) (k := 3) (C := R_Search) (T := F_Search) (N := 7) d (zR_i hR).2.2.1 (zR_i hR).2.2.2 (zcell_obj (zR_k hR) rfl) rfl i_Search (by decide) rfl hw rfl g
theorem gf_Stand_book {o index : Nat} (hR : zR 0 129 o 20 0 = true) {o2 : Nat} (ho : o + 26 = o2) (d : decode cc pc = .ok (.getfield index, 3)) (hw : Cond.fieldLink own index "BakedBefore$Stand" "book" "LBakedBefore$Book;" ∈ zW0) (g : WZ l cc nL ret own 0 129 θ R Q σ lv (pc + 3) (.ref (za θ o2) :: st)) : WZ l cc nL ret own 0 129 θ R Q σ lv pc (.ref (za θ o) :: st) :=
  z_getG (ci := 10) (k := 2) (C := R_Stand) (T := F_Stand) (N := 5) d (zR_i hR).2.2.1 (zR_i hR).2.2.2 (zcell_obj (zR_k hR) rfl) rfl i_Stand (by decide) rfl hw (by subst ho; rfl) g
theorem gf_Stand_holding {o index : Nat} (hR : zR 0 129 o 20 0 = true) (d : decode cc pc = .ok (.getfield index, 3)) (hw : Cond.fieldLink own index "BakedBefore$Stand" "holding" "I" ∈ zW0) (g : WZ l cc nL ret own 0 129 θ R Q σ lv (pc + 3) (.int (zI σ o 4) :: st)) : WZ l cc nL ret own 0 129 θ R Q σ lv pc (.ref (za θ o) :: st) :=
  z_getG (ci := 10) (k := 4) (C := R_Stand) (T := F_Stand) (N := 5) d (zR_i hR).2.2.1 (zR_i hR).2.2.2 (zcell_obj (zR_k hR) rfl) rfl i_Stand (by decide) rfl hw rfl g
theorem pf_Stand_holding {o index : Nat} {v : Int32} (hR : zR 0 129 o 20 0 = true) (d : decode cc pc = .ok (.putfield index, 3)) (hw : Cond.fieldLink own index "BakedBefore$Stand" "holding" "I" ∈ zW0) (g : WZ l cc nL ret own 0 129 θ R Q (zsI σ o 4 v) lv (pc + 3) st) : WZ l cc nL ret own 0 129 θ R Q σ lv pc (.int v :: .ref (za θ o) :: st) :=
  z_putG (ci := 10) (k := 4) (C := R_Stand) (T := F_Stand) (N := 5) (ty := .int) (σ' := (zsI σ o 4 v)) d (zR_i hR).2.2.1 (zR_i hR).2.2.2 (zcell_obj (zR_k hR) rfl) rfl i_Stand t_Stand_ok n_Stand (by decide) rfl hw rfl (by decide +kernel) rfl rfl (Nat.le_of_ble_eq_true rfl) (zcell_obj (zR_k hR) (by rw [zsI_self]; rfl)) zcell_sI g
theorem gf_Stand_loaves {o index : Nat} (hR : zR 0 129 o 20 0 = true) {o2 : Nat} (ho : o + 24 = o2) (d : decode cc pc = .ok (.getfield index, 3)) (hw : Cond.fieldLink own index "BakedBefore$Stand" "loaves" "[LBakedBefore$Loaf;" ∈ zW0) (g : WZ l cc nL ret own 0 129 θ R Q σ lv (pc + 3) (.ref (za θ o2) :: st)) : WZ l cc nL ret own 0 129 θ R Q σ lv pc (.ref (za θ o) :: st) :=
  z_getG (ci := 10) (k := 0) (C := R_Stand) (T := F_Stand) (N := 5) d (zR_i hR).2.2.1 (zR_i hR).2.2.2 (zcell_obj (zR_k hR) rfl) rfl i_Stand (by decide) rfl hw (by subst ho; rfl) g
theorem gf_Stand_many {o index : Nat} (hR : zR 0 129 o 20 0 = true) (d : decode cc pc = .ok (.getfield index, 3)) (hw : Cond.fieldLink own index "BakedBefore$Stand" "many" "I" ∈ zW0) (g : WZ l cc nL ret own 0 129 θ R Q σ lv (pc + 3) (.int (zI σ o 3) :: st)) : WZ l cc nL ret own 0 129 θ R Q σ lv pc (.ref (za θ o) :: st) :=
  z_getG (ci := 10) (k := 3) (C := R_Stand) (T := F_Stand) (N := 5) d (zR_i hR).2.2.1 (zR_i hR).2.2.2 (zcell_obj (zR_k hR) rfl) rfl i_Stand (by decide) rfl hw rfl g
theorem pf_Stand_many {o index : Nat} {v : Int32} (hR : zR 0 129 o 20 0 = true) (d : decode cc pc = .ok (.putfield index, 3)) (hw : Cond.fieldLink own index "BakedBefore$Stand" "many" "I" ∈ zW0) (g : WZ l cc nL ret own 0 129 θ R Q (zsI σ o 3 v) lv (pc + 3) st) : WZ l cc nL ret own 0 129 θ R Q σ lv pc (.int v :: .ref (za θ o) :: st) :=
  z_putG (ci := 10) (k := 3) (C := R_Stand) (T := F_Stand) (N := 5) (ty := .int) (σ' := (zsI σ o 3 v)) d (zR_i hR).2.2.1 (zR_i hR).2.2.2 (zcell_obj (zR_k hR) rfl) rfl i_Stand t_Stand_ok n_Stand (by decide) rfl hw rfl (by decide +kernel) rfl rfl (Nat.le_of_ble_eq_true rfl) (zcell_obj (zR_k hR) (by rw [zsI_self]; rfl)) zcell_sI g
theorem gf_Stand_oven {o index : Nat} (hR : zR 0 129 o 20 0 = true) {o2 : Nat} (ho : o + 32 = o2) (d : decode cc pc = .ok (.getfield index, 3)) (hw : Cond.fieldLink own index "BakedBefore$Stand" "oven" "LBakedBefore$Oven;" ∈ zW0) (g : WZ l cc nL ret own 0 129 θ R Q σ lv (pc + 3) (.ref (za θ o2) :: st)) : WZ l cc nL ret own 0 129 θ R Q σ lv pc (.ref (za θ o) :: st) :=
  z_getG (ci := 10) (k := 1) (C := R_Stand) (T := F_Stand) (N := 5) d (zR_i hR).2.2.1 (zR_i hR).2.2.2 (zcell_obj (zR_k hR) rfl) rfl i_Stand (by decide) rfl hw (by subst ho; rfl) g
theorem gf_Tapes_lengths {o index : Nat} (hR : zR 0 129 o 21 0 = true) (d : decode cc pc = .ok (.getfield index, 3)) (hw : Cond.fieldLink own index "BakedBefore$Tapes" "lengths" "[I" ∈ zW0) (g : WZ l cc nL ret own 0 129 θ R Q σ lv (pc + 3) (.ref (za θ 13) :: st)) : WZ l cc nL ret own 0 129 θ R Q σ lv pc (.ref (za θ o) :: st) :=
  z_getG (ci := 11) (k := 2) (C := R_Tapes) (T := F_Tapes) (N := 3) d (zR_i hR).2.2.1 (zR_i hR).2.2.2 (zcell_obj (zR_k hR) rfl) rfl i_Tapes (by decide) rfl hw rfl g
theorem gf_Tapes_rows {o index : Nat} (hR : zR 0 129 o 21 0 = true) (d : decode cc pc = .ok (.getfield index, 3)) (hw : Cond.fieldLink own index "BakedBefore$Tapes" "rows" "[[J" ∈ zW0) (g : WZ l cc nL ret own 0 129 θ R Q σ lv (pc + 3) (.ref (za θ 11) :: st)) : WZ l cc nL ret own 0 129 θ R Q σ lv pc (.ref (za θ o) :: st) :=
  z_getG (ci := 11) (k := 0) (C := R_Tapes) (T := F_Tapes) (N := 3) d (zR_i hR).2.2.1 (zR_i hR).2.2.2 (zcell_obj (zR_k hR) rfl) rfl i_Tapes (by decide) rfl hw rfl g
theorem gf_Tapes_sorts {o index : Nat} (hR : zR 0 129 o 21 0 = true) (d : decode cc pc = .ok (.getfield index, 3)) (hw : Cond.fieldLink own index "BakedBefore$Tapes" "sorts" "[I" ∈ zW0) (g : WZ l cc nL ret own 0 129 θ R Q σ lv (pc + 3) (.ref (za θ 12) :: st)) : WZ l cc nL ret own 0 129 θ R Q σ lv pc (.ref (za θ o) :: st) :=
  z_getG (ci := 11) (k := 1) (C := R_Tapes) (T := F_Tapes) (N := 3) d (zR_i hR).2.2.1 (zR_i hR).2.2.2 (zcell_obj (zR_k hR) rfl) rfl i_Tapes (by decide) rfl hw rfl g
theorem gf_Model_at {o index : Nat} (hR : zR 129 14 o 22 0 = true) (d : decode cc pc = .ok (.getfield index, 3)) (hw : Cond.fieldLink own index "BakedBeforeModel" "at" "I" ∈ zW0) (g : WZ l cc nL ret own 129 14 θ R Q σ lv (pc + 3) (.int (zI σ o 11) :: st)) : WZ l cc nL ret own 129 14 θ R Q σ lv pc (.ref (za θ o) :: st) :=
  z_getG (ci := 12) (k := 11) (C := R_Model) (T := F_Model) (N := 31) d (zR_i hR).2.2.1 (zR_i hR).2.2.2 (zcell_obj (zR_k hR) rfl) rfl i_Model (by decide) rfl hw rfl g
theorem pf_Model_at {o index : Nat} {v : Int32} (hR : zR 129 14 o 22 0 = true) (d : decode cc pc = .ok (.putfield index, 3)) (hw : Cond.fieldLink own index "BakedBeforeModel" "at" "I" ∈ zW0) (g : WZ l cc nL ret own 129 14 θ R Q (zsI σ o 11 v) lv (pc + 3) st) : WZ l cc nL ret own 129 14 θ R Q σ lv pc (.int v :: .ref (za θ o) :: st) :=
  z_putG (ci := 12) (k := 11) (C := R_Model) (T := F_Model) (N := 31) (ty := .int) (σ' := (zsI σ o 11 v)) d (zR_i hR).2.2.1 (zR_i hR).2.2.2 (zcell_obj (zR_k hR) rfl) rfl i_Model t_Model_ok n_Model (by decide) rfl hw rfl (by decide +kernel) rfl rfl (Nat.le_of_ble_eq_true rfl) (zcell_obj (zR_k hR) (by rw [zsI_self]; rfl)) zcell_sI g
theorem gf_Model_base {o index : Nat} (hR : zR 129 14 o 22 0 = true) (d : decode cc pc = .ok (.getfield index, 3)) (hw : Cond.fieldLink own index "BakedBeforeModel" "base" "I" ∈ zW0) (g : WZ l cc nL ret own 129 14 θ R Q σ lv (pc + 3) (.int (zI σ o 9) :: st)) : WZ l cc nL ret own 129 14 θ R Q σ lv pc (.ref (za θ o) :: st) :=
  z_getG (ci := 12) (k := 9) (C := R_Model) (T := F_Model) (N := 31) d (zR_i hR).2.2.1 (zR_i hR).2.2.2 (zcell_obj (zR_k hR) rfl) rfl i_Model (by decide) rfl hw rfl g
theorem pf_Model_base {o index : Nat} {v : Int32} (hR : zR 129 14 o 22 0 = true) (d : decode cc pc = .ok (.putfield index, 3)) (hw : Cond.fieldLink own index "BakedBeforeModel" "base" "I" ∈ zW0) (g : WZ l cc nL ret own 129 14 θ R Q (zsI σ o 9 v) lv (pc + 3) st) : WZ l cc nL ret own 129 14 θ R Q σ lv pc (.int v :: .ref (za θ o) :: st) :=
  z_putG (ci := 12) (k := 9) (C := R_Model) (T := F_Model) (N := 31) (ty := .int) (σ' := (zsI σ o 9 v)) d (zR_i hR).2.2.1 (zR_i hR).2.2.2 (zcell_obj (zR_k hR) rfl) rfl i_Model t_Model_ok n_Model (by decide) rfl hw rfl (by decide +kernel) rfl rfl (Nat.le_of_ble_eq_true rfl) (zcell_obj (zR_k hR) (by rw [zsI_self]; rfl)) zcell_sI g
theorem gf_Model_best {o index : Nat} (hR : zR 129 14 o 22 0 = true) (d : decode cc pc = .ok (.getfield index, 3)) (hw : Cond.fieldLink own index "BakedBeforeModel" "best" "[I" ∈ zW0) (g : WZ l cc nL ret own 129 14 θ R Q σ lv (pc + 3) (.ref (za θ 138) :: st)) : WZ l cc nL ret own 129 14 θ R Q σ lv pc (.ref (za θ o) :: st) :=
  z_getG (ci := 12) (k := 23) (C := R_Model) (T := F_Model) (N := 31) d (zR_i hR).2.2.1 (zR_i hR).2.2.2 (zcell_obj (zR_k hR) rfl) rfl i_Model (by decide) rfl hw rfl g
theorem gf_Model_cold {o index : Nat} (hR : zR 129 14 o 22 0 = true) (d : decode cc pc = .ok (.getfield index, 3)) (hw : Cond.fieldLink own index "BakedBeforeModel" "cold" "I" ∈ zW0) (g : WZ l cc nL ret own 129 14 θ R Q σ lv (pc + 3) (.int (zI σ o 19) :: st)) : WZ l cc nL ret own 129 14 θ R Q σ lv pc (.ref (za θ o) :: st) :=
  z_getG (ci := 12) (k := 19) (C := R_Model) (T := F_Model) (N := 31) d (zR_i hR).2.2.1 (zR_i hR).2.2.2 (zcell_obj (zR_k hR) rfl) rfl i_Model (by decide) rfl hw rfl g
theorem pf_Model_cold {o index : Nat} {v : Int32} (hR : zR 129 14 o 22 0 = true) (d : decode cc pc = .ok (.putfield index, 3)) (hw : Cond.fieldLink own index "BakedBeforeModel" "cold" "I" ∈ zW0) (g : WZ l cc nL ret own 129 14 θ R Q (zsI σ o 19 v) lv (pc + 3) st) : WZ l cc nL ret own 129 14 θ R Q σ lv pc (.int v :: .ref (za θ o) :: st) :=
  z_putG (ci := 12) (k := 19) (C := R_Model) (T := F_Model) (N := 31) (ty := .int) (σ' := (zsI σ o 19 v)) d (zR_i hR).2.2.1 (zR_i hR).2.2.2 (zcell_obj (zR_k hR) rfl) rfl i_Model t_Model_ok n_Model (by decide) rfl hw rfl (by decide +kernel) rfl rfl (Nat.le_of_ble_eq_true rfl) (zcell_obj (zR_k hR) (by rw [zsI_self]; rfl)) zcell_sI g
theorem gf_Model_end {o index : Nat} (hR : zR 129 14 o 22 0 = true) (d : decode cc pc = .ok (.getfield index, 3)) (hw : Cond.fieldLink own index "BakedBeforeModel" "end" "I" ∈ zW0) (g : WZ l cc nL ret own 129 14 θ R Q σ lv (pc + 3) (.int (zI σ o 10) :: st)) : WZ l cc nL ret own 129 14 θ R Q σ lv pc (.ref (za θ o) :: st) :=
  z_getG (ci := 12) (k := 10) (C := R_Model) (T := F_Model) (N := 31) d (zR_i hR).2.2.1 (zR_i hR).2.2.2 (zcell_obj (zR_k hR) rfl) rfl i_Model (by decide) rfl hw rfl g
theorem pf_Model_end {o index : Nat} {v : Int32} (hR : zR 129 14 o 22 0 = true) (d : decode cc pc = .ok (.putfield index, 3)) (hw : Cond.fieldLink own index "BakedBeforeModel" "end" "I" ∈ zW0) (g : WZ l cc nL ret own 129 14 θ R Q (zsI σ o 10 v) lv (pc + 3) st) : WZ l cc nL ret own 129 14 θ R Q σ lv pc (.int v :: .ref (za θ o) :: st) :=
  z_putG (ci := 12) (k := 10) (C := R_Model) (T := F_Model) (N := 31) (ty := .int) (σ' := (zsI σ o 10 v)) d (zR_i hR).2.2.1 (zR_i hR).2.2.2 (zcell_obj (zR_k hR) rfl) rfl i_Model t_Model_ok n_Model (by decide) rfl hw rfl (by decide +kernel) rfl rfl (Nat.le_of_ble_eq_true rfl) (zcell_obj (zR_k hR) (by rw [zsI_self]; rfl)) zcell_sI g
theorem gf_Model_fee {o index : Nat} (hR : zR 129 14 o 22 0 = true) (d : decode cc pc = .ok (.getfield index, 3)) (hw : Cond.fieldLink own index "BakedBeforeModel" "fee" "I" ∈ zW0) (g : WZ l cc nL ret own 129 14 θ R Q σ lv (pc + 3) (.int (zI σ o 20) :: st)) : WZ l cc nL ret own 129 14 θ R Q σ lv pc (.ref (za θ o) :: st) :=
  z_getG (ci := 12) (k := 20) (C := R_Model) (T := F_Model) (N := 31) d (zR_i hR).2.2.1 (zR_i hR).2.2.2 (zcell_obj (zR_k hR) rfl) rfl i_Model (by decide) rfl hw rfl g
theorem pf_Model_fee {o index : Nat} {v : Int32} (hR : zR 129 14 o 22 0 = true) (d : decode cc pc = .ok (.putfield index, 3)) (hw : Cond.fieldLink own index "BakedBeforeModel" "fee" "I" ∈ zW0) (g : WZ l cc nL ret own 129 14 θ R Q (zsI σ o 20 v) lv (pc + 3) st) : WZ l cc nL ret own 129 14 θ R Q σ lv pc (.int v :: .ref (za θ o) :: st) :=
  z_putG (ci := 12) (k := 20) (C := R_Model) (T := F_Model) (N := 31) (ty := .int) (σ' := (zsI σ o 20 v)) d (zR_i hR).2.2.1 (zR_i hR).2.2.2 (zcell_obj (zR_k hR) rfl) rfl i_Model t_Model_ok n_Model (by decide) rfl hw rfl (by decide +kernel) rfl rfl (Nat.le_of_ble_eq_true rfl) (zcell_obj (zR_k hR) (by rw [zsI_self]; rfl)) zcell_sI g
theorem gf_Model_fewest {o index : Nat} (hR : zR 129 14 o 22 0 = true) (d : decode cc pc = .ok (.getfield index, 3)) (hw : Cond.fieldLink own index "BakedBeforeModel" "fewest" "I" ∈ zW0) (g : WZ l cc nL ret own 129 14 θ R Q σ lv (pc + 3) (.int (zI σ o 24) :: st)) : WZ l cc nL ret own 129 14 θ R Q σ lv pc (.ref (za θ o) :: st) :=
  z_getG (ci := 12) (k := 24) (C := R_Model) (T := F_Model) (N := 31) d (zR_i hR).2.2.1 (zR_i hR).2.2.2 (zcell_obj (zR_k hR) rfl) rfl i_Model (by decide) rfl hw rfl g
theorem pf_Model_fewest {o index : Nat} {v : Int32} (hR : zR 129 14 o 22 0 = true) (d : decode cc pc = .ok (.putfield index, 3)) (hw : Cond.fieldLink own index "BakedBeforeModel" "fewest" "I" ∈ zW0) (g : WZ l cc nL ret own 129 14 θ R Q (zsI σ o 24 v) lv (pc + 3) st) : WZ l cc nL ret own 129 14 θ R Q σ lv pc (.int v :: .ref (za θ o) :: st) :=
  z_putG (ci := 12) (k := 24) (C := R_Model) (T := F_Model) (N := 31) (ty := .int) (σ' := (zsI σ o 24 v)) d (zR_i hR).2.2.1 (zR_i hR).2.2.2 (zcell_obj (zR_k hR) rfl) rfl i_Model t_Model_ok n_Model (by decide) rfl hw rfl (by decide +kernel) rfl rfl (Nat.le_of_ble_eq_true rfl) (zcell_obj (zR_k hR) (by rw [zsI_self]; rfl)) zcell_sI g
theorem gf_Model_hasImage {o index : Nat} (hR : zR 129 14 o 22 0 = true) (d : decode cc pc = .ok (.getfield index, 3)) (hw : Cond.fieldLink own index "BakedBeforeModel" "hasImage" "Z" ∈ zW0) (g : WZ l cc nL ret own 129 14 θ R Q σ lv (pc + 3) (.int (zI σ o 3) :: st)) : WZ l cc nL ret own 129 14 θ R Q σ lv pc (.ref (za θ o) :: st) :=
  z_getG (ci := 12) (k := 3) (C := R_Model) (T := F_Model) (N := 31) d (zR_i hR).2.2.1 (zR_i hR).2.2.2 (zcell_obj (zR_k hR) rfl) rfl i_Model (by decide) rfl hw rfl g
theorem pf_Model_hasImage {o index : Nat} {v : Int32} (hR : zR 129 14 o 22 0 = true) (hb : zbl v = true) (d : decode cc pc = .ok (.putfield index, 3)) (hw : Cond.fieldLink own index "BakedBeforeModel" "hasImage" "Z" ∈ zW0) (g : WZ l cc nL ret own 129 14 θ R Q (zsI σ o 3 v) lv (pc + 3) st) : WZ l cc nL ret own 129 14 θ R Q σ lv pc (.int v :: .ref (za θ o) :: st) :=
  z_putG (ci := 12) (k := 3) (C := R_Model) (T := F_Model) (N := 31) (ty := .boolean) (σ' := (zsI σ o 3 v)) d (zR_i hR).2.2.1 (zR_i hR).2.2.2 (zcell_obj (zR_k hR) rfl) rfl i_Model t_Model_ok n_Model (by decide) rfl hw rfl (by decide +kernel) (zbl_i hb) (by simp only [zbl, Bool.or_eq_true, beq_iff_eq] at hb; rcases hb with rfl | rfl <;> rfl) (Nat.le_of_ble_eq_true rfl) (zcell_obj (zR_k hR) (by rw [zsI_self]; rfl)) zcell_sI g
theorem gf_Model_held {o index : Nat} (hR : zR 129 14 o 22 0 = true) (d : decode cc pc = .ok (.getfield index, 3)) (hw : Cond.fieldLink own index "BakedBeforeModel" "held" "[I" ∈ zW0) (g : WZ l cc nL ret own 129 14 θ R Q σ lv (pc + 3) (.ref (za θ 136) :: st)) : WZ l cc nL ret own 129 14 θ R Q σ lv pc (.ref (za θ o) :: st) :=
  z_getG (ci := 12) (k := 21) (C := R_Model) (T := F_Model) (N := 31) d (zR_i hR).2.2.1 (zR_i hR).2.2.2 (zcell_obj (zR_k hR) rfl) rfl i_Model (by decide) rfl hw rfl g
theorem gf_Model_image {o index : Nat} (hR : zR 129 14 o 22 0 = true) (d : decode cc pc = .ok (.getfield index, 3)) (hw : Cond.fieldLink own index "BakedBeforeModel" "image" "[I" ∈ zW0) (g : WZ l cc nL ret own 129 14 θ R Q σ lv (pc + 3) (.ref (za θ 131) :: st)) : WZ l cc nL ret own 129 14 θ R Q σ lv pc (.ref (za θ o) :: st) :=
  z_getG (ci := 12) (k := 1) (C := R_Model) (T := F_Model) (N := 31) d (zR_i hR).2.2.1 (zR_i hR).2.2.2 (zcell_obj (zR_k hR) rfl) rfl i_Model (by decide) rfl hw rfl g
theorem gf_Model_isFee {o index : Nat} (hR : zR 129 14 o 22 0 = true) (d : decode cc pc = .ok (.getfield index, 3)) (hw : Cond.fieldLink own index "BakedBeforeModel" "isFee" "Z" ∈ zW0) (g : WZ l cc nL ret own 129 14 θ R Q σ lv (pc + 3) (.int (zI σ o 15) :: st)) : WZ l cc nL ret own 129 14 θ R Q σ lv pc (.ref (za θ o) :: st) :=
  z_getG (ci := 12) (k := 15) (C := R_Model) (T := F_Model) (N := 31) d (zR_i hR).2.2.1 (zR_i hR).2.2.2 (zcell_obj (zR_k hR) rfl) rfl i_Model (by decide) rfl hw rfl g
theorem pf_Model_isFee {o index : Nat} {v : Int32} (hR : zR 129 14 o 22 0 = true) (hb : zbl v = true) (d : decode cc pc = .ok (.putfield index, 3)) (hw : Cond.fieldLink own index "BakedBeforeModel" "isFee" "Z" ∈ zW0) (g : WZ l cc nL ret own 129 14 θ R Q (zsI σ o 15 v) lv (pc + 3) st) : WZ l cc nL ret own 129 14 θ R Q σ lv pc (.int v :: .ref (za θ o) :: st) :=
  z_putG (ci := 12) (k := 15) (C := R_Model) (T := F_Model) (N := 31) (ty := .boolean) (σ' := (zsI σ o 15 v)) d (zR_i hR).2.2.1 (zR_i hR).2.2.2 (zcell_obj (zR_k hR) rfl) rfl i_Model t_Model_ok n_Model (by decide) rfl hw rfl (by decide +kernel) (zbl_i hb) (by simp only [zbl, Bool.or_eq_true, beq_iff_eq] at hb; rcases hb with rfl | rfl <;> rfl) (Nat.le_of_ble_eq_true rfl) (zcell_obj (zR_k hR) (by rw [zsI_self]; rfl)) zcell_sI g
theorem gf_Model_item {o index : Nat} (hR : zR 129 14 o 22 0 = true) (d : decode cc pc = .ok (.getfield index, 3)) (hw : Cond.fieldLink own index "BakedBeforeModel" "item" "[J" ∈ zW0) (g : WZ l cc nL ret own 129 14 θ R Q σ lv (pc + 3) (.ref (za θ 141) :: st)) : WZ l cc nL ret own 129 14 θ R Q σ lv pc (.ref (za θ o) :: st) :=
  z_getG (ci := 12) (k := 27) (C := R_Model) (T := F_Model) (N := 31) d (zR_i hR).2.2.1 (zR_i hR).2.2.2 (zcell_obj (zR_k hR) rfl) rfl i_Model (by decide) rfl hw rfl g
theorem gf_Model_kilnLong {o index : Nat} (hR : zR 129 14 o 22 0 = true) (d : decode cc pc = .ok (.getfield index, 3)) (hw : Cond.fieldLink own index "BakedBeforeModel" "kilnLong" "[I" ∈ zW0) (g : WZ l cc nL ret own 129 14 θ R Q σ lv (pc + 3) (.ref (za θ 135) :: st)) : WZ l cc nL ret own 129 14 θ R Q σ lv pc (.ref (za θ o) :: st) :=
  z_getG (ci := 12) (k := 6) (C := R_Model) (T := F_Model) (N := 31) d (zR_i hR).2.2.1 (zR_i hR).2.2.2 (zcell_obj (zR_k hR) rfl) rfl i_Model (by decide) rfl hw rfl g
theorem gf_Model_kilnText {o index : Nat} (hR : zR 129 14 o 22 0 = true) (d : decode cc pc = .ok (.getfield index, 3)) (hw : Cond.fieldLink own index "BakedBeforeModel" "kilnText" "[I" ∈ zW0) (g : WZ l cc nL ret own 129 14 θ R Q σ lv (pc + 3) (.ref (za θ 134) :: st)) : WZ l cc nL ret own 129 14 θ R Q σ lv pc (.ref (za θ o) :: st) :=
  z_getG (ci := 12) (k := 5) (C := R_Model) (T := F_Model) (N := 31) d (zR_i hR).2.2.1 (zR_i hR).2.2.2 (zcell_obj (zR_k hR) rfl) rfl i_Model (by decide) rfl hw rfl g
theorem gf_Model_kilns {o index : Nat} (hR : zR 129 14 o 22 0 = true) (d : decode cc pc = .ok (.getfield index, 3)) (hw : Cond.fieldLink own index "BakedBeforeModel" "kilns" "I" ∈ zW0) (g : WZ l cc nL ret own 129 14 θ R Q σ lv (pc + 3) (.int (zI σ o 8) :: st)) : WZ l cc nL ret own 129 14 θ R Q σ lv pc (.ref (za θ o) :: st) :=
  z_getG (ci := 12) (k := 8) (C := R_Model) (T := F_Model) (N := 31) d (zR_i hR).2.2.1 (zR_i hR).2.2.2 (zcell_obj (zR_k hR) rfl) rfl i_Model (by decide) rfl hw rfl g
theorem pf_Model_kilns {o index : Nat} {v : Int32} (hR : zR 129 14 o 22 0 = true) (d : decode cc pc = .ok (.putfield index, 3)) (hw : Cond.fieldLink own index "BakedBeforeModel" "kilns" "I" ∈ zW0) (g : WZ l cc nL ret own 129 14 θ R Q (zsI σ o 8 v) lv (pc + 3) st) : WZ l cc nL ret own 129 14 θ R Q σ lv pc (.int v :: .ref (za θ o) :: st) :=
  z_putG (ci := 12) (k := 8) (C := R_Model) (T := F_Model) (N := 31) (ty := .int) (σ' := (zsI σ o 8 v)) d (zR_i hR).2.2.1 (zR_i hR).2.2.2 (zcell_obj (zR_k hR) rfl) rfl i_Model t_Model_ok n_Model (by decide) rfl hw rfl (by decide +kernel) rfl rfl (Nat.le_of_ble_eq_true rfl) (zcell_obj (zR_k hR) (by rw [zsI_self]; rfl)) zcell_sI g
theorem gf_Model_line {o index : Nat} (hR : zR 129 14 o 22 0 = true) (d : decode cc pc = .ok (.getfield index, 3)) (hw : Cond.fieldLink own index "BakedBeforeModel" "line" "[I" ∈ zW0) (g : WZ l cc nL ret own 129 14 θ R Q σ lv (pc + 3) (.ref (za θ 137) :: st)) : WZ l cc nL ret own 129 14 θ R Q σ lv pc (.ref (za θ o) :: st) :=
  z_getG (ci := 12) (k := 22) (C := R_Model) (T := F_Model) (N := 31) d (zR_i hR).2.2.1 (zR_i hR).2.2.2 (zcell_obj (zR_k hR) rfl) rfl i_Model (by decide) rfl hw rfl g
theorem gf_Model_loaf {o index : Nat} (hR : zR 129 14 o 22 0 = true) (d : decode cc pc = .ok (.getfield index, 3)) (hw : Cond.fieldLink own index "BakedBeforeModel" "loaf" "I" ∈ zW0) (g : WZ l cc nL ret own 129 14 θ R Q σ lv (pc + 3) (.int (zI σ o 12) :: st)) : WZ l cc nL ret own 129 14 θ R Q σ lv pc (.ref (za θ o) :: st) :=
  z_getG (ci := 12) (k := 12) (C := R_Model) (T := F_Model) (N := 31) d (zR_i hR).2.2.1 (zR_i hR).2.2.2 (zcell_obj (zR_k hR) rfl) rfl i_Model (by decide) rfl hw rfl g
theorem pf_Model_loaf {o index : Nat} {v : Int32} (hR : zR 129 14 o 22 0 = true) (d : decode cc pc = .ok (.putfield index, 3)) (hw : Cond.fieldLink own index "BakedBeforeModel" "loaf" "I" ∈ zW0) (g : WZ l cc nL ret own 129 14 θ R Q (zsI σ o 12 v) lv (pc + 3) st) : WZ l cc nL ret own 129 14 θ R Q σ lv pc (.int v :: .ref (za θ o) :: st) :=
  z_putG (ci := 12) (k := 12) (C := R_Model) (T := F_Model) (N := 31) (ty := .int) (σ' := (zsI σ o 12 v)) d (zR_i hR).2.2.1 (zR_i hR).2.2.2 (zcell_obj (zR_k hR) rfl) rfl i_Model t_Model_ok n_Model (by decide) rfl hw rfl (by decide +kernel) rfl rfl (Nat.le_of_ble_eq_true rfl) (zcell_obj (zR_k hR) (by rw [zsI_self]; rfl)) zcell_sI g
theorem gf_Model_mind {o index : Nat} (hR : zR 129 14 o 22 0 = true) (d : decode cc pc = .ok (.getfield index, 3)) (hw : Cond.fieldLink own index "BakedBeforeModel" "mind" "[I" ∈ zW0) (g : WZ l cc nL ret own 129 14 θ R Q σ lv (pc + 3) (.ref (za θ 132) :: st)) : WZ l cc nL ret own 129 14 θ R Q σ lv pc (.ref (za θ o) :: st) :=
  z_getG (ci := 12) (k := 2) (C := R_Model) (T := F_Model) (N := 31) d (zR_i hR).2.2.1 (zR_i hR).2.2.2 (zcell_obj (zR_k hR) rfl) rfl i_Model (by decide) rfl hw rfl g
theorem gf_Model_more {o index : Nat} (hR : zR 129 14 o 22 0 = true) (d : decode cc pc = .ok (.getfield index, 3)) (hw : Cond.fieldLink own index "BakedBeforeModel" "more" "I" ∈ zW0) (g : WZ l cc nL ret own 129 14 θ R Q σ lv (pc + 3) (.int (zI σ o 18) :: st)) : WZ l cc nL ret own 129 14 θ R Q σ lv pc (.ref (za θ o) :: st) :=
  z_getG (ci := 12) (k := 18) (C := R_Model) (T := F_Model) (N := 31) d (zR_i hR).2.2.1 (zR_i hR).2.2.2 (zcell_obj (zR_k hR) rfl) rfl i_Model (by decide) rfl hw rfl g
theorem pf_Model_more {o index : Nat} {v : Int32} (hR : zR 129 14 o 22 0 = true) (d : decode cc pc = .ok (.putfield index, 3)) (hw : Cond.fieldLink own index "BakedBeforeModel" "more" "I" ∈ zW0) (g : WZ l cc nL ret own 129 14 θ R Q (zsI σ o 18 v) lv (pc + 3) st) : WZ l cc nL ret own 129 14 θ R Q σ lv pc (.int v :: .ref (za θ o) :: st) :=
  z_putG (ci := 12) (k := 18) (C := R_Model) (T := F_Model) (N := 31) (ty := .int) (σ' := (zsI σ o 18 v)) d (zR_i hR).2.2.1 (zR_i hR).2.2.2 (zcell_obj (zR_k hR) rfl) rfl i_Model t_Model_ok n_Model (by decide) rfl hw rfl (by decide +kernel) rfl rfl (Nat.le_of_ble_eq_true rfl) (zcell_obj (zR_k hR) (by rw [zsI_self]; rfl)) zcell_sI g
theorem gf_Model_own {o index : Nat} (hR : zR 129 14 o 22 0 = true) (d : decode cc pc = .ok (.getfield index, 3)) (hw : Cond.fieldLink own index "BakedBeforeModel" "own" "I" ∈ zW0) (g : WZ l cc nL ret own 129 14 θ R Q σ lv (pc + 3) (.int (zI σ o 30) :: st)) : WZ l cc nL ret own 129 14 θ R Q σ lv pc (.ref (za θ o) :: st) :=
  z_getG (ci := 12) (k := 30) (C := R_Model) (T := F_Model) (N := 31) d (zR_i hR).2.2.1 (zR_i hR).2.2.2 (zcell_obj (zR_k hR) rfl) rfl i_Model (by decide) rfl hw rfl g
theorem pf_Model_own {o index : Nat} {v : Int32} (hR : zR 129 14 o 22 0 = true) (d : decode cc pc = .ok (.putfield index, 3)) (hw : Cond.fieldLink own index "BakedBeforeModel" "own" "I" ∈ zW0) (g : WZ l cc nL ret own 129 14 θ R Q (zsI σ o 30 v) lv (pc + 3) st) : WZ l cc nL ret own 129 14 θ R Q σ lv pc (.int v :: .ref (za θ o) :: st) :=
  z_putG (ci := 12) (k := 30) (C := R_Model) (T := F_Model) (N := 31) (ty := .int) (σ' := (zsI σ o 30 v)) d (zR_i hR).2.2.1 (zR_i hR).2.2.2 (zcell_obj (zR_k hR) rfl) rfl i_Model t_Model_ok n_Model (by decide) rfl hw rfl (by decide +kernel) rfl rfl (Nat.le_of_ble_eq_true rfl) (zcell_obj (zR_k hR) (by rw [zsI_self]; rfl)) zcell_sI g
theorem gf_Model_part {o index : Nat} (hR : zR 129 14 o 22 0 = true) (d : decode cc pc = .ok (.getfield index, 3)) (hw : Cond.fieldLink own index "BakedBeforeModel" "part" "I" ∈ zW0) (g : WZ l cc nL ret own 129 14 θ R Q σ lv (pc + 3) (.int (zI σ o 16) :: st)) : WZ l cc nL ret own 129 14 θ R Q σ lv pc (.ref (za θ o) :: st) :=
  z_getG (ci := 12) (k := 16) (C := R_Model) (T := F_Model) (N := 31) d (zR_i hR).2.2.1 (zR_i hR).2.2.2 (zcell_obj (zR_k hR) rfl) rfl i_Model (by decide) rfl hw rfl g
theorem pf_Model_part {o index : Nat} {v : Int32} (hR : zR 129 14 o 22 0 = true) (d : decode cc pc = .ok (.putfield index, 3)) (hw : Cond.fieldLink own index "BakedBeforeModel" "part" "I" ∈ zW0) (g : WZ l cc nL ret own 129 14 θ R Q (zsI σ o 16 v) lv (pc + 3) st) : WZ l cc nL ret own 129 14 θ R Q σ lv pc (.int v :: .ref (za θ o) :: st) :=
  z_putG (ci := 12) (k := 16) (C := R_Model) (T := F_Model) (N := 31) (ty := .int) (σ' := (zsI σ o 16 v)) d (zR_i hR).2.2.1 (zR_i hR).2.2.2 (zcell_obj (zR_k hR) rfl) rfl i_Model t_Model_ok n_Model (by decide) rfl hw rfl (by decide +kernel) rfl rfl (Nat.le_of_ble_eq_true rfl) (zcell_obj (zR_k hR) (by rw [zsI_self]; rfl)) zcell_sI g
theorem gf_Model_parts {o index : Nat} (hR : zR 129 14 o 22 0 = true) (d : decode cc pc = .ok (.getfield index, 3)) (hw : Cond.fieldLink own index "BakedBeforeModel" "parts" "I" ∈ zW0) (g : WZ l cc nL ret own 129 14 θ R Q σ lv (pc + 3) (.int (zI σ o 17) :: st)) : WZ l cc nL ret own 129 14 θ R Q σ lv pc (.ref (za θ o) :: st) :=
  z_getG (ci := 12) (k := 17) (C := R_Model) (T := F_Model) (N := 31) d (zR_i hR).2.2.1 (zR_i hR).2.2.2 (zcell_obj (zR_k hR) rfl) rfl i_Model (by decide) rfl hw rfl g
theorem pf_Model_parts {o index : Nat} {v : Int32} (hR : zR 129 14 o 22 0 = true) (d : decode cc pc = .ok (.putfield index, 3)) (hw : Cond.fieldLink own index "BakedBeforeModel" "parts" "I" ∈ zW0) (g : WZ l cc nL ret own 129 14 θ R Q (zsI σ o 17 v) lv (pc + 3) st) : WZ l cc nL ret own 129 14 θ R Q σ lv pc (.int v :: .ref (za θ o) :: st) :=
  z_putG (ci := 12) (k := 17) (C := R_Model) (T := F_Model) (N := 31) (ty := .int) (σ' := (zsI σ o 17 v)) d (zR_i hR).2.2.1 (zR_i hR).2.2.2 (zcell_obj (zR_k hR) rfl) rfl i_Model t_Model_ok n_Model (by decide) rfl hw rfl (by decide +kernel) rfl rfl (Nat.le_of_ble_eq_true rfl) (zcell_obj (zR_k hR) (by rw [zsI_self]; rfl)) zcell_sI g
theorem gf_Model_ran {o index : Nat} (hR : zR 129 14 o 22 0 = true) (d : decode cc pc = .ok (.getfield index, 3)) (hw : Cond.fieldLink own index "BakedBeforeModel" "ran" "I" ∈ zW0) (g : WZ l cc nL ret own 129 14 θ R Q σ lv (pc + 3) (.int (zI σ o 29) :: st)) : WZ l cc nL ret own 129 14 θ R Q σ lv pc (.ref (za θ o) :: st) :=
  z_getG (ci := 12) (k := 29) (C := R_Model) (T := F_Model) (N := 31) d (zR_i hR).2.2.1 (zR_i hR).2.2.2 (zcell_obj (zR_k hR) rfl) rfl i_Model (by decide) rfl hw rfl g
theorem pf_Model_ran {o index : Nat} {v : Int32} (hR : zR 129 14 o 22 0 = true) (d : decode cc pc = .ok (.putfield index, 3)) (hw : Cond.fieldLink own index "BakedBeforeModel" "ran" "I" ∈ zW0) (g : WZ l cc nL ret own 129 14 θ R Q (zsI σ o 29 v) lv (pc + 3) st) : WZ l cc nL ret own 129 14 θ R Q σ lv pc (.int v :: .ref (za θ o) :: st) :=
  z_putG (ci := 12) (k := 29) (C := R_Model) (T := F_Model) (N := 31) (ty := .int) (σ' := (zsI σ o 29 v)) d (zR_i hR).2.2.1 (zR_i hR).2.2.2 (zcell_obj (zR_k hR) rfl) rfl i_Model t_Model_ok n_Model (by decide) rfl hw rfl (by decide +kernel) rfl rfl (Nat.le_of_ble_eq_true rfl) (zcell_obj (zR_k hR) (by rw [zsI_self]; rfl)) zcell_sI g
theorem gf_Model_s {o index : Nat} (hR : zR 129 14 o 22 0 = true) (d : decode cc pc = .ok (.getfield index, 3)) (hw : Cond.fieldLink own index "BakedBeforeModel" "s" "[I" ∈ zW0) (g : WZ l cc nL ret own 129 14 θ R Q σ lv (pc + 3) (.ref (za θ 130) :: st)) : WZ l cc nL ret own 129 14 θ R Q σ lv pc (.ref (za θ o) :: st) :=
  z_getG (ci := 12) (k := 0) (C := R_Model) (T := F_Model) (N := 31) d (zR_i hR).2.2.1 (zR_i hR).2.2.2 (zcell_obj (zR_k hR) rfl) rfl i_Model (by decide) rfl hw rfl g
theorem gf_Model_tapeLong {o index : Nat} (hR : zR 129 14 o 22 0 = true) (d : decode cc pc = .ok (.getfield index, 3)) (hw : Cond.fieldLink own index "BakedBeforeModel" "tapeLong" "[I" ∈ zW0) (g : WZ l cc nL ret own 129 14 θ R Q σ lv (pc + 3) (.ref (za θ 140) :: st)) : WZ l cc nL ret own 129 14 θ R Q σ lv pc (.ref (za θ o) :: st) :=
  z_getG (ci := 12) (k := 26) (C := R_Model) (T := F_Model) (N := 31) d (zR_i hR).2.2.1 (zR_i hR).2.2.2 (zcell_obj (zR_k hR) rfl) rfl i_Model (by decide) rfl hw rfl g
theorem gf_Model_tapeSort {o index : Nat} (hR : zR 129 14 o 22 0 = true) (d : decode cc pc = .ok (.getfield index, 3)) (hw : Cond.fieldLink own index "BakedBeforeModel" "tapeSort" "[I" ∈ zW0) (g : WZ l cc nL ret own 129 14 θ R Q σ lv (pc + 3) (.ref (za θ 139) :: st)) : WZ l cc nL ret own 129 14 θ R Q σ lv pc (.ref (za θ o) :: st) :=
  z_getG (ci := 12) (k := 25) (C := R_Model) (T := F_Model) (N := 31) d (zR_i hR).2.2.1 (zR_i hR).2.2.2 (zcell_obj (zR_k hR) rfl) rfl i_Model (by decide) rfl hw rfl g
theorem gf_Model_taste {o index : Nat} (hR : zR 129 14 o 22 0 = true) (d : decode cc pc = .ok (.getfield index, 3)) (hw : Cond.fieldLink own index "BakedBeforeModel" "taste" "I" ∈ zW0) (g : WZ l cc nL ret own 129 14 θ R Q σ lv (pc + 3) (.int (zI σ o 13) :: st)) : WZ l cc nL ret own 129 14 θ R Q σ lv pc (.ref (za θ o) :: st) :=
  z_getG (ci := 12) (k := 13) (C := R_Model) (T := F_Model) (N := 31) d (zR_i hR).2.2.1 (zR_i hR).2.2.2 (zcell_obj (zR_k hR) rfl) rfl i_Model (by decide) rfl hw rfl g
theorem pf_Model_taste {o index : Nat} {v : Int32} (hR : zR 129 14 o 22 0 = true) (d : decode cc pc = .ok (.putfield index, 3)) (hw : Cond.fieldLink own index "BakedBeforeModel" "taste" "I" ∈ zW0) (g : WZ l cc nL ret own 129 14 θ R Q (zsI σ o 13 v) lv (pc + 3) st) : WZ l cc nL ret own 129 14 θ R Q σ lv pc (.int v :: .ref (za θ o) :: st) :=
  z_putG (ci := 12) (k := 13) (C := R_Model) (T := F_Model) (N := 31) (ty := .int) (σ' := (zsI σ o 13 v)) d (zR_i hR).2.2.1 (zR_i hR).2.2.2 (zcell_obj (zR_k hR) rfl) rfl i_Model t_Model_ok n_Model (by decide) rfl hw rfl (by decide +kernel) rfl rfl (Nat.le_of_ble_eq_true rfl) (zcell_obj (zR_k hR) (by rw [zsI_self]; rfl)) zcell_sI g
theorem gf_Model_text {o index : Nat} (hR : zR 129 14 o 22 0 = true) (d : decode cc pc = .ok (.getfield index, 3)) (hw : Cond.fieldLink own index "BakedBeforeModel" "text" "[I" ∈ zW0) (g : WZ l cc nL ret own 129 14 θ R Q σ lv (pc + 3) (.ref (za θ 133) :: st)) : WZ l cc nL ret own 129 14 θ R Q σ lv pc (.ref (za θ o) :: st) :=
  z_getG (ci := 12) (k := 4) (C := R_Model) (T := F_Model) (N := 31) d (zR_i hR).2.2.1 (zR_i hR).2.2.2 (zcell_obj (zR_k hR) rfl) rfl i_Model (by decide) rfl hw rfl g
theorem gf_Model_texted {o index : Nat} (hR : zR 129 14 o 22 0 = true) (d : decode cc pc = .ok (.getfield index, 3)) (hw : Cond.fieldLink own index "BakedBeforeModel" "texted" "I" ∈ zW0) (g : WZ l cc nL ret own 129 14 θ R Q σ lv (pc + 3) (.int (zI σ o 7) :: st)) : WZ l cc nL ret own 129 14 θ R Q σ lv pc (.ref (za θ o) :: st) :=
  z_getG (ci := 12) (k := 7) (C := R_Model) (T := F_Model) (N := 31) d (zR_i hR).2.2.1 (zR_i hR).2.2.2 (zcell_obj (zR_k hR) rfl) rfl i_Model (by decide) rfl hw rfl g
theorem pf_Model_texted {o index : Nat} {v : Int32} (hR : zR 129 14 o 22 0 = true) (d : decode cc pc = .ok (.putfield index, 3)) (hw : Cond.fieldLink own index "BakedBeforeModel" "texted" "I" ∈ zW0) (g : WZ l cc nL ret own 129 14 θ R Q (zsI σ o 7 v) lv (pc + 3) st) : WZ l cc nL ret own 129 14 θ R Q σ lv pc (.int v :: .ref (za θ o) :: st) :=
  z_putG (ci := 12) (k := 7) (C := R_Model) (T := F_Model) (N := 31) (ty := .int) (σ' := (zsI σ o 7 v)) d (zR_i hR).2.2.1 (zR_i hR).2.2.2 (zcell_obj (zR_k hR) rfl) rfl i_Model t_Model_ok n_Model (by decide) rfl hw rfl (by decide +kernel) rfl rfl (Nat.le_of_ble_eq_true rfl) (zcell_obj (zR_k hR) (by rw [zsI_self]; rfl)) zcell_sI g
theorem gf_Model_trace {o index : Nat} (hR : zR 129 14 o 22 0 = true) (d : decode cc pc = .ok (.getfield index, 3)) (hw : Cond.fieldLink own index "BakedBeforeModel" "trace" "[I" ∈ zW0) (g : WZ l cc nL ret own 129 14 θ R Q σ lv (pc + 3) (.ref (za θ 142) :: st)) : WZ l cc nL ret own 129 14 θ R Q σ lv pc (.ref (za θ o) :: st) :=
  z_getG (ci := 12) (k := 28) (C := R_Model) (T := F_Model) (N := 31) d (zR_i hR).2.2.1 (zR_i hR).2.2.2 (zcell_obj (zR_k hR) rfl) rfl i_Model (by decide) rfl hw rfl g
theorem gf_Model_wrong {o index : Nat} (hR : zR 129 14 o 22 0 = true) (d : decode cc pc = .ok (.getfield index, 3)) (hw : Cond.fieldLink own index "BakedBeforeModel" "wrong" "Z" ∈ zW0) (g : WZ l cc nL ret own 129 14 θ R Q σ lv (pc + 3) (.int (zI σ o 14) :: st)) : WZ l cc nL ret own 129 14 θ R Q σ lv pc (.ref (za θ o) :: st) :=
  z_getG (ci := 12) (k := 14) (C := R_Model) (T := F_Model) (N := 31) d (zR_i hR).2.2.1 (zR_i hR).2.2.2 (zcell_obj (zR_k hR) rfl) rfl i_Model (by decide) rfl hw rfl g
theorem pf_Model_wrong {o index : Nat} {v : Int32} (hR : zR 129 14 o 22 0 = true) (hb : zbl v = true) (d : decode cc pc = .ok (.putfield index, 3)) (hw : Cond.fieldLink own index "BakedBeforeModel" "wrong" "Z" ∈ zW0) (g : WZ l cc nL ret own 129 14 θ R Q (zsI σ o 14 v) lv (pc + 3) st) : WZ l cc nL ret own 129 14 θ R Q σ lv pc (.int v :: .ref (za θ o) :: st) :=
  z_putG (ci := 12) (k := 14) (C := R_Model) (T := F_Model) (N := 31) (ty := .boolean) (σ' := (zsI σ o 14 v)) d (zR_i hR).2.2.1 (zR_i hR).2.2.2 (zcell_obj (zR_k hR) rfl) rfl i_Model t_Model_ok n_Model (by decide) rfl hw rfl (by decide +kernel) (zbl_i hb) (by simp only [zbl, Bool.or_eq_true, beq_iff_eq] at hb; rcases hb with rfl | rfl <;> rfl) (Nat.le_of_ble_eq_true rfl) (zcell_obj (zR_k hR) (by rw [zsI_self]; rfl)) zcell_sI g
theorem w_iald {o N : Nat} {i : Int32} (hR : zR lo n o 0 N = true) (hi : zin i N = true) (d : decode cc pc = .ok (.iaload, 1)) (g : WZ l cc nL ret own lo n θ R Q σ lv (pc + 1) (.int (zI σ o i.toNatClampNeg) :: st)) : WZ l cc nL ret own lo n θ R Q σ lv pc (.int i :: .ref (za θ o) :: st) :=
  z_iald d (zR_i hR).1 (zR_i hR).2.1 (zR_i hR).2.2.1 (zR_i hR).2.2.2 hi g
theorem w_bald {o N : Nat} {i : Int32} (hR : zR lo n o 1 N = true) (hi : zin i N = true) (d : decode cc pc = .ok (.baload, 1)) (g : WZ l cc nL ret own lo n θ R Q σ lv (pc + 1) (.int (zI σ o i.toNatClampNeg) :: st)) : WZ l cc nL ret own lo n θ R Q σ lv pc (.int i :: .ref (za θ o) :: st) :=
  z_bald d (zR_i hR).1 (zR_i hR).2.1 (zR_i hR).2.2.1 (zR_i hR).2.2.2 hi g
theorem w_lald {o N : Nat} {i : Int32} (hR : zR lo n o 2 N = true) (hi : zin i N = true) (d : decode cc pc = .ok (.laload, 1)) (g : WZ l cc nL ret own lo n θ R Q σ lv (pc + 1) (.long (zL σ o i.toNatClampNeg) :: st)) : WZ l cc nL ret own lo n θ R Q σ lv pc (.int i :: .ref (za θ o) :: st) :=
  z_lald d (zR_i hR).1 (zR_i hR).2.1 (zR_i hR).2.2.1 (zR_i hR).2.2.2 hi g
theorem w_iast {o N : Nat} {i x : Int32} (hR : zR lo n o 0 N = true) (hi : zin i N = true) (d : decode cc pc = .ok (.iastore, 1)) (g : WZ l cc nL ret own lo n θ R Q (zsI σ o i.toNatClampNeg x) lv (pc + 1) st) : WZ l cc nL ret own lo n θ R Q σ lv pc (.int x :: .int i :: .ref (za θ o) :: st) :=
  z_iast d (zR_i hR).1 (zR_i hR).2.1 (zR_i hR).2.2.1 (zR_i hR).2.2.2 hi g
theorem w_bast {o N : Nat} {i x : Int32} (hR : zR lo n o 1 N = true) (hi : zin i N = true) (hx : zbl x = true) (d : decode cc pc = .ok (.bastore, 1)) (g : WZ l cc nL ret own lo n θ R Q (zsI σ o i.toNatClampNeg x) lv (pc + 1) st) : WZ l cc nL ret own lo n θ R Q σ lv pc (.int x :: .int i :: .ref (za θ o) :: st) :=
  z_bast d (zR_i hR).1 (zR_i hR).2.1 (zR_i hR).2.2.1 (zR_i hR).2.2.2 hi hx g
theorem w_last {o N : Nat} {i : Int32} {x : Int64} (hR : zR lo n o 2 N = true) (hi : zin i N = true) (d : decode cc pc = .ok (.lastore, 1)) (g : WZ l cc nL ret own lo n θ R Q (zsL σ o i.toNatClampNeg x) lv (pc + 1) st) : WZ l cc nL ret own lo n θ R Q σ lv pc (.long x :: .int i :: .ref (za θ o) :: st) :=
  z_last d (zR_i hR).1 (zR_i hR).2.1 (zR_i hR).2.2.1 (zR_i hR).2.2.2 hi g
theorem w_alen {o N : Nat} {v : Int32} (hR : zR lo n o 0 N = true) (hv : Int32.ofNat N = v) (d : decode cc pc = .ok (.arraylength, 1)) (g : WZ l cc nL ret own lo n θ R Q σ lv (pc + 1) (.int v :: st)) : WZ l cc nL ret own lo n θ R Q σ lv pc (.ref (za θ o) :: st) :=
  z_alen (t0 := 0) d (zR_i hR).1 (zR_i hR).2.1 rfl rfl (zR_i hR).2.2.1 (zR_i hR).2.2.2 hv g
theorem w_aald3 {o : Nat} {i : Int32} (hR : zR lo n o 3 6 = true) (hi : zin i 6 = true) (d : decode cc pc = .ok (.aaload, 1)) (g : WZ l cc nL ret own lo n θ R Q σ lv (pc + 1) (.ref (za θ (zel o i.toNatClampNeg)) :: st)) : WZ l cc nL ret own lo n θ R Q σ lv pc (.int i :: .ref (za θ o) :: st) :=
  z_aald (t0 := 3) (C := R_Loaf) d (zR_i hR).1 (zR_i hR).2.1 rfl rfl (zR_i hR).2.2.1 (zR_i hR).2.2.2 hi g
theorem w_aald4 {o : Nat} {i : Int32} (hR : zR lo n o 4 6 = true) (hi : zin i 6 = true) (d : decode cc pc = .ok (.aaload, 1)) (g : WZ l cc nL ret own lo n θ R Q σ lv (pc + 1) (.ref (za θ (zel o i.toNatClampNeg)) :: st)) : WZ l cc nL ret own lo n θ R Q σ lv pc (.int i :: .ref (za θ o) :: st) :=
  z_aald (t0 := 4) (C := R_Oven) d (zR_i hR).1 (zR_i hR).2.1 rfl rfl (zR_i hR).2.2.1 (zR_i hR).2.2.2 hi g
theorem w_aald5 {o : Nat} {i : Int32} (hR : zR lo n o 5 6 = true) (hi : zin i 6 = true) (d : decode cc pc = .ok (.aaload, 1)) (g : WZ l cc nL ret own lo n θ R Q σ lv (pc + 1) (.ref (za θ (zel o i.toNatClampNeg)) :: st)) : WZ l cc nL ret own lo n θ R Q σ lv pc (.int i :: .ref (za θ o) :: st) :=
  z_aald (t0 := 5) (C := R_Kiln) d (zR_i hR).1 (zR_i hR).2.1 rfl rfl (zR_i hR).2.2.1 (zR_i hR).2.2.2 hi g
theorem w_callV {α : Type} {mk : ZT → α → Option Value} {v : α} {s1 : ZM} {y : MethodName} {b : ByteArray} {nM k o index ci kc : Nat} {rt : Option FieldType} {rm : Room} {q : vw_C} {st1 st2 As : List Value} (hM : zMet mk l lo n θ y b nM rt rm (.ref (za θ o) :: As) σ (v, s1)) (F : zcfV y b nM rt k) (hw : Cond.methodLink own index y ∈ zW0) (d : decode cc pc = .ok (.invokevirtual index, 3))
    (hR : zR lo n o kc 0 = true) (he : zce θ kc (zln o) o (σ.1 o) (σ.2.1 o) (σ.2.2 o) = .inr (ci, zobj θ kc o (σ.1 o) (σ.2.2 o))) (hc : zcl[ci]? = some q) (hq : q.1 = y.cls) (hAs : As.length = k) (hst : st1 = As.reverse ++ .ref (za θ o) :: st) (hst2 : (mk θ v).toList ++ st = st2) (hcat : (st.map fun v => v.category).sum ≤ 8) (hr0 : rm.cells = 0) (hr1 : rm.slots = 0) (hRm : rm.frames + 1 ≤ R.frames ∧ 8 + (nM + 11) + rm.locals ≤ R.locals)
    (g : WZ l cc nL ret own lo n θ R Q s1 lv (pc + 3) st2) : WZ l cc nL ret own lo n θ R Q σ lv pc st1 :=
  z_callV hM F hw d (zR_k hR) he hc hq (zR_i hR).2.2.1 (zR_i hR).2.2.2 hAs hst hcat hr0 hr1 hRm (by rw [hst2]; exact g)
theorem w_callS {α : Type} {mk : ZT → α → Option Value} {v : α} {s1 : ZM} {y : MethodName} {b : ByteArray} {nM k index : Nat} {rt : Option FieldType} {rm : Room} {st1 st2 As : List Value} (hM : zMet mk l lo n θ y b nM rt rm As σ (v, s1)) (F : zcfS y b nM rt k) (hw : Cond.methodLink own index y ∈ zW0) (d : decode cc pc = .ok (.invokestatic index, 3))
    (hAs : As.length = k) (hst : st1 = As.reverse ++ st) (hst2 : (mk θ v).toList ++ st = st2) (hcat : (st.map fun v => v.category).sum ≤ 8) (hr0 : rm.cells = 0) (hr1 : rm.slots = 0) (hRm : rm.frames + 1 ≤ R.frames ∧ 8 + (nM + 11) + rm.locals ≤ R.locals)
    (g : WZ l cc nL ret own lo n θ R Q s1 lv (pc + 3) st2) : WZ l cc nL ret own lo n θ R Q σ lv pc st1 :=
  z_callS hM F hw d hAs hst hcat hr0 hr1 hRm (by rw [hst2]; exact g)
end FIELDS
end
section
/-! texts and copies, as functions -/
def zsraw (i k : Nat) : Int32 := (zsbyt.getD i []).getD k 0
def zschar (i : Nat) (j : Int32) : Int32 := zsraw i j.toNatClampNeg
def zcpok (sp dp n : Int32) (n0 n1 : Nat) : Bool := decide (0 ≤ sp) && (decide (0 ≤ dp) && (decide (0 ≤ n) && (decide (sp.toNatClampNeg + n.toNatClampNeg ≤ n0) && decide (dp.toNatClampNeg + n.toNatClampNeg ≤ n1))))
end
section
/-! the methods as functions of the memory (printed by program out of the class files' listing) -/
def f_Loaf_begin_12 (k12 : Nat × Int32 × ZM → Option (Unit × ZM)) (x0 : Nat) (x3 : Int32) (σ : ZM) : Option (Unit × ZM) :=
  if (4 : Int32) ≤ x3 then (
    some ((), σ)
  ) else (
    zck (zin x3 4) (
    zck (zin x3 4) (
    k12 (x0, (x3 + (1 : Int32)), (zsI (zsI σ (x0 + 12) x3.toNatClampNeg (0 : Int32)) (x0 + 24) x3.toNatClampNeg (9 : Int32)))))
  )
def F_Loaf_begin_12 (N : Nat) : Nat × Int32 × ZM → Option (Unit × ZM) := zlp (fun k12 a => f_Loaf_begin_12 k12 a.1 a.2.1 a.2.2) N
def f_Loaf_begin (x0 : Nat) (x1 : Int32) (x2 : Int32) (σ : ZM) : Option (Unit × ZM) :=
  zck (zR 0 129 x0 16 0) (
  F_Loaf_begin_12 2000 (x0, (0 : Int32), (zsI (zsI σ x0 3 x1) x0 4 x2)))
def f_BB_loaf (x1 : Int32) (x2 : Int32) (σ : ZM) : Option (Int32 × ZM) :=
  if x1 < 0 then (
    some ((-1 : Int32), σ)
  ) else (
    if x1 ≤ (6 : Int32) then (
      if x2 < 0 then (
        some ((-2 : Int32), σ)
      ) else (
        if x2 ≤ (9 : Int32) then (
          if (zI σ 1 3) < (6 : Int32) then (
            zck (zin (zI σ 1 3) 6) (
            zck (zR 0 129 (zel 25 (zI σ 1 3).toNatClampNeg) 16 0) (
            zbd (f_Loaf_begin (zel 25 (zI σ 1 3).toNatClampNeg) x1 x2 σ) fun v8 s9 => (
            some ((zI (zsI s9 1 3 ((zI s9 1 3) + (1 : Int32))) 1 3) - (1 : Int32), (zsI s9 1 3 ((zI s9 1 3) + (1 : Int32)))))))
          ) else (
            some ((-4 : Int32), σ)
          )
        ) else (
          some ((-2 : Int32), σ)
        )
      )
    ) else (
      some ((-1 : Int32), σ)
    )
  )
def f_BB_isLoaf (x1 : Int32) (σ : ZM) : Option (Int32 × ZM) :=
  if x1 < 0 then (
    some ((0 : Int32), σ)
  ) else (
    if (zI σ 1 3) ≤ x1 then (
      some ((0 : Int32), σ)
    ) else (
      some ((1 : Int32), σ)
    )
  )
def f_BB_isTaste (x0 : Int32) (σ : ZM) : Option (Int32 × ZM) :=
  if x0 < 0 then (
    some ((0 : Int32), σ)
  ) else (
    if (4 : Int32) ≤ x0 then (
      some ((0 : Int32), σ)
    ) else (
      some ((1 : Int32), σ)
    )
  )
def f_BB_set_72 (x2 : Int32) (x4 : Int32) (y0 : Nat) (σ : ZM) : Option (Int32 × ZM) :=
  zck (zin x2 4) (
  zck (zin x2 4) (
  some (zI σ y0 x2.toNatClampNeg, (zsI σ y0 x2.toNatClampNeg x4))))
def f_BB_set (x1 : Int32) (x2 : Int32) (x3 : Int32) (x4 : Int32) (σ : ZM) : Option (Int32 × ZM) :=
  zbd (f_BB_isLoaf x1 σ) fun v1 s2 => (
  if v1 = 0 then (
    some ((-1 : Int32), s2)
  ) else (
    zbd (f_BB_isTaste x2 s2) fun v5 s6 => (
    if v5 = 0 then (
      some ((-1 : Int32), s6)
    ) else (
      if x3 < 0 then (
        some ((-1 : Int32), s6)
      ) else (
        if x3 ≤ (1 : Int32) then (
          if x4 < 0 then (
            some ((-2 : Int32), s6)
          ) else (
            if x4 ≤ (99 : Int32) then (
              if x3 = 0 then (
                zck (zin x1 6) (
                zck (zR 0 129 (zel 25 x1.toNatClampNeg) 16 0) (
                f_BB_set_72 x2 x4 ((zel 25 x1.toNatClampNeg) + 12) s6))
              ) else (
                zck (zin x1 6) (
                zck (zR 0 129 (zel 25 x1.toNatClampNeg) 16 0) (
                f_BB_set_72 x2 x4 ((zel 25 x1.toNatClampNeg) + 24) s6))
              )
            ) else (
              some ((-2 : Int32), s6)
            )
          )
        ) else (
          some ((-1 : Int32), s6)
        )
      )
    ))
  ))
def f_Kiln_lookAt (x0 : Nat) (x1 : Nat) (x2 : Int32) (x3 : Int32) (x4 : Int32) (σ : ZM) : Option (Unit × ZM) :=
  zck (zR 0 129 x0 15 0) (
  zck (zR 0 129 x1 16 0) (
  zck (zin (0 : Int32) 6) (
  zck (zin (1 : Int32) 6) (
  zck (zin (2 : Int32) 6) (
  zck (zin (3 : Int32) 6) (
  zck (zin (4 : Int32) 6) (
  zck (zin (5 : Int32) 6) (
  some ((), (zsI (zsI (zsI (zsI (zsI (zsI σ (x0 + 35) (0 : Int32).toNatClampNeg (zI σ x1 0)) (x0 + 35) (1 : Int32).toNatClampNeg (zI (zsI σ (x0 + 35) (0 : Int32).toNatClampNeg (zI σ x1 0)) x1 3)) (x0 + 35) (2 : Int32).toNatClampNeg x2) (x0 + 35) (3 : Int32).toNatClampNeg (zI (zsI (zsI (zsI σ (x0 + 35) (0 : Int32).toNatClampNeg (zI σ x1 0)) (x0 + 35) (1 : Int32).toNatClampNeg (zI (zsI σ (x0 + 35) (0 : Int32).toNatClampNeg (zI σ x1 0)) x1 3)) (x0 + 35) (2 : Int32).toNatClampNeg x2) x1 4)) (x0 + 35) (4 : Int32).toNatClampNeg (x4 - x4 / (60 : Int32) * (60 : Int32))) (x0 + 35) (5 : Int32).toNatClampNeg x3))))))))))
def f_Kiln_holds_175 (k5 : Nat × Int32 × Int64 × Int32 × ZM → Option (Int32 × ZM)) (x0 : Nat) (x2 : Int32) (x3 : Int64) (x5 : Int32) (σ : ZM) : Option (Int32 × ZM) :=
  k5 (x0, x2, x3, (x5 + (1 : Int32)), σ)
def f_Kiln_holds_172 (k5 : Nat × Int32 × Int64 × Int32 × ZM → Option (Int32 × ZM)) (x0 : Nat) (x2 : Int32) (x5 : Int32) (y0 : Int32) (y1 : Int64) (σ : ZM) : Option (Int32 × ZM) :=
  f_Kiln_holds_175 k5 x0 x2 (y1 ||| y0.toInt64) x5 σ
def f_Kiln_holds_157 (k5 : Nat × Int32 × Int64 × Int32 × ZM → Option (Int32 × ZM)) (x0 : Nat) (x2 : Int32) (x3 : Int64) (x5 : Int32) (y0 : Int32) (σ : ZM) : Option (Int32 × ZM) :=
  if y0 = 0 then (
    f_Kiln_holds_172 k5 x0 x2 x5 (0 : Int32) (x3 <<< ((1 : Int32).toInt64 &&& 63)) σ
  ) else (
    f_Kiln_holds_172 k5 x0 x2 x5 (1 : Int32) (x3 <<< ((1 : Int32).toInt64 &&& 63)) σ
  )
def f_Kiln_holds_5 (k5 : Nat × Int32 × Int64 × Int32 × ZM → Option (Int32 × ZM)) (x0 : Nat) (x2 : Int32) (x3 : Int64) (x5 : Int32) (σ : ZM) : Option (Int32 × ZM) :=
  if x2 ≤ x5 then (
    if (lg_cmp (x3 &&& (1 : Int64)) (1 : Int64)) = 0 then (
      some ((1 : Int32), σ)
    ) else (
      some ((0 : Int32), σ)
    )
  ) else (
    zck (zin x5 100) (
    if (zI σ (x0 + 28) x5.toNatClampNeg) = (-1 : Int32) then (
      f_Kiln_holds_175 k5 x0 x2 (x3 ^^^ (1 : Int64)) x5 σ
    ) else (
      if (zI σ (x0 + 28) x5.toNatClampNeg) = (-2 : Int32) then (
        f_Kiln_holds_175 k5 x0 x2 ((x3 >>> ((1 : Int32).toInt64 &&& 63)) &&& ((x3 &&& (1 : Int64)) ||| (-2 : Int64))) x5 σ
      ) else (
        if (zI σ (x0 + 28) x5.toNatClampNeg) = (-3 : Int32) then (
          f_Kiln_holds_175 k5 x0 x2 ((x3 >>> ((1 : Int32).toInt64 &&& 63)) ||| (x3 &&& (1 : Int64))) x5 σ
        ) else (
          zck (zin ((zI σ (x0 + 28) x5.toNatClampNeg) >>> ((9 : Int32) &&& 31)) 6) (
          if (((zI σ (x0 + 28) x5.toNatClampNeg) >>> ((7 : Int32) &&& 31)) &&& (3 : Int32)) = 0 then (
            if ((zI σ (x0 + 28) x5.toNatClampNeg) &&& (127 : Int32)) ≤ (zI σ (x0 + 35) ((zI σ (x0 + 28) x5.toNatClampNeg) >>> ((9 : Int32) &&& 31)).toNatClampNeg) then (
              f_Kiln_holds_157 k5 x0 x2 x3 x5 (0 : Int32) σ
            ) else (
              f_Kiln_holds_157 k5 x0 x2 x3 x5 (1 : Int32) σ
            )
          ) else (
            if (((zI σ (x0 + 28) x5.toNatClampNeg) >>> ((7 : Int32) &&& 31)) &&& (3 : Int32)) = (1 : Int32) then (
              if (zI σ (x0 + 35) ((zI σ (x0 + 28) x5.toNatClampNeg) >>> ((9 : Int32) &&& 31)).toNatClampNeg) = ((zI σ (x0 + 28) x5.toNatClampNeg) &&& (127 : Int32)) then (
                f_Kiln_holds_157 k5 x0 x2 x3 x5 (1 : Int32) σ
              ) else (
                f_Kiln_holds_157 k5 x0 x2 x3 x5 (0 : Int32) σ
              )
            ) else (
              if (zI σ (x0 + 35) ((zI σ (x0 + 28) x5.toNatClampNeg) >>> ((9 : Int32) &&& 31)).toNatClampNeg) ≤ ((zI σ (x0 + 28) x5.toNatClampNeg) &&& (127 : Int32)) then (
                f_Kiln_holds_157 k5 x0 x2 x3 x5 (0 : Int32) σ
              ) else (
                f_Kiln_holds_157 k5 x0 x2 x3 x5 (1 : Int32) σ
              )
            )
          ))
        )
      )
    ))
  )
def F_Kiln_holds_5 (N : Nat) : Nat × Int32 × Int64 × Int32 × ZM → Option (Int32 × ZM) := zlp (fun k5 a => f_Kiln_holds_5 k5 a.1 a.2.1 a.2.2.1 a.2.2.2.1 a.2.2.2.2) N
def f_Kiln_holds (x0 : Nat) (x1 : Int32) (x2 : Int32) (σ : ZM) : Option (Int32 × ZM) :=
  zck (zR 0 129 x0 15 0) (
  F_Kiln_holds_5 2000 (x0, x2, (0 : Int64), x1, σ))
def f_Kiln_sum_52 (k7 : Nat × Int32 × Int32 × Int32 × Int32 × ZM → Option (Int32 × ZM)) (x0 : Nat) (x1 : Int32) (x2 : Int32) (x4 : Int32) (σ : ZM) : Option (Int32 × ZM) :=
  zck (zin x4 10) (
  k7 (x0, x1, x2, (zI σ (x0 + 21) x4.toNatClampNeg), (x4 + (1 : Int32)), σ))
def f_Kiln_sum_7 (k7 : Nat × Int32 × Int32 × Int32 × Int32 × ZM → Option (Int32 × ZM)) (x0 : Nat) (x1 : Int32) (x2 : Int32) (x3 : Int32) (x4 : Int32) (σ : ZM) : Option (Int32 × ZM) :=
  if (zI σ x0 5) ≤ x4 then (
    some (x2, σ)
  ) else (
    zck (zin x4 10) (
    if (zI σ (x0 + 7) x4.toNatClampNeg) = x1 then (
      zck (zin x4 10) (
      zbd (f_Kiln_holds x0 x3 (zI σ (x0 + 21) x4.toNatClampNeg) σ) fun v5 s6 => (
      if v5 = 0 then (
        f_Kiln_sum_52 k7 x0 x1 x2 x4 s6
      ) else (
        zck (zin x4 10) (
        f_Kiln_sum_52 k7 x0 x1 (x2 + (zI s6 (x0 + 14) x4.toNatClampNeg)) x4 s6)
      )))
    ) else (
      f_Kiln_sum_52 k7 x0 x1 x2 x4 σ
    ))
  )
def F_Kiln_sum_7 (N : Nat) : Nat × Int32 × Int32 × Int32 × Int32 × ZM → Option (Int32 × ZM) := zlp (fun k7 a => f_Kiln_sum_7 k7 a.1 a.2.1 a.2.2.1 a.2.2.2.1 a.2.2.2.2.1 a.2.2.2.2.2) N
def f_Kiln_sum (x0 : Nat) (x1 : Int32) (σ : ZM) : Option (Int32 × ZM) :=
  zck (zR 0 129 x0 15 0) (
  F_Kiln_sum_7 2000 (x0, x1, (0 : Int32), (0 : Int32), (0 : Int32), σ))
def f_Baker_feeOf (x1 : Nat) (x2 : Int32) (σ : ZM) : Option (Int32 × ZM) :=
  zck (zR 0 129 x1 16 0) (
  zck (zR 0 129 (zP σ 5 0) 15 0) (
  zbd (f_Kiln_lookAt (zP σ 5 0) x1 (99 : Int32) (99 : Int32) x2 σ) fun v2 s3 => (
  zck (zR 0 129 (zP s3 5 0) 15 0) (
  zbd (f_Kiln_sum (zP s3 5 0) (3 : Int32) s3) fun v6 s7 => (
  some ((1 : Int32) + v6, s7))))))
def f_Baker_partOf (x1 : Nat) (x2 : Int32) (x3 : Int32) (x4 : Int32) (σ : ZM) : Option (Int32 × ZM) :=
  zck (zR 0 129 x1 16 0) (
  zck (zR 0 129 (zP σ 5 0) 15 0) (
  if (zI σ (zP σ 5 0) 7) = 0 then (
    some ((50 : Int32), σ)
  ) else (
    zck (zR 0 129 (zP σ 5 0) 15 0) (
    zbd (f_Kiln_lookAt (zP σ 5 0) x1 x2 (x3 / (10 : Int32)) x4 σ) fun v4 s5 => (
    zck (zR 0 129 (zP s5 5 0) 15 0) (
    zbd (f_Kiln_sum (zP s5 5 0) (0 : Int32) s5) fun v8 s9 => (
    some (v8, s9)))))
  )))
def f_Baker_amount_116 (x3 : Int32) (x5 : Int32) (σ : ZM) : Option (Int32 × ZM) :=
  some ((if (0 : Int32) < (if x3 < x5 then x3 else x5) then (if x3 < x5 then x3 else x5) else (0 : Int32)), σ)
def f_Baker_amount_62 (x3 : Int32) (x4 : Int32) (σ : ZM) : Option (Int32 × ZM) :=
  f_Baker_amount_116 x3 ((2 : Int32) * x4) σ
def f_Baker_amount (x0 : Nat) (x1 : Int32) (x2 : Int32) (x3 : Int32) (σ : ZM) : Option (Int32 × ZM) :=
  zck (zR 0 129 x0 16 0) (
  if (zI σ x0 3) = (1 : Int32) then (
    f_Baker_amount_116 x3 x3 σ
  ) else (
  if (zI σ x0 3) = (2 : Int32) then (
    f_Baker_amount_62 x3 ((x2 * x3) / (100 : Int32)) σ
  ) else (
  if (zI σ x0 3) = (3 : Int32) then (
    zck (zin x1 4) (
    f_Baker_amount_116 x3 (if (zI σ (x0 + 24) x1.toNatClampNeg) < ((x2 * x3) / (100 : Int32)) then (zI σ (x0 + 24) x1.toNatClampNeg) else ((x2 * x3) / (100 : Int32))) σ)
  ) else (
  if (zI σ x0 3) = (4 : Int32) then (
    f_Baker_amount_116 x3 (x3 - (zI σ x0 4)) σ
  ) else (
  if (zI σ x0 3) = (5 : Int32) then (
    f_Baker_amount_62 x3 ((x2 * x3) / (100 : Int32)) σ
  ) else (
  if (zI σ x0 3) = (6 : Int32) then (
    zck (zin x1 4) (
    f_Baker_amount_116 x3 ((if (zI σ (x0 + 24) x1.toNatClampNeg) < ((x2 * x3) / (100 : Int32)) then (zI σ (x0 + 24) x1.toNatClampNeg) else ((x2 * x3) / (100 : Int32))) / (2 : Int32)) σ)
  ) else (
    f_Baker_amount_116 x3 ((x2 * x3) / (100 : Int32)) σ
  )))))))
def f_Baker_takes (x1 : Nat) (x2 : Int32) (x3 : Nat) (σ : ZM) : Option (Int32 × ZM) :=
  zck (zR 0 129 x1 16 0) (
  zck (zR 0 129 x3 17 0) (
  zck (zin x2 4) (
  zbd (f_Baker_partOf x1 x2 (zI σ (x3 + 9) x2.toNatClampNeg) (zI σ x3 1) σ) fun v2 s3 => (
  zbd (f_Baker_amount x1 x2 v2 (zI σ (x3 + 9) x2.toNatClampNeg) s3) fun v5 s6 => (
  some (v5, s6))))))
def f_Baker_spoils_2 (k2 : Nat × Nat × Int32 × ZM → Option (Int32 × ZM)) (x1 : Nat) (x2 : Nat) (x3 : Int32) (σ : ZM) : Option (Int32 × ZM) :=
  if (4 : Int32) ≤ x3 then (
    some ((0 : Int32), σ)
  ) else (
    zbd (f_Baker_takes x1 x3 x2 σ) fun v2 s3 => (
    zck (zin x3 4) (
    if v2 ≤ (zI s3 (x1 + 24) x3.toNatClampNeg) then (
      k2 (x1, x2, (x3 + (1 : Int32)), s3)
    ) else (
      some ((1 : Int32), s3)
    )))
  )
def F_Baker_spoils_2 (N : Nat) : Nat × Nat × Int32 × ZM → Option (Int32 × ZM) := zlp (fun k2 a => f_Baker_spoils_2 k2 a.1 a.2.1 a.2.2.1 a.2.2.2) N
def f_Baker_spoils (x1 : Nat) (x2 : Nat) (σ : ZM) : Option (Int32 × ZM) :=
  zck (zR 0 129 x1 16 0) (
  zck (zR 0 129 x2 17 0) (
  F_Baker_spoils_2 2000 (x1, x2, (0 : Int32), σ)))
def f_BB_flag (x0 : Int32) (σ : ZM) : Option (Int32 × ZM) :=
  if x0 = 0 then (
    some ((0 : Int32), σ)
  ) else (
    some ((1 : Int32), σ)
  )
def f_Baker_leaves_78 (x1 : Nat) (x4 : Int32) (σ : ZM) : Option (Int32 × ZM) :=
  if (zI σ x1 3) = (6 : Int32) then (
    some (x4 / (2 : Int32), σ)
  ) else (
    some (x4, σ)
  )
def f_Baker_leaves (x1 : Nat) (x2 : Int32) (x3 : Nat) (σ : ZM) : Option (Int32 × ZM) :=
  zck (zR 0 129 x1 16 0) (
  zck (zR 0 129 x3 17 0) (
  if (zI σ x1 3) = (1 : Int32) then (
    some ((0 : Int32), σ)
  ) else (
    if (zI σ x1 3) = (4 : Int32) then (
      some ((0 : Int32), σ)
    ) else (
      zck (zR 0 129 (zP σ 5 0) 15 0) (
      zck (zin x2 4) (
      zbd (f_Kiln_lookAt (zP σ 5 0) x1 x2 ((zI σ (x3 + 9) x2.toNatClampNeg) / (10 : Int32)) (zI σ x3 1) σ) fun v5 s6 => (
      zck (zin x2 4) (
      zck (zR 0 129 (zP s6 5 0) 15 0) (
      zbd (f_Kiln_sum (zP s6 5 0) (1 : Int32) s6) fun v10 s11 => (
      if (zI s11 x1 3) = (5 : Int32) then (
        if x2 = 0 then (
          f_Baker_leaves_78 x1 (((zI s6 (x1 + 12) x2.toNatClampNeg) + v10) + (zI s11 x1 4)) s11
        ) else (
          f_Baker_leaves_78 x1 ((zI s6 (x1 + 12) x2.toNatClampNeg) + v10) s11
        )
      ) else (
        f_Baker_leaves_78 x1 ((zI s6 (x1 + 12) x2.toNatClampNeg) + v10) s11
      )))))))
    )
  )))
def f_BB_ofTaste (x1 : Nat) (x2 : Int32) (x3 : Int32) (σ : ZM) : Option (Int32 × ZM) :=
  zck (zR 0 129 x1 16 0) (
  zbd (f_BB_isTaste x3 σ) fun v1 s2 => (
  if v1 = 0 then (
    some ((-1 : Int32), s2)
  ) else (
    if x2 = (1 : Int32) then (
      zck (zin x3 4) (
      some (zI s2 (x1 + 12) x3.toNatClampNeg, s2))
    ) else (
    if x2 = (2 : Int32) then (
      zck (zin x3 4) (
      some (zI s2 (x1 + 24) x3.toNatClampNeg, s2))
    ) else (
    if x2 = (3 : Int32) then (
      zbd (f_Baker_takes x1 x3 33 s2) fun v10 s11 => (
      some (v10, s11))
    ) else (
    if x2 = (4 : Int32) then (
      zbd (f_Baker_leaves x1 x3 33 s2) fun v14 s15 => (
      some (v14, s15))
    ) else (
      some ((-1 : Int32), s2)
    ))))
  )))
def f_BB_of (x1 : Int32) (x2 : Int32) (σ : ZM) : Option (Int32 × ZM) :=
  zbd (f_BB_isLoaf x1 σ) fun v1 s2 => (
  if v1 = 0 then (
    some ((-1 : Int32), s2)
  ) else (
    if 0 ≤ x2 then (
      zck (zin x1 6) (
      zck (zR 0 129 (zel 25 x1.toNatClampNeg) 16 0) (
      if x2 = (0 : Int32) then (
        some (zI s2 (zel 25 x1.toNatClampNeg) 3, s2)
      ) else (
      if x2 = (1 : Int32) then (
        some (zI s2 (zel 25 x1.toNatClampNeg) 4, s2)
      ) else (
      if x2 = (2 : Int32) then (
        zbd (f_Baker_feeOf (zel 25 x1.toNatClampNeg) (zI s2 33 1) s2) fun v11 s12 => (
        some (v11, s12))
      ) else (
      if x2 = (3 : Int32) then (
        zbd (f_Baker_spoils (zel 25 x1.toNatClampNeg) 33 s2) fun v15 s16 => (
        zbd (f_BB_flag v15 s16) fun v18 s19 => (
        some (v18, s19)))
      ) else (
        zbd (f_BB_ofTaste (zel 25 x1.toNatClampNeg) (x2 / (10 : Int32)) (x2 - x2 / (10 : Int32) * (10 : Int32)) s2) fun v21 s22 => (
        some (v21, s22))
      ))))))
    ) else (
      some ((-1 : Int32), s2)
    )
  ))
def f_BB_oven (x1 : Int32) (x2 : Int32) (σ : ZM) : Option (Int32 × ZM) :=
  zbd (f_BB_isTaste x1 σ) fun v1 s2 => (
  if v1 = 0 then (
    some ((-1 : Int32), s2)
  ) else (
    if x2 < 0 then (
      some ((-2 : Int32), s2)
    ) else (
      if x2 ≤ (9999 : Int32) then (
        zck (zin x1 4) (
        zck (zin x1 4) (
        some (zI s2 42 x1.toNatClampNeg, (zsI s2 42 x1.toNatClampNeg x2))))
      ) else (
        some ((-2 : Int32), s2)
      )
    )
  ))
def f_Reader_append (x1 : Int32) (σ : ZM) : Option (Int32 × ZM) :=
  if (zI σ 3 1) < (100 : Int32) then (
    zck (zin (zI σ 3 1) 100) (
    some (zI (zsI (zsI σ 4 (zI σ 3 1).toNatClampNeg x1) 3 1 ((zI (zsI σ 4 (zI σ 3 1).toNatClampNeg x1) 3 1) + (1 : Int32))) 3 1, (zsI (zsI σ 4 (zI σ 3 1).toNatClampNeg x1) 3 1 ((zI (zsI σ 4 (zI σ 3 1).toNatClampNeg x1) 3 1) + (1 : Int32)))))
  ) else (
    some ((-4 : Int32), σ)
  )
def f_BB_feed (x1 : Int32) (σ : ZM) : Option (Int32 × ZM) :=
  if x1 < 0 then (
    some ((-2 : Int32), σ)
  ) else (
    if x1 ≤ (127 : Int32) then (
      zbd (f_Reader_append x1 σ) fun v3 s4 => (
      some (v3, s4))
    ) else (
      some ((-2 : Int32), σ)
    )
  )
def f_Kiln_empty (x0 : Nat) (σ : ZM) : Option (Unit × ZM) :=
  zck (zR 0 129 x0 15 0) (
  some ((), (zsI (zsI (zsI (zsI σ x0 5 (0 : Int32)) x0 6 (0 : Int32)) x0 7 (0 : Int32)) x0 8 (50 : Int32))))
def f_Reader_here  (σ : ZM) : Option (Int32 × ZM) :=
  if (zI σ 3 2) < 0 then (
    some ((-1 : Int32), σ)
  ) else (
    if (zI σ 3 1) ≤ (zI σ 3 2) then (
      some ((-1 : Int32), σ)
    ) else (
      zck (zin (zI σ 3 2) 100) (
      some (zI σ 4 (zI σ 3 2).toNatClampNeg, σ))
    )
  )
def f_Reader_wordFrom (x0 : Int32) (σ : ZM) : Option (Int32 × ZM) :=
  if x0 = (99 : Int32) then (
    some ((2 : Int32), σ)
  ) else (
  if x0 = (102 : Int32) then (
    some ((3 : Int32), σ)
  ) else (
  if x0 = (109 : Int32) then (
    some ((1 : Int32), σ)
  ) else (
  if x0 = (116 : Int32) then (
    some ((0 : Int32), σ)
  ) else (
    some ((-1 : Int32), σ)
  ))))
def f_Reader_spelling (x0 : Int32) (σ : ZM) : Option (Nat × ZM) :=
  if x0 = (0 : Int32) then (
    some (0, σ)
  ) else (
  if x0 = (1 : Int32) then (
    some (1, σ)
  ) else (
  if x0 = (2 : Int32) then (
    some (2, σ)
  ) else (
    some (3, σ)
  )))
def f_Reader_skip (x1 : Int32) (σ : ZM) : Option (Int32 × ZM) :=
  zbd (f_Reader_here σ) fun v1 s2 => (
  if v1 = x1 then (
    some ((1 : Int32), (zsI s2 3 2 ((zI s2 3 2) + (1 : Int32))))
  ) else (
    some ((0 : Int32), s2)
  ))
def f_Reader_readWord_2 (k2 : Nat × Int32 × ZM → Option (Int32 × ZM)) (x1 : Nat) (x2 : Int32) (σ : ZM) : Option (Int32 × ZM) :=
  if (Int32.ofNat (zslen.getD x1 0)) ≤ x2 then (
    some ((1 : Int32), σ)
  ) else (
    zck (zin x2 (zslen.getD x1 0)) (
    zbd (f_Reader_skip (zschar x1 x2) σ) fun v3 s4 => (
    if v3 = 0 then (
      some ((0 : Int32), s4)
    ) else (
      k2 (x1, (x2 + (1 : Int32)), s4)
    )))
  )
def F_Reader_readWord_2 (N : Nat) : Nat × Int32 × ZM → Option (Int32 × ZM) := zlp (fun k2 a => f_Reader_readWord_2 k2 a.1 a.2.1 a.2.2) N
def f_Reader_readWord (x1 : Nat) (σ : ZM) : Option (Int32 × ZM) :=
  zck (decide (x1 < 8)) (
  F_Reader_readWord_2 2000 (x1, (0 : Int32), σ))
def f_Reader_isDigit (x0 : Int32) (σ : ZM) : Option (Int32 × ZM) :=
  if x0 < (48 : Int32) then (
    some ((0 : Int32), σ)
  ) else (
    if (57 : Int32) < x0 then (
      some ((0 : Int32), σ)
    ) else (
      some ((1 : Int32), σ)
    )
  )
def f_Reader_readNumber  (σ : ZM) : Option (Int32 × ZM) :=
  zbd (f_Reader_here σ) fun v1 s2 => (
  zbd (f_Reader_isDigit v1 s2) fun v4 s5 => (
  if v4 = 0 then (
    some ((0 : Int32), s5)
  ) else (
    zbd (f_Reader_here s5) fun v8 s9 => (
    zbd (f_Reader_here (zsI (zsI s9 3 3 (v8 - (48 : Int32))) 3 2 ((zI (zsI s9 3 3 (v8 - (48 : Int32))) 3 2) + (1 : Int32)))) fun v11 s12 => (
    zbd (f_Reader_isDigit v11 s12) fun v14 s15 => (
    if v14 = 0 then (
      some ((1 : Int32), s15)
    ) else (
      zbd (f_Reader_here s15) fun v18 s19 => (
      some ((1 : Int32), (zsI (zsI s19 3 3 ((((zI s15 3 3) * (10 : Int32)) + v18) - (48 : Int32))) 3 2 ((zI (zsI s19 3 3 ((((zI s15 3 3) * (10 : Int32)) + v18) - (48 : Int32))) 3 2) + (1 : Int32)))))
    ))))
  )))
def f_Kiln_begin_67 (x0 : Nat) (x1 : Int32) (x2 : Int32) (σ : ZM) : Option (Unit × ZM) :=
  if x1 = (2 : Int32) then (
    some ((), (zsI σ x0 8 x2))
  ) else (
    some ((), σ)
  )
def f_Kiln_begin (x0 : Nat) (x1 : Int32) (x2 : Int32) (σ : ZM) : Option (Unit × ZM) :=
  zck (zR 0 129 x0 15 0) (
  if (zI σ x0 5) < (10 : Int32) then (
    zck (zin (zI σ x0 5) 10) (
    zck (zin (zI (zsI σ (x0 + 7) (zI σ x0 5).toNatClampNeg x1) x0 5) 10) (
    zck (zin (zI (zsI (zsI σ (x0 + 7) (zI σ x0 5).toNatClampNeg x1) (x0 + 14) (zI (zsI σ (x0 + 7) (zI σ x0 5).toNatClampNeg x1) x0 5).toNatClampNeg x2) x0 5) 10) (
    if x1 = 0 then (
      f_Kiln_begin_67 x0 x1 x2 (zsI (zsI (zsI (zsI (zsI σ (x0 + 7) (zI σ x0 5).toNatClampNeg x1) (x0 + 14) (zI (zsI σ (x0 + 7) (zI σ x0 5).toNatClampNeg x1) x0 5).toNatClampNeg x2) (x0 + 21) (zI (zsI (zsI σ (x0 + 7) (zI σ x0 5).toNatClampNeg x1) (x0 + 14) (zI (zsI σ (x0 + 7) (zI σ x0 5).toNatClampNeg x1) x0 5).toNatClampNeg x2) x0 5).toNatClampNeg (zI (zsI (zsI σ (x0 + 7) (zI σ x0 5).toNatClampNeg x1) (x0 + 14) (zI (zsI σ (x0 + 7) (zI σ x0 5).toNatClampNeg x1) x0 5).toNatClampNeg x2) x0 6)) x0 5 ((zI (zsI (zsI (zsI σ (x0 + 7) (zI σ x0 5).toNatClampNeg x1) (x0 + 14) (zI (zsI σ (x0 + 7) (zI σ x0 5).toNatClampNeg x1) x0 5).toNatClampNeg x2) (x0 + 21) (zI (zsI (zsI σ (x0 + 7) (zI σ x0 5).toNatClampNeg x1) (x0 + 14) (zI (zsI σ (x0 + 7) (zI σ x0 5).toNatClampNeg x1) x0 5).toNatClampNeg x2) x0 5).toNatClampNeg (zI (zsI (zsI σ (x0 + 7) (zI σ x0 5).toNatClampNeg x1) (x0 + 14) (zI (zsI σ (x0 + 7) (zI σ x0 5).toNatClampNeg x1) x0 5).toNatClampNeg x2) x0 6)) x0 5) + (1 : Int32))) x0 7 ((zI (zsI (zsI (zsI (zsI σ (x0 + 7) (zI σ x0 5).toNatClampNeg x1) (x0 + 14) (zI (zsI σ (x0 + 7) (zI σ x0 5).toNatClampNeg x1) x0 5).toNatClampNeg x2) (x0 + 21) (zI (zsI (zsI σ (x0 + 7) (zI σ x0 5).toNatClampNeg x1) (x0 + 14) (zI (zsI σ (x0 + 7) (zI σ x0 5).toNatClampNeg x1) x0 5).toNatClampNeg x2) x0 5).toNatClampNeg (zI (zsI (zsI σ (x0 + 7) (zI σ x0 5).toNatClampNeg x1) (x0 + 14) (zI (zsI σ (x0 + 7) (zI σ x0 5).toNatClampNeg x1) x0 5).toNatClampNeg x2) x0 6)) x0 5 ((zI (zsI (zsI (zsI σ (x0 + 7) (zI σ x0 5).toNatClampNeg x1) (x0 + 14) (zI (zsI σ (x0 + 7) (zI σ x0 5).toNatClampNeg x1) x0 5).toNatClampNeg x2) (x0 + 21) (zI (zsI (zsI σ (x0 + 7) (zI σ x0 5).toNatClampNeg x1) (x0 + 14) (zI (zsI σ (x0 + 7) (zI σ x0 5).toNatClampNeg x1) x0 5).toNatClampNeg x2) x0 5).toNatClampNeg (zI (zsI (zsI σ (x0 + 7) (zI σ x0 5).toNatClampNeg x1) (x0 + 14) (zI (zsI σ (x0 + 7) (zI σ x0 5).toNatClampNeg x1) x0 5).toNatClampNeg x2) x0 6)) x0 5) + (1 : Int32))) x0 7) + (1 : Int32)))
    ) else (
      f_Kiln_begin_67 x0 x1 x2 (zsI (zsI (zsI (zsI σ (x0 + 7) (zI σ x0 5).toNatClampNeg x1) (x0 + 14) (zI (zsI σ (x0 + 7) (zI σ x0 5).toNatClampNeg x1) x0 5).toNatClampNeg x2) (x0 + 21) (zI (zsI (zsI σ (x0 + 7) (zI σ x0 5).toNatClampNeg x1) (x0 + 14) (zI (zsI σ (x0 + 7) (zI σ x0 5).toNatClampNeg x1) x0 5).toNatClampNeg x2) x0 5).toNatClampNeg (zI (zsI (zsI σ (x0 + 7) (zI σ x0 5).toNatClampNeg x1) (x0 + 14) (zI (zsI σ (x0 + 7) (zI σ x0 5).toNatClampNeg x1) x0 5).toNatClampNeg x2) x0 6)) x0 5 ((zI (zsI (zsI (zsI σ (x0 + 7) (zI σ x0 5).toNatClampNeg x1) (x0 + 14) (zI (zsI σ (x0 + 7) (zI σ x0 5).toNatClampNeg x1) x0 5).toNatClampNeg x2) (x0 + 21) (zI (zsI (zsI σ (x0 + 7) (zI σ x0 5).toNatClampNeg x1) (x0 + 14) (zI (zsI σ (x0 + 7) (zI σ x0 5).toNatClampNeg x1) x0 5).toNatClampNeg x2) x0 5).toNatClampNeg (zI (zsI (zsI σ (x0 + 7) (zI σ x0 5).toNatClampNeg x1) (x0 + 14) (zI (zsI σ (x0 + 7) (zI σ x0 5).toNatClampNeg x1) x0 5).toNatClampNeg x2) x0 6)) x0 5) + (1 : Int32)))
    ))))
  ) else (
    some ((), σ)
  ))
def f_Reader_letterOf (x0 : Int32) (σ : ZM) : Option (Int32 × ZM) :=
  if x0 = (104 : Int32) then (
    some ((4 : Int32), σ)
  ) else (
  if x0 = (105 : Int32) then (
    some ((-1 : Int32), σ)
  ) else (
  if x0 = (106 : Int32) then (
    some ((-1 : Int32), σ)
  ) else (
  if x0 = (107 : Int32) then (
    some ((1 : Int32), σ)
  ) else (
  if x0 = (108 : Int32) then (
    some ((0 : Int32), σ)
  ) else (
  if x0 = (109 : Int32) then (
    some ((-1 : Int32), σ)
  ) else (
  if x0 = (110 : Int32) then (
    some ((-1 : Int32), σ)
  ) else (
  if x0 = (111 : Int32) then (
    some ((5 : Int32), σ)
  ) else (
  if x0 = (112 : Int32) then (
    some ((-1 : Int32), σ)
  ) else (
  if x0 = (113 : Int32) then (
    some ((-1 : Int32), σ)
  ) else (
  if x0 = (114 : Int32) then (
    some ((-1 : Int32), σ)
  ) else (
  if x0 = (115 : Int32) then (
    some ((-1 : Int32), σ)
  ) else (
  if x0 = (116 : Int32) then (
    some ((2 : Int32), σ)
  ) else (
  if x0 = (117 : Int32) then (
    some ((-1 : Int32), σ)
  ) else (
  if x0 = (118 : Int32) then (
    some ((3 : Int32), σ)
  ) else (
    some ((-1 : Int32), σ)
  )))))))))))))))
def f_Kiln_append (x0 : Nat) (x1 : Int32) (σ : ZM) : Option (Unit × ZM) :=
  zck (zR 0 129 x0 15 0) (
  if (100 : Int32) ≤ (zI σ x0 6) then (
    some ((), σ)
  ) else (
    if (1 : Int32) ≤ (zI σ x0 5) then (
      zck (zin (zI σ x0 6) 100) (
      zck (zin ((zI (zsI (zsI σ (x0 + 28) (zI σ x0 6).toNatClampNeg x1) x0 6 ((zI (zsI σ (x0 + 28) (zI σ x0 6).toNatClampNeg x1) x0 6) + (1 : Int32))) x0 5) - (1 : Int32)) 10) (
      some ((), (zsI (zsI (zsI σ (x0 + 28) (zI σ x0 6).toNatClampNeg x1) x0 6 ((zI (zsI σ (x0 + 28) (zI σ x0 6).toNatClampNeg x1) x0 6) + (1 : Int32))) (x0 + 21) ((zI (zsI (zsI σ (x0 + 28) (zI σ x0 6).toNatClampNeg x1) x0 6 ((zI (zsI σ (x0 + 28) (zI σ x0 6).toNatClampNeg x1) x0 6) + (1 : Int32))) x0 5) - (1 : Int32)).toNatClampNeg (zI (zsI (zsI σ (x0 + 28) (zI σ x0 6).toNatClampNeg x1) x0 6 ((zI (zsI σ (x0 + 28) (zI σ x0 6).toNatClampNeg x1) x0 6) + (1 : Int32))) x0 6)))))
    ) else (
      some ((), σ)
    )
  ))
def f_Reader_readTest  (σ : ZM) : Option (Int32 × ZM) :=
  zbd (f_Reader_here σ) fun v1 s2 => (
  zbd (f_Reader_letterOf v1 s2) fun v4 s5 => (
  if 0 ≤ v4 then (
    zbd (f_Reader_here (zsI s5 3 2 ((zI s5 3 2) + (1 : Int32)))) fun v8 s9 => (
    if (v8 - (60 : Int32)) < 0 then (
      some ((0 : Int32), s9)
    ) else (
      if (v8 - (60 : Int32)) ≤ (2 : Int32) then (
        zbd (f_Reader_readNumber (zsI s9 3 2 ((zI s9 3 2) + (1 : Int32)))) fun v13 s14 => (
        if v13 = 0 then (
          some ((0 : Int32), s14)
        ) else (
          zck (zR 0 129 (zP s14 3 4) 15 0) (
          zbd (f_Kiln_append (zP s14 3 4) (((v4 <<< ((9 : Int32) &&& 31)) ||| ((v8 - (60 : Int32)) <<< ((7 : Int32) &&& 31))) ||| (zI s14 3 3)) s14) fun v18 s19 => (
          some ((1 : Int32), s19)))
        ))
      ) else (
        some ((0 : Int32), s9)
      )
    ))
  ) else (
    some ((0 : Int32), s5)
  )))
def f_Reader_readBoth_12 (rec : Int32 × ZM → Option (Int32 × ZM)) (k12 : Int32 × Int32 × ZM → Option (Int32 × ZM)) (x1 : Int32) (x2 : Int32) (σ : ZM) : Option (Int32 × ZM) :=
  if (100 : Int32) ≤ x2 then (
    some ((1 : Int32), σ)
  ) else (
    zbd (f_Reader_skip (38 : Int32) σ) fun v2 s3 => (
    if v2 = 0 then (
      some ((1 : Int32), s3)
    ) else (
      zbd (rec (x1, s3)) fun v6 s7 => (
      if v6 = 0 then (
        some ((0 : Int32), s7)
      ) else (
        zck (zR 0 129 (zP s7 3 4) 15 0) (
        zbd (f_Kiln_append (zP s7 3 4) (-2 : Int32) s7) fun v11 s12 => (
        k12 (x1, (x2 + (1 : Int32)), s12)))
      ))
    ))
  )
def F_Reader_readBoth_12 (rec : Int32 × ZM → Option (Int32 × ZM)) (N : Nat) : Int32 × Int32 × ZM → Option (Int32 × ZM) := zlp (fun k12 a => f_Reader_readBoth_12 rec k12 a.1 a.2.1 a.2.2) N
def f_Reader_readBoth (rec : Int32 × ZM → Option (Int32 × ZM)) (x1 : Int32) (σ : ZM) : Option (Int32 × ZM) :=
  zbd (rec (x1, σ)) fun v1 s2 => (
  if v1 = 0 then (
    some ((0 : Int32), s2)
  ) else (
    F_Reader_readBoth_12 rec 2000 (x1, (0 : Int32), s2)
  ))
def f_Reader_readEither_12 (rec : Int32 × ZM → Option (Int32 × ZM)) (k12 : Int32 × Int32 × ZM → Option (Int32 × ZM)) (x1 : Int32) (x2 : Int32) (σ : ZM) : Option (Int32 × ZM) :=
  if (100 : Int32) ≤ x2 then (
    some ((1 : Int32), σ)
  ) else (
    zbd (f_Reader_skip (124 : Int32) σ) fun v2 s3 => (
    if v2 = 0 then (
      some ((1 : Int32), s3)
    ) else (
      zbd (f_Reader_readBoth rec x1 s3) fun v6 s7 => (
      if v6 = 0 then (
        some ((0 : Int32), s7)
      ) else (
        zck (zR 0 129 (zP s7 3 4) 15 0) (
        zbd (f_Kiln_append (zP s7 3 4) (-3 : Int32) s7) fun v11 s12 => (
        k12 (x1, (x2 + (1 : Int32)), s12)))
      ))
    ))
  )
def F_Reader_readEither_12 (rec : Int32 × ZM → Option (Int32 × ZM)) (N : Nat) : Int32 × Int32 × ZM → Option (Int32 × ZM) := zlp (fun k12 a => f_Reader_readEither_12 rec k12 a.1 a.2.1 a.2.2) N
def f_Reader_readEither (rec : Int32 × ZM → Option (Int32 × ZM)) (x1 : Int32) (σ : ZM) : Option (Int32 × ZM) :=
  zbd (f_Reader_readBoth rec x1 σ) fun v1 s2 => (
  if v1 = 0 then (
    some ((0 : Int32), s2)
  ) else (
    F_Reader_readEither_12 rec 2000 (x1, (0 : Int32), s2)
  ))
def f_Reader_readPart_22 (rec : Int32 × ZM → Option (Int32 × ZM)) (x1 : Int32) (x2 : Int32) (σ : ZM) : Option (Int32 × ZM) :=
  if x1 < (4 : Int32) then (
    if x2 = (40 : Int32) then (
      zbd (f_Reader_readEither rec (x1 + (1 : Int32)) (zsI σ 3 2 ((zI σ 3 2) + (1 : Int32)))) fun v11 s12 => (
      if v11 = 0 then (
        some ((0 : Int32), s12)
      ) else (
        zbd (f_Reader_skip (41 : Int32) s12) fun v15 s16 => (
        if v15 = 0 then (
          some ((0 : Int32), s16)
        ) else (
          some ((1 : Int32), s16)
        ))
      ))
    ) else (
      zbd (rec ((x1 + (1 : Int32)), (zsI σ 3 2 ((zI σ 3 2) + (1 : Int32))))) fun v3 s4 => (
      if v3 = 0 then (
        some ((0 : Int32), s4)
      ) else (
        zck (zR 0 129 (zP s4 3 4) 15 0) (
        zbd (f_Kiln_append (zP s4 3 4) (-1 : Int32) s4) fun v8 s9 => (
        some ((1 : Int32), s9)))
      ))
    )
  ) else (
    some ((0 : Int32), σ)
  )
def f_Reader_readPart (rec : Int32 × ZM → Option (Int32 × ZM)) (x1 : Int32) (σ : ZM) : Option (Int32 × ZM) :=
  zbd (f_Reader_here σ) fun v1 s2 => (
  if v1 = (33 : Int32) then (
    f_Reader_readPart_22 rec x1 v1 s2
  ) else (
    if v1 = (40 : Int32) then (
      f_Reader_readPart_22 rec x1 v1 s2
    ) else (
      zbd (f_Reader_readTest s2) fun v6 s7 => (
      zck (zbl v6) (some (v6, s7)))
    )
  ))
def F_Reader_readPart (N : Nat) : Int32 × ZM → Option (Int32 × ZM) := zlp (fun rec a => f_Reader_readPart rec a.1 a.2) N
def f_Reader_readClause  (σ : ZM) : Option (Int32 × ZM) :=
  zbd (f_Reader_here σ) fun v1 s2 => (
  zbd (f_Reader_wordFrom v1 s2) fun v4 s5 => (
  if v4 < 0 then (
    some ((0 : Int32), s5)
  ) else (
    zbd (f_Reader_spelling v4 s5) fun v8 s9 => (
    zck (decide (v8 < 8)) (
    zbd (f_Reader_readWord v8 s9) fun v11 s12 => (
    if v11 = 0 then (
      some ((0 : Int32), s12)
    ) else (
      zbd (f_Reader_skip (32 : Int32) s12) fun v15 s16 => (
      if v15 = 0 then (
        some ((0 : Int32), s16)
      ) else (
        zbd (f_Reader_readNumber s16) fun v19 s20 => (
        if v19 = 0 then (
          some ((0 : Int32), s20)
        ) else (
          zck (zR 0 129 (zP s20 3 4) 15 0) (
          zbd (f_Kiln_begin (zP s20 3 4) v4 (zI s20 3 3) s20) fun v24 s25 => (
          if v4 = (2 : Int32) then (
            some ((1 : Int32), s25)
          ) else (
            zbd (f_Reader_skip (32 : Int32) s25) fun v28 s29 => (
            if v28 = 0 then (
              some ((0 : Int32), s29)
            ) else (
              zbd (f_Reader_readEither (F_Reader_readPart 8) (0 : Int32) s29) fun v32 s33 => (
              if v32 = 0 then (
                some ((0 : Int32), s33)
              ) else (
                some ((1 : Int32), s33)
              ))
            ))
          )))
        ))
      ))
    ))))
  )))
def f_Reader_readInto_66 (k24 : Int32 × Int32 × ZM → Option (Int32 × ZM)) (x3 : Int32) (y0 : Int32) (σ : ZM) : Option (Int32 × ZM) :=
  k24 (y0, (x3 + (1 : Int32)), σ)
def f_Reader_readInto_65 (k24 : Int32 × Int32 × ZM → Option (Int32 × ZM)) (x3 : Int32) (σ : ZM) : Option (Int32 × ZM) :=
  f_Reader_readInto_66 k24 x3 (0 : Int32) σ
def f_Reader_readInto_73 (x2 : Int32) (σ : ZM) : Option (Int32 × ZM) :=
  if x2 = 0 then (
    some (zI (zsI σ 3 1 (0 : Int32)) 3 2, (zsI σ 3 1 (0 : Int32)))
  ) else (
    some ((-1 : Int32), (zsI σ 3 1 (0 : Int32)))
  )
def f_Reader_readInto_24 (k24 : Int32 × Int32 × ZM → Option (Int32 × ZM)) (x2 : Int32) (x3 : Int32) (σ : ZM) : Option (Int32 × ZM) :=
  if x2 = 0 then (
    f_Reader_readInto_73 x2 σ
  ) else (
    if (zI σ 3 1) ≤ (zI σ 3 2) then (
      f_Reader_readInto_73 x2 σ
    ) else (
      if (10 : Int32) ≤ x3 then (
        f_Reader_readInto_65 k24 x3 σ
      ) else (
        zbd (f_Reader_skip (59 : Int32) σ) fun v4 s5 => (
        if v4 = 0 then (
          f_Reader_readInto_65 k24 x3 s5
        ) else (
          zbd (f_Reader_readClause s5) fun v8 s9 => (
          if v8 = 0 then (
            f_Reader_readInto_65 k24 x3 s9
          ) else (
            f_Reader_readInto_66 k24 x3 (1 : Int32) s9
          ))
        ))
      )
    )
  )
def F_Reader_readInto_24 (N : Nat) : Int32 × Int32 × ZM → Option (Int32 × ZM) := zlp (fun k24 a => f_Reader_readInto_24 k24 a.1 a.2.1 a.2.2) N
def f_Reader_readInto (x1 : Nat) (σ : ZM) : Option (Int32 × ZM) :=
  zck (zR 0 129 x1 15 0) (
  zck (zR 0 129 (zP (zsP σ 3 4 x1) 3 4) 15 0) (
  zbd (f_Kiln_empty (zP (zsP σ 3 4 x1) 3 4) (zsP σ 3 4 x1)) fun v2 s3 => (
  zbd (f_Reader_readClause (zsI s3 3 2 (0 : Int32))) fun v5 s6 => (
  F_Reader_readInto_24 2000 (v5, (1 : Int32), s6)))))
def f_BB_kiln  (σ : ZM) : Option (Int32 × ZM) :=
  if (zI σ 0 10) < (6 : Int32) then (
    zck (zin (zI σ 0 10) 6) (
    zck (zR 0 129 (zel 20 (zI σ 0 10).toNatClampNeg) 15 0) (
    zbd (f_Reader_readInto (zel 20 (zI σ 0 10).toNatClampNeg) σ) fun v4 s5 => (
    if v4 < 0 then (
      zck (zin (zI (zsI s5 1 4 (zI s5 0 10)) 0 10) 6) (
      zck (zR 0 129 (zel 20 (zI (zsI s5 1 4 (zI s5 0 10)) 0 10).toNatClampNeg) 15 0) (
      some (zI (zsI (zsP (zsI s5 1 4 (zI s5 0 10)) 5 0 (zel 20 (zI (zsI s5 1 4 (zI s5 0 10)) 0 10).toNatClampNeg)) 0 10 ((zI (zsP (zsI s5 1 4 (zI s5 0 10)) 5 0 (zel 20 (zI (zsI s5 1 4 (zI s5 0 10)) 0 10).toNatClampNeg)) 0 10) + (1 : Int32))) 1 4, (zsI (zsP (zsI s5 1 4 (zI s5 0 10)) 5 0 (zel 20 (zI (zsI s5 1 4 (zI s5 0 10)) 0 10).toNatClampNeg)) 0 10 ((zI (zsP (zsI s5 1 4 (zI s5 0 10)) 5 0 (zel 20 (zI (zsI s5 1 4 (zI s5 0 10)) 0 10).toNatClampNeg)) 0 10) + (1 : Int32))))))
    ) else (
      some ((-10 : Int32) - v4, s5)
    ))))
  ) else (
    some ((-4 : Int32), σ)
  )
def f_BB_told (x1 : Int32) (σ : ZM) : Option (Int32 × ZM) :=
  zbd (f_BB_isTaste x1 σ) fun v1 s2 => (
  if v1 = 0 then (
    if x1 = (4 : Int32) then (
      some (zI s2 33 1, s2)
    ) else (
      if x1 = (5 : Int32) then (
        zck (zR 0 129 (zP s2 5 0) 15 0) (
        some (zI s2 (zP s2 5 0) 8, s2))
      ) else (
        some ((-1 : Int32), s2)
      )
    )
  ) else (
    zck (zin x1 4) (
    some (zI s2 42 x1.toNatClampNeg, s2))
  ))
def f_Oven_strike (x0 : Nat) (σ : ZM) : Option (Unit × ZM) :=
  zck (zR 0 129 x0 17 0) (
  some ((), (zsI σ x0 1 (if ((zI σ x0 1) + (1 : Int32)) < (9999 : Int32) then ((zI σ x0 1) + (1 : Int32)) else (9999 : Int32)))))
def f_Baker_bakeIn_78 (k5 : Nat × Nat × Int32 × Int32 × ZM → Option (Int32 × ZM)) (x1 : Nat) (x2 : Nat) (x4 : Int32) (y0 : Int32) (σ : ZM) : Option (Int32 × ZM) :=
  k5 (x1, x2, y0, (x4 + (1 : Int32)), σ)
def f_Baker_bakeIn_73 (k5 : Nat × Nat × Int32 × Int32 × ZM → Option (Int32 × ZM)) (x1 : Nat) (x2 : Nat) (x4 : Int32) (σ : ZM) : Option (Int32 × ZM) :=
  f_Baker_bakeIn_78 k5 x1 x2 x4 (1 : Int32) σ
def f_Baker_bakeIn_5 (k5 : Nat × Nat × Int32 × Int32 × ZM → Option (Int32 × ZM)) (x1 : Nat) (x2 : Nat) (x3 : Int32) (x4 : Int32) (σ : ZM) : Option (Int32 × ZM) :=
  if (4 : Int32) ≤ x4 then (
    zbd (f_Oven_strike x1 σ) fun v2 s3 => (
    zck (zbl x3) (some (x3, s3)))
  ) else (
    zbd (f_Baker_takes x2 x4 x1 σ) fun v6 s7 => (
    zbd (f_Baker_leaves x2 x4 x1 s7) fun v9 s10 => (
    zck (zin x4 4) (
    zck (zin x4 4) (
    if x3 = 0 then (
      zck (zin x4 4) (
      if v6 ≤ (zI (zsI s10 (x1 + 9) x4.toNatClampNeg (if (((zI s10 (x1 + 9) x4.toNatClampNeg) - v6) + v9) < (9999 : Int32) then (((zI s10 (x1 + 9) x4.toNatClampNeg) - v6) + v9) else (9999 : Int32))) (x2 + 24) x4.toNatClampNeg) then (
        f_Baker_bakeIn_78 k5 x1 x2 x4 (0 : Int32) (zsI s10 (x1 + 9) x4.toNatClampNeg (if (((zI s10 (x1 + 9) x4.toNatClampNeg) - v6) + v9) < (9999 : Int32) then (((zI s10 (x1 + 9) x4.toNatClampNeg) - v6) + v9) else (9999 : Int32)))
      ) else (
        f_Baker_bakeIn_73 k5 x1 x2 x4 (zsI s10 (x1 + 9) x4.toNatClampNeg (if (((zI s10 (x1 + 9) x4.toNatClampNeg) - v6) + v9) < (9999 : Int32) then (((zI s10 (x1 + 9) x4.toNatClampNeg) - v6) + v9) else (9999 : Int32)))
      ))
    ) else (
      f_Baker_bakeIn_73 k5 x1 x2 x4 (zsI s10 (x1 + 9) x4.toNatClampNeg (if (((zI s10 (x1 + 9) x4.toNatClampNeg) - v6) + v9) < (9999 : Int32) then (((zI s10 (x1 + 9) x4.toNatClampNeg) - v6) + v9) else (9999 : Int32)))
    )))))
  )
def F_Baker_bakeIn_5 (N : Nat) : Nat × Nat × Int32 × Int32 × ZM → Option (Int32 × ZM) := zlp (fun k5 a => f_Baker_bakeIn_5 k5 a.1 a.2.1 a.2.2.1 a.2.2.2.1 a.2.2.2.2) N
def f_Baker_bakeIn (x1 : Nat) (x2 : Nat) (σ : ZM) : Option (Int32 × ZM) :=
  zck (zR 0 129 x1 17 0) (
  zck (zR 0 129 x2 16 0) (
  F_Baker_bakeIn_5 2000 (x1, x2, (0 : Int32), (0 : Int32), σ)))
def f_BB_bake (x1 : Int32) (σ : ZM) : Option (Int32 × ZM) :=
  zbd (f_BB_isLoaf x1 σ) fun v1 s2 => (
  if v1 = 0 then (
    some ((-1 : Int32), s2)
  ) else (
    zck (zin x1 6) (
    zck (zR 0 129 (zel 25 x1.toNatClampNeg) 16 0) (
    zbd (f_Baker_bakeIn 33 (zel 25 x1.toNatClampNeg) s2) fun v7 s8 => (
    zbd (f_BB_flag v7 s8) fun v10 s11 => (
    some (v10, s11)))))
  ))
def f_Baker_chill_2 (k2 : Nat × Int32 × ZM → Option (Unit × ZM)) (x1 : Nat) (x2 : Int32) (σ : ZM) : Option (Unit × ZM) :=
  if (4 : Int32) ≤ x2 then (
    zbd (f_Oven_strike x1 σ) fun v2 s3 => (
    some ((), s3))
  ) else (
    zck (zin x2 4) (
    zck (zR 0 129 (zP σ 5 0) 15 0) (
    zck (zin x2 4) (
    k2 (x1, (x2 + (1 : Int32)), (zsI σ (x1 + 9) x2.toNatClampNeg (if (((zI σ (x1 + 9) x2.toNatClampNeg) * (zI σ (zP σ 5 0) 8)) / (100 : Int32)) < (9999 : Int32) then (((zI σ (x1 + 9) x2.toNatClampNeg) * (zI σ (zP σ 5 0) 8)) / (100 : Int32)) else (9999 : Int32)))))))
  )
def F_Baker_chill_2 (N : Nat) : Nat × Int32 × ZM → Option (Unit × ZM) := zlp (fun k2 a => f_Baker_chill_2 k2 a.1 a.2.1 a.2.2) N
def f_Baker_chill (x1 : Nat) (σ : ZM) : Option (Unit × ZM) :=
  zck (zR 0 129 x1 17 0) (
  F_Baker_chill_2 2000 (x1, (0 : Int32), σ))
def f_BB_cold  (σ : ZM) : Option (Int32 × ZM) :=
  zbd (f_Baker_chill 33 σ) fun v1 s2 => (
  some (zI s2 33 1, s2))
def f_Oven_become_2 (k2 : Nat × Nat × Int32 × ZM → Option (Unit × ZM)) (x0 : Nat) (x1 : Nat) (x2 : Int32) (σ : ZM) : Option (Unit × ZM) :=
  if (4 : Int32) ≤ x2 then (
    some ((), (zsI σ x0 1 (zI σ x1 1)))
  ) else (
    zck (zin x2 4) (
    zck (zin x2 4) (
    k2 (x0, x1, (x2 + (1 : Int32)), (zsI σ (x0 + 9) x2.toNatClampNeg (zI σ (x1 + 9) x2.toNatClampNeg)))))
  )
def F_Oven_become_2 (N : Nat) : Nat × Nat × Int32 × ZM → Option (Unit × ZM) := zlp (fun k2 a => f_Oven_become_2 k2 a.1 a.2.1 a.2.2.1 a.2.2.2) N
def f_Oven_become (x0 : Nat) (x1 : Nat) (σ : ZM) : Option (Unit × ZM) :=
  zck (zR 0 129 x0 17 0) (
  zck (zR 0 129 x1 17 0) (
  F_Oven_become_2 2000 (x0, x1, (0 : Int32), σ)))
def f_Asker_behind_39 (x1 : Int32) (x3 : Int32) (σ : ZM) : Option (Int32 × ZM) :=
  if (4 : Int32) ≤ x3 then (
    zck (zin x1 6) (
    zck (zR 0 129 (zel 25 x1.toNatClampNeg) 16 0) (
    zbd (f_Baker_spoils (zel 25 x1.toNatClampNeg) 35 σ) fun v4 s5 => (
    zbd (f_BB_flag v4 s5) fun v7 s8 => (
    some (v7, s8)))))
  ) else (
    zck (zin x1 6) (
    zck (zR 0 129 (zel 25 x1.toNatClampNeg) 16 0) (
    zbd (f_Baker_takes (zel 25 x1.toNatClampNeg) x3 35 σ) fun v12 s13 => (
    some (v12, s13))))
  )
def f_Asker_behind (x1 : Int32) (x2 : Int32) (x3 : Int32) (σ : ZM) : Option (Int32 × ZM) :=
  zbd (f_Oven_become 35 33 σ) fun v1 s2 => (
  if x2 < 0 then (
    f_Asker_behind_39 x1 x3 s2
  ) else (
    zck (zin x2 6) (
    zck (zR 0 129 (zel 25 x2.toNatClampNeg) 16 0) (
    zbd (f_Baker_bakeIn 35 (zel 25 x2.toNatClampNeg) s2) fun v7 s8 => (
    f_Asker_behind_39 x1 x3 s8)))
  ))
def f_BB_would_21 (x1 : Int32) (x2 : Int32) (x3 : Int32) (σ : ZM) : Option (Int32 × ZM) :=
  if x3 < 0 then (
    some ((-1 : Int32), σ)
  ) else (
    if x3 ≤ (4 : Int32) then (
      if x1 = x2 then (
        some ((-2 : Int32), σ)
      ) else (
        zbd (f_Asker_behind x1 x2 x3 σ) fun v4 s5 => (
        some (v4, s5))
      )
    ) else (
      some ((-1 : Int32), σ)
    )
  )
def f_BB_would (x1 : Int32) (x2 : Int32) (x3 : Int32) (σ : ZM) : Option (Int32 × ZM) :=
  zbd (f_BB_isLoaf x1 σ) fun v1 s2 => (
  if v1 = 0 then (
    some ((-1 : Int32), s2)
  ) else (
    if x2 = (-1 : Int32) then (
      f_BB_would_21 x1 x2 x3 s2
    ) else (
      zbd (f_BB_isLoaf x2 s2) fun v6 s7 => (
      if v6 = 0 then (
        some ((-1 : Int32), s7)
      ) else (
        f_BB_would_21 x1 x2 x3 s7
      ))
    )
  ))
def f_Integer_bitCount (x0 : Int32) (σ : ZM) : Option (Int32 × ZM) :=
  some ((((((((x0 - (((x0.toUInt32 >>> ((1 : Int32).toUInt32 &&& 31)).toInt32) &&& (1431655765 : Int32))) &&& (858993459 : Int32)) + ((((x0 - (((x0.toUInt32 >>> ((1 : Int32).toUInt32 &&& 31)).toInt32) &&& (1431655765 : Int32))).toUInt32 >>> ((2 : Int32).toUInt32 &&& 31)).toInt32) &&& (858993459 : Int32))) + (((((x0 - (((x0.toUInt32 >>> ((1 : Int32).toUInt32 &&& 31)).toInt32) &&& (1431655765 : Int32))) &&& (858993459 : Int32)) + ((((x0 - (((x0.toUInt32 >>> ((1 : Int32).toUInt32 &&& 31)).toInt32) &&& (1431655765 : Int32))).toUInt32 >>> ((2 : Int32).toUInt32 &&& 31)).toInt32) &&& (858993459 : Int32))).toUInt32 >>> ((4 : Int32).toUInt32 &&& 31)).toInt32)) &&& (252645135 : Int32)) + (((((((x0 - (((x0.toUInt32 >>> ((1 : Int32).toUInt32 &&& 31)).toInt32) &&& (1431655765 : Int32))) &&& (858993459 : Int32)) + ((((x0 - (((x0.toUInt32 >>> ((1 : Int32).toUInt32 &&& 31)).toInt32) &&& (1431655765 : Int32))).toUInt32 >>> ((2 : Int32).toUInt32 &&& 31)).toInt32) &&& (858993459 : Int32))) + (((((x0 - (((x0.toUInt32 >>> ((1 : Int32).toUInt32 &&& 31)).toInt32) &&& (1431655765 : Int32))) &&& (858993459 : Int32)) + ((((x0 - (((x0.toUInt32 >>> ((1 : Int32).toUInt32 &&& 31)).toInt32) &&& (1431655765 : Int32))).toUInt32 >>> ((2 : Int32).toUInt32 &&& 31)).toInt32) &&& (858993459 : Int32))).toUInt32 >>> ((4 : Int32).toUInt32 &&& 31)).toInt32)) &&& (252645135 : Int32)).toUInt32 >>> ((8 : Int32).toUInt32 &&& 31)).toInt32)) + ((((((((x0 - (((x0.toUInt32 >>> ((1 : Int32).toUInt32 &&& 31)).toInt32) &&& (1431655765 : Int32))) &&& (858993459 : Int32)) + ((((x0 - (((x0.toUInt32 >>> ((1 : Int32).toUInt32 &&& 31)).toInt32) &&& (1431655765 : Int32))).toUInt32 >>> ((2 : Int32).toUInt32 &&& 31)).toInt32) &&& (858993459 : Int32))) + (((((x0 - (((x0.toUInt32 >>> ((1 : Int32).toUInt32 &&& 31)).toInt32) &&& (1431655765 : Int32))) &&& (858993459 : Int32)) + ((((x0 - (((x0.toUInt32 >>> ((1 : Int32).toUInt32 &&& 31)).toInt32) &&& (1431655765 : Int32))).toUInt32 >>> ((2 : Int32).toUInt32 &&& 31)).toInt32) &&& (858993459 : Int32))).toUInt32 >>> ((4 : Int32).toUInt32 &&& 31)).toInt32)) &&& (252645135 : Int32)) + (((((((x0 - (((x0.toUInt32 >>> ((1 : Int32).toUInt32 &&& 31)).toInt32) &&& (1431655765 : Int32))) &&& (858993459 : Int32)) + ((((x0 - (((x0.toUInt32 >>> ((1 : Int32).toUInt32 &&& 31)).toInt32) &&& (1431655765 : Int32))).toUInt32 >>> ((2 : Int32).toUInt32 &&& 31)).toInt32) &&& (858993459 : Int32))) + (((((x0 - (((x0.toUInt32 >>> ((1 : Int32).toUInt32 &&& 31)).toInt32) &&& (1431655765 : Int32))) &&& (858993459 : Int32)) + ((((x0 - (((x0.toUInt32 >>> ((1 : Int32).toUInt32 &&& 31)).toInt32) &&& (1431655765 : Int32))).toUInt32 >>> ((2 : Int32).toUInt32 &&& 31)).toInt32) &&& (858993459 : Int32))).toUInt32 >>> ((4 : Int32).toUInt32 &&& 31)).toInt32)) &&& (252645135 : Int32)).toUInt32 >>> ((8 : Int32).toUInt32 &&& 31)).toInt32)).toUInt32 >>> ((16 : Int32).toUInt32 &&& 31)).toInt32)) &&& (63 : Int32), σ)
def f_BB_isSet (x1 : Int32) (x2 : Int32) (σ : ZM) : Option (Int32 × ZM) :=
  if x1 < 0 then (
    some ((0 : Int32), σ)
  ) else (
    if ((1 : Int32) <<< ((zI σ 1 3) &&& 31)) ≤ x1 then (
      some ((0 : Int32), σ)
    ) else (
      zbd (f_Integer_bitCount x1 σ) fun v3 s4 => (
      if x2 < v3 then (
        some ((0 : Int32), s4)
      ) else (
        some ((1 : Int32), s4)
      ))
    )
  )
def f_Search_keep_15 (k15 : Int32 × ZM → Option (Unit × ZM)) (x2 : Int32) (σ : ZM) : Option (Unit × ZM) :=
  if (zI σ 7 5) ≤ x2 then (
    some ((), σ)
  ) else (
    if (5 : Int32) ≤ x2 then (
      some ((), σ)
    ) else (
      zck (zin x2 5) (
      zck (zin x2 5) (
      k15 ((x2 + (1 : Int32)), (zsI σ 23 x2.toNatClampNeg (zI σ 22 x2.toNatClampNeg)))))
    )
  )
def F_Search_keep_15 (N : Nat) : Int32 × ZM → Option (Unit × ZM) := zlp (fun k15 a => f_Search_keep_15 k15 a.1 a.2) N
def f_Search_keep (x1 : Int32) (σ : ZM) : Option (Unit × ZM) :=
  if (zI σ 7 6) ≤ x1 then (
    some ((), σ)
  ) else (
    F_Search_keep_15 2000 ((0 : Int32), (zsI σ 7 6 x1))
  )
def f_Search_goOnOrder_128 (rec : Int32 × Int32 × Int32 × ZM → Option (Unit × ZM)) (k19 : Int32 × Int32 × Int32 × Int32 × ZM → Option (Unit × ZM)) (x1 : Int32) (x2 : Int32) (x3 : Int32) (x4 : Int32) (σ : ZM) : Option (Unit × ZM) :=
  k19 (x1, x2, x3, (x4 + (1 : Int32)), σ)
def f_Search_goOnOrder_125 (rec : Int32 × Int32 × Int32 × ZM → Option (Unit × ZM)) (k19 : Int32 × Int32 × Int32 × Int32 × ZM → Option (Unit × ZM)) (x1 : Int32) (x2 : Int32) (x3 : Int32) (x4 : Int32) (y0 : Int32) (y1 : Int32) (y2 : Int32) (σ : ZM) : Option (Unit × ZM) :=
  zbd (rec (y2, y1, y0, σ)) fun v1 s2 => (
  f_Search_goOnOrder_128 rec k19 x1 x2 x3 x4 s2)
def f_Search_goOnOrder_19 (rec : Int32 × Int32 × Int32 × ZM → Option (Unit × ZM)) (k19 : Int32 × Int32 × Int32 × Int32 × ZM → Option (Unit × ZM)) (x1 : Int32) (x2 : Int32) (x3 : Int32) (x4 : Int32) (σ : ZM) : Option (Unit × ZM) :=
  if (zI σ 1 3) ≤ x4 then (
    some ((), σ)
  ) else (
    if (zI σ 7 6) ≤ x3 then (
      some ((), σ)
    ) else (
      if ((x1 >>> (x4 &&& 31)) &&& (1 : Int32)) = (1 : Int32) then (
        zck (zin (x2 + (1 : Int32)) 6) (
        zck (zR 0 129 (zel 24 (x2 + (1 : Int32)).toNatClampNeg) 17 0) (
        zck (zin x2 6) (
        zck (zR 0 129 (zel 24 x2.toNatClampNeg) 17 0) (
        zbd (f_Oven_become (zel 24 (x2 + (1 : Int32)).toNatClampNeg) (zel 24 x2.toNatClampNeg) σ) fun v8 s9 => (
        zck (zin x2 5) (
        zck (zin (x2 + (1 : Int32)) 6) (
        zck (zR 0 129 (zel 24 (x2 + (1 : Int32)).toNatClampNeg) 17 0) (
        zck (zin x4 6) (
        zck (zR 0 129 (zel 25 x4.toNatClampNeg) 16 0) (
        zbd (f_Baker_bakeIn (zel 24 (x2 + (1 : Int32)).toNatClampNeg) (zel 25 x4.toNatClampNeg) (zsI s9 22 x2.toNatClampNeg x4)) fun v16 s17 => (
        if v16 = 0 then (
          f_Search_goOnOrder_125 rec k19 x1 x2 x3 x4 x3 (x2 + (1 : Int32)) (x1 &&& (((1 : Int32) <<< (x4 &&& 31)) ^^^ (-1 : Int32))) s17
        ) else (
          f_Search_goOnOrder_125 rec k19 x1 x2 x3 x4 (x3 + (1 : Int32)) (x2 + (1 : Int32)) (x1 &&& (((1 : Int32) <<< (x4 &&& 31)) ^^^ (-1 : Int32))) s17
        ))))))))))))
      ) else (
        f_Search_goOnOrder_128 rec k19 x1 x2 x3 x4 σ
      )
    )
  )
def F_Search_goOnOrder_19 (rec : Int32 × Int32 × Int32 × ZM → Option (Unit × ZM)) (N : Nat) : Int32 × Int32 × Int32 × Int32 × ZM → Option (Unit × ZM) := zlp (fun k19 a => f_Search_goOnOrder_19 rec k19 a.1 a.2.1 a.2.2.1 a.2.2.2.1 a.2.2.2.2) N
def f_Search_goOnOrder (rec : Int32 × Int32 × Int32 × ZM → Option (Unit × ZM)) (x1 : Int32) (x2 : Int32) (x3 : Int32) (σ : ZM) : Option (Unit × ZM) :=
  if x1 = 0 then (
    zbd (f_Search_keep x3 σ) fun v3 s4 => (
    some ((), s4))
  ) else (
    if x2 < (5 : Int32) then (
      F_Search_goOnOrder_19 rec 2000 (x1, x2, x3, (0 : Int32), σ)
    ) else (
      some ((), σ)
    )
  )
def F_Search_goOnOrder (N : Nat) : Int32 × Int32 × Int32 × ZM → Option (Unit × ZM) := zlp (fun rec a => f_Search_goOnOrder rec a.1 a.2.1 a.2.2.1 a.2.2.2) N
def f_Search_seekOrder (x1 : Int32) (σ : ZM) : Option (Unit × ZM) :=
  zbd (f_Integer_bitCount x1 σ) fun v1 s2 => (
  zck (zin (0 : Int32) 6) (
  zck (zR 0 129 (zel 24 (0 : Int32).toNatClampNeg) 17 0) (
  zbd (f_Oven_become (zel 24 (0 : Int32).toNatClampNeg) 33 (zsI (zsI s2 7 5 v1) 7 6 (6 : Int32))) fun v6 s7 => (
  zbd (F_Search_goOnOrder 8 (x1, (0 : Int32), (0 : Int32), s7)) fun v9 s10 => (
  some ((), s10))))))
def f_BB_order (x1 : Int32) (x2 : Int32) (σ : ZM) : Option (Int32 × ZM) :=
  if x2 < (-1 : Int32) then (
    some ((-1 : Int32), σ)
  ) else (
    if x2 ≤ (5 : Int32) then (
      zbd (f_BB_isSet x1 (5 : Int32) σ) fun v3 s4 => (
      if v3 = 0 then (
        some ((-2 : Int32), s4)
      ) else (
        zbd (f_Search_seekOrder x1 s4) fun v7 s8 => (
        if x2 = (-1 : Int32) then (
          some (zI s8 7 6, s8)
        ) else (
          if (zI s8 7 5) ≤ x2 then (
            some ((-5 : Int32), s8)
          ) else (
            zck (zin x2 5) (
            some (zI s8 23 x2.toNatClampNeg, s8))
          )
        ))
      ))
    ) else (
      some ((-1 : Int32), σ)
    )
  )
def f_Search_lowestOf_2 (k2 : Int32 × Int32 × ZM → Option (Int32 × ZM)) (x0 : Int32) (x1 : Int32) (σ : ZM) : Option (Int32 × ZM) :=
  if (5 : Int32) ≤ x1 then (
    some (x1, σ)
  ) else (
    if ((x0 >>> (x1 &&& 31)) &&& (1 : Int32)) = 0 then (
      k2 (x0, (x1 + (1 : Int32)), σ)
    ) else (
      some (x1, σ)
    )
  )
def F_Search_lowestOf_2 (N : Nat) : Int32 × Int32 × ZM → Option (Int32 × ZM) := zlp (fun k2 a => f_Search_lowestOf_2 k2 a.1 a.2.1 a.2.2) N
def f_Search_lowestOf (x0 : Int32) (σ : ZM) : Option (Int32 × ZM) :=
  F_Search_lowestOf_2 2000 (x0, (0 : Int32), σ)
def f_Search_goOnColds_132 (rec : Int32 × Int32 × Int32 × ZM → Option (Unit × ZM)) (k25 : Int32 × Int32 × Int32 × Int32 × Int32 × ZM → Option (Unit × ZM)) (x1 : Int32) (x2 : Int32) (x3 : Int32) (x4 : Int32) (x5 : Int32) (σ : ZM) : Option (Unit × ZM) :=
  k25 (x1, x2, x3, x4, (x5 + (1 : Int32)), σ)
def f_Search_goOnColds_60 (rec : Int32 × Int32 × Int32 × ZM → Option (Unit × ZM)) (k25 : Int32 × Int32 × Int32 × Int32 × Int32 × ZM → Option (Unit × ZM)) (x1 : Int32) (x2 : Int32) (x3 : Int32) (x4 : Int32) (x5 : Int32) (σ : ZM) : Option (Unit × ZM) :=
  zck (zin (x2 + (1 : Int32)) 6) (
  zck (zR 0 129 (zel 24 (x2 + (1 : Int32)).toNatClampNeg) 17 0) (
  zck (zin x2 6) (
  zck (zR 0 129 (zel 24 x2.toNatClampNeg) 17 0) (
  zbd (f_Oven_become (zel 24 (x2 + (1 : Int32)).toNatClampNeg) (zel 24 x2.toNatClampNeg) σ) fun v5 s6 => (
  zck (zin x2 5) (
  zck (zin (x2 + (1 : Int32)) 6) (
  zck (zR 0 129 (zel 24 (x2 + (1 : Int32)).toNatClampNeg) 17 0) (
  zck (zin x4 6) (
  zck (zR 0 129 (zel 25 x4.toNatClampNeg) 16 0) (
  zbd (f_Baker_bakeIn (zel 24 (x2 + (1 : Int32)).toNatClampNeg) (zel 25 x4.toNatClampNeg) (zsI s6 22 x2.toNatClampNeg x5)) fun v13 s14 => (
  if v13 = 0 then (
    zbd (rec ((x1 &&& (((1 : Int32) <<< (x4 &&& 31)) ^^^ (-1 : Int32))), (x2 + (1 : Int32)), (x3 + x5), s14)) fun v17 s18 => (
    f_Search_goOnColds_132 rec k25 x1 x2 x3 x4 x5 s18)
  ) else (
    f_Search_goOnColds_132 rec k25 x1 x2 x3 x4 x5 s14
  ))))))))))))
def f_Search_goOnColds_25 (rec : Int32 × Int32 × Int32 × ZM → Option (Unit × ZM)) (k25 : Int32 × Int32 × Int32 × Int32 × Int32 × ZM → Option (Unit × ZM)) (x1 : Int32) (x2 : Int32) (x3 : Int32) (x4 : Int32) (x5 : Int32) (σ : ZM) : Option (Unit × ZM) :=
  if (4 : Int32) < x5 then (
    some ((), σ)
  ) else (
    if (zI σ 7 6) ≤ (x3 + x5) then (
      some ((), σ)
    ) else (
      if x5 ≤ 0 then (
        f_Search_goOnColds_60 rec k25 x1 x2 x3 x4 x5 σ
      ) else (
        zck (zin x2 6) (
        zck (zR 0 129 (zel 24 x2.toNatClampNeg) 17 0) (
        zbd (f_Baker_chill (zel 24 x2.toNatClampNeg) σ) fun v6 s7 => (
        f_Search_goOnColds_60 rec k25 x1 x2 x3 x4 x5 s7)))
      )
    )
  )
def F_Search_goOnColds_25 (rec : Int32 × Int32 × Int32 × ZM → Option (Unit × ZM)) (N : Nat) : Int32 × Int32 × Int32 × Int32 × Int32 × ZM → Option (Unit × ZM) := zlp (fun k25 a => f_Search_goOnColds_25 rec k25 a.1 a.2.1 a.2.2.1 a.2.2.2.1 a.2.2.2.2.1 a.2.2.2.2.2) N
def f_Search_goOnColds (rec : Int32 × Int32 × Int32 × ZM → Option (Unit × ZM)) (x1 : Int32) (x2 : Int32) (x3 : Int32) (σ : ZM) : Option (Unit × ZM) :=
  if x1 = 0 then (
    zbd (f_Search_keep x3 σ) fun v6 s7 => (
    some ((), s7))
  ) else (
    if x2 < (5 : Int32) then (
      zbd (f_Search_lowestOf x1 σ) fun v3 s4 => (
      F_Search_goOnColds_25 rec 2000 (x1, x2, x3, v3, (0 : Int32), s4))
    ) else (
      some ((), σ)
    )
  )
def F_Search_goOnColds (N : Nat) : Int32 × Int32 × Int32 × ZM → Option (Unit × ZM) := zlp (fun rec a => f_Search_goOnColds rec a.1 a.2.1 a.2.2.1 a.2.2.2) N
def f_Search_seekColds (x1 : Int32) (σ : ZM) : Option (Int32 × ZM) :=
  zbd (f_Integer_bitCount x1 σ) fun v1 s2 => (
  zck (zin (0 : Int32) 6) (
  zck (zR 0 129 (zel 24 (0 : Int32).toNatClampNeg) 17 0) (
  zbd (f_Oven_become (zel 24 (0 : Int32).toNatClampNeg) 33 (zsI (zsI s2 7 5 v1) 7 6 ((20 : Int32) + (1 : Int32)))) fun v6 s7 => (
  zbd (F_Search_goOnColds 8 (x1, (0 : Int32), (0 : Int32), s7)) fun v9 s10 => (
  if (20 : Int32) < (zI s10 7 6) then (
    some ((0 : Int32), s10)
  ) else (
    some ((1 : Int32), s10)
  ))))))
def f_BB_colds (x1 : Int32) (x2 : Int32) (σ : ZM) : Option (Int32 × ZM) :=
  if x2 < (-1 : Int32) then (
    some ((-1 : Int32), σ)
  ) else (
    if x2 ≤ (5 : Int32) then (
      zbd (f_BB_isSet x1 (4 : Int32) σ) fun v3 s4 => (
      if v3 = 0 then (
        some ((-2 : Int32), s4)
      ) else (
        zbd (f_Search_seekColds x1 s4) fun v7 s8 => (
        if v7 = 0 then (
          some ((-5 : Int32), s8)
        ) else (
          if x2 = (-1 : Int32) then (
            some (zI s8 7 6, s8)
          ) else (
            if (zI s8 7 5) ≤ x2 then (
              some ((-5 : Int32), s8)
            ) else (
              zck (zin x2 5) (
              some (zI s8 23 x2.toNatClampNeg, s8))
            )
          )
        ))
      ))
    ) else (
      some ((-1 : Int32), σ)
    )
  )
def f_Baker_takesOfAll_5 (k5 : Nat × Nat × Int32 × Int32 × ZM → Option (Int32 × ZM)) (x1 : Nat) (x2 : Nat) (x3 : Int32) (x4 : Int32) (σ : ZM) : Option (Int32 × ZM) :=
  if (4 : Int32) ≤ x4 then (
    some (x3, σ)
  ) else (
    zbd (f_Baker_takes x1 x4 x2 σ) fun v2 s3 => (
    k5 (x1, x2, (x3 + v2), (x4 + (1 : Int32)), s3))
  )
def F_Baker_takesOfAll_5 (N : Nat) : Nat × Nat × Int32 × Int32 × ZM → Option (Int32 × ZM) := zlp (fun k5 a => f_Baker_takesOfAll_5 k5 a.1 a.2.1 a.2.2.1 a.2.2.2.1 a.2.2.2.2) N
def f_Baker_takesOfAll (x1 : Nat) (x2 : Nat) (σ : ZM) : Option (Int32 × ZM) :=
  zck (zR 0 129 x1 16 0) (
  zck (zR 0 129 x2 17 0) (
  F_Baker_takesOfAll_5 2000 (x1, x2, (0 : Int32), (0 : Int32), σ)))
def f_Asker_bestPlace_122 (k44 : Int32 × Int32 × Int32 × Int32 × Int32 × Int32 × ZM → Option (Int32 × ZM)) (x1 : Int32) (x2 : Int32) (x3 : Int32) (x4 : Int32) (x5 : Int32) (x6 : Int32) (σ : ZM) : Option (Int32 × ZM) :=
  k44 (x1, x2, x3, x4, x5, (x6 + (1 : Int32)), σ)
def f_Asker_bestPlace_44 (k44 : Int32 × Int32 × Int32 × Int32 × Int32 × Int32 × ZM → Option (Int32 × ZM)) (x1 : Int32) (x2 : Int32) (x3 : Int32) (x4 : Int32) (x5 : Int32) (x6 : Int32) (σ : ZM) : Option (Int32 × ZM) :=
  if (zI σ 1 3) ≤ x6 then (
    if x2 = 0 then (
      some (x4, σ)
    ) else (
      some (x3, σ)
    )
  ) else (
    if x6 = x1 then (
      f_Asker_bestPlace_122 k44 x1 x2 x3 x4 x5 x6 σ
    ) else (
      zck (zin x6 6) (
      zck (zR 0 129 (zel 25 x6.toNatClampNeg) 16 0) (
      zbd (f_Baker_bakeIn 35 (zel 25 x6.toNatClampNeg) σ) fun v6 s7 => (
      zck (zin x1 6) (
      zck (zR 0 129 (zel 25 x1.toNatClampNeg) 16 0) (
      zbd (f_Baker_takesOfAll (zel 25 x1.toNatClampNeg) 35 s7) fun v11 s12 => (
      if x3 ≤ v11 then (
        f_Asker_bestPlace_122 k44 x1 x2 x3 x4 (x5 + (1 : Int32)) x6 s12
      ) else (
        f_Asker_bestPlace_122 k44 x1 x2 v11 (x5 + (1 : Int32)) (x5 + (1 : Int32)) x6 s12
      )))))))
    )
  )
def F_Asker_bestPlace_44 (N : Nat) : Int32 × Int32 × Int32 × Int32 × Int32 × Int32 × ZM → Option (Int32 × ZM) := zlp (fun k44 a => f_Asker_bestPlace_44 k44 a.1 a.2.1 a.2.2.1 a.2.2.2.1 a.2.2.2.2.1 a.2.2.2.2.2.1 a.2.2.2.2.2.2) N
def f_Asker_bestPlace (x1 : Int32) (x2 : Int32) (σ : ZM) : Option (Int32 × ZM) :=
  zbd (f_Oven_become 35 33 σ) fun v1 s2 => (
  zck (zin x1 6) (
  zck (zR 0 129 (zel 25 x1.toNatClampNeg) 16 0) (
  zbd (f_Baker_takesOfAll (zel 25 x1.toNatClampNeg) 35 s2) fun v6 s7 => (
  F_Asker_bestPlace_44 2000 (x1, x2, v6, (0 : Int32), (0 : Int32), (0 : Int32), s7)))))
def f_BB_place_34 (y0 : Int32) (y1 : Int32) (σ : ZM) : Option (Int32 × ZM) :=
  zbd (f_Asker_bestPlace y1 y0 σ) fun v1 s2 => (
  some (v1, s2))
def f_BB_place (x1 : Int32) (x2 : Int32) (σ : ZM) : Option (Int32 × ZM) :=
  zbd (f_BB_isLoaf x1 σ) fun v1 s2 => (
  if v1 = 0 then (
    some ((-1 : Int32), s2)
  ) else (
    if x2 < 0 then (
      some ((-1 : Int32), s2)
    ) else (
      if x2 ≤ (1 : Int32) then (
        if x2 = (1 : Int32) then (
          f_BB_place_34 (1 : Int32) x1 s2
        ) else (
          f_BB_place_34 (0 : Int32) x1 s2
        )
      ) else (
        some ((-1 : Int32), s2)
      )
    )
  ))
def f_Asker_spoilsWithout_47 (k16 : Int32 × Int32 × Int32 × ZM → Option (Int32 × ZM)) (x1 : Int32) (x2 : Int32) (x3 : Int32) (σ : ZM) : Option (Int32 × ZM) :=
  k16 (x1, x2, (x3 + (1 : Int32)), σ)
def f_Asker_spoilsWithout_16 (k16 : Int32 × Int32 × Int32 × ZM → Option (Int32 × ZM)) (x1 : Int32) (x2 : Int32) (x3 : Int32) (σ : ZM) : Option (Int32 × ZM) :=
  if x1 ≤ x3 then (
    zck (zin x1 6) (
    zck (zR 0 129 (zel 25 x1.toNatClampNeg) 16 0) (
    zbd (f_Baker_spoils (zel 25 x1.toNatClampNeg) 35 σ) fun v4 s5 => (
    zck (zbl v4) (some (v4, s5)))))
  ) else (
    if x3 = x2 then (
      f_Asker_spoilsWithout_47 k16 x1 x2 x3 σ
    ) else (
      zck (zin x3 6) (
      zck (zR 0 129 (zel 25 x3.toNatClampNeg) 16 0) (
      zbd (f_Baker_bakeIn 35 (zel 25 x3.toNatClampNeg) σ) fun v11 s12 => (
      f_Asker_spoilsWithout_47 k16 x1 x2 x3 s12)))
    )
  )
def F_Asker_spoilsWithout_16 (N : Nat) : Int32 × Int32 × Int32 × ZM → Option (Int32 × ZM) := zlp (fun k16 a => f_Asker_spoilsWithout_16 k16 a.1 a.2.1 a.2.2.1 a.2.2.2) N
def f_Asker_spoilsWithout (x1 : Int32) (x2 : Int32) (σ : ZM) : Option (Int32 × ZM) :=
  zbd (f_Oven_become 35 33 σ) fun v1 s2 => (
  F_Asker_spoilsWithout_16 2000 (x1, x2, (0 : Int32), s2))
def f_Asker_guiltyOf_35 (k15 : Int32 × Int32 × Int32 × ZM → Option (Int32 × ZM)) (x1 : Int32) (x2 : Int32) (x3 : Int32) (σ : ZM) : Option (Int32 × ZM) :=
  k15 (x1, x2, (x3 + (1 : Int32)), σ)
def f_Asker_guiltyOf_15 (k15 : Int32 × Int32 × Int32 × ZM → Option (Int32 × ZM)) (x1 : Int32) (x2 : Int32) (x3 : Int32) (σ : ZM) : Option (Int32 × ZM) :=
  if x1 ≤ x3 then (
    some (x2, σ)
  ) else (
    zbd (f_Asker_spoilsWithout x1 x3 σ) fun v2 s3 => (
    if v2 = 0 then (
      f_Asker_guiltyOf_35 k15 x1 (x2 ||| ((1 : Int32) <<< (x3 &&& 31))) x3 s3
    ) else (
      f_Asker_guiltyOf_35 k15 x1 x2 x3 s3
    ))
  )
def F_Asker_guiltyOf_15 (N : Nat) : Int32 × Int32 × Int32 × ZM → Option (Int32 × ZM) := zlp (fun k15 a => f_Asker_guiltyOf_15 k15 a.1 a.2.1 a.2.2.1 a.2.2.2) N
def f_Asker_guiltyOf (x1 : Int32) (σ : ZM) : Option (Int32 × ZM) :=
  zbd (f_Asker_spoilsWithout x1 (-1 : Int32) σ) fun v1 s2 => (
  if v1 = 0 then (
    some ((0 : Int32), s2)
  ) else (
    F_Asker_guiltyOf_15 2000 (x1, (0 : Int32), (0 : Int32), s2)
  ))
def f_BB_guilty (x1 : Int32) (σ : ZM) : Option (Int32 × ZM) :=
  zbd (f_BB_isLoaf x1 σ) fun v1 s2 => (
  if v1 = 0 then (
    some ((-1 : Int32), s2)
  ) else (
    zbd (f_Asker_guiltyOf x1 s2) fun v5 s6 => (
    some (v5, s6))
  ))
def f_Asker_spoiledIn_64 (k18 : Int32 × Int32 × Int32 × ZM → Option (Int32 × ZM)) (x1 : Int32) (x2 : Int32) (x3 : Int32) (σ : ZM) : Option (Int32 × ZM) :=
  k18 (x1, x2, (x3 + (1 : Int32)), σ)
def f_Asker_spoiledIn_18 (k18 : Int32 × Int32 × Int32 × ZM → Option (Int32 × ZM)) (x1 : Int32) (x2 : Int32) (x3 : Int32) (σ : ZM) : Option (Int32 × ZM) :=
  if (zI σ 1 3) ≤ x3 then (
    some (x2, σ)
  ) else (
    if ((x1 >>> (x3 &&& 31)) &&& (1 : Int32)) = (1 : Int32) then (
      zck (zin x3 6) (
      zck (zR 0 129 (zel 25 x3.toNatClampNeg) 16 0) (
      zbd (f_Baker_bakeIn 35 (zel 25 x3.toNatClampNeg) σ) fun v5 s6 => (
      if v5 = 0 then (
        f_Asker_spoiledIn_64 k18 x1 x2 x3 s6
      ) else (
        f_Asker_spoiledIn_64 k18 x1 (x2 + (1 : Int32)) x3 s6
      ))))
    ) else (
      f_Asker_spoiledIn_64 k18 x1 x2 x3 σ
    )
  )
def F_Asker_spoiledIn_18 (N : Nat) : Int32 × Int32 × Int32 × ZM → Option (Int32 × ZM) := zlp (fun k18 a => f_Asker_spoiledIn_18 k18 a.1 a.2.1 a.2.2.1 a.2.2.2) N
def f_Asker_spoiledIn (x1 : Int32) (σ : ZM) : Option (Int32 × ZM) :=
  zbd (f_Oven_become 35 33 σ) fun v1 s2 => (
  F_Asker_spoiledIn_18 2000 (x1, (0 : Int32), (0 : Int32), s2))
def f_Asker_bestParting_90 (k49 : Int32 × Int32 × Int32 × Int32 × Int32 × ZM → Option (Int32 × ZM)) (x1 : Int32) (x2 : Int32) (x3 : Int32) (x4 : Int32) (x5 : Int32) (σ : ZM) : Option (Int32 × ZM) :=
  k49 (x1, x2, x3, x4, (x5 + (1 : Int32)), σ)
def f_Asker_bestParting_49 (k49 : Int32 × Int32 × Int32 × Int32 × Int32 × ZM → Option (Int32 × ZM)) (x1 : Int32) (x2 : Int32) (x3 : Int32) (x4 : Int32) (x5 : Int32) (σ : ZM) : Option (Int32 × ZM) :=
  if x2 ≤ x5 then (
    if x1 = 0 then (
      some (x4, σ)
    ) else (
      some (x3, σ)
    )
  ) else (
    zck (zin x5 64) (
    zck (zin ((x2 - (1 : Int32)) - x5) 64) (
    if x4 ≤ ((zI σ 21 x5.toNatClampNeg) + (zI σ 21 ((x2 - (1 : Int32)) - x5).toNatClampNeg)) then (
      f_Asker_bestParting_90 k49 x1 x2 x3 x4 x5 σ
    ) else (
      f_Asker_bestParting_90 k49 x1 x2 x5 ((zI σ 21 x5.toNatClampNeg) + (zI σ 21 ((x2 - (1 : Int32)) - x5).toNatClampNeg)) x5 σ
    )))
  )
def F_Asker_bestParting_49 (N : Nat) : Int32 × Int32 × Int32 × Int32 × Int32 × ZM → Option (Int32 × ZM) := zlp (fun k49 a => f_Asker_bestParting_49 k49 a.1 a.2.1 a.2.2.1 a.2.2.2.1 a.2.2.2.2.1 a.2.2.2.2.2) N
def f_Asker_bestParting_12 (k12 : Int32 × Int32 × Int32 × ZM → Option (Int32 × ZM)) (x1 : Int32) (x2 : Int32) (x3 : Int32) (σ : ZM) : Option (Int32 × ZM) :=
  if x2 ≤ x3 then (
    zck (zin (x2 - (1 : Int32)) 64) (
    F_Asker_bestParting_49 2000 (x1, x2, (0 : Int32), (zI σ 21 (x2 - (1 : Int32)).toNatClampNeg), (1 : Int32), σ))
  ) else (
    zbd (f_Asker_spoiledIn x3 σ) fun v3 s4 => (
    zck (zin x3 64) (
    k12 (x1, x2, (x3 + (1 : Int32)), (zsI s4 21 x3.toNatClampNeg v3))))
  )
def F_Asker_bestParting_12 (N : Nat) : Int32 × Int32 × Int32 × ZM → Option (Int32 × ZM) := zlp (fun k12 a => f_Asker_bestParting_12 k12 a.1 a.2.1 a.2.2.1 a.2.2.2) N
def f_Asker_bestParting (x1 : Int32) (σ : ZM) : Option (Int32 × ZM) :=
  F_Asker_bestParting_12 2000 (x1, ((1 : Int32) <<< ((zI σ 1 3) &&& 31)), (0 : Int32), σ)
def f_BB_two_25 (y0 : Int32) (σ : ZM) : Option (Int32 × ZM) :=
  zbd (f_Asker_bestParting y0 σ) fun v1 s2 => (
  some (v1, s2))
def f_BB_two (x1 : Int32) (σ : ZM) : Option (Int32 × ZM) :=
  if x1 < 0 then (
    some ((-1 : Int32), σ)
  ) else (
    if x1 ≤ (1 : Int32) then (
      if x1 = (1 : Int32) then (
        f_BB_two_25 (1 : Int32) σ
      ) else (
        f_BB_two_25 (0 : Int32) σ
      )
    ) else (
      some ((-1 : Int32), σ)
    )
  )
def f_Asker_gainOfFirst (x1 : Int32) (σ : ZM) : Option (Int32 × ZM) :=
  zck (zin x1 6) (
  zck (zR 0 129 (zel 25 x1.toNatClampNeg) 16 0) (
  zck (zin (x1 + (1 : Int32)) 6) (
  zck (zR 0 129 (zel 25 (x1 + (1 : Int32)).toNatClampNeg) 16 0) (
  zbd (f_Oven_become 35 33 σ) fun v5 s6 => (
  zbd (f_Baker_bakeIn 35 (zel 25 x1.toNatClampNeg) s6) fun v8 s9 => (
  zbd (f_Baker_takesOfAll (zel 25 (x1 + (1 : Int32)).toNatClampNeg) 35 s9) fun v11 s12 => (
  zbd (f_Baker_takesOfAll (zel 25 (x1 + (1 : Int32)).toNatClampNeg) 33 s12) fun v14 s15 => (
  if v14 ≤ v11 then (
    zbd (f_Baker_feeOf (zel 25 (x1 + (1 : Int32)).toNatClampNeg) (zI s15 33 1) s15) fun v18 s19 => (
    some (-v18, s19))
  ) else (
    zbd (f_Baker_feeOf (zel 25 x1.toNatClampNeg) (zI s15 33 1) s15) fun v21 s22 => (
    some (v21, s22))
  )))))))))
def f_Asker_purse_23 (x1 : Int32) (x2 : Int32) (σ : ZM) : Option (Int32 × ZM) :=
  if x1 ≤ 0 then (
    some (x2, σ)
  ) else (
    zbd (f_Asker_gainOfFirst (x1 - (1 : Int32)) σ) fun v2 s3 => (
    some (x2 - v2, s3))
  )
def f_Asker_purse (x1 : Int32) (σ : ZM) : Option (Int32 × ZM) :=
  if (zI σ 1 3) ≤ (x1 + (1 : Int32)) then (
    f_Asker_purse_23 x1 (0 : Int32) σ
  ) else (
    zbd (f_Asker_gainOfFirst x1 σ) fun v2 s3 => (
    f_Asker_purse_23 x1 ((0 : Int32) + v2) s3)
  )
def f_BB_has (x1 : Int32) (σ : ZM) : Option (Int32 × ZM) :=
  zbd (f_BB_isLoaf x1 σ) fun v1 s2 => (
  if v1 = 0 then (
    some ((-100001 : Int32), s2)
  ) else (
    zbd (f_Asker_purse x1 s2) fun v5 s6 => (
    some (v5, s6))
  ))
def f_Asker_bakeAhead_16 (k16 : Int32 × Int32 × ZM → Option (Unit × ZM)) (x1 : Int32) (x2 : Int32) (σ : ZM) : Option (Unit × ZM) :=
  if x1 ≤ x2 then (
    some ((), σ)
  ) else (
    zck (zin x2 6) (
    zck (zR 0 129 (zel 25 x2.toNatClampNeg) 16 0) (
    zbd (f_Baker_bakeIn 35 (zel 25 x2.toNatClampNeg) σ) fun v4 s5 => (
    k16 (x1, (x2 + (1 : Int32)), s5))))
  )
def F_Asker_bakeAhead_16 (N : Nat) : Int32 × Int32 × ZM → Option (Unit × ZM) := zlp (fun k16 a => f_Asker_bakeAhead_16 k16 a.1 a.2.1 a.2.2) N
def f_Asker_bakeAhead (x1 : Int32) (σ : ZM) : Option (Unit × ZM) :=
  zbd (f_Oven_become 35 33 σ) fun v1 s2 => (
  F_Asker_bakeAhead_16 2000 (x1, (0 : Int32), s2))
def f_Asker_bothAgree (x1 : Int32) (σ : ZM) : Option (Int32 × ZM) :=
  zck (zin x1 6) (
  zck (zR 0 129 (zel 25 x1.toNatClampNeg) 16 0) (
  zck (zin (x1 + (1 : Int32)) 6) (
  zck (zR 0 129 (zel 25 (x1 + (1 : Int32)).toNatClampNeg) 16 0) (
  zbd (f_Asker_bakeAhead x1 σ) fun v5 s6 => (
  zbd (f_Baker_takesOfAll (zel 25 x1.toNatClampNeg) 35 s6) fun v8 s9 => (
  zbd (f_Baker_bakeIn 35 (zel 25 x1.toNatClampNeg) s9) fun v11 s12 => (
  zbd (f_Baker_takesOfAll (zel 25 (x1 + (1 : Int32)).toNatClampNeg) 35 s12) fun v14 s15 => (
  zbd (f_Asker_bakeAhead x1 s15) fun v17 s18 => (
  zbd (f_Baker_takesOfAll (zel 25 (x1 + (1 : Int32)).toNatClampNeg) 35 s18) fun v20 s21 => (
  zbd (f_Baker_bakeIn 35 (zel 25 (x1 + (1 : Int32)).toNatClampNeg) s21) fun v23 s24 => (
  zbd (f_Baker_takesOfAll (zel 25 x1.toNatClampNeg) 35 s24) fun v26 s27 => (
  if v8 < v26 then (
    some ((0 : Int32), s27)
  ) else (
    if v14 < v20 then (
      some ((0 : Int32), s27)
    ) else (
      if v26 < v8 then (
        some ((1 : Int32), s27)
      ) else (
        if v14 ≤ v20 then (
          some ((0 : Int32), s27)
        ) else (
          some ((1 : Int32), s27)
        )
      )
    )
  )))))))))))))
def f_BB_swaps (x1 : Int32) (σ : ZM) : Option (Int32 × ZM) :=
  zbd (f_BB_isLoaf x1 σ) fun v1 s2 => (
  if v1 = 0 then (
    some ((-1 : Int32), s2)
  ) else (
    zbd (f_BB_isLoaf (x1 + (1 : Int32)) s2) fun v5 s6 => (
    if v5 = 0 then (
      some ((-1 : Int32), s6)
    ) else (
      zbd (f_Asker_bothAgree x1 s6) fun v9 s10 => (
      zbd (f_BB_flag v9 s10) fun v12 s13 => (
      some (v12, s13)))
    ))
  ))
def f_Asker_reaching_51 (k10 : Nat × Int32 × Int32 × Int32 × Int32 × Int32 × ZM → Option (Int32 × ZM)) (x0 : Nat) (x1 : Int32) (x2 : Int32) (x3 : Int32) (x6 : Int32) (x7 : Int32) (σ : ZM) : Option (Int32 × ZM) :=
  k10 (x0, x1, x2, x3, x6, x7, σ)
def f_Asker_reaching_10 (k10 : Nat × Int32 × Int32 × Int32 × Int32 × Int32 × ZM → Option (Int32 × ZM)) (x0 : Nat) (x1 : Int32) (x2 : Int32) (x3 : Int32) (x6 : Int32) (x7 : Int32) (σ : ZM) : Option (Int32 × ZM) :=
  if x7 ≤ x6 then (
    some (x6, σ)
  ) else (
    zbd (f_Baker_amount x0 x1 x2 ((x6 + x7) / (2 : Int32)) σ) fun v2 s3 => (
    if v2 < x3 then (
      f_Asker_reaching_51 k10 x0 x1 x2 x3 (((x6 + x7) / (2 : Int32)) + (1 : Int32)) x7 s3
    ) else (
      f_Asker_reaching_51 k10 x0 x1 x2 x3 x6 ((x6 + x7) / (2 : Int32)) s3
    ))
  )
def F_Asker_reaching_10 (N : Nat) : Nat × Int32 × Int32 × Int32 × Int32 × Int32 × ZM → Option (Int32 × ZM) := zlp (fun k10 a => f_Asker_reaching_10 k10 a.1 a.2.1 a.2.2.1 a.2.2.2.1 a.2.2.2.2.1 a.2.2.2.2.2.1 a.2.2.2.2.2.2) N
def f_Asker_reaching (x0 : Nat) (x1 : Int32) (x2 : Int32) (x3 : Int32) (x4 : Int32) (x5 : Int32) (σ : ZM) : Option (Int32 × ZM) :=
  zck (zR 0 129 x0 16 0) (
  F_Asker_reaching_10 2000 (x0, x1, x2, x3, x4, (x5 + (1 : Int32)), σ))
def f_Asker_heldBy_138 (k3 : Nat × Int32 × Int32 × Int32 × Int32 × ZM → Option (Int32 × ZM)) (x1 : Nat) (x2 : Int32) (x3 : Int32) (x4 : Int32) (x5 : Int32) (σ : ZM) : Option (Int32 × ZM) :=
  k3 (x1, x2, x3, x4, (x5 + (1 : Int32)), σ)
def f_Asker_heldBy_52 (k3 : Nat × Int32 × Int32 × Int32 × Int32 × ZM → Option (Int32 × ZM)) (x1 : Nat) (x2 : Int32) (x3 : Int32) (x4 : Int32) (x5 : Int32) (x7 : Int32) (y0 : Int32) (σ : ZM) : Option (Int32 × ZM) :=
  zbd (f_Baker_partOf x1 x2 x7 (zI σ 33 1) σ) fun v1 s2 => (
  zbd (f_Asker_reaching x1 x2 v1 x3 x7 y0 s2) fun v4 s5 => (
  if y0 < v4 then (
    f_Asker_heldBy_138 k3 x1 x2 x3 x4 x5 s5
  ) else (
    zbd (f_Baker_amount x1 x2 v1 v4 s5) fun v8 s9 => (
    if v8 = x3 then (
      if x4 = 0 then (
        some (v4, s9)
      ) else (
        zbd (f_Asker_reaching x1 x2 v1 (x3 + (1 : Int32)) x7 y0 s9) fun v13 s14 => (
        some (v13 - (1 : Int32), s14))
      )
    ) else (
      f_Asker_heldBy_138 k3 x1 x2 x3 x4 x5 s9
    ))
  )))
def f_Asker_heldBy_25 (k3 : Nat × Int32 × Int32 × Int32 × Int32 × ZM → Option (Int32 × ZM)) (x1 : Nat) (x2 : Int32) (x3 : Int32) (x4 : Int32) (x5 : Int32) (y0 : Int32) (σ : ZM) : Option (Int32 × ZM) :=
  if y0 = (100 : Int32) then (
    f_Asker_heldBy_52 k3 x1 x2 x3 x4 x5 (y0 * (10 : Int32)) (9999 : Int32) σ
  ) else (
    f_Asker_heldBy_52 k3 x1 x2 x3 x4 x5 (y0 * (10 : Int32)) ((y0 * (10 : Int32)) + (9 : Int32)) σ
  )
def f_Asker_heldBy_3 (k3 : Nat × Int32 × Int32 × Int32 × Int32 × ZM → Option (Int32 × ZM)) (x1 : Nat) (x2 : Int32) (x3 : Int32) (x4 : Int32) (x5 : Int32) (σ : ZM) : Option (Int32 × ZM) :=
  if (100 : Int32) < x5 then (
    some ((-5 : Int32), σ)
  ) else (
    if x4 = 0 then (
      f_Asker_heldBy_25 k3 x1 x2 x3 x4 x5 x5 σ
    ) else (
      f_Asker_heldBy_25 k3 x1 x2 x3 x4 x5 ((100 : Int32) - x5) σ
    )
  )
def F_Asker_heldBy_3 (N : Nat) : Nat × Int32 × Int32 × Int32 × Int32 × ZM → Option (Int32 × ZM) := zlp (fun k3 a => f_Asker_heldBy_3 k3 a.1 a.2.1 a.2.2.1 a.2.2.2.1 a.2.2.2.2.1 a.2.2.2.2.2) N
def f_Asker_heldBy (x1 : Nat) (x2 : Int32) (x3 : Int32) (x4 : Int32) (σ : ZM) : Option (Int32 × ZM) :=
  zck (zR 0 129 x1 16 0) (
  F_Asker_heldBy_3 2000 (x1, x2, x3, x4, (0 : Int32), σ))
def f_BB_span_68 (y0 : Int32) (y1 : Int32) (y2 : Int32) (y3 : Nat) (σ : ZM) : Option (Int32 × ZM) :=
  zbd (f_Asker_heldBy y3 y2 y1 y0 σ) fun v1 s2 => (
  some (v1, s2))
def f_BB_span (x1 : Int32) (x2 : Int32) (x3 : Int32) (x4 : Int32) (σ : ZM) : Option (Int32 × ZM) :=
  zbd (f_BB_isLoaf x1 σ) fun v1 s2 => (
  if v1 = 0 then (
    some ((-1 : Int32), s2)
  ) else (
    zbd (f_BB_isTaste x2 s2) fun v5 s6 => (
    if v5 = 0 then (
      some ((-1 : Int32), s6)
    ) else (
      if x4 < 0 then (
        some ((-1 : Int32), s6)
      ) else (
        if x4 ≤ (1 : Int32) then (
          if x3 < 0 then (
            some ((-2 : Int32), s6)
          ) else (
            if x3 ≤ (9999 : Int32) then (
              zck (zin x1 6) (
              zck (zR 0 129 (zel 25 x1.toNatClampNeg) 16 0) (
              if x4 = (1 : Int32) then (
                f_BB_span_68 (1 : Int32) x3 x2 (zel 25 x1.toNatClampNeg) s6
              ) else (
                f_BB_span_68 (0 : Int32) x3 x2 (zel 25 x1.toNatClampNeg) s6
              )))
            ) else (
              some ((-2 : Int32), s6)
            )
          )
        ) else (
          some ((-1 : Int32), s6)
        )
      )
    ))
  ))
def f_Asker_afterYear_106 (k23 : Int32 × Int32 × Int32 × Int32 × Int32 × Int32 × ZM → Option (Int32 × ZM)) (x1 : Int32) (x2 : Int32) (x3 : Int32) (x4 : Int32) (x5 : Int32) (x6 : Int32) (σ : ZM) : Option (Int32 × ZM) :=
  k23 (x1, x2, x3, x4, x5, (x6 + (1 : Int32)), σ)
def f_Asker_afterYear_104 (k23 : Int32 × Int32 × Int32 × Int32 × Int32 × Int32 × ZM → Option (Int32 × ZM)) (x1 : Int32) (x2 : Int32) (x3 : Int32) (x5 : Int32) (x6 : Int32) (y0 : Int32) (σ : ZM) : Option (Int32 × ZM) :=
  f_Asker_afterYear_106 k23 x1 x2 x3 y0 x5 x6 σ
def f_Asker_afterYear_82 (k23 : Int32 × Int32 × Int32 × Int32 × Int32 × Int32 × ZM → Option (Int32 × ZM)) (x1 : Int32) (x2 : Int32) (x3 : Int32) (x4 : Int32) (x5 : Int32) (x6 : Int32) (σ : ZM) : Option (Int32 × ZM) :=
  if (zI σ 1 3) ≤ (x4 + (1 : Int32)) then (
    f_Asker_afterYear_104 k23 x1 x2 x3 x5 x6 (0 : Int32) σ
  ) else (
    f_Asker_afterYear_104 k23 x1 x2 x3 x5 x6 (x4 + (1 : Int32)) σ
  )
def f_Asker_afterYear_23 (k23 : Int32 × Int32 × Int32 × Int32 × Int32 × Int32 × ZM → Option (Int32 × ZM)) (x1 : Int32) (x2 : Int32) (x3 : Int32) (x4 : Int32) (x5 : Int32) (x6 : Int32) (σ : ZM) : Option (Int32 × ZM) :=
  if x1 ≤ x6 then (
    if (4 : Int32) ≤ x3 then (
      some (x5, σ)
    ) else (
      zck (zin x3 4) (
      some (zI σ 44 x3.toNatClampNeg, σ))
    )
  ) else (
    zck (x2 != 0) (
    if ((zI σ 35 1) - (zI σ 35 1) / x2 * x2) = 0 then (
      zbd (f_Baker_chill 35 σ) fun v12 s13 => (
      f_Asker_afterYear_106 k23 x1 x2 x3 x4 x5 x6 s13)
    ) else (
      zck (zin x4 6) (
      zck (zR 0 129 (zel 25 x4.toNatClampNeg) 16 0) (
      zbd (f_Baker_bakeIn 35 (zel 25 x4.toNatClampNeg) σ) fun v8 s9 => (
      if v8 = 0 then (
        f_Asker_afterYear_82 k23 x1 x2 x3 x4 x5 x6 s9
      ) else (
        f_Asker_afterYear_82 k23 x1 x2 x3 x4 (x5 + (1 : Int32)) x6 s9
      ))))
    ))
  )
def F_Asker_afterYear_23 (N : Nat) : Int32 × Int32 × Int32 × Int32 × Int32 × Int32 × ZM → Option (Int32 × ZM) := zlp (fun k23 a => f_Asker_afterYear_23 k23 a.1 a.2.1 a.2.2.1 a.2.2.2.1 a.2.2.2.2.1 a.2.2.2.2.2.1 a.2.2.2.2.2.2) N
def f_Asker_afterYear (x1 : Int32) (x2 : Int32) (x3 : Int32) (σ : ZM) : Option (Int32 × ZM) :=
  zbd (f_Oven_become 35 33 σ) fun v1 s2 => (
  F_Asker_afterYear_23 2000 (x1, x2, x3, (0 : Int32), (0 : Int32), (0 : Int32), s2))
def f_BB_year_9  (σ : ZM) : Option (Int32 × ZM) :=
  some ((-100001 : Int32), σ)
def f_BB_year_33  (σ : ZM) : Option (Int32 × ZM) :=
  some ((-100002 : Int32), σ)
def f_BB_year (x1 : Int32) (x2 : Int32) (x3 : Int32) (σ : ZM) : Option (Int32 × ZM) :=
  if x3 < 0 then (
    f_BB_year_9 σ
  ) else (
    if x3 ≤ (4 : Int32) then (
      if x1 < 0 then (
        f_BB_year_33 σ
      ) else (
        if (60 : Int32) < x1 then (
          f_BB_year_33 σ
        ) else (
          if x2 < (2 : Int32) then (
            f_BB_year_33 σ
          ) else (
            if x2 ≤ (30 : Int32) then (
              if (zI σ 1 3) = 0 then (
                some ((-100003 : Int32), σ)
              ) else (
                zbd (f_Asker_afterYear x1 x2 x3 σ) fun v8 s9 => (
                some (v8, s9))
              )
            ) else (
              f_BB_year_33 σ
            )
          )
        )
      )
    ) else (
      f_BB_year_9 σ
    )
  )
def f_Asker_spoilers_30 (k4 : Int32 × Int32 × Int32 × ZM → Option (Int32 × ZM)) (x1 : Int32) (x2 : Int32) (x3 : Int32) (σ : ZM) : Option (Int32 × ZM) :=
  k4 (x1, x2, (x3 + (1 : Int32)), σ)
def f_Asker_spoilers_4 (k4 : Int32 × Int32 × Int32 × ZM → Option (Int32 × ZM)) (x1 : Int32) (x2 : Int32) (x3 : Int32) (σ : ZM) : Option (Int32 × ZM) :=
  if (zI σ 1 3) ≤ x3 then (
    some (x2, σ)
  ) else (
    if x3 = x1 then (
      f_Asker_spoilers_30 k4 x1 x2 x3 σ
    ) else (
      zbd (f_Asker_behind x1 x3 (4 : Int32) σ) fun v3 s4 => (
      f_Asker_spoilers_30 k4 x1 (x2 + v3) x3 s4)
    )
  )
def F_Asker_spoilers_4 (N : Nat) : Int32 × Int32 × Int32 × ZM → Option (Int32 × ZM) := zlp (fun k4 a => f_Asker_spoilers_4 k4 a.1 a.2.1 a.2.2.1 a.2.2.2) N
def f_Asker_spoilers (x1 : Int32) (σ : ZM) : Option (Int32 × ZM) :=
  F_Asker_spoilers_4 2000 (x1, (0 : Int32), (0 : Int32), σ)
def f_BB_lowest_19 (k2 : Int32 × Int32 × Int32 × Int32 × ZM → Option (Int64 × ZM)) (x0 : Int32) (x1 : Int32) (x2 : Int32) (x3 : Int32) (σ : ZM) : Option (Int64 × ZM) :=
  k2 (x0, x1, x2, (x3 + (-1 : Int32)), σ)
def f_BB_lowest_34 (x3 : Int32) (y0 : Int32) (σ : ZM) : Option (Int64 × ZM) :=
  zck (x3 != 0) (
  some ((y0 / x3).toInt64, σ))
def f_BB_lowest_25 (x0 : Int32) (x1 : Int32) (x2 : Int32) (x3 : Int32) (σ : ZM) : Option (Int64 × ZM) :=
  if x2 = 0 then (
    f_BB_lowest_34 x3 x0 σ
  ) else (
    f_BB_lowest_34 x3 x1 σ
  )
def f_BB_lowest_2 (k2 : Int32 × Int32 × Int32 × Int32 × ZM → Option (Int64 × ZM)) (x0 : Int32) (x1 : Int32) (x2 : Int32) (x3 : Int32) (σ : ZM) : Option (Int64 × ZM) :=
  if x3 ≤ (1 : Int32) then (
    f_BB_lowest_25 x0 x1 x2 x3 σ
  ) else (
    zck (x3 != 0) (
    if (x0 - x0 / x3 * x3) = 0 then (
      zck (x3 != 0) (
      if (x1 - x1 / x3 * x3) = 0 then (
        f_BB_lowest_25 x0 x1 x2 x3 σ
      ) else (
        f_BB_lowest_19 k2 x0 x1 x2 x3 σ
      ))
    ) else (
      f_BB_lowest_19 k2 x0 x1 x2 x3 σ
    ))
  )
def F_BB_lowest_2 (N : Nat) : Int32 × Int32 × Int32 × Int32 × ZM → Option (Int64 × ZM) := zlp (fun k2 a => f_BB_lowest_2 k2 a.1 a.2.1 a.2.2.1 a.2.2.2.1 a.2.2.2.2) N
def f_BB_lowest (x0 : Int32) (x1 : Int32) (x2 : Int32) (σ : ZM) : Option (Int64 × ZM) :=
  F_BB_lowest_2 2000 (x0, x1, x2, x1, σ)
def f_BB_odds_28  (σ : ZM) : Option (Int64 × ZM) :=
  some ((-9223372036854775808 : Int64), σ)
def f_BB_odds (x1 : Int32) (x2 : Int32) (σ : ZM) : Option (Int64 × ZM) :=
  zbd (f_BB_isLoaf x1 σ) fun v1 s2 => (
  if v1 = 0 then (
    f_BB_odds_28 s2
  ) else (
    if (zI s2 1 3) < (2 : Int32) then (
      f_BB_odds_28 s2
    ) else (
      if x2 < 0 then (
        f_BB_odds_28 s2
      ) else (
        if x2 ≤ (1 : Int32) then (
          zbd (f_Asker_spoilers x1 s2) fun v8 s9 => (
          zbd (f_BB_lowest v8 ((zI s9 1 3) - (1 : Int32)) x2 s9) fun v11 s12 => (
          some (v11, s12)))
        ) else (
          f_BB_odds_28 s2
        )
      )
    )
  ))
def f_Asker_takenByAll_4 (k4 : Int32 × Int32 × Int32 × ZM → Option (Int32 × ZM)) (x1 : Int32) (x2 : Int32) (x3 : Int32) (σ : ZM) : Option (Int32 × ZM) :=
  if (zI σ 1 3) ≤ x3 then (
    some (x2, σ)
  ) else (
    zck (zin x3 6) (
    zck (zR 0 129 (zel 25 x3.toNatClampNeg) 16 0) (
    zbd (f_Baker_takes (zel 25 x3.toNatClampNeg) x1 33 σ) fun v4 s5 => (
    k4 (x1, (x2 + v4), (x3 + (1 : Int32)), s5))))
  )
def F_Asker_takenByAll_4 (N : Nat) : Int32 × Int32 × Int32 × ZM → Option (Int32 × ZM) := zlp (fun k4 a => f_Asker_takenByAll_4 k4 a.1 a.2.1 a.2.2.1 a.2.2.2) N
def f_Asker_takenByAll (x1 : Int32) (σ : ZM) : Option (Int32 × ZM) :=
  F_Asker_takenByAll_4 2000 (x1, (0 : Int32), (0 : Int32), σ)
def f_BB_mean_26  (σ : ZM) : Option (Int64 × ZM) :=
  some ((-9223372036854775808 : Int64), σ)
def f_BB_mean (x1 : Int32) (x2 : Int32) (σ : ZM) : Option (Int64 × ZM) :=
  zbd (f_BB_isTaste x1 σ) fun v1 s2 => (
  if v1 = 0 then (
    f_BB_mean_26 s2
  ) else (
    if (zI s2 1 3) = 0 then (
      f_BB_mean_26 s2
    ) else (
      if x2 < 0 then (
        f_BB_mean_26 s2
      ) else (
        if x2 ≤ (1 : Int32) then (
          zbd (f_Asker_takenByAll x1 s2) fun v8 s9 => (
          zbd (f_BB_lowest v8 (zI s9 1 3) x2 s9) fun v11 s12 => (
          some (v11, s12)))
        ) else (
          f_BB_mean_26 s2
        )
      )
    )
  ))
def f_Book_append (x0 : Nat) (x1 : Int32) (x2 : Int32) (σ : ZM) : Option (Int32 × ZM) :=
  zck (zR 0 129 x0 14 0) (
  if (zI σ x0 2) < (12 : Int32) then (
    zck (zin (zI σ x0 2) 12) (
    zck (zin (zI (zsI σ (x0 + 2) (zI σ x0 2).toNatClampNeg x1) x0 2) 12) (
    zck (zbl x2) (
    some (zI (zsI (zsI (zsI σ (x0 + 2) (zI σ x0 2).toNatClampNeg x1) (x0 + 4) (zI (zsI σ (x0 + 2) (zI σ x0 2).toNatClampNeg x1) x0 2).toNatClampNeg x2) x0 2 ((zI (zsI (zsI σ (x0 + 2) (zI σ x0 2).toNatClampNeg x1) (x0 + 4) (zI (zsI σ (x0 + 2) (zI σ x0 2).toNatClampNeg x1) x0 2).toNatClampNeg x2) x0 2) + (1 : Int32))) x0 2, (zsI (zsI (zsI σ (x0 + 2) (zI σ x0 2).toNatClampNeg x1) (x0 + 4) (zI (zsI σ (x0 + 2) (zI σ x0 2).toNatClampNeg x1) x0 2).toNatClampNeg x2) x0 2 ((zI (zsI (zsI σ (x0 + 2) (zI σ x0 2).toNatClampNeg x1) (x0 + 4) (zI (zsI σ (x0 + 2) (zI σ x0 2).toNatClampNeg x1) x0 2).toNatClampNeg x2) x0 2) + (1 : Int32)))))))
  ) else (
    some ((-4 : Int32), σ)
  ))
def f_BB_book_34 (x1 : Int32) (x2 : Int32) (σ : ZM) : Option (Int32 × ZM) :=
  zbd (f_Book_append 27 x1 x2 σ) fun v1 s2 => (
  some (v1, s2))
def f_BB_book (x1 : Int32) (x2 : Int32) (σ : ZM) : Option (Int32 × ZM) :=
  if x1 = (-1 : Int32) then (
    some ((0 : Int32), (zsI σ 27 2 (0 : Int32)))
  ) else (
    if x1 = (-2 : Int32) then (
      f_BB_book_34 x1 x2 σ
    ) else (
      zbd (f_BB_isLoaf x1 σ) fun v3 s4 => (
      if v3 = 0 then (
        some ((-1 : Int32), s4)
      ) else (
        f_BB_book_34 x1 x2 s4
      ))
    )
  )
def f_Asker_firstOtherwise_86 (k16 : Int32 × ZM → Option (Int32 × ZM)) (x1 : Int32) (x3 : Int32) (σ : ZM) : Option (Int32 × ZM) :=
  zck (zin x1 12) (
  if x3 = (zI σ 31 x1.toNatClampNeg) then (
    k16 ((x1 + (1 : Int32)), σ)
  ) else (
    some (x1, σ)
  ))
def f_Asker_firstOtherwise_16 (k16 : Int32 × ZM → Option (Int32 × ZM)) (x1 : Int32) (σ : ZM) : Option (Int32 × ZM) :=
  if (zI σ 27 2) ≤ x1 then (
    some ((-5 : Int32), σ)
  ) else (
    zck (zin x1 12) (
    if (zI σ 29 x1.toNatClampNeg) = (-2 : Int32) then (
      zbd (f_Baker_chill 35 σ) fun v9 s10 => (
      f_Asker_firstOtherwise_86 k16 x1 (0 : Int32) s10)
    ) else (
      zck (zin (zI σ 29 x1.toNatClampNeg) 6) (
      zck (zR 0 129 (zel 25 (zI σ 29 x1.toNatClampNeg).toNatClampNeg) 16 0) (
      zbd (f_Baker_bakeIn 35 (zel 25 (zI σ 29 x1.toNatClampNeg).toNatClampNeg) σ) fun v6 s7 => (
      f_Asker_firstOtherwise_86 k16 x1 v6 s7)))
    ))
  )
def F_Asker_firstOtherwise_16 (N : Nat) : Int32 × ZM → Option (Int32 × ZM) := zlp (fun k16 a => f_Asker_firstOtherwise_16 k16 a.1 a.2) N
def f_Asker_firstOtherwise  (σ : ZM) : Option (Int32 × ZM) :=
  zbd (f_Oven_become 35 33 σ) fun v1 s2 => (
  F_Asker_firstOtherwise_16 2000 ((0 : Int32), s2))
def f_BB_looked  (σ : ZM) : Option (Int32 × ZM) :=
  zbd (f_Asker_firstOtherwise σ) fun v1 s2 => (
  some (v1, s2))
def f_Tapes_isTape (x0 : Int32) (σ : ZM) : Option (Int32 × ZM) :=
  if x0 < 0 then (
    some ((0 : Int32), σ)
  ) else (
    if (6 : Int32) ≤ x0 then (
      some ((0 : Int32), σ)
    ) else (
      some ((1 : Int32), σ)
    )
  )
def f_Tapes_firstUnlike_46 (k46 : Int32 × Int32 × Nat × Int32 × ZM → Option (Int32 × ZM)) (x1 : Int32) (x2 : Int32) (x3 : Nat) (x4 : Int32) (σ : ZM) : Option (Int32 × ZM) :=
  if (4 : Int32) ≤ x4 then (
    some ((-5 : Int32), σ)
  ) else (
    zck (zin x1 6) (
    if (x2 + x4) < (zI σ 13 x1.toNatClampNeg) then (
      zck (zin x1 6) (
      zck (zR 0 129 (zel 11 x1.toNatClampNeg) 2 60) (
      zck (zin (x2 + x4) 60) (
      zck (zin x4 4) (
      if (lg_cmp (zL σ (zel 11 x1.toNatClampNeg) (x2 + x4).toNatClampNeg) ((zI σ (x3 + 9) x4.toNatClampNeg).toInt64)) = 0 then (
        k46 (x1, x2, x3, (x4 + (1 : Int32)), σ)
      ) else (
        some (x4, σ)
      )))))
    ) else (
      some ((100 : Int32) + x4, σ)
    ))
  )
def F_Tapes_firstUnlike_46 (N : Nat) : Int32 × Int32 × Nat × Int32 × ZM → Option (Int32 × ZM) := zlp (fun k46 a => f_Tapes_firstUnlike_46 k46 a.1 a.2.1 a.2.2.1 a.2.2.2.1 a.2.2.2.2) N
def f_Tapes_firstUnlike (x1 : Int32) (x2 : Int32) (x3 : Nat) (σ : ZM) : Option (Int32 × ZM) :=
  zck (zR 0 129 x3 17 0) (
  zck (zin x1 6) (
  if (zI σ 12 x1.toNatClampNeg) = (-1 : Int32) then (
    some ((100 : Int32), σ)
  ) else (
    zck (zin x1 6) (
    if (zI σ 12 x1.toNatClampNeg) = (1 : Int32) then (
      if x2 < 0 then (
        some ((100 : Int32), σ)
      ) else (
        zck (zin x1 6) (
        if x2 ≤ (zI σ 13 x1.toNatClampNeg) then (
          F_Tapes_firstUnlike_46 2000 (x1, x2, x3, (0 : Int32), σ)
        ) else (
          some ((100 : Int32), σ)
        ))
      )
    ) else (
      some ((-12 : Int32), σ)
    ))
  )))
def f_BB_judge (x1 : Int32) (x2 : Int32) (σ : ZM) : Option (Int32 × ZM) :=
  zbd (f_Tapes_isTape x1 σ) fun v1 s2 => (
  if v1 = 0 then (
    some ((-1 : Int32), s2)
  ) else (
    zbd (f_Tapes_firstUnlike x1 x2 33 s2) fun v5 s6 => (
    some (v5, s6))
  ))
def f_Book_become_2 (k2 : Nat × Nat × Int32 × ZM → Option (Unit × ZM)) (x0 : Nat) (x1 : Nat) (x2 : Int32) (σ : ZM) : Option (Unit × ZM) :=
  if (zI σ x1 2) ≤ x2 then (
    some ((), (zsI σ x0 2 (zI σ x1 2)))
  ) else (
    zck (zin x2 12) (
    zck (zin x2 12) (
    zck (zin x2 12) (
    zck (zin x2 12) (
    zck (zbl (zI (zsI σ (x0 + 2) x2.toNatClampNeg (zI σ (x1 + 2) x2.toNatClampNeg)) (x1 + 4) x2.toNatClampNeg)) (
    k2 (x0, x1, (x2 + (1 : Int32)), (zsI (zsI σ (x0 + 2) x2.toNatClampNeg (zI σ (x1 + 2) x2.toNatClampNeg)) (x0 + 4) x2.toNatClampNeg (zI (zsI σ (x0 + 2) x2.toNatClampNeg (zI σ (x1 + 2) x2.toNatClampNeg)) (x1 + 4) x2.toNatClampNeg))))))))
  )
def F_Book_become_2 (N : Nat) : Nat × Nat × Int32 × ZM → Option (Unit × ZM) := zlp (fun k2 a => f_Book_become_2 k2 a.1 a.2.1 a.2.2.1 a.2.2.2) N
def f_Book_become (x0 : Nat) (x1 : Nat) (σ : ZM) : Option (Unit × ZM) :=
  zck (zR 0 129 x0 14 0) (
  zck (zR 0 129 x1 14 0) (
  F_Book_become_2 2000 (x0, x1, (0 : Int32), σ)))
def f_Loaf_become_18 (k18 : Nat × Nat × Int32 × ZM → Option (Unit × ZM)) (x0 : Nat) (x1 : Nat) (x2 : Int32) (σ : ZM) : Option (Unit × ZM) :=
  if (4 : Int32) ≤ x2 then (
    some ((), σ)
  ) else (
    zck (zin x2 4) (
    zck (zin x2 4) (
    zck (zin x2 4) (
    zck (zin x2 4) (
    k18 (x0, x1, (x2 + (1 : Int32)), (zsI (zsI σ (x0 + 12) x2.toNatClampNeg (zI σ (x1 + 12) x2.toNatClampNeg)) (x0 + 24) x2.toNatClampNeg (zI (zsI σ (x0 + 12) x2.toNatClampNeg (zI σ (x1 + 12) x2.toNatClampNeg)) (x1 + 24) x2.toNatClampNeg)))))))
  )
def F_Loaf_become_18 (N : Nat) : Nat × Nat × Int32 × ZM → Option (Unit × ZM) := zlp (fun k18 a => f_Loaf_become_18 k18 a.1 a.2.1 a.2.2.1 a.2.2.2) N
def f_Loaf_become (x0 : Nat) (x1 : Nat) (σ : ZM) : Option (Unit × ZM) :=
  zck (zR 0 129 x0 16 0) (
  zck (zR 0 129 x1 16 0) (
  F_Loaf_become_18 2000 (x0, x1, (0 : Int32), (zsI (zsI σ x0 3 (zI σ x1 3)) x0 4 (zI (zsI σ x0 3 (zI σ x1 3)) x1 4)))))
def f_Stand_become_2 (k2 : Nat × Nat × Int32 × ZM → Option (Unit × ZM)) (x0 : Nat) (x1 : Nat) (x2 : Int32) (σ : ZM) : Option (Unit × ZM) :=
  if (zI σ x1 3) ≤ x2 then (
    zbd (f_Oven_become (x0 + 32) (x1 + 32) (zsI σ x0 3 (zI σ x1 3))) fun v2 s3 => (
    zbd (f_Book_become (x0 + 26) (x1 + 26) s3) fun v5 s6 => (
    some ((), (zsI s6 x0 4 (zI s6 x1 4)))))
  ) else (
    zck (zin x2 6) (
    zck (zR 0 129 (zel (x0 + 24) x2.toNatClampNeg) 16 0) (
    zck (zin x2 6) (
    zck (zR 0 129 (zel (x1 + 24) x2.toNatClampNeg) 16 0) (
    zbd (f_Loaf_become (zel (x0 + 24) x2.toNatClampNeg) (zel (x1 + 24) x2.toNatClampNeg) σ) fun v12 s13 => (
    k2 (x0, x1, (x2 + (1 : Int32)), s13))))))
  )
def F_Stand_become_2 (N : Nat) : Nat × Nat × Int32 × ZM → Option (Unit × ZM) := zlp (fun k2 a => f_Stand_become_2 k2 a.1 a.2.1 a.2.2.1 a.2.2.2) N
def f_Stand_become (x0 : Nat) (x1 : Nat) (σ : ZM) : Option (Unit × ZM) :=
  zck (zR 0 129 x0 20 0) (
  zck (zR 0 129 x1 20 0) (
  F_Stand_become_2 2000 (x0, x1, (0 : Int32), σ)))
def f_BB_image  (σ : ZM) : Option (Int32 × ZM) :=
  zbd (f_Stand_become 2 1 σ) fun v1 s2 => (
  some (zI (zsI s2 0 11 (1 : Int32)) 2 3, (zsI s2 0 11 (1 : Int32))))
def f_BB_undo_54 (y0 : Nat) (σ : ZM) : Option (Int32 × ZM) :=
  some (zI (zsP σ 5 0 y0) 1 3, (zsP σ 5 0 y0))
def f_BB_undo  (σ : ZM) : Option (Int32 × ZM) :=
  if (zI σ 0 11) = 0 then (
    some ((-3 : Int32), σ)
  ) else (
    zbd (f_Stand_become 1 2 σ) fun v2 s3 => (
    if 0 ≤ (zI s3 1 4) then (
      zck (zin (zI s3 1 4) 6) (
      zck (zR 0 129 (zel 20 (zI s3 1 4).toNatClampNeg) 15 0) (
      f_BB_undo_54 (zel 20 (zI s3 1 4).toNatClampNeg) s3))
    ) else (
      f_BB_undo_54 93 s3
    ))
  )
def f_Acts_bodyOf_37 (x0 : Int32) (x2 : Int32) (σ : ZM) : Option (Int32 × ZM) :=
  zck (zin ((x2 * (3 : Int32)) + x0) 21) (
  some (zbodies ((x2 * (3 : Int32)) + x0).toNatClampNeg, σ))
def f_Acts_bodyOf_4 (k4 : Int32 × Int32 × Int32 × ZM → Option (Int32 × ZM)) (x0 : Int32) (x2 : Int32) (x3 : Int32) (σ : ZM) : Option (Int32 × ZM) :=
  if (2 : Int32) ≤ x3 then (
    f_Acts_bodyOf_37 x0 x2 σ
  ) else (
    if x2 ≤ 0 then (
      f_Acts_bodyOf_37 x0 x2 σ
    ) else (
      zck (zin ((x2 * (3 : Int32)) + x0) 21) (
      if (zbodies ((x2 * (3 : Int32)) + x0).toNatClampNeg) = 0 then (
        zck (zin x2 7) (
        k4 (x0, (zabove x2.toNatClampNeg), (x3 + (1 : Int32)), σ))
      ) else (
        f_Acts_bodyOf_37 x0 x2 σ
      ))
    )
  )
def F_Acts_bodyOf_4 (N : Nat) : Int32 × Int32 × Int32 × ZM → Option (Int32 × ZM) := zlp (fun k4 a => f_Acts_bodyOf_4 k4 a.1 a.2.1 a.2.2.1 a.2.2.2) N
def f_Acts_bodyOf (x0 : Int32) (x1 : Int32) (σ : ZM) : Option (Int32 × ZM) :=
  F_Acts_bodyOf_4 2000 (x0, x1, (0 : Int32), σ)
def f_Acts_note_19  (σ : ZM) : Option (Unit × ZM) :=
  some ((), (zsI σ 8 1 ((zI σ 8 1) + (1 : Int32))))
def f_Acts_note (x1 : Int32) (σ : ZM) : Option (Unit × ZM) :=
  if (20 : Int32) ≤ (zI σ 8 1) then (
    f_Acts_note_19 σ
  ) else (
    zck (zin (zI σ 8 1) 20) (
    f_Acts_note_19 (zsI σ 9 (zI σ 8 1).toNatClampNeg x1))
  )
def f_Acts_run (rec : Nat × Int32 × Int32 × Int32 × Int32 × ZM → Option (Int32 × ZM)) (x1 : Nat) (x2 : Int32) (x3 : Int32) (x4 : Int32) (x5 : Int32) (σ : ZM) : Option (Int32 × ZM) :=
  zck (zR 0 129 x1 16 0) (
  if x5 ≤ (40 : Int32) then (
    zbd (f_Acts_bodyOf x2 x3 σ) fun v2 s3 => (
    zbd (f_Acts_note v2 s3) fun v5 s6 => (
    zck (zin ((v2 / (10 : Int32)) - (1 : Int32)) 7) (
    if v2 = (10 : Int32) then (
      some (x4 + (zI s6 x1 0), s6)
    ) else (
    if v2 = (11 : Int32) then (
      zbd (rec (x1, (0 : Int32), (zI s6 x1 3), x4, (x5 + (1 : Int32)), s6)) fun v11 s12 => (
      some (v11 - (zI s12 x1 4), s12))
    ) else (
    if v2 = (12 : Int32) then (
      zbd (rec (x1, (1 : Int32), (zI s6 x1 3), x4, (x5 + (1 : Int32)), s6)) fun v15 s16 => (
      some (v15 * (2 : Int32), s16))
    ) else (
    if v2 = (20 : Int32) then (
      zbd (rec (x1, (1 : Int32), (if (0 : Int32) < (zabove ((v2 / (10 : Int32)) - (1 : Int32)).toNatClampNeg) then (zabove ((v2 / (10 : Int32)) - (1 : Int32)).toNatClampNeg) else (0 : Int32)), x4, (x5 + (1 : Int32)), s6)) fun v19 s20 => (
      some (v19 ^^^ (6 : Int32), s20))
    ) else (
    if v2 = (30 : Int32) then (
      zbd (rec (x1, (0 : Int32), (if (0 : Int32) < (zabove ((v2 / (10 : Int32)) - (1 : Int32)).toNatClampNeg) then (zabove ((v2 / (10 : Int32)) - (1 : Int32)).toNatClampNeg) else (0 : Int32)), (x4 * (3 : Int32)), (x5 + (1 : Int32)), s6)) fun v23 s24 => (
      some (v23, s24))
    ) else (
    if v2 = (40 : Int32) then (
      zbd (rec (x1, (2 : Int32), (if (0 : Int32) < (zabove ((v2 / (10 : Int32)) - (1 : Int32)).toNatClampNeg) then (zabove ((v2 / (10 : Int32)) - (1 : Int32)).toNatClampNeg) else (0 : Int32)), x4, (x5 + (1 : Int32)), s6)) fun v27 s28 => (
      zbd (rec (x1, (1 : Int32), (zI s6 x1 3), (1 : Int32), (x5 + (1 : Int32)), s28)) fun v30 s31 => (
      some (v27 + v30, s31)))
    ) else (
    if v2 = (50 : Int32) then (
      zbd (rec (x1, (0 : Int32), (if (0 : Int32) < (zabove ((v2 / (10 : Int32)) - (1 : Int32)).toNatClampNeg) then (zabove ((v2 / (10 : Int32)) - (1 : Int32)).toNatClampNeg) else (0 : Int32)), x4, (x5 + (1 : Int32)), s6)) fun v34 s35 => (
      some (-v34, s35))
    ) else (
    if v2 = (51 : Int32) then (
      zbd (rec (x1, (1 : Int32), (if (0 : Int32) < (zabove ((v2 / (10 : Int32)) - (1 : Int32)).toNatClampNeg) then (zabove ((v2 / (10 : Int32)) - (1 : Int32)).toNatClampNeg) else (0 : Int32)), (x4 + (1 : Int32)), (x5 + (1 : Int32)), s6)) fun v38 s39 => (
      some (v38, s39))
    ) else (
    if v2 = (60 : Int32) then (
      zbd (rec (x1, (2 : Int32), (if (0 : Int32) < (zabove ((v2 / (10 : Int32)) - (1 : Int32)).toNatClampNeg) then (zabove ((v2 / (10 : Int32)) - (1 : Int32)).toNatClampNeg) else (0 : Int32)), (x4 - (zI s6 x1 0)), (x5 + (1 : Int32)), s6)) fun v42 s43 => (
      some (v42, s43))
    ) else (
    if v2 = (70 : Int32) then (
      zbd (rec (x1, (1 : Int32), (if (0 : Int32) < (zabove ((v2 / (10 : Int32)) - (1 : Int32)).toNatClampNeg) then (zabove ((v2 / (10 : Int32)) - (1 : Int32)).toNatClampNeg) else (0 : Int32)), x4, (x5 + (1 : Int32)), s6)) fun v46 s47 => (
      zbd (rec (x1, (0 : Int32), (if (0 : Int32) < (zabove ((v2 / (10 : Int32)) - (1 : Int32)).toNatClampNeg) then (zabove ((v2 / (10 : Int32)) - (1 : Int32)).toNatClampNeg) else (0 : Int32)), (2 : Int32), (x5 + (1 : Int32)), s47)) fun v49 s50 => (
      some (v46 + v49, s50)))
    ) else (
    if v2 = (71 : Int32) then (
      zbd (rec (x1, (0 : Int32), (if (0 : Int32) < (zabove ((v2 / (10 : Int32)) - (1 : Int32)).toNatClampNeg) then (zabove ((v2 / (10 : Int32)) - (1 : Int32)).toNatClampNeg) else (0 : Int32)), x4, (x5 + (1 : Int32)), s6)) fun v53 s54 => (
      some (v53 ^^^ (zI s54 x1 4), s54))
    ) else (
      some ((0 : Int32), s6)
    ))))))))))))))
  ) else (
    some ((0 : Int32), σ)
  ))
def F_Acts_run (N : Nat) : Nat × Int32 × Int32 × Int32 × Int32 × ZM → Option (Int32 × ZM) := zlp (fun rec a => f_Acts_run rec a.1 a.2.1 a.2.2.1 a.2.2.2.1 a.2.2.2.2.1 a.2.2.2.2.2) N
def f_Acts_play (x1 : Nat) (x2 : Int32) (x3 : Int32) (σ : ZM) : Option (Int32 × ZM) :=
  zck (zR 0 129 x1 16 0) (
  zbd (F_Acts_run 16 (x1, x2, (zI (zsI σ 8 1 (0 : Int32)) x1 3), x3, (0 : Int32), (zsI σ 8 1 (0 : Int32)))) fun v1 s2 => (
  some (v1, s2)))
def f_BB_act (x1 : Int32) (x2 : Int32) (x3 : Int32) (σ : ZM) : Option (Int32 × ZM) :=
  zbd (f_BB_isLoaf x1 (zsI σ 8 1 (0 : Int32))) fun v1 s2 => (
  if v1 = 0 then (
    some ((0 : Int32), s2)
  ) else (
    if x2 < 0 then (
      some ((0 : Int32), s2)
    ) else (
      if x2 ≤ (2 : Int32) then (
        zck (zin x1 6) (
        zck (zR 0 129 (zel 25 x1.toNatClampNeg) 16 0) (
        zbd (f_Acts_play (zel 25 x1.toNatClampNeg) x2 x3 s2) fun v9 s10 => (
        some (v9, s10))))
      ) else (
        some ((0 : Int32), s2)
      )
    )
  ))
def f_BB_trace (x1 : Int32) (σ : ZM) : Option (Int32 × ZM) :=
  if x1 < 0 then (
    some ((-1 : Int32), σ)
  ) else (
    if (zI σ 8 1) ≤ x1 then (
      some ((-1 : Int32), σ)
    ) else (
      if x1 < (20 : Int32) then (
        zck (zin x1 20) (
        some (zI σ 9 x1.toNatClampNeg, σ))
      ) else (
        some ((-1 : Int32), σ)
      )
    )
  )
def f_Loaf_isUnder_33 (x1 : Int32) (x2 : Int32) (σ : ZM) : Option (Int32 × ZM) :=
  if x2 = x1 then (
    some ((1 : Int32), σ)
  ) else (
    some ((0 : Int32), σ)
  )
def f_Loaf_isUnder_7 (k7 : Int32 × Int32 × Int32 × ZM → Option (Int32 × ZM)) (x1 : Int32) (x2 : Int32) (x3 : Int32) (σ : ZM) : Option (Int32 × ZM) :=
  if (2 : Int32) ≤ x3 then (
    f_Loaf_isUnder_33 x1 x2 σ
  ) else (
    if x2 = x1 then (
      f_Loaf_isUnder_33 x1 x2 σ
    ) else (
      if x2 = 0 then (
        f_Loaf_isUnder_33 x1 x2 σ
      ) else (
        zck (zin x2 7) (
        k7 (x1, (zabove x2.toNatClampNeg), (x3 + (1 : Int32)), σ))
      )
    )
  )
def F_Loaf_isUnder_7 (N : Nat) : Int32 × Int32 × Int32 × ZM → Option (Int32 × ZM) := zlp (fun k7 a => f_Loaf_isUnder_7 k7 a.1 a.2.1 a.2.2.1 a.2.2.2) N
def f_Loaf_isUnder (x0 : Nat) (x1 : Int32) (σ : ZM) : Option (Int32 × ZM) :=
  zck (zR 0 129 x0 16 0) (
  F_Loaf_isUnder_7 2000 (x1, (zI σ x0 3), (0 : Int32), σ))
def f_BB_taken (x1 : Int32) (x2 : Int32) (σ : ZM) : Option (Int32 × ZM) :=
  if x2 < 0 then (
    some ((-2 : Int32), σ)
  ) else (
    if x2 ≤ (6 : Int32) then (
      zbd (f_BB_isLoaf x1 σ) fun v3 s4 => (
      if v3 = 0 then (
        some ((-11 : Int32), s4)
      ) else (
        zck (zin x1 6) (
        zck (zR 0 129 (zel 25 x1.toNatClampNeg) 16 0) (
        zbd (f_Loaf_isUnder (zel 25 x1.toNatClampNeg) x2 s4) fun v9 s10 => (
        if v9 = 0 then (
          some ((-12 : Int32), s10)
        ) else (
          zck (zin x1 6) (
          zck (zR 0 129 (zel 25 x1.toNatClampNeg) 16 0) (
          some (zI s10 (zel 25 x1.toNatClampNeg) 3, s10)))
        ))))
      ))
    ) else (
      some ((-2 : Int32), σ)
    )
  )
def f_BB_count (x1 : Int32) (σ : ZM) : Option (Int32 × ZM) :=
  if x1 = (0 : Int32) then (
    some (zI σ 1 3, σ)
  ) else (
  if x1 = (1 : Int32) then (
    some (zI σ 0 10, σ)
  ) else (
  if x1 = (2 : Int32) then (
    some (zI σ 27 2, σ)
  ) else (
  if x1 = (3 : Int32) then (
    some (zI σ 3 1, σ)
  ) else (
  if x1 = (4 : Int32) then (
    some (zI σ 8 1, σ)
  ) else (
    some ((-2 : Int32), σ)
  )))))
def f_Tapes_begin_62 (k62 : Int32 × Int32 × ZM → Option (Int32 × ZM)) (x1 : Int32) (x4 : Int32) (σ : ZM) : Option (Int32 × ZM) :=
  if (60 : Int32) ≤ x4 then (
    some ((1 : Int32), σ)
  ) else (
    zck (zin x1 6) (
    zck (zR 0 129 (zel 11 x1.toNatClampNeg) 2 60) (
    zck (zin x4 60) (
    k62 (x1, (x4 + (1 : Int32)), (zsL σ (zel 11 x1.toNatClampNeg) x4.toNatClampNeg (0 : Int64))))))
  )
def F_Tapes_begin_62 (N : Nat) : Int32 × Int32 × ZM → Option (Int32 × ZM) := zlp (fun k62 a => f_Tapes_begin_62 k62 a.1 a.2.1 a.2.2) N
def f_Tapes_begin_58 (x1 : Int32) (y0 : Int32) (y1 : Int32) (σ : ZM) : Option (Int32 × ZM) :=
  zck (zin y1 6) (
  F_Tapes_begin_62 2000 (x1, (0 : Int32), (zsI σ 13 y1.toNatClampNeg y0)))
def f_Tapes_begin_36 (x1 : Int32) (x2 : Int32) (x3 : Int32) (σ : ZM) : Option (Int32 × ZM) :=
  zck (zin x1 6) (
  if x2 = (-1 : Int32) then (
    f_Tapes_begin_58 x1 (0 : Int32) x1 (zsI σ 12 x1.toNatClampNeg x2)
  ) else (
    f_Tapes_begin_58 x1 x3 x1 (zsI σ 12 x1.toNatClampNeg x2)
  ))
def f_Tapes_begin_24 (x1 : Int32) (x2 : Int32) (x3 : Int32) (σ : ZM) : Option (Int32 × ZM) :=
  if x2 = (-1 : Int32) then (
    f_Tapes_begin_36 x1 x2 x3 σ
  ) else (
    if 0 ≤ x3 then (
      f_Tapes_begin_36 x1 x2 x3 σ
    ) else (
      some ((-14 : Int32), σ)
    )
  )
def f_Tapes_begin (x1 : Int32) (x2 : Int32) (x3 : Int32) (σ : ZM) : Option (Int32 × ZM) :=
  if x2 < (-1 : Int32) then (
    some ((-2 : Int32), σ)
  ) else (
    if (4 : Int32) < x2 then (
      some ((-2 : Int32), σ)
    ) else (
      if x2 = (-1 : Int32) then (
        f_Tapes_begin_24 x1 x2 x3 σ
      ) else (
        if x3 ≤ (60 : Int32) then (
          f_Tapes_begin_24 x1 x2 x3 σ
        ) else (
          some ((-2 : Int32), σ)
        )
      )
    )
  )
def f_BB_tape (x1 : Int32) (x2 : Int32) (x3 : Int32) (σ : ZM) : Option (Int32 × ZM) :=
  zbd (f_Tapes_isTape x1 σ) fun v1 s2 => (
  if v1 = 0 then (
    some ((-1 : Int32), s2)
  ) else (
    zbd (f_Tapes_begin x1 x2 x3 s2) fun v5 s6 => (
    some (v5, s6))
  ))
def f_Tapes_asItem (x0 : Int32) (x1 : Int64) (σ : ZM) : Option (Int64 × ZM) :=
  if x0 = (0 : Int32) then (
    some (x1.toInt32.toInt8.toInt32.toInt64, σ)
  ) else (
  if x0 = (1 : Int32) then (
    some (x1.toInt32.toInt16.toInt32.toInt64, σ)
  ) else (
  if x0 = (2 : Int32) then (
    some (x1.toInt32.toInt64, σ)
  ) else (
  if x0 = (3 : Int32) then (
    some (x1, σ)
  ) else (
    if (lg_cmp x1 (0 : Int64)) = 0 then (
      some ((0 : Int64), σ)
    ) else (
      some ((1 : Int64), σ)
    )
  ))))
def f_Tapes_write (x1 : Int32) (x2 : Int32) (x3 : Int64) (σ : ZM) : Option (Int32 × ZM) :=
  zck (zin x1 6) (
  if (zI σ 12 x1.toNatClampNeg) = (-1 : Int32) then (
    some ((-11 : Int32), σ)
  ) else (
    if x2 < 0 then (
      some ((-13 : Int32), σ)
    ) else (
      zck (zin x1 6) (
      if x2 < (zI σ 13 x1.toNatClampNeg) then (
        zck (zin x1 6) (
        zck (zR 0 129 (zel 11 x1.toNatClampNeg) 2 60) (
        zck (zin x1 6) (
        zbd (f_Tapes_asItem (zI σ 12 x1.toNatClampNeg) x3 σ) fun v9 s10 => (
        zck (zin x2 60) (
        some ((1 : Int32), (zsL s10 (zel 11 x1.toNatClampNeg) x2.toNatClampNeg v9)))))))
      ) else (
        some ((-13 : Int32), σ)
      ))
    )
  ))
def f_BB_item (x1 : Int32) (x2 : Int32) (x3 : Int64) (σ : ZM) : Option (Int32 × ZM) :=
  zbd (f_Tapes_isTape x1 σ) fun v1 s2 => (
  if v1 = 0 then (
    some ((-1 : Int32), s2)
  ) else (
    zbd (f_Tapes_write x1 x2 x3 s2) fun v5 s6 => (
    some (v5, s6))
  ))
def f_Tapes_valueAt_24  (σ : ZM) : Option (Int64 × ZM) :=
  some ((-9223372036854775808 : Int64), σ)
def f_Tapes_valueAt (x1 : Int32) (x2 : Int32) (σ : ZM) : Option (Int64 × ZM) :=
  zck (zin x1 6) (
  if (zI σ 12 x1.toNatClampNeg) = (-1 : Int32) then (
    f_Tapes_valueAt_24 σ
  ) else (
    if x2 < 0 then (
      f_Tapes_valueAt_24 σ
    ) else (
      zck (zin x1 6) (
      if x2 < (zI σ 13 x1.toNatClampNeg) then (
        zck (zin x1 6) (
        zck (zR 0 129 (zel 11 x1.toNatClampNeg) 2 60) (
        zck (zin x2 60) (
        some (zL σ (zel 11 x1.toNatClampNeg) x2.toNatClampNeg, σ))))
      ) else (
        f_Tapes_valueAt_24 σ
      ))
    )
  ))
def f_BB_read (x1 : Int32) (x2 : Int32) (σ : ZM) : Option (Int64 × ZM) :=
  zbd (f_Tapes_isTape x1 σ) fun v1 s2 => (
  if v1 = 0 then (
    some ((-9223372036854775808 : Int64), s2)
  ) else (
    zbd (f_Tapes_valueAt x1 x2 s2) fun v5 s6 => (
    some (v5, s6))
  ))
def f_Tapes_move (x1 : Int32) (x2 : Int32) (x3 : Int32) (x4 : Int32) (x5 : Int32) (σ : ZM) : Option (Int32 × ZM) :=
  zck (zin x1 6) (
  if (zI σ 12 x1.toNatClampNeg) = (-1 : Int32) then (
    some ((-11 : Int32), σ)
  ) else (
    zck (zin x3 6) (
    if (zI σ 12 x3.toNatClampNeg) = (-1 : Int32) then (
      some ((-11 : Int32), σ)
    ) else (
      zck (zin x1 6) (
      zck (zin x3 6) (
      if (zI σ 12 x1.toNatClampNeg) = (zI σ 12 x3.toNatClampNeg) then (
        if x5 < 0 then (
          some ((-13 : Int32), σ)
        ) else (
          if x2 < 0 then (
            some ((-13 : Int32), σ)
          ) else (
            if x4 < 0 then (
              some ((-13 : Int32), σ)
            ) else (
              zck (zin x1 6) (
              if ((zI σ 13 x1.toNatClampNeg) - x5) < x2 then (
                some ((-13 : Int32), σ)
              ) else (
                zck (zin x3 6) (
                if x4 ≤ ((zI σ 13 x3.toNatClampNeg) - x5) then (
                  zck (zin x1 6) (
                  zck (zR 0 129 (zel 11 x1.toNatClampNeg) 2 60) (
                  zck (zin x3 6) (
                  zck (zR 0 129 (zel 11 x3.toNatClampNeg) 2 60) (
                  zck (zcpok x2 x4 x5 60 60) (
                  some (x5, (zcpL σ (zel 11 x1.toNatClampNeg) (zel 11 x3.toNatClampNeg) x2.toNatClampNeg x4.toNatClampNeg x5.toNatClampNeg)))))))
                ) else (
                  some ((-13 : Int32), σ)
                ))
              ))
            )
          )
        )
      ) else (
        some ((-12 : Int32), σ)
      )))
    ))
  ))
def f_BB_shift (x1 : Int32) (x2 : Int32) (x3 : Int32) (x4 : Int32) (x5 : Int32) (σ : ZM) : Option (Int32 × ZM) :=
  zbd (f_Tapes_isTape x1 σ) fun v1 s2 => (
  if v1 = 0 then (
    some ((-1 : Int32), s2)
  ) else (
    zbd (f_Tapes_isTape x3 s2) fun v5 s6 => (
    if v5 = 0 then (
      some ((-1 : Int32), s6)
    ) else (
      zbd (f_Tapes_move x1 x2 x3 x4 x5 s6) fun v9 s10 => (
      some (v9, s10))
    ))
  ))
def f_Model_isIn (x0 : Int32) (x1 : Int32) (x2 : Int32) (σ : ZM) : Option (Int32 × ZM) :=
  if x0 < x1 then (
    some ((0 : Int32), σ)
  ) else (
    if x2 < x0 then (
      some ((0 : Int32), σ)
    ) else (
      some ((1 : Int32), σ)
    )
  )
def f_Model_isTaste (x0 : Int32) (σ : ZM) : Option (Int32 × ZM) :=
  zbd (f_Model_isIn x0 (0 : Int32) (3 : Int32) σ) fun v1 s2 => (
  zck (zbl v1) (some (v1, s2)))
def f_Model_isLoaf (x1 : Int32) (σ : ZM) : Option (Int32 × ZM) :=
  zck (zin (5 : Int32) 92) (
  zbd (f_Model_isIn x1 (0 : Int32) ((zI σ 130 (5 : Int32).toNatClampNeg) - (1 : Int32)) σ) fun v2 s3 => (
  zck (zbl v2) (some (v2, s3))))
def f_Model_areLoaves (x1 : Int32) (σ : ZM) : Option (Int32 × ZM) :=
  zck (zin (5 : Int32) 92) (
  zbd (f_Model_isIn x1 (0 : Int32) (((1 : Int32) <<< ((zI σ 130 (5 : Int32).toNatClampNeg) &&& 31)) - (1 : Int32)) σ) fun v2 s3 => (
  zck (zbl v2) (some (v2, s3))))
def f_Model_bits_4 (k4 : Int32 × Int32 × ZM → Option (Int32 × ZM)) (x1 : Int32) (x2 : Int32) (σ : ZM) : Option (Int32 × ZM) :=
  if x2 ≤ 0 then (
    some (x1, σ)
  ) else (
    k4 ((x1 + (x2 &&& (1 : Int32))), (x2 >>> ((1 : Int32) &&& 31)), σ)
  )
def F_Model_bits_4 (N : Nat) : Int32 × Int32 × ZM → Option (Int32 × ZM) := zlp (fun k4 a => f_Model_bits_4 k4 a.1 a.2.1 a.2.2) N
def f_Model_bits (x0 : Int32) (σ : ZM) : Option (Int32 × ZM) :=
  F_Model_bits_4 2000 ((0 : Int32), x0, σ)
def f_Model_lays_2 (k2 : Nat × Nat × Int32 × ZM → Option (Unit × ZM)) (x0 : Nat) (x1 : Nat) (x2 : Int32) (σ : ZM) : Option (Unit × ZM) :=
  if (92 : Int32) ≤ x2 then (
    some ((), σ)
  ) else (
    zck (zin x2 92) (
    zck (zin x2 92) (
    k2 (x0, x1, (x2 + (1 : Int32)), (zsI σ x1 x2.toNatClampNeg (zI σ x0 x2.toNatClampNeg)))))
  )
def F_Model_lays_2 (N : Nat) : Nat × Nat × Int32 × ZM → Option (Unit × ZM) := zlp (fun k2 a => f_Model_lays_2 k2 a.1 a.2.1 a.2.2.1 a.2.2.2) N
def f_Model_lays (x0 : Nat) (x1 : Nat) (σ : ZM) : Option (Unit × ZM) :=
  zck (zR 129 14 x0 0 92) (
  zck (zR 129 14 x1 0 92) (
  F_Model_lays_2 2000 (x0, x1, (0 : Int32), σ)))
def f_Model_begins  (σ : ZM) : Option (Unit × ZM) :=
  zbd (f_Model_lays 130 132 σ) fun v1 s2 => (
  some ((), s2))
def f_Model_ends  (σ : ZM) : Option (Unit × ZM) :=
  zbd (f_Model_lays 132 130 σ) fun v1 s2 => (
  some ((), s2))
def f_Model_get (x1 : Int32) (x2 : Int32) (σ : ZM) : Option (Int32 × ZM) :=
  zck (zin (((8 : Int32) + ((10 : Int32) * x1)) + x2) 92) (
  some (zI σ 130 (((8 : Int32) + ((10 : Int32) * x1)) + x2).toNatClampNeg, σ))
def f_Model_kind (x1 : Int32) (σ : ZM) : Option (Int32 × ZM) :=
  zbd (f_Model_get x1 (0 : Int32) σ) fun v1 s2 => (
  some (v1, s2))
def f_Model_number (x1 : Int32) (σ : ZM) : Option (Int32 × ZM) :=
  zbd (f_Model_get x1 (1 : Int32) σ) fun v1 s2 => (
  some (v1, s2))
def f_Model_feed (x1 : Int32) (σ : ZM) : Option (Int32 × ZM) :=
  zbd (f_Model_isIn x1 (0 : Int32) (127 : Int32) σ) fun v1 s2 => (
  if v1 = 0 then (
    some ((-2 : Int32), s2)
  ) else (
    if (zI s2 129 7) = (100 : Int32) then (
      some ((-4 : Int32), s2)
    ) else (
      zck (zin (zI s2 129 7) 100) (
      some (zI (zsI (zsI s2 133 (zI s2 129 7).toNatClampNeg x1) 129 7 ((zI (zsI s2 133 (zI s2 129 7).toNatClampNeg x1) 129 7) + (1 : Int32))) 129 7, (zsI (zsI s2 133 (zI s2 129 7).toNatClampNeg x1) 129 7 ((zI (zsI s2 133 (zI s2 129 7).toNatClampNeg x1) 129 7) + (1 : Int32)))))
    )
  ))
def f_Model_here  (σ : ZM) : Option (Int32 × ZM) :=
  if (zI σ 129 10) ≤ (zI σ 129 11) then (
    some ((-1 : Int32), σ)
  ) else (
    zck (zin ((zI σ 129 9) + (zI σ 129 11)) 600) (
    some (zI σ 134 ((zI σ 129 9) + (zI σ 129 11)).toNatClampNeg, σ))
  )
def f_Model_takes (x1 : Int32) (σ : ZM) : Option (Int32 × ZM) :=
  if (zI σ 129 14) = 0 then (
    zbd (f_Model_here σ) fun v2 s3 => (
    if v2 = x1 then (
      some ((1 : Int32), (zsI s3 129 11 ((zI s3 129 11) + (1 : Int32))))
    ) else (
      some ((0 : Int32), (zsI s3 129 14 (1 : Int32)))
    ))
  ) else (
    some ((0 : Int32), σ)
  )
def f_Model_isDigit  (σ : ZM) : Option (Int32 × ZM) :=
  zbd (f_Model_here σ) fun v1 s2 => (
  zbd (f_Model_isIn v1 (48 : Int32) (57 : Int32) s2) fun v4 s5 => (
  zck (zbl v4) (some (v4, s5))))
def f_Model_readsNumber  (σ : ZM) : Option (Int32 × ZM) :=
  if (zI σ 129 14) = 0 then (
    zbd (f_Model_isDigit σ) fun v2 s3 => (
    if v2 = 0 then (
      some ((0 : Int32), (zsI s3 129 14 (1 : Int32)))
    ) else (
      zbd (f_Model_here s3) fun v6 s7 => (
      zbd (f_Model_isDigit (zsI s7 129 11 ((zI s7 129 11) + (1 : Int32)))) fun v9 s10 => (
      if v9 = 0 then (
        some (v6 - (48 : Int32), s10)
      ) else (
        zbd (f_Model_here s10) fun v13 s14 => (
        some ((((10 : Int32) * (v6 - (48 : Int32))) + v13) - (48 : Int32), (zsI s14 129 11 ((zI s14 129 11) + (1 : Int32)))))
      )))
    ))
  ) else (
    some ((0 : Int32), σ)
  )
def f_Model_valueOf_126  (σ : ZM) : Option (Int32 × ZM) :=
  if (zI σ 129 15) = 0 then (
    zck (zin (zI σ 129 13) 92) (
    some ((zI σ 130 (zI σ 129 13).toNatClampNeg) / (10 : Int32), σ))
  ) else (
    some ((99 : Int32), σ)
  )
def f_Model_valueOf (x1 : Int32) (σ : ZM) : Option (Int32 × ZM) :=
  if x1 = (104 : Int32) then (
    zck (zin (4 : Int32) 92) (
    some ((zI σ 130 (4 : Int32).toNatClampNeg) - (zI σ 130 (4 : Int32).toNatClampNeg) / (60 : Int32) * (60 : Int32), σ))
  ) else (
  if x1 = (105 : Int32) then (
    f_Model_valueOf_126 σ
  ) else (
  if x1 = (106 : Int32) then (
    f_Model_valueOf_126 σ
  ) else (
  if x1 = (107 : Int32) then (
    zbd (f_Model_kind (zI σ 129 12) σ) fun v6 s7 => (
    some (v6, s7))
  ) else (
  if x1 = (108 : Int32) then (
    some (zI σ 129 12, σ)
  ) else (
  if x1 = (109 : Int32) then (
    f_Model_valueOf_126 σ
  ) else (
  if x1 = (110 : Int32) then (
    f_Model_valueOf_126 σ
  ) else (
  if x1 = (111 : Int32) then (
    f_Model_valueOf_126 σ
  ) else (
  if x1 = (112 : Int32) then (
    f_Model_valueOf_126 σ
  ) else (
  if x1 = (113 : Int32) then (
    f_Model_valueOf_126 σ
  ) else (
  if x1 = (114 : Int32) then (
    f_Model_valueOf_126 σ
  ) else (
  if x1 = (115 : Int32) then (
    f_Model_valueOf_126 σ
  ) else (
  if x1 = (116 : Int32) then (
    if (zI σ 129 15) = 0 then (
      some (zI σ 129 13, σ)
    ) else (
      some ((99 : Int32), σ)
    )
  ) else (
  if x1 = (117 : Int32) then (
    f_Model_valueOf_126 σ
  ) else (
  if x1 = (118 : Int32) then (
    zbd (f_Model_number (zI σ 129 12) σ) fun v21 s22 => (
    some (v21, s22))
  ) else (
    f_Model_valueOf_126 σ
  )))))))))))))))
def f_Model_isLetter (x0 : Int32) (σ : ZM) : Option (Int32 × ZM) :=
  if x0 = (108 : Int32) then (
    some ((1 : Int32), σ)
  ) else (
    if x0 = (107 : Int32) then (
      some ((1 : Int32), σ)
    ) else (
      if x0 = (116 : Int32) then (
        some ((1 : Int32), σ)
      ) else (
        if x0 = (118 : Int32) then (
          some ((1 : Int32), σ)
        ) else (
          if x0 = (104 : Int32) then (
            some ((1 : Int32), σ)
          ) else (
            if x0 = (111 : Int32) then (
              some ((1 : Int32), σ)
            ) else (
              some ((0 : Int32), σ)
            )
          )
        )
      )
    )
  )
def f_Model_readsTest_59 (x1 : Int32) (x2 : Int32) (σ : ZM) : Option (Int32 × ZM) :=
  zbd (f_Model_readsNumber (zsI σ 129 11 ((zI σ 129 11) + (1 : Int32)))) fun v1 s2 => (
  if (zI s2 129 14) = 0 then (
    zck (zin (5 : Int32) 92) (
    if (zI s2 130 (5 : Int32).toNatClampNeg) = 0 then (
      some ((0 : Int32), s2)
    ) else (
      zbd (f_Model_valueOf x1 s2) fun v7 s8 => (
      if x2 = (60 : Int32) then (
        if v1 ≤ v7 then (
          some ((0 : Int32), s8)
        ) else (
          some ((1 : Int32), s8)
        )
      ) else (
        if x2 = (61 : Int32) then (
          if v7 = v1 then (
            some ((1 : Int32), s8)
          ) else (
            some ((0 : Int32), s8)
          )
        ) else (
          if v7 ≤ v1 then (
            some ((0 : Int32), s8)
          ) else (
            some ((1 : Int32), s8)
          )
        )
      ))
    ))
  ) else (
    some ((0 : Int32), s2)
  ))
def f_Model_readsTest  (σ : ZM) : Option (Int32 × ZM) :=
  zbd (f_Model_here σ) fun v1 s2 => (
  zbd (f_Model_isLetter v1 s2) fun v4 s5 => (
  if v4 = 0 then (
    some ((0 : Int32), (zsI s5 129 14 (1 : Int32)))
  ) else (
    zbd (f_Model_here (zsI s5 129 11 ((zI s5 129 11) + (1 : Int32)))) fun v8 s9 => (
    if v8 = (60 : Int32) then (
      f_Model_readsTest_59 v1 v8 s9
    ) else (
      if v8 = (61 : Int32) then (
        f_Model_readsTest_59 v1 v8 s9
      ) else (
        if v8 = (62 : Int32) then (
          f_Model_readsTest_59 v1 v8 s9
        ) else (
          some ((0 : Int32), (zsI s9 129 14 (1 : Int32)))
        )
      )
    ))
  )))
def f_Model_readsT_51 (rec : Int32 × ZM → Option (Int32 × ZM)) (k6 : Int32 × Int32 × ZM → Option (Int32 × ZM)) (x1 : Int32) (y0 : Int32) (σ : ZM) : Option (Int32 × ZM) :=
  k6 (x1, y0, σ)
def f_Model_readsT_50 (rec : Int32 × ZM → Option (Int32 × ZM)) (k6 : Int32 × Int32 × ZM → Option (Int32 × ZM)) (x1 : Int32) (σ : ZM) : Option (Int32 × ZM) :=
  f_Model_readsT_51 rec k6 x1 (0 : Int32) σ
def f_Model_readsT_6 (rec : Int32 × ZM → Option (Int32 × ZM)) (k6 : Int32 × Int32 × ZM → Option (Int32 × ZM)) (x1 : Int32) (x2 : Int32) (σ : ZM) : Option (Int32 × ZM) :=
  if (zI σ 129 14) = 0 then (
    zbd (f_Model_here σ) fun v3 s4 => (
    if v3 = (38 : Int32) then (
      zbd (rec (x1, (zsI s4 129 11 ((zI s4 129 11) + (1 : Int32))))) fun v8 s9 => (
      if x2 = 0 then (
        f_Model_readsT_50 rec k6 x1 s9
      ) else (
        if v8 = 0 then (
          f_Model_readsT_50 rec k6 x1 s9
        ) else (
          f_Model_readsT_51 rec k6 x1 (1 : Int32) s9
        )
      ))
    ) else (
      zck (zbl x2) (some (x2, s4))
    ))
  ) else (
    zck (zbl x2) (some (x2, σ))
  )
def F_Model_readsT_6 (rec : Int32 × ZM → Option (Int32 × ZM)) (N : Nat) : Int32 × Int32 × ZM → Option (Int32 × ZM) := zlp (fun k6 a => f_Model_readsT_6 rec k6 a.1 a.2.1 a.2.2) N
def f_Model_readsT (rec : Int32 × ZM → Option (Int32 × ZM)) (x1 : Int32) (σ : ZM) : Option (Int32 × ZM) :=
  zbd (rec (x1, σ)) fun v1 s2 => (
  F_Model_readsT_6 rec 2000 (x1, v1, s2))
def f_Model_readsE_51 (rec : Int32 × ZM → Option (Int32 × ZM)) (k6 : Int32 × Int32 × ZM → Option (Int32 × ZM)) (x1 : Int32) (y0 : Int32) (σ : ZM) : Option (Int32 × ZM) :=
  k6 (x1, y0, σ)
def f_Model_readsE_46 (rec : Int32 × ZM → Option (Int32 × ZM)) (k6 : Int32 × Int32 × ZM → Option (Int32 × ZM)) (x1 : Int32) (σ : ZM) : Option (Int32 × ZM) :=
  f_Model_readsE_51 rec k6 x1 (1 : Int32) σ
def f_Model_readsE_6 (rec : Int32 × ZM → Option (Int32 × ZM)) (k6 : Int32 × Int32 × ZM → Option (Int32 × ZM)) (x1 : Int32) (x2 : Int32) (σ : ZM) : Option (Int32 × ZM) :=
  if (zI σ 129 14) = 0 then (
    zbd (f_Model_here σ) fun v3 s4 => (
    if v3 = (124 : Int32) then (
      zbd (f_Model_readsT rec x1 (zsI s4 129 11 ((zI s4 129 11) + (1 : Int32)))) fun v8 s9 => (
      if x2 = 0 then (
        if v8 = 0 then (
          f_Model_readsE_51 rec k6 x1 (0 : Int32) s9
        ) else (
          f_Model_readsE_46 rec k6 x1 s9
        )
      ) else (
        f_Model_readsE_46 rec k6 x1 s9
      ))
    ) else (
      zck (zbl x2) (some (x2, s4))
    ))
  ) else (
    zck (zbl x2) (some (x2, σ))
  )
def F_Model_readsE_6 (rec : Int32 × ZM → Option (Int32 × ZM)) (N : Nat) : Int32 × Int32 × ZM → Option (Int32 × ZM) := zlp (fun k6 a => f_Model_readsE_6 rec k6 a.1 a.2.1 a.2.2) N
def f_Model_readsE (rec : Int32 × ZM → Option (Int32 × ZM)) (x1 : Int32) (σ : ZM) : Option (Int32 × ZM) :=
  zbd (f_Model_readsT rec x1 σ) fun v1 s2 => (
  F_Model_readsE_6 rec 2000 (x1, v1, s2))
def f_Model_readsF_31 (rec : Int32 × ZM → Option (Int32 × ZM)) (x1 : Int32) (x2 : Int32) (σ : ZM) : Option (Int32 × ZM) :=
  if x1 = (4 : Int32) then (
    some ((0 : Int32), (zsI σ 129 14 (1 : Int32)))
  ) else (
    if x2 = (33 : Int32) then (
      zbd (rec ((x1 + (1 : Int32)), (zsI σ 129 11 ((zI σ 129 11) + (1 : Int32))))) fun v11 s12 => (
      if v11 = 0 then (
        some ((1 : Int32), s12)
      ) else (
        some ((0 : Int32), s12)
      ))
    ) else (
      zbd (f_Model_readsE rec (x1 + (1 : Int32)) (zsI σ 129 11 ((zI σ 129 11) + (1 : Int32)))) fun v3 s4 => (
      zbd (f_Model_takes (41 : Int32) s4) fun v6 s7 => (
      if v6 = 0 then (
        some ((0 : Int32), s7)
      ) else (
        if v3 = 0 then (
          some ((0 : Int32), s7)
        ) else (
          some ((1 : Int32), s7)
        )
      )))
    )
  )
def f_Model_readsF (rec : Int32 × ZM → Option (Int32 × ZM)) (x1 : Int32) (σ : ZM) : Option (Int32 × ZM) :=
  if (zI σ 129 14) = 0 then (
    zbd (f_Model_here σ) fun v2 s3 => (
    if v2 = (33 : Int32) then (
      f_Model_readsF_31 rec x1 v2 s3
    ) else (
      if v2 = (40 : Int32) then (
        f_Model_readsF_31 rec x1 v2 s3
      ) else (
        zbd (f_Model_readsTest s3) fun v7 s8 => (
        zck (zbl v7) (some (v7, s8)))
      )
    ))
  ) else (
    some ((0 : Int32), σ)
  )
def F_Model_readsF (N : Nat) : Int32 × ZM → Option (Int32 × ZM) := zlp (fun rec a => f_Model_readsF rec a.1 a.2) N
def f_Model_readsWord_2 (k2 : Nat × Int32 × ZM → Option (Unit × ZM)) (x1 : Nat) (x2 : Int32) (σ : ZM) : Option (Unit × ZM) :=
  if (Int32.ofNat (zslen.getD x1 0)) ≤ x2 then (
    some ((), σ)
  ) else (
    zck (zin x2 (zslen.getD x1 0)) (
    zbd (f_Model_takes (zschar x1 x2) σ) fun v3 s4 => (
    if v3 = 0 then (
      some ((), s4)
    ) else (
      k2 (x1, (x2 + (1 : Int32)), s4)
    )))
  )
def F_Model_readsWord_2 (N : Nat) : Nat × Int32 × ZM → Option (Unit × ZM) := zlp (fun k2 a => f_Model_readsWord_2 k2 a.1 a.2.1 a.2.2) N
def f_Model_readsWord (x1 : Nat) (σ : ZM) : Option (Unit × ZM) :=
  zck (decide (x1 < 8)) (
  F_Model_readsWord_2 2000 (x1, (1 : Int32), σ))
def f_Model_readsClause_220 (y0 : Int32) (y1 : Int32) (σ : ZM) : Option (Unit × ZM) :=
  some ((), (zsI σ 129 20 (y1 + y0)))
def f_Model_readsClause_219 (y0 : Int32) (σ : ZM) : Option (Unit × ZM) :=
  f_Model_readsClause_220 (0 : Int32) y0 σ
def f_Model_readsClause_196 (x1 : Int32) (x2 : Int32) (x3 : Int32) (y0 : Int32) (y1 : Int32) (σ : ZM) : Option (Unit × ZM) :=
  if x1 = (102 : Int32) then (
    if x3 = 0 then (
      f_Model_readsClause_219 (zI (zsI σ 129 18 (y1 + y0)) 129 20) (zsI σ 129 18 (y1 + y0))
    ) else (
      f_Model_readsClause_220 x2 (zI (zsI σ 129 18 (y1 + y0)) 129 20) (zsI σ 129 18 (y1 + y0))
    )
  ) else (
    f_Model_readsClause_219 (zI (zsI σ 129 18 (y1 + y0)) 129 20) (zsI σ 129 18 (y1 + y0))
  )
def f_Model_readsClause_195 (x1 : Int32) (x2 : Int32) (x3 : Int32) (y0 : Int32) (σ : ZM) : Option (Unit × ZM) :=
  f_Model_readsClause_196 x1 x2 x3 (0 : Int32) y0 σ
def f_Model_readsClause_172 (x1 : Int32) (x2 : Int32) (x3 : Int32) (y0 : Int32) (y1 : Int32) (σ : ZM) : Option (Unit × ZM) :=
  if x1 = (109 : Int32) then (
    if x3 = 0 then (
      f_Model_readsClause_195 x1 x2 x3 (zI (zsI σ 129 16 (y1 + y0)) 129 18) (zsI σ 129 16 (y1 + y0))
    ) else (
      f_Model_readsClause_196 x1 x2 x3 x2 (zI (zsI σ 129 16 (y1 + y0)) 129 18) (zsI σ 129 16 (y1 + y0))
    )
  ) else (
    f_Model_readsClause_195 x1 x2 x3 (zI (zsI σ 129 16 (y1 + y0)) 129 18) (zsI σ 129 16 (y1 + y0))
  )
def f_Model_readsClause_171 (x1 : Int32) (x2 : Int32) (x3 : Int32) (y0 : Int32) (σ : ZM) : Option (Unit × ZM) :=
  f_Model_readsClause_172 x1 x2 x3 (0 : Int32) y0 σ
def f_Model_readsClause_148 (x1 : Int32) (x2 : Int32) (x3 : Int32) (y0 : Int32) (y1 : Int32) (σ : ZM) : Option (Unit × ZM) :=
  if x1 = (116 : Int32) then (
    if x3 = 0 then (
      f_Model_readsClause_171 x1 x2 x3 (zI (zsI σ 129 17 (y1 + y0)) 129 16) (zsI σ 129 17 (y1 + y0))
    ) else (
      f_Model_readsClause_172 x1 x2 x3 x2 (zI (zsI σ 129 17 (y1 + y0)) 129 16) (zsI σ 129 17 (y1 + y0))
    )
  ) else (
    f_Model_readsClause_171 x1 x2 x3 (zI (zsI σ 129 17 (y1 + y0)) 129 16) (zsI σ 129 17 (y1 + y0))
  )
def f_Model_readsClause_123 (x1 : Int32) (x2 : Int32) (y0 : Int32) (σ : ZM) : Option (Unit × ZM) :=
  zck (zbl y0) (
  zbd (f_Model_readsE (F_Model_readsF 8) (0 : Int32) (zsI σ 129 15 y0)) fun v2 s3 => (
  if x1 = (116 : Int32) then (
    f_Model_readsClause_148 x1 x2 v2 (1 : Int32) (zI s3 129 17) s3
  ) else (
    f_Model_readsClause_148 x1 x2 v2 (0 : Int32) (zI s3 129 17) s3
  )))
def f_Model_readsClause_81 (x1 : Int32) (y0 : Nat) (σ : ZM) : Option (Unit × ZM) :=
  zbd (f_Model_readsWord y0 σ) fun v1 s2 => (
  zbd (f_Model_readsNumber s2) fun v4 s5 => (
  if x1 = (99 : Int32) then (
    some ((), (zsI s5 129 19 v4))
  ) else (
    zbd (f_Model_takes (32 : Int32) s5) fun v8 s9 => (
    if v8 = 0 then (
      some ((), s9)
    ) else (
      if x1 = (102 : Int32) then (
        f_Model_readsClause_123 x1 v4 (1 : Int32) s9
      ) else (
        f_Model_readsClause_123 x1 v4 (0 : Int32) s9
      )
    ))
  )))
def f_Model_readsClause_35 (x1 : Int32) (σ : ZM) : Option (Unit × ZM) :=
  if x1 = (116 : Int32) then (
    f_Model_readsClause_81 x1 4 (zsI σ 129 11 ((zI σ 129 11) + (1 : Int32)))
  ) else (
    if x1 = (109 : Int32) then (
      f_Model_readsClause_81 x1 5 (zsI σ 129 11 ((zI σ 129 11) + (1 : Int32)))
    ) else (
      if x1 = (99 : Int32) then (
        f_Model_readsClause_81 x1 6 (zsI σ 129 11 ((zI σ 129 11) + (1 : Int32)))
      ) else (
        f_Model_readsClause_81 x1 7 (zsI σ 129 11 ((zI σ 129 11) + (1 : Int32)))
      )
    )
  )
def f_Model_readsClause  (σ : ZM) : Option (Unit × ZM) :=
  zbd (f_Model_here σ) fun v1 s2 => (
  if v1 = (116 : Int32) then (
    f_Model_readsClause_35 v1 s2
  ) else (
    if v1 = (109 : Int32) then (
      f_Model_readsClause_35 v1 s2
    ) else (
      if v1 = (99 : Int32) then (
        f_Model_readsClause_35 v1 s2
      ) else (
        if v1 = (102 : Int32) then (
          f_Model_readsClause_35 v1 s2
        ) else (
          some ((), (zsI s2 129 14 (1 : Int32)))
        )
      )
    )
  ))
def f_Model_reads_119  (σ : ZM) : Option (Unit × ZM) :=
  some ((), (zsI σ 129 14 (1 : Int32)))
def f_Model_reads_80 (k80 : Int32 × ZM → Option (Unit × ZM)) (x4 : Int32) (σ : ZM) : Option (Unit × ZM) :=
  zbd (f_Model_readsClause σ) fun v1 s2 => (
  if (zI s2 129 14) = 0 then (
    if (zI s2 129 11) = (zI s2 129 10) then (
      some ((), s2)
    ) else (
      if x4 = (10 : Int32) then (
        f_Model_reads_119 s2
      ) else (
        zbd (f_Model_here s2) fun v7 s8 => (
        if v7 = (59 : Int32) then (
          k80 ((x4 + (1 : Int32)), (zsI s8 129 11 ((zI s8 129 11) + (1 : Int32))))
        ) else (
          f_Model_reads_119 s8
        ))
      )
    )
  ) else (
    some ((), s2)
  ))
def F_Model_reads_80 (N : Nat) : Int32 × ZM → Option (Unit × ZM) := zlp (fun k80 a => f_Model_reads_80 k80 a.1 a.2) N
def f_Model_reads_23 (x1 : Int32) (x2 : Int32) (x3 : Int32) (y0 : Int32) (σ : ZM) : Option (Unit × ZM) :=
  if 0 ≤ x1 then (
    F_Model_reads_80 2000 ((1 : Int32), (zsI (zsI (zsI (zsI (zsI (zsI (zsI (zsI (zsI (zsI σ 129 10 y0) 129 11 (0 : Int32)) 129 12 x2) 129 13 x3) 129 14 (0 : Int32)) 129 16 (0 : Int32)) 129 17 (0 : Int32)) 129 18 (0 : Int32)) 129 19 (50 : Int32)) 129 20 (1 : Int32)))
  ) else (
    some ((), (zsI (zsI (zsI (zsI (zsI (zsI (zsI (zsI (zsI (zsI σ 129 10 y0) 129 11 (0 : Int32)) 129 12 x2) 129 13 x3) 129 14 (0 : Int32)) 129 16 (0 : Int32)) 129 17 (0 : Int32)) 129 18 (0 : Int32)) 129 19 (50 : Int32)) 129 20 (1 : Int32)))
  )
def f_Model_reads (x1 : Int32) (x2 : Int32) (x3 : Int32) (σ : ZM) : Option (Unit × ZM) :=
  if 0 ≤ x1 then (
    zck (zin x1 6) (
    f_Model_reads_23 x1 x2 x3 (zI (zsI σ 129 9 ((100 : Int32) * x1)) 135 x1.toNatClampNeg) (zsI σ 129 9 ((100 : Int32) * x1)))
  ) else (
    f_Model_reads_23 x1 x2 x3 (0 : Int32) (zsI σ 129 9 ((100 : Int32) * x1))
  )
def f_Model_readsNow (x1 : Int32) (x2 : Int32) (σ : ZM) : Option (Unit × ZM) :=
  zck (zin (6 : Int32) 92) (
  zbd (f_Model_reads ((zI σ 130 (6 : Int32).toNatClampNeg) - (1 : Int32)) x1 x2 σ) fun v2 s3 => (
  some ((), s3)))
def f_Model_kiln_14 (k14 : Int32 × ZM → Option (Int32 × ZM)) (x1 : Int32) (σ : ZM) : Option (Int32 × ZM) :=
  if (zI σ 129 7) ≤ x1 then (
    zck (zin (zI σ 129 8) 6) (
    zbd (f_Model_reads (zI (zsI (zsI σ 135 (zI σ 129 8).toNatClampNeg (zI σ 129 7)) 129 7 (0 : Int32)) 129 8) (0 : Int32) (0 : Int32) (zsI (zsI σ 135 (zI σ 129 8).toNatClampNeg (zI σ 129 7)) 129 7 (0 : Int32))) fun v3 s4 => (
    if (zI s4 129 14) = 0 then (
      zck (zin (6 : Int32) 92) (
      some ((zI (zsI (zsI s4 129 8 ((zI s4 129 8) + (1 : Int32))) 130 (6 : Int32).toNatClampNeg (zI (zsI s4 129 8 ((zI s4 129 8) + (1 : Int32))) 129 8)) 129 8) - (1 : Int32), (zsI (zsI s4 129 8 ((zI s4 129 8) + (1 : Int32))) 130 (6 : Int32).toNatClampNeg (zI (zsI s4 129 8 ((zI s4 129 8) + (1 : Int32))) 129 8))))
    ) else (
      some ((-10 : Int32) - (zI s4 129 11), s4)
    )))
  ) else (
    zck (zin x1 100) (
    zck (zin (((100 : Int32) * (zI σ 129 8)) + x1) 600) (
    k14 ((x1 + (1 : Int32)), (zsI σ 134 (((100 : Int32) * (zI σ 129 8)) + x1).toNatClampNeg (zI σ 133 x1.toNatClampNeg)))))
  )
def F_Model_kiln_14 (N : Nat) : Int32 × ZM → Option (Int32 × ZM) := zlp (fun k14 a => f_Model_kiln_14 k14 a.1 a.2) N
def f_Model_kiln  (σ : ZM) : Option (Int32 × ZM) :=
  if (zI σ 129 8) = (6 : Int32) then (
    some ((-4 : Int32), σ)
  ) else (
    F_Model_kiln_14 2000 ((0 : Int32), σ)
  )
def f_Model_partOf (x1 : Int32) (x2 : Int32) (σ : ZM) : Option (Int32 × ZM) :=
  zbd (f_Model_readsNow x1 x2 σ) fun v1 s2 => (
  if (zI s2 129 17) = 0 then (
    some ((50 : Int32), s2)
  ) else (
    some (zI s2 129 16, s2)
  ))
def f_Model_takesBy_137 (x4 : Int32) (x7 : Int32) (σ : ZM) : Option (Int32 × ZM) :=
  if x7 ≤ x4 then (
    if 0 ≤ x7 then (
      some (x7, σ)
    ) else (
      some ((0 : Int32), σ)
    )
  ) else (
    some (x4, σ)
  )
def f_Model_takesBy_75 (x4 : Int32) (x5 : Int32) (σ : ZM) : Option (Int32 × ZM) :=
  f_Model_takesBy_137 x4 ((2 : Int32) * x5) σ
def f_Model_takesBy_98 (x4 : Int32) (y0 : Int32) (σ : ZM) : Option (Int32 × ZM) :=
  f_Model_takesBy_137 x4 y0 σ
def f_Model_takesBy_117 (x4 : Int32) (y0 : Int32) (σ : ZM) : Option (Int32 × ZM) :=
  f_Model_takesBy_137 x4 (y0 / (2 : Int32)) σ
def f_Model_takesBy (x1 : Int32) (x2 : Int32) (x3 : Int32) (x4 : Int32) (σ : ZM) : Option (Int32 × ZM) :=
  zbd (f_Model_get x1 ((6 : Int32) + x2) σ) fun v1 s2 => (
  zbd (f_Model_kind x1 s2) fun v4 s5 => (
  if v4 = (1 : Int32) then (
    f_Model_takesBy_137 x4 x4 s5
  ) else (
  if v4 = (2 : Int32) then (
    f_Model_takesBy_75 x4 ((x3 * x4) / (100 : Int32)) s5
  ) else (
  if v4 = (3 : Int32) then (
    if v1 ≤ ((x3 * x4) / (100 : Int32)) then (
      f_Model_takesBy_98 x4 v1 s5
    ) else (
      f_Model_takesBy_98 x4 ((x3 * x4) / (100 : Int32)) s5
    )
  ) else (
  if v4 = (4 : Int32) then (
    zbd (f_Model_number x1 s5) fun v12 s13 => (
    f_Model_takesBy_137 x4 (x4 - v12) s13)
  ) else (
  if v4 = (5 : Int32) then (
    f_Model_takesBy_75 x4 ((x3 * x4) / (100 : Int32)) s5
  ) else (
  if v4 = (6 : Int32) then (
    if v1 ≤ ((x3 * x4) / (100 : Int32)) then (
      f_Model_takesBy_117 x4 v1 s5
    ) else (
      f_Model_takesBy_117 x4 ((x3 * x4) / (100 : Int32)) s5
    )
  ) else (
    f_Model_takesBy_137 x4 ((x3 * x4) / (100 : Int32)) s5
  ))))))))
def f_Model_takesOf (x1 : Int32) (x2 : Int32) (σ : ZM) : Option (Int32 × ZM) :=
  zbd (f_Model_partOf x1 x2 σ) fun v1 s2 => (
  zck (zin x2 92) (
  zbd (f_Model_takesBy x1 x2 v1 (zI s2 130 x2.toNatClampNeg) s2) fun v5 s6 => (
  some (v5, s6))))
def f_Model_leavesOf (x1 : Int32) (x2 : Int32) (σ : ZM) : Option (Int32 × ZM) :=
  zbd (f_Model_kind x1 σ) fun v1 s2 => (
  if v1 = (1 : Int32) then (
    some ((0 : Int32), s2)
  ) else (
    if v1 = (4 : Int32) then (
      some ((0 : Int32), s2)
    ) else (
      zbd (f_Model_readsNow x1 x2 s2) fun v6 s7 => (
      zbd (f_Model_get x1 ((2 : Int32) + x2) s7) fun v9 s10 => (
      if v1 = (6 : Int32) then (
        some ((v9 + (zI s10 129 18)) / (2 : Int32), s10)
      ) else (
        if v1 = (5 : Int32) then (
          if x2 = 0 then (
            zbd (f_Model_number x1 s10) fun v15 s16 => (
            some ((v9 + (zI s10 129 18)) + v15, s16))
          ) else (
            some (v9 + (zI s10 129 18), s10)
          )
        ) else (
          some (v9 + (zI s10 129 18), s10)
        )
      )))
    )
  ))
def f_Model_allTakes_4 (k4 : Int32 × Int32 × Int32 × ZM → Option (Int32 × ZM)) (x1 : Int32) (x2 : Int32) (x3 : Int32) (σ : ZM) : Option (Int32 × ZM) :=
  if (4 : Int32) ≤ x3 then (
    some (x2, σ)
  ) else (
    zbd (f_Model_takesOf x1 x3 σ) fun v2 s3 => (
    k4 (x1, (x2 + v2), (x3 + (1 : Int32)), s3))
  )
def F_Model_allTakes_4 (N : Nat) : Int32 × Int32 × Int32 × ZM → Option (Int32 × ZM) := zlp (fun k4 a => f_Model_allTakes_4 k4 a.1 a.2.1 a.2.2.1 a.2.2.2) N
def f_Model_allTakes (x1 : Int32) (σ : ZM) : Option (Int32 × ZM) :=
  F_Model_allTakes_4 2000 (x1, (0 : Int32), (0 : Int32), σ)
def f_Model_isSpoiled_2 (k2 : Int32 × Int32 × ZM → Option (Int32 × ZM)) (x1 : Int32) (x2 : Int32) (σ : ZM) : Option (Int32 × ZM) :=
  if (4 : Int32) ≤ x2 then (
    some ((0 : Int32), σ)
  ) else (
    zbd (f_Model_takesOf x1 x2 σ) fun v2 s3 => (
    zbd (f_Model_get x1 ((6 : Int32) + x2) s3) fun v5 s6 => (
    if v2 ≤ v5 then (
      k2 (x1, (x2 + (1 : Int32)), s6)
    ) else (
      some ((1 : Int32), s6)
    )))
  )
def F_Model_isSpoiled_2 (N : Nat) : Int32 × Int32 × ZM → Option (Int32 × ZM) := zlp (fun k2 a => f_Model_isSpoiled_2 k2 a.1 a.2.1 a.2.2) N
def f_Model_isSpoiled (x1 : Int32) (σ : ZM) : Option (Int32 × ZM) :=
  F_Model_isSpoiled_2 2000 (x1, (0 : Int32), σ)
def f_Model_feeOf (x1 : Int32) (σ : ZM) : Option (Int32 × ZM) :=
  zbd (f_Model_readsNow x1 (0 : Int32) σ) fun v1 s2 => (
  some (zI s2 129 20, s2))
def f_Model_ages_24 (y0 : Int32) (y1 : Int32) (y2 : Int32) (σ : ZM) : Option (Unit × ZM) :=
  zck (zin y2 92) (
  some ((), (zsI σ 130 y2.toNatClampNeg (y1 + y0))))
def f_Model_ages  (σ : ZM) : Option (Unit × ZM) :=
  zck (zin (4 : Int32) 92) (
  zck (zin (4 : Int32) 92) (
  if (9999 : Int32) ≤ (zI σ 130 (4 : Int32).toNatClampNeg) then (
    f_Model_ages_24 (0 : Int32) (zI σ 130 (4 : Int32).toNatClampNeg) (4 : Int32) σ
  ) else (
    f_Model_ages_24 (1 : Int32) (zI σ 130 (4 : Int32).toNatClampNeg) (4 : Int32) σ
  )))
def f_Model_bakes_56 (k8 : Int32 × Int32 × Int32 × ZM → Option (Int32 × ZM)) (x1 : Int32) (x2 : Int32) (x3 : Int32) (y0 : Int32) (y1 : Int32) (σ : ZM) : Option (Int32 × ZM) :=
  zck (zin y1 4) (
  k8 (x1, x2, (x3 + (1 : Int32)), (zsI σ 136 y1.toNatClampNeg y0)))
def f_Model_bakes_65 (k65 : Int32 × Int32 × ZM → Option (Int32 × ZM)) (x2 : Int32) (x3 : Int32) (σ : ZM) : Option (Int32 × ZM) :=
  if (4 : Int32) ≤ x3 then (
    zbd (f_Model_ages σ) fun v2 s3 => (
    zck (zbl x2) (some (x2, s3)))
  ) else (
    zck (zin x3 4) (
    zck (zin x3 92) (
    k65 (x2, (x3 + (1 : Int32)), (zsI σ 130 x3.toNatClampNeg (zI σ 136 x3.toNatClampNeg)))))
  )
def F_Model_bakes_65 (N : Nat) : Int32 × Int32 × ZM → Option (Int32 × ZM) := zlp (fun k65 a => f_Model_bakes_65 k65 a.1 a.2.1 a.2.2) N
def f_Model_bakes_8 (k8 : Int32 × Int32 × Int32 × ZM → Option (Int32 × ZM)) (x1 : Int32) (x2 : Int32) (x3 : Int32) (σ : ZM) : Option (Int32 × ZM) :=
  if (4 : Int32) ≤ x3 then (
    F_Model_bakes_65 2000 (x2, (0 : Int32), σ)
  ) else (
    zck (zin x3 92) (
    zbd (f_Model_takesOf x1 x3 σ) fun v3 s4 => (
    zbd (f_Model_leavesOf x1 x3 s4) fun v6 s7 => (
    if (((zI σ 130 x3.toNatClampNeg) - v3) + v6) ≤ (9999 : Int32) then (
      f_Model_bakes_56 k8 x1 x2 x3 (((zI σ 130 x3.toNatClampNeg) - v3) + v6) x3 s7
    ) else (
      f_Model_bakes_56 k8 x1 x2 x3 (9999 : Int32) x3 s7
    ))))
  )
def F_Model_bakes_8 (N : Nat) : Int32 × Int32 × Int32 × ZM → Option (Int32 × ZM) := zlp (fun k8 a => f_Model_bakes_8 k8 a.1 a.2.1 a.2.2.1 a.2.2.2) N
def f_Model_bakes (x1 : Int32) (σ : ZM) : Option (Int32 × ZM) :=
  zbd (f_Model_isSpoiled x1 σ) fun v1 s2 => (
  F_Model_bakes_8 2000 (x1, v1, (0 : Int32), s2))
def f_Model_cools_49 (k13 : Int32 × Int32 × ZM → Option (Unit × ZM)) (x1 : Int32) (x2 : Int32) (y0 : Int32) (y1 : Int32) (σ : ZM) : Option (Unit × ZM) :=
  zck (zin y1 92) (
  k13 (x1, (x2 + (1 : Int32)), (zsI σ 130 y1.toNatClampNeg y0)))
def f_Model_cools_13 (k13 : Int32 × Int32 × ZM → Option (Unit × ZM)) (x1 : Int32) (x2 : Int32) (σ : ZM) : Option (Unit × ZM) :=
  if (4 : Int32) ≤ x2 then (
    zbd (f_Model_ages σ) fun v2 s3 => (
    some ((), s3))
  ) else (
    zck (zin x2 92) (
    if ((x1 * (zI σ 130 x2.toNatClampNeg)) / (100 : Int32)) ≤ (9999 : Int32) then (
      f_Model_cools_49 k13 x1 x2 ((x1 * (zI σ 130 x2.toNatClampNeg)) / (100 : Int32)) x2 σ
    ) else (
      f_Model_cools_49 k13 x1 x2 (9999 : Int32) x2 σ
    ))
  )
def F_Model_cools_13 (N : Nat) : Int32 × Int32 × ZM → Option (Unit × ZM) := zlp (fun k13 a => f_Model_cools_13 k13 a.1 a.2.1 a.2.2) N
def f_Model_cools  (σ : ZM) : Option (Unit × ZM) :=
  zbd (f_Model_readsNow (0 : Int32) (0 : Int32) σ) fun v1 s2 => (
  F_Model_cools_13 2000 ((zI s2 129 19), (0 : Int32), s2))
def f_Model_loaf_77 (k77 : Int32 × Int32 × ZM → Option (Int32 × ZM)) (x3 : Int32) (x4 : Int32) (σ : ZM) : Option (Int32 × ZM) :=
  if (4 : Int32) ≤ x4 then (
    zck (zin (5 : Int32) 92) (
    zck (zin (5 : Int32) 92) (
    some (x3, (zsI σ 130 (5 : Int32).toNatClampNeg ((zI σ 130 (5 : Int32).toNatClampNeg) + (1 : Int32))))))
  ) else (
    zck (zin ((((8 : Int32) + ((10 : Int32) * x3)) + (2 : Int32)) + x4) 92) (
    zck (zin ((((8 : Int32) + ((10 : Int32) * x3)) + (6 : Int32)) + x4) 92) (
    k77 (x3, (x4 + (1 : Int32)), (zsI (zsI σ 130 ((((8 : Int32) + ((10 : Int32) * x3)) + (2 : Int32)) + x4).toNatClampNeg (0 : Int32)) 130 ((((8 : Int32) + ((10 : Int32) * x3)) + (6 : Int32)) + x4).toNatClampNeg (9 : Int32)))))
  )
def F_Model_loaf_77 (N : Nat) : Int32 × Int32 × ZM → Option (Int32 × ZM) := zlp (fun k77 a => f_Model_loaf_77 k77 a.1 a.2.1 a.2.2) N
def f_Model_loaf (x1 : Int32) (x2 : Int32) (σ : ZM) : Option (Int32 × ZM) :=
  zbd (f_Model_isIn x1 (0 : Int32) (6 : Int32) σ) fun v1 s2 => (
  if v1 = 0 then (
    some ((-1 : Int32), s2)
  ) else (
    zbd (f_Model_isIn x2 (0 : Int32) (9 : Int32) s2) fun v5 s6 => (
    if v5 = 0 then (
      some ((-2 : Int32), s6)
    ) else (
      zck (zin (5 : Int32) 92) (
      if (zI s6 130 (5 : Int32).toNatClampNeg) = (6 : Int32) then (
        some ((-4 : Int32), s6)
      ) else (
        zck (zin (5 : Int32) 92) (
        zck (zin ((8 : Int32) + ((10 : Int32) * (zI s6 130 (5 : Int32).toNatClampNeg))) 92) (
        zck (zin (((8 : Int32) + ((10 : Int32) * (zI s6 130 (5 : Int32).toNatClampNeg))) + (1 : Int32)) 92) (
        F_Model_loaf_77 2000 ((zI s6 130 (5 : Int32).toNatClampNeg), (0 : Int32), (zsI (zsI s6 130 ((8 : Int32) + ((10 : Int32) * (zI s6 130 (5 : Int32).toNatClampNeg))).toNatClampNeg x1) 130 (((8 : Int32) + ((10 : Int32) * (zI s6 130 (5 : Int32).toNatClampNeg))) + (1 : Int32)).toNatClampNeg x2)))))
      ))
    ))
  ))
def f_Model_set_57 (x2 : Int32) (x4 : Int32) (y0 : Int32) (y1 : Int32) (σ : ZM) : Option (Int32 × ZM) :=
  zck (zin ((y1 + y0) + x2) 92) (
  zck (zin ((y1 + y0) + x2) 92) (
  some (zI σ 130 ((y1 + y0) + x2).toNatClampNeg, (zsI σ 130 ((y1 + y0) + x2).toNatClampNeg x4))))
def f_Model_set (x1 : Int32) (x2 : Int32) (x3 : Int32) (x4 : Int32) (σ : ZM) : Option (Int32 × ZM) :=
  zbd (f_Model_isLoaf x1 σ) fun v1 s2 => (
  if v1 = 0 then (
    some ((-1 : Int32), s2)
  ) else (
    zbd (f_Model_isTaste x2 s2) fun v5 s6 => (
    if v5 = 0 then (
      some ((-1 : Int32), s6)
    ) else (
      zbd (f_Model_isIn x3 (0 : Int32) (1 : Int32) s6) fun v9 s10 => (
      if v9 = 0 then (
        some ((-1 : Int32), s10)
      ) else (
        zbd (f_Model_isIn x4 (0 : Int32) (99 : Int32) s10) fun v13 s14 => (
        if v13 = 0 then (
          some ((-2 : Int32), s14)
        ) else (
          if x3 = 0 then (
            f_Model_set_57 x2 x4 (2 : Int32) ((8 : Int32) + ((10 : Int32) * x1)) s14
          ) else (
            f_Model_set_57 x2 x4 (6 : Int32) ((8 : Int32) + ((10 : Int32) * x1)) s14
          )
        ))
      ))
    ))
  ))
def f_Model_of (x1 : Int32) (x2 : Int32) (σ : ZM) : Option (Int32 × ZM) :=
  zbd (f_Model_isLoaf x1 σ) fun v1 s2 => (
  if v1 = 0 then (
    some ((-1 : Int32), s2)
  ) else (
    if x2 = (0 : Int32) then (
      zbd (f_Model_kind x1 s2) fun v6 s7 => (
      some (v6, s7))
    ) else (
    if x2 = (1 : Int32) then (
      zbd (f_Model_number x1 s2) fun v10 s11 => (
      some (v10, s11))
    ) else (
    if x2 = (2 : Int32) then (
      zbd (f_Model_feeOf x1 s2) fun v14 s15 => (
      some (v14, s15))
    ) else (
    if x2 = (3 : Int32) then (
      zbd (f_Model_isSpoiled x1 s2) fun v18 s19 => (
      if v18 = 0 then (
        some ((0 : Int32), s19)
      ) else (
        some ((1 : Int32), s19)
      ))
    ) else (
      if x2 < (10 : Int32) then (
        some ((-1 : Int32), s2)
      ) else (
        if (43 : Int32) < x2 then (
          some ((-1 : Int32), s2)
        ) else (
          zbd (f_Model_isTaste (x2 - x2 / (10 : Int32) * (10 : Int32)) s2) fun v24 s25 => (
          if v24 = 0 then (
            some ((-1 : Int32), s25)
          ) else (
            if (20 : Int32) ≤ x2 then (
              if (30 : Int32) ≤ x2 then (
                if (40 : Int32) ≤ x2 then (
                  zbd (f_Model_leavesOf x1 (x2 - x2 / (10 : Int32) * (10 : Int32)) s25) fun v31 s32 => (
                  some (v31, s32))
                ) else (
                  zbd (f_Model_takesOf x1 (x2 - x2 / (10 : Int32) * (10 : Int32)) s25) fun v34 s35 => (
                  some (v34, s35))
                )
              ) else (
                zbd (f_Model_get x1 ((6 : Int32) + (x2 - x2 / (10 : Int32) * (10 : Int32))) s25) fun v37 s38 => (
                some (v37, s38))
              )
            ) else (
              zbd (f_Model_get x1 ((2 : Int32) + (x2 - x2 / (10 : Int32) * (10 : Int32))) s25) fun v40 s41 => (
              some (v40, s41))
            )
          ))
        )
      )
    ))))
  ))
def f_Model_oven (x1 : Int32) (x2 : Int32) (σ : ZM) : Option (Int32 × ZM) :=
  zbd (f_Model_isTaste x1 σ) fun v1 s2 => (
  if v1 = 0 then (
    some ((-1 : Int32), s2)
  ) else (
    zbd (f_Model_isIn x2 (0 : Int32) (9999 : Int32) s2) fun v5 s6 => (
    if v5 = 0 then (
      some ((-2 : Int32), s6)
    ) else (
      zck (zin x1 92) (
      zck (zin x1 92) (
      some (zI s6 130 x1.toNatClampNeg, (zsI s6 130 x1.toNatClampNeg x2))))
    ))
  ))
def f_Model_told (x1 : Int32) (σ : ZM) : Option (Int32 × ZM) :=
  zbd (f_Model_isIn x1 (0 : Int32) (5 : Int32) σ) fun v1 s2 => (
  if v1 = 0 then (
    some ((-1 : Int32), s2)
  ) else (
    zbd (f_Model_readsNow (0 : Int32) (0 : Int32) s2) fun v5 s6 => (
    if x1 = (5 : Int32) then (
      some (zI s6 129 19, s6)
    ) else (
      zck (zin x1 92) (
      some (zI s6 130 x1.toNatClampNeg, s6))
    ))
  ))
def f_Model_bake (x1 : Int32) (σ : ZM) : Option (Int32 × ZM) :=
  zbd (f_Model_isLoaf x1 σ) fun v1 s2 => (
  if v1 = 0 then (
    some ((-1 : Int32), s2)
  ) else (
    zbd (f_Model_bakes x1 s2) fun v5 s6 => (
    if v5 = 0 then (
      some ((0 : Int32), s6)
    ) else (
      some ((1 : Int32), s6)
    ))
  ))
def f_Model_cold  (σ : ZM) : Option (Int32 × ZM) :=
  zbd (f_Model_cools σ) fun v1 s2 => (
  zck (zin (4 : Int32) 92) (
  some (zI s2 130 (4 : Int32).toNatClampNeg, s2)))
def f_Model_would_90 (y0 : Int32) (σ : ZM) : Option (Int32 × ZM) :=
  zbd (f_Model_ends σ) fun v1 s2 => (
  some (y0, s2))
def f_Model_would_61 (x1 : Int32) (x3 : Int32) (y0 : Int32) (σ : ZM) : Option (Int32 × ZM) :=
  if (4 : Int32) ≤ x3 then (
    zbd (f_Model_isSpoiled x1 σ) fun v2 s3 => (
    if v2 = 0 then (
      f_Model_would_90 (0 : Int32) s3
    ) else (
      f_Model_would_90 (1 : Int32) s3
    ))
  ) else (
    zbd (f_Model_takesOf x1 x3 σ) fun v6 s7 => (
    f_Model_would_90 v6 s7)
  )
def f_Model_would_60 (x1 : Int32) (x3 : Int32) (σ : ZM) : Option (Int32 × ZM) :=
  f_Model_would_61 x1 x3 (0 : Int32) σ
def f_Model_would_21 (x1 : Int32) (x2 : Int32) (x3 : Int32) (σ : ZM) : Option (Int32 × ZM) :=
  zbd (f_Model_isIn x3 (0 : Int32) (4 : Int32) σ) fun v1 s2 => (
  if v1 = 0 then (
    some ((-1 : Int32), s2)
  ) else (
    if x1 = x2 then (
      some ((-2 : Int32), s2)
    ) else (
      zbd (f_Model_begins s2) fun v6 s7 => (
      if x2 < 0 then (
        f_Model_would_60 x1 x3 s7
      ) else (
        zbd (f_Model_bakes x2 s7) fun v10 s11 => (
        if v10 = 0 then (
          f_Model_would_60 x1 x3 s11
        ) else (
          f_Model_would_61 x1 x3 (1 : Int32) s11
        ))
      ))
    )
  ))
def f_Model_would (x1 : Int32) (x2 : Int32) (x3 : Int32) (σ : ZM) : Option (Int32 × ZM) :=
  zbd (f_Model_isLoaf x1 σ) fun v1 s2 => (
  if v1 = 0 then (
    some ((-1 : Int32), s2)
  ) else (
    if x2 = (-1 : Int32) then (
      f_Model_would_21 x1 x2 x3 s2
    ) else (
      zbd (f_Model_isLoaf x2 s2) fun v6 s7 => (
      if v6 = 0 then (
        some ((-1 : Int32), s7)
      ) else (
        f_Model_would_21 x1 x2 x3 s7
      ))
    )
  ))
def f_Model_spoiledBy_32 (k8 : Int32 × Int32 × Int32 × ZM → Option (Int32 × ZM)) (x1 : Int32) (x3 : Int32) (y0 : Int32) (y1 : Int32) (σ : ZM) : Option (Int32 × ZM) :=
  k8 (x1, (y1 + y0), (x3 + (1 : Int32)), σ)
def f_Model_spoiledBy_8 (k8 : Int32 × Int32 × Int32 × ZM → Option (Int32 × ZM)) (x1 : Int32) (x2 : Int32) (x3 : Int32) (σ : ZM) : Option (Int32 × ZM) :=
  if x1 ≤ x3 then (
    zbd (f_Model_ends σ) fun v2 s3 => (
    some (x2, s3))
  ) else (
    zck (zin x3 6) (
    zbd (f_Model_bakes (zI σ 137 x3.toNatClampNeg) σ) fun v6 s7 => (
    if v6 = 0 then (
      f_Model_spoiledBy_32 k8 x1 x3 (0 : Int32) x2 s7
    ) else (
      f_Model_spoiledBy_32 k8 x1 x3 (1 : Int32) x2 s7
    )))
  )
def F_Model_spoiledBy_8 (N : Nat) : Int32 × Int32 × Int32 × ZM → Option (Int32 × ZM) := zlp (fun k8 a => f_Model_spoiledBy_8 k8 a.1 a.2.1 a.2.2.1 a.2.2.2) N
def f_Model_spoiledBy (x1 : Int32) (σ : ZM) : Option (Int32 × ZM) :=
  zbd (f_Model_begins σ) fun v1 s2 => (
  F_Model_spoiledBy_8 2000 (x1, (0 : Int32), (0 : Int32), s2))
def f_Model_orders_38 (rec : Int32 × Int32 × Int32 × ZM → Option (Unit × ZM)) (k38 : Int32 × Int32 × ZM → Option (Unit × ZM)) (x2 : Int32) (x5 : Int32) (σ : ZM) : Option (Unit × ZM) :=
  if x2 ≤ x5 then (
    some ((), σ)
  ) else (
    zck (zin x5 6) (
    zck (zin x5 6) (
    k38 (x2, (x5 + (1 : Int32)), (zsI σ 138 x5.toNatClampNeg (zI σ 137 x5.toNatClampNeg)))))
  )
def F_Model_orders_38 (rec : Int32 × Int32 × Int32 × ZM → Option (Unit × ZM)) (N : Nat) : Int32 × Int32 × ZM → Option (Unit × ZM) := zlp (fun k38 a => f_Model_orders_38 rec k38 a.1 a.2.1 a.2.2) N
def f_Model_orders_29 (rec : Int32 × Int32 × Int32 × ZM → Option (Unit × ZM)) (x2 : Int32) (x4 : Int32) (σ : ZM) : Option (Unit × ZM) :=
  F_Model_orders_38 rec 2000 (x2, (0 : Int32), (zsI σ 129 24 x4))
def f_Model_orders_115 (rec : Int32 × Int32 × Int32 × ZM → Option (Unit × ZM)) (k68 : Int32 × Int32 × Int32 × Int32 × ZM → Option (Unit × ZM)) (x1 : Int32) (x2 : Int32) (x3 : Int32) (x4 : Int32) (σ : ZM) : Option (Unit × ZM) :=
  k68 (x1, x2, x3, (x4 + (1 : Int32)), σ)
def f_Model_orders_68 (rec : Int32 × Int32 × Int32 × ZM → Option (Unit × ZM)) (k68 : Int32 × Int32 × Int32 × Int32 × ZM → Option (Unit × ZM)) (x1 : Int32) (x2 : Int32) (x3 : Int32) (x4 : Int32) (σ : ZM) : Option (Unit × ZM) :=
  zck (zin (5 : Int32) 92) (
  if (zI σ 130 (5 : Int32).toNatClampNeg) ≤ x4 then (
    some ((), σ)
  ) else (
    if ((x1 >>> (x4 &&& 31)) &&& (1 : Int32)) = 0 then (
      f_Model_orders_115 rec k68 x1 x2 x3 x4 σ
    ) else (
      zck (zin x2 6) (
      zbd (rec ((x1 &&& (((1 : Int32) <<< (x4 &&& 31)) ^^^ (-1 : Int32))), (x2 + (1 : Int32)), x3, (zsI σ 137 x2.toNatClampNeg x4))) fun v5 s6 => (
      f_Model_orders_115 rec k68 x1 x2 x3 x4 s6))
    )
  ))
def F_Model_orders_68 (rec : Int32 × Int32 × Int32 × ZM → Option (Unit × ZM)) (N : Nat) : Int32 × Int32 × Int32 × Int32 × ZM → Option (Unit × ZM) := zlp (fun k68 a => f_Model_orders_68 rec k68 a.1 a.2.1 a.2.2.1 a.2.2.2.1 a.2.2.2.2) N
def f_Model_orders (rec : Int32 × Int32 × Int32 × ZM → Option (Unit × ZM)) (x1 : Int32) (x2 : Int32) (x3 : Int32) (σ : ZM) : Option (Unit × ZM) :=
  if x2 = x3 then (
    zbd (f_Model_spoiledBy x2 σ) fun v2 s3 => (
    if (zI s3 129 24) < 0 then (
      f_Model_orders_29 rec x2 v2 s3
    ) else (
      if v2 < (zI s3 129 24) then (
        f_Model_orders_29 rec x2 v2 s3
      ) else (
        some ((), s3)
      )
    ))
  ) else (
    F_Model_orders_68 rec 2000 (x1, x2, x3, (0 : Int32), σ)
  )
def F_Model_orders (N : Nat) : Int32 × Int32 × Int32 × ZM → Option (Unit × ZM) := zlp (fun rec a => f_Model_orders rec a.1 a.2.1 a.2.2.1 a.2.2.2) N
def f_Model_order (x1 : Int32) (x2 : Int32) (σ : ZM) : Option (Int32 × ZM) :=
  zbd (f_Model_isIn x2 (-1 : Int32) (5 : Int32) σ) fun v1 s2 => (
  if v1 = 0 then (
    some ((-1 : Int32), s2)
  ) else (
    zbd (f_Model_areLoaves x1 s2) fun v5 s6 => (
    if v5 = 0 then (
      some ((-2 : Int32), s6)
    ) else (
      zbd (f_Model_bits x1 s6) fun v9 s10 => (
      if v9 ≤ (5 : Int32) then (
        zbd (f_Model_bits x1 (zsI s10 129 24 (-1 : Int32))) fun v13 s14 => (
        zbd (F_Model_orders 8 (x1, (0 : Int32), v13, s14)) fun v16 s17 => (
        if 0 ≤ x2 then (
          zbd (f_Model_bits x1 s17) fun v20 s21 => (
          if v20 ≤ x2 then (
            some ((-5 : Int32), s21)
          ) else (
            zck (zin x2 6) (
            some (zI s21 138 x2.toNatClampNeg, s21))
          ))
        ) else (
          some (zI s17 129 24, s17)
        )))
      ) else (
        some ((-2 : Int32), s10)
      ))
    ))
  ))
def f_Model_memberOf_16 (k4 : Int32 × Int32 × Int32 × ZM → Option (Int32 × ZM)) (x0 : Int32) (x2 : Int32) (x3 : Int32) (σ : ZM) : Option (Int32 × ZM) :=
  k4 (x0, (x2 - ((x0 >>> (x3 &&& 31)) &&& (1 : Int32))), (x3 + (1 : Int32)), σ)
def f_Model_memberOf_4 (k4 : Int32 × Int32 × Int32 × ZM → Option (Int32 × ZM)) (x0 : Int32) (x2 : Int32) (x3 : Int32) (σ : ZM) : Option (Int32 × ZM) :=
  if ((x0 >>> (x3 &&& 31)) &&& (1 : Int32)) = 0 then (
    f_Model_memberOf_16 k4 x0 x2 x3 σ
  ) else (
    if x2 ≤ 0 then (
      some (x3, σ)
    ) else (
      f_Model_memberOf_16 k4 x0 x2 x3 σ
    )
  )
def F_Model_memberOf_4 (N : Nat) : Int32 × Int32 × Int32 × ZM → Option (Int32 × ZM) := zlp (fun k4 a => f_Model_memberOf_4 k4 a.1 a.2.1 a.2.2.1 a.2.2.2) N
def f_Model_memberOf (x0 : Int32) (x1 : Int32) (σ : ZM) : Option (Int32 × ZM) :=
  F_Model_memberOf_4 2000 (x0, x1, (0 : Int32), σ)
def f_Model_isWellBy_68 (k13 : Int32 × Int32 × Int32 × Int32 × Int32 × ZM → Option (Int32 × ZM)) (x1 : Int32) (x2 : Int32) (x5 : Int32) (x6 : Int32) (y0 : Int32) (σ : ZM) : Option (Int32 × ZM) :=
  k13 (x1, x2, y0, (x5 / (5 : Int32)), (x6 + (1 : Int32)), σ)
def f_Model_isWellBy_35 (k13 : Int32 × Int32 × Int32 × Int32 × Int32 × ZM → Option (Int32 × ZM)) (k35 : Int32 × Int32 × Int32 × Int32 × Int32 × ZM → Option (Int32 × ZM)) (x1 : Int32) (x2 : Int32) (x5 : Int32) (x6 : Int32) (x7 : Int32) (σ : ZM) : Option (Int32 × ZM) :=
  if x7 ≤ 0 then (
    zbd (f_Model_memberOf x1 x6 σ) fun v2 s3 => (
    zbd (f_Model_bakes v2 s3) fun v5 s6 => (
    if v5 = 0 then (
      f_Model_isWellBy_68 k13 x1 x2 x5 x6 (1 : Int32) s6
    ) else (
      f_Model_isWellBy_68 k13 x1 x2 x5 x6 (0 : Int32) s6
    )))
  ) else (
    zbd (f_Model_cools σ) fun v9 s10 => (
    k35 (x1, x2, x5, x6, (x7 + (-1 : Int32)), s10))
  )
def F_Model_isWellBy_35 (k13 : Int32 × Int32 × Int32 × Int32 × Int32 × ZM → Option (Int32 × ZM)) (N : Nat) : Int32 × Int32 × Int32 × Int32 × Int32 × ZM → Option (Int32 × ZM) := zlp (fun k35 a => f_Model_isWellBy_35 k13 k35 a.1 a.2.1 a.2.2.1 a.2.2.2.1 a.2.2.2.2.1 a.2.2.2.2.2) N
def f_Model_isWellBy_82 (x4 : Int32) (σ : ZM) : Option (Int32 × ZM) :=
  zbd (f_Model_ends σ) fun v1 s2 => (
  zck (zbl x4) (some (x4, s2)))
def f_Model_isWellBy_13 (k13 : Int32 × Int32 × Int32 × Int32 × Int32 × ZM → Option (Int32 × ZM)) (x1 : Int32) (x2 : Int32) (x4 : Int32) (x5 : Int32) (x6 : Int32) (σ : ZM) : Option (Int32 × ZM) :=
  zbd (f_Model_bits x1 σ) fun v1 s2 => (
  if v1 ≤ x6 then (
    f_Model_isWellBy_82 x4 s2
  ) else (
    if x4 = 0 then (
      f_Model_isWellBy_82 x4 s2
    ) else (
      zck (x5 != 0) (
      F_Model_isWellBy_35 k13 2000 (x1, x2, x5, x6, ((x2 / x5) - (x2 / x5) / (5 : Int32) * (5 : Int32)), s2))
    )
  ))
def F_Model_isWellBy_13 (N : Nat) : Int32 × Int32 × Int32 × Int32 × Int32 × ZM → Option (Int32 × ZM) := zlp (fun k13 a => f_Model_isWellBy_13 k13 a.1 a.2.1 a.2.2.1 a.2.2.2.1 a.2.2.2.2.1 a.2.2.2.2.2) N
def f_Model_isWellBy (x1 : Int32) (x2 : Int32) (x3 : Int32) (σ : ZM) : Option (Int32 × ZM) :=
  zbd (f_Model_begins σ) fun v1 s2 => (
  F_Model_isWellBy_13 2000 (x1, x2, (1 : Int32), x3, (0 : Int32), s2))
def f_Model_colds_136 (k64 : Int32 × Int32 × Int32 × Int32 × Int32 × Int32 × ZM → Option (Int32 × ZM)) (x1 : Int32) (x2 : Int32) (x3 : Int32) (x4 : Int32) (x5 : Int32) (x6 : Int32) (σ : ZM) : Option (Int32 × ZM) :=
  k64 (x1, x2, x3, x4, x5, (x6 + (1 : Int32)), σ)
def f_Model_colds_112 (k64 : Int32 × Int32 × Int32 × Int32 × Int32 × Int32 × ZM → Option (Int32 × ZM)) (x1 : Int32) (x2 : Int32) (x3 : Int32) (x4 : Int32) (x5 : Int32) (x6 : Int32) (x7 : Int32) (σ : ZM) : Option (Int32 × ZM) :=
  zbd (f_Model_isWellBy x1 x6 (x3 / (5 : Int32)) σ) fun v1 s2 => (
  if v1 = 0 then (
    f_Model_colds_136 k64 x1 x2 x3 x4 x5 x6 s2
  ) else (
    f_Model_colds_136 k64 x1 x2 x3 x6 x7 x6 s2
  ))
def f_Model_colds_77 (k64 : Int32 × Int32 × Int32 × Int32 × Int32 × Int32 × ZM → Option (Int32 × ZM)) (k77 : Int32 × Int32 × Int32 × Int32 × Int32 × Int32 × Int32 × Int32 × ZM → Option (Int32 × ZM)) (x1 : Int32) (x2 : Int32) (x3 : Int32) (x4 : Int32) (x5 : Int32) (x6 : Int32) (x7 : Int32) (x8 : Int32) (σ : ZM) : Option (Int32 × ZM) :=
  if x8 ≤ 0 then (
    if x4 < 0 then (
      f_Model_colds_112 k64 x1 x2 x3 x4 x5 x6 x7 σ
    ) else (
      if x5 ≤ x7 then (
        f_Model_colds_136 k64 x1 x2 x3 x4 x5 x6 σ
      ) else (
        f_Model_colds_112 k64 x1 x2 x3 x4 x5 x6 x7 σ
      )
    )
  ) else (
    k77 (x1, x2, x3, x4, x5, x6, (x7 + (x8 - x8 / (5 : Int32) * (5 : Int32))), (x8 / (5 : Int32)), σ)
  )
def F_Model_colds_77 (k64 : Int32 × Int32 × Int32 × Int32 × Int32 × Int32 × ZM → Option (Int32 × ZM)) (N : Nat) : Int32 × Int32 × Int32 × Int32 × Int32 × Int32 × Int32 × Int32 × ZM → Option (Int32 × ZM) := zlp (fun k77 a => f_Model_colds_77 k64 k77 a.1 a.2.1 a.2.2.1 a.2.2.2.1 a.2.2.2.2.1 a.2.2.2.2.2.1 a.2.2.2.2.2.2.1 a.2.2.2.2.2.2.2.1 a.2.2.2.2.2.2.2.2) N
def f_Model_colds_173 (k173 : Int32 × Int32 × Int32 × Int32 × ZM → Option (Int32 × ZM)) (x2 : Int32) (x4 : Int32) (x6 : Int32) (x7 : Int32) (σ : ZM) : Option (Int32 × ZM) :=
  if x2 ≤ x7 then (
    zck (x6 != 0) (
    some ((x4 / x6) - (x4 / x6) / (5 : Int32) * (5 : Int32), σ))
  ) else (
    k173 (x2, x4, (x6 / (5 : Int32)), (x7 + (1 : Int32)), σ)
  )
def F_Model_colds_173 (N : Nat) : Int32 × Int32 × Int32 × Int32 × ZM → Option (Int32 × ZM) := zlp (fun k173 a => f_Model_colds_173 k173 a.1 a.2.1 a.2.2.1 a.2.2.2.1 a.2.2.2.2) N
def f_Model_colds_64 (k64 : Int32 × Int32 × Int32 × Int32 × Int32 × Int32 × ZM → Option (Int32 × ZM)) (x1 : Int32) (x2 : Int32) (x3 : Int32) (x4 : Int32) (x5 : Int32) (x6 : Int32) (σ : ZM) : Option (Int32 × ZM) :=
  if x3 ≤ x6 then (
    if 0 ≤ x2 then (
      if x4 < 0 then (
        some ((-5 : Int32), σ)
      ) else (
        zbd (f_Model_bits x1 σ) fun v4 s5 => (
        if x2 < v4 then (
          F_Model_colds_173 2000 (x2, x4, (x3 / (5 : Int32)), (0 : Int32), s5)
        ) else (
          some ((-5 : Int32), s5)
        ))
      )
    ) else (
      some (x5, σ)
    )
  ) else (
    F_Model_colds_77 k64 2000 (x1, x2, x3, x4, x5, x6, (0 : Int32), x6, σ)
  )
def F_Model_colds_64 (N : Nat) : Int32 × Int32 × Int32 × Int32 × Int32 × Int32 × ZM → Option (Int32 × ZM) := zlp (fun k64 a => f_Model_colds_64 k64 a.1 a.2.1 a.2.2.1 a.2.2.2.1 a.2.2.2.2.1 a.2.2.2.2.2.1 a.2.2.2.2.2.2) N
def f_Model_colds_38 (k38 : Int32 × Int32 × Int32 × Int32 × ZM → Option (Int32 × ZM)) (x1 : Int32) (x2 : Int32) (x3 : Int32) (x4 : Int32) (σ : ZM) : Option (Int32 × ZM) :=
  if x4 ≤ 0 then (
    F_Model_colds_64 2000 (x1, x2, x3, (-5 : Int32), (-5 : Int32), (0 : Int32), σ)
  ) else (
    k38 (x1, x2, (x3 * (5 : Int32)), (x4 + (-1 : Int32)), σ)
  )
def F_Model_colds_38 (N : Nat) : Int32 × Int32 × Int32 × Int32 × ZM → Option (Int32 × ZM) := zlp (fun k38 a => f_Model_colds_38 k38 a.1 a.2.1 a.2.2.1 a.2.2.2.1 a.2.2.2.2) N
def f_Model_colds (x1 : Int32) (x2 : Int32) (σ : ZM) : Option (Int32 × ZM) :=
  zbd (f_Model_isIn x2 (-1 : Int32) (5 : Int32) σ) fun v1 s2 => (
  if v1 = 0 then (
    some ((-1 : Int32), s2)
  ) else (
    zbd (f_Model_areLoaves x1 s2) fun v5 s6 => (
    if v5 = 0 then (
      some ((-2 : Int32), s6)
    ) else (
      zbd (f_Model_bits x1 s6) fun v9 s10 => (
      if v9 ≤ (4 : Int32) then (
        zbd (f_Model_bits x1 s10) fun v13 s14 => (
        F_Model_colds_38 2000 (x1, x2, (1 : Int32), v13, s14))
      ) else (
        some ((-2 : Int32), s10)
      ))
    ))
  ))
def f_Model_takesAt_45 (k9 : Int32 × Int32 × Int32 × Int32 × ZM → Option (Int32 × ZM)) (x1 : Int32) (x2 : Int32) (x3 : Int32) (x4 : Int32) (σ : ZM) : Option (Int32 × ZM) :=
  k9 (x1, x2, x3, (x4 + (1 : Int32)), σ)
def f_Model_takesAt_51 (x1 : Int32) (σ : ZM) : Option (Int32 × ZM) :=
  zbd (f_Model_allTakes x1 σ) fun v1 s2 => (
  zbd (f_Model_ends s2) fun v4 s5 => (
  some (v1, s5)))
def f_Model_takesAt_9 (k9 : Int32 × Int32 × Int32 × Int32 × ZM → Option (Int32 × ZM)) (x1 : Int32) (x2 : Int32) (x3 : Int32) (x4 : Int32) (σ : ZM) : Option (Int32 × ZM) :=
  zck (zin (5 : Int32) 92) (
  if (zI σ 130 (5 : Int32).toNatClampNeg) ≤ x4 then (
    f_Model_takesAt_51 x1 σ
  ) else (
    if x2 ≤ x3 then (
      f_Model_takesAt_51 x1 σ
    ) else (
      if x4 = x1 then (
        f_Model_takesAt_45 k9 x1 x2 x3 x4 σ
      ) else (
        zbd (f_Model_bakes x4 σ) fun v5 s6 => (
        f_Model_takesAt_45 k9 x1 x2 (x3 + (1 : Int32)) x4 s6)
      )
    )
  ))
def F_Model_takesAt_9 (N : Nat) : Int32 × Int32 × Int32 × Int32 × ZM → Option (Int32 × ZM) := zlp (fun k9 a => f_Model_takesAt_9 k9 a.1 a.2.1 a.2.2.1 a.2.2.2.1 a.2.2.2.2) N
def f_Model_takesAt (x1 : Int32) (x2 : Int32) (σ : ZM) : Option (Int32 × ZM) :=
  zbd (f_Model_begins σ) fun v1 s2 => (
  F_Model_takesAt_9 2000 (x1, x2, (0 : Int32), (0 : Int32), s2))
def f_Model_place_69 (k32 : Int32 × Int32 × Int32 × Int32 × Int32 × ZM → Option (Int32 × ZM)) (x1 : Int32) (x2 : Int32) (x3 : Int32) (x4 : Int32) (x5 : Int32) (σ : ZM) : Option (Int32 × ZM) :=
  k32 (x1, x2, x3, x4, (x5 + (1 : Int32)), σ)
def f_Model_place_32 (k32 : Int32 × Int32 × Int32 × Int32 × Int32 × ZM → Option (Int32 × ZM)) (x1 : Int32) (x2 : Int32) (x3 : Int32) (x4 : Int32) (x5 : Int32) (σ : ZM) : Option (Int32 × ZM) :=
  zck (zin (5 : Int32) 92) (
  if (zI σ 130 (5 : Int32).toNatClampNeg) ≤ x5 then (
    if x2 = 0 then (
      some (x3, σ)
    ) else (
      some (x4, σ)
    )
  ) else (
    zbd (f_Model_takesAt x1 x5 σ) fun v4 s5 => (
    if v4 < x4 then (
      f_Model_place_69 k32 x1 x2 x5 v4 x5 s5
    ) else (
      f_Model_place_69 k32 x1 x2 x3 x4 x5 s5
    ))
  ))
def F_Model_place_32 (N : Nat) : Int32 × Int32 × Int32 × Int32 × Int32 × ZM → Option (Int32 × ZM) := zlp (fun k32 a => f_Model_place_32 k32 a.1 a.2.1 a.2.2.1 a.2.2.2.1 a.2.2.2.2.1 a.2.2.2.2.2) N
def f_Model_place (x1 : Int32) (x2 : Int32) (σ : ZM) : Option (Int32 × ZM) :=
  zbd (f_Model_isLoaf x1 σ) fun v1 s2 => (
  if v1 = 0 then (
    some ((-1 : Int32), s2)
  ) else (
    zbd (f_Model_isIn x2 (0 : Int32) (1 : Int32) s2) fun v5 s6 => (
    if v5 = 0 then (
      some ((-1 : Int32), s6)
    ) else (
      zbd (f_Model_takesAt x1 (0 : Int32) s6) fun v9 s10 => (
      F_Model_place_32 2000 (x1, x2, (0 : Int32), v9, (1 : Int32), s10))
    ))
  ))
def f_Model_isSpoiledBehind_29 (k6 : Int32 × Int32 × Int32 × ZM → Option (Int32 × ZM)) (x1 : Int32) (x2 : Int32) (x3 : Int32) (y0 : Int32) (σ : ZM) : Option (Int32 × ZM) :=
  k6 (x1, x2, (x3 + (1 : Int32)), σ)
def f_Model_isSpoiledBehind_28 (k6 : Int32 × Int32 × Int32 × ZM → Option (Int32 × ZM)) (x1 : Int32) (x2 : Int32) (x3 : Int32) (σ : ZM) : Option (Int32 × ZM) :=
  f_Model_isSpoiledBehind_29 k6 x1 x2 x3 (0 : Int32) σ
def f_Model_isSpoiledBehind_6 (k6 : Int32 × Int32 × Int32 × ZM → Option (Int32 × ZM)) (x1 : Int32) (x2 : Int32) (x3 : Int32) (σ : ZM) : Option (Int32 × ZM) :=
  if x1 ≤ x3 then (
    zbd (f_Model_isSpoiled x1 σ) fun v2 s3 => (
    zbd (f_Model_ends s3) fun v5 s6 => (
    zck (zbl v2) (some (v2, s6))))
  ) else (
    if x3 = x2 then (
      f_Model_isSpoiledBehind_28 k6 x1 x2 x3 σ
    ) else (
      zbd (f_Model_bakes x3 σ) fun v10 s11 => (
      if v10 = 0 then (
        f_Model_isSpoiledBehind_28 k6 x1 x2 x3 s11
      ) else (
        f_Model_isSpoiledBehind_29 k6 x1 x2 x3 (1 : Int32) s11
      ))
    )
  )
def F_Model_isSpoiledBehind_6 (N : Nat) : Int32 × Int32 × Int32 × ZM → Option (Int32 × ZM) := zlp (fun k6 a => f_Model_isSpoiledBehind_6 k6 a.1 a.2.1 a.2.2.1 a.2.2.2) N
def f_Model_isSpoiledBehind (x1 : Int32) (x2 : Int32) (σ : ZM) : Option (Int32 × ZM) :=
  zbd (f_Model_begins σ) fun v1 s2 => (
  F_Model_isSpoiledBehind_6 2000 (x1, x2, (0 : Int32), s2))
def f_Model_guilty_47 (k25 : Int32 × Int32 × Int32 × ZM → Option (Int32 × ZM)) (x1 : Int32) (x3 : Int32) (y0 : Int32) (y1 : Int32) (σ : ZM) : Option (Int32 × ZM) :=
  k25 (x1, (y1 ||| y0), (x3 + (1 : Int32)), σ)
def f_Model_guilty_25 (k25 : Int32 × Int32 × Int32 × ZM → Option (Int32 × ZM)) (x1 : Int32) (x2 : Int32) (x3 : Int32) (σ : ZM) : Option (Int32 × ZM) :=
  if x1 ≤ x3 then (
    some (x2, σ)
  ) else (
    zbd (f_Model_isSpoiledBehind x1 x3 σ) fun v2 s3 => (
    if v2 = 0 then (
      f_Model_guilty_47 k25 x1 x3 ((1 : Int32) <<< (x3 &&& 31)) x2 s3
    ) else (
      f_Model_guilty_47 k25 x1 x3 (0 : Int32) x2 s3
    ))
  )
def F_Model_guilty_25 (N : Nat) : Int32 × Int32 × Int32 × ZM → Option (Int32 × ZM) := zlp (fun k25 a => f_Model_guilty_25 k25 a.1 a.2.1 a.2.2.1 a.2.2.2) N
def f_Model_guilty (x1 : Int32) (σ : ZM) : Option (Int32 × ZM) :=
  zbd (f_Model_isLoaf x1 σ) fun v1 s2 => (
  if v1 = 0 then (
    some ((-1 : Int32), s2)
  ) else (
    zbd (f_Model_isSpoiledBehind x1 (-1 : Int32) s2) fun v5 s6 => (
    if v5 = 0 then (
      some ((0 : Int32), s6)
    ) else (
      F_Model_guilty_25 2000 (x1, (0 : Int32), (0 : Int32), s6)
    ))
  ))
def f_Model_spoiledIn_35 (k4 : Int32 × Int32 × Int32 × ZM → Option (Int32 × ZM)) (x1 : Int32) (x2 : Int32) (x3 : Int32) (σ : ZM) : Option (Int32 × ZM) :=
  k4 (x1, x2, (x3 + (1 : Int32)), σ)
def f_Model_spoiledIn_4 (k4 : Int32 × Int32 × Int32 × ZM → Option (Int32 × ZM)) (x1 : Int32) (x2 : Int32) (x3 : Int32) (σ : ZM) : Option (Int32 × ZM) :=
  zck (zin (5 : Int32) 92) (
  if (zI σ 130 (5 : Int32).toNatClampNeg) ≤ x3 then (
    zbd (f_Model_spoiledBy x2 σ) fun v3 s4 => (
    some (v3, s4))
  ) else (
    if ((x1 >>> (x3 &&& 31)) &&& (1 : Int32)) = 0 then (
      f_Model_spoiledIn_35 k4 x1 x2 x3 σ
    ) else (
      zck (zin x2 6) (
      f_Model_spoiledIn_35 k4 x1 (x2 + (1 : Int32)) x3 (zsI σ 137 x2.toNatClampNeg x3))
    )
  ))
def F_Model_spoiledIn_4 (N : Nat) : Int32 × Int32 × Int32 × ZM → Option (Int32 × ZM) := zlp (fun k4 a => f_Model_spoiledIn_4 k4 a.1 a.2.1 a.2.2.1 a.2.2.2) N
def f_Model_spoiledIn (x1 : Int32) (σ : ZM) : Option (Int32 × ZM) :=
  F_Model_spoiledIn_4 2000 (x1, (0 : Int32), (0 : Int32), σ)
def f_Model_two_77 (k30 : Int32 × Int32 × Int32 × Int32 × Int32 × ZM → Option (Int32 × ZM)) (x1 : Int32) (x2 : Int32) (x3 : Int32) (x4 : Int32) (x5 : Int32) (σ : ZM) : Option (Int32 × ZM) :=
  k30 (x1, x2, x3, x4, (x5 + (1 : Int32)), σ)
def f_Model_two_70 (k30 : Int32 × Int32 × Int32 × Int32 × Int32 × ZM → Option (Int32 × ZM)) (x1 : Int32) (x2 : Int32) (x5 : Int32) (x6 : Int32) (σ : ZM) : Option (Int32 × ZM) :=
  f_Model_two_77 k30 x1 x2 x5 x6 x5 σ
def f_Model_two_30 (k30 : Int32 × Int32 × Int32 × Int32 × Int32 × ZM → Option (Int32 × ZM)) (x1 : Int32) (x2 : Int32) (x3 : Int32) (x4 : Int32) (x5 : Int32) (σ : ZM) : Option (Int32 × ZM) :=
  if x2 < x5 then (
    if x1 = 0 then (
      some (x4, σ)
    ) else (
      some (x3, σ)
    )
  ) else (
    zbd (f_Model_spoiledIn x5 σ) fun v3 s4 => (
    zbd (f_Model_spoiledIn (x2 &&& (x5 ^^^ (-1 : Int32))) s4) fun v6 s7 => (
    if x4 < 0 then (
      f_Model_two_70 k30 x1 x2 x5 (v3 + v6) s7
    ) else (
      if (v3 + v6) < x4 then (
        f_Model_two_70 k30 x1 x2 x5 (v3 + v6) s7
      ) else (
        f_Model_two_77 k30 x1 x2 x3 x4 x5 s7
      )
    )))
  )
def F_Model_two_30 (N : Nat) : Int32 × Int32 × Int32 × Int32 × Int32 × ZM → Option (Int32 × ZM) := zlp (fun k30 a => f_Model_two_30 k30 a.1 a.2.1 a.2.2.1 a.2.2.2.1 a.2.2.2.2.1 a.2.2.2.2.2) N
def f_Model_two (x1 : Int32) (σ : ZM) : Option (Int32 × ZM) :=
  zbd (f_Model_isIn x1 (0 : Int32) (1 : Int32) σ) fun v1 s2 => (
  if v1 = 0 then (
    some ((-1 : Int32), s2)
  ) else (
    zck (zin (5 : Int32) 92) (
    F_Model_two_30 2000 (x1, (((1 : Int32) <<< ((zI s2 130 (5 : Int32).toNatClampNeg) &&& 31)) - (1 : Int32)), (0 : Int32), (-1 : Int32), (0 : Int32), s2))
  ))
def f_Model_takesBehind (x1 : Int32) (x2 : Int32) (σ : ZM) : Option (Int32 × ZM) :=
  zbd (f_Model_begins σ) fun v1 s2 => (
  zbd (f_Model_bakes x2 s2) fun v4 s5 => (
  zbd (f_Model_allTakes x1 s5) fun v7 s8 => (
  zbd (f_Model_ends s8) fun v10 s11 => (
  some (v7, s11)))))
def f_Model_has_100 (k15 : Int32 × Int32 × Int32 × ZM → Option (Int32 × ZM)) (x1 : Int32) (x3 : Int32) (y0 : Int32) (y1 : Int32) (σ : ZM) : Option (Int32 × ZM) :=
  k15 (x1, (y1 + y0), (x3 + (1 : Int32)), σ)
def f_Model_has_73 (k15 : Int32 × Int32 × Int32 × ZM → Option (Int32 × ZM)) (x1 : Int32) (x2 : Int32) (x3 : Int32) (y0 : Int32) (σ : ZM) : Option (Int32 × ZM) :=
  if x1 = x3 then (
    f_Model_has_100 k15 x1 x3 y0 x2 σ
  ) else (
    if x1 = (x3 + (1 : Int32)) then (
      f_Model_has_100 k15 x1 x3 (-y0) x2 σ
    ) else (
      f_Model_has_100 k15 x1 x3 (0 : Int32) x2 σ
    )
  )
def f_Model_has_50 (k15 : Int32 × Int32 × Int32 × ZM → Option (Int32 × ZM)) (x1 : Int32) (x2 : Int32) (x3 : Int32) (y0 : Int32) (σ : ZM) : Option (Int32 × ZM) :=
  if y0 = 0 then (
    zbd (f_Model_feeOf (x3 + (1 : Int32)) σ) fun v2 s3 => (
    f_Model_has_73 k15 x1 x2 x3 (-v2) s3)
  ) else (
    zbd (f_Model_feeOf x3 σ) fun v5 s6 => (
    f_Model_has_73 k15 x1 x2 x3 v5 s6)
  )
def f_Model_has_15 (k15 : Int32 × Int32 × Int32 × ZM → Option (Int32 × ZM)) (x1 : Int32) (x2 : Int32) (x3 : Int32) (σ : ZM) : Option (Int32 × ZM) :=
  zck (zin (5 : Int32) 92) (
  if (zI σ 130 (5 : Int32).toNatClampNeg) ≤ (x3 + (1 : Int32)) then (
    some (x2, σ)
  ) else (
    zbd (f_Model_takesBehind (x3 + (1 : Int32)) x3 σ) fun v3 s4 => (
    zbd (f_Model_allTakes (x3 + (1 : Int32)) s4) fun v6 s7 => (
    if v6 ≤ v3 then (
      f_Model_has_50 k15 x1 x2 x3 (0 : Int32) s7
    ) else (
      f_Model_has_50 k15 x1 x2 x3 (1 : Int32) s7
    )))
  ))
def F_Model_has_15 (N : Nat) : Int32 × Int32 × Int32 × ZM → Option (Int32 × ZM) := zlp (fun k15 a => f_Model_has_15 k15 a.1 a.2.1 a.2.2.1 a.2.2.2) N
def f_Model_has (x1 : Int32) (σ : ZM) : Option (Int32 × ZM) :=
  zbd (f_Model_isLoaf x1 σ) fun v1 s2 => (
  if v1 = 0 then (
    some ((-100001 : Int32), s2)
  ) else (
    F_Model_has_15 2000 (x1, (0 : Int32), (0 : Int32), s2)
  ))
def f_Model_takesInRow_71 (k9 : Int32 × Int32 × Int32 × Int32 × ZM → Option (Int32 × ZM)) (x1 : Int32) (x2 : Int32) (x4 : Int32) (x5 : Int32) (y0 : Int32) (σ : ZM) : Option (Int32 × ZM) :=
  zbd (f_Model_bakes x5 σ) fun v1 s2 => (
  k9 (x1, x2, y0, (x4 + (1 : Int32)), s2))
def f_Model_takesInRow_54 (k9 : Int32 × Int32 × Int32 × Int32 × ZM → Option (Int32 × ZM)) (x1 : Int32) (x2 : Int32) (x3 : Int32) (x4 : Int32) (y0 : Int32) (σ : ZM) : Option (Int32 × ZM) :=
  if y0 = x1 then (
    zbd (f_Model_allTakes x1 σ) fun v2 s3 => (
    f_Model_takesInRow_71 k9 x1 x2 x4 y0 v2 s3)
  ) else (
    f_Model_takesInRow_71 k9 x1 x2 x4 y0 x3 σ
  )
def f_Model_takesInRow_52 (k9 : Int32 × Int32 × Int32 × Int32 × ZM → Option (Int32 × ZM)) (x1 : Int32) (x2 : Int32) (x3 : Int32) (x4 : Int32) (σ : ZM) : Option (Int32 × ZM) :=
  f_Model_takesInRow_54 k9 x1 x2 x3 x4 x4 σ
def f_Model_takesInRow_9 (k9 : Int32 × Int32 × Int32 × Int32 × ZM → Option (Int32 × ZM)) (x1 : Int32) (x2 : Int32) (x3 : Int32) (x4 : Int32) (σ : ZM) : Option (Int32 × ZM) :=
  zck (zin (5 : Int32) 92) (
  if (zI σ 130 (5 : Int32).toNatClampNeg) ≤ x4 then (
    zbd (f_Model_ends σ) fun v3 s4 => (
    some (x3, s4))
  ) else (
    if x4 = x2 then (
      f_Model_takesInRow_54 k9 x1 x2 x3 x4 (x4 + (1 : Int32)) σ
    ) else (
      if x4 = (x2 + (1 : Int32)) then (
        if x2 < 0 then (
          f_Model_takesInRow_52 k9 x1 x2 x3 x4 σ
        ) else (
          f_Model_takesInRow_54 k9 x1 x2 x3 x4 (x4 - (1 : Int32)) σ
        )
      ) else (
        f_Model_takesInRow_52 k9 x1 x2 x3 x4 σ
      )
    )
  ))
def F_Model_takesInRow_9 (N : Nat) : Int32 × Int32 × Int32 × Int32 × ZM → Option (Int32 × ZM) := zlp (fun k9 a => f_Model_takesInRow_9 k9 a.1 a.2.1 a.2.2.1 a.2.2.2.1 a.2.2.2.2) N
def f_Model_takesInRow (x1 : Int32) (x2 : Int32) (σ : ZM) : Option (Int32 × ZM) :=
  zbd (f_Model_begins σ) fun v1 s2 => (
  F_Model_takesInRow_9 2000 (x1, x2, (0 : Int32), (0 : Int32), s2))
def f_Model_swaps (x1 : Int32) (σ : ZM) : Option (Int32 × ZM) :=
  zbd (f_Model_isLoaf x1 σ) fun v1 s2 => (
  if v1 = 0 then (
    some ((-1 : Int32), s2)
  ) else (
    zbd (f_Model_isLoaf (x1 + (1 : Int32)) s2) fun v5 s6 => (
    if v5 = 0 then (
      some ((-1 : Int32), s6)
    ) else (
      zbd (f_Model_takesInRow x1 (-5 : Int32) s6) fun v9 s10 => (
      zbd (f_Model_takesInRow (x1 + (1 : Int32)) (-5 : Int32) s10) fun v12 s13 => (
      zbd (f_Model_takesInRow x1 x1 s13) fun v15 s16 => (
      zbd (f_Model_takesInRow (x1 + (1 : Int32)) x1 s16) fun v18 s19 => (
      if v9 < v15 then (
        some ((0 : Int32), s19)
      ) else (
        if v12 < v18 then (
          some ((0 : Int32), s19)
        ) else (
          if (v9 + v12) ≤ (v15 + v18) then (
            some ((0 : Int32), s19)
          ) else (
            some ((1 : Int32), s19)
          )
        )
      )))))
    ))
  ))
def f_Model_span_150 (k60 : Int32 × Int32 × Int32 × Int32 × Int32 × Int32 × Int32 × Int32 × ZM → Option (Int32 × ZM)) (k90 : Int32 × Int32 × Int32 × Int32 × Int32 × Int32 × Int32 × Int32 × Int32 × Int32 × ZM → Option (Int32 × ZM)) (x1 : Int32) (x2 : Int32) (x3 : Int32) (x4 : Int32) (x5 : Int32) (x6 : Int32) (x7 : Int32) (x8 : Int32) (x9 : Int32) (x10 : Int32) (σ : ZM) : Option (Int32 × ZM) :=
  k90 (x1, x2, x3, x4, x5, x6, x7, x8, x9, (x10 + (1 : Int32)), σ)
def f_Model_span_138 (k60 : Int32 × Int32 × Int32 × Int32 × Int32 × Int32 × Int32 × Int32 × ZM → Option (Int32 × ZM)) (k90 : Int32 × Int32 × Int32 × Int32 × Int32 × Int32 × Int32 × Int32 × Int32 × Int32 × ZM → Option (Int32 × ZM)) (x1 : Int32) (x2 : Int32) (x3 : Int32) (x4 : Int32) (x7 : Int32) (x8 : Int32) (x9 : Int32) (x10 : Int32) (y0 : Int32) (σ : ZM) : Option (Int32 × ZM) :=
  f_Model_span_150 k60 k90 x1 x2 x3 x4 y0 (((10 : Int32) * x8) + x10) x7 x8 x9 x10 σ
def f_Model_span_90 (k60 : Int32 × Int32 × Int32 × Int32 × Int32 × Int32 × Int32 × Int32 × ZM → Option (Int32 × ZM)) (k90 : Int32 × Int32 × Int32 × Int32 × Int32 × Int32 × Int32 × Int32 × Int32 × Int32 × ZM → Option (Int32 × ZM)) (x1 : Int32) (x2 : Int32) (x3 : Int32) (x4 : Int32) (x5 : Int32) (x6 : Int32) (x7 : Int32) (x8 : Int32) (x9 : Int32) (x10 : Int32) (σ : ZM) : Option (Int32 × ZM) :=
  if (10 : Int32) ≤ x10 then (
    k60 (x1, x2, x3, x4, x5, x6, x7, (x8 + (1 : Int32)), σ)
  ) else (
    zbd (f_Model_takesBy x1 x2 x9 (((10 : Int32) * x8) + x10) σ) fun v2 s3 => (
    if v2 = x3 then (
      if 0 ≤ x5 then (
        f_Model_span_138 k60 k90 x1 x2 x3 x4 x7 x8 x9 x10 x5 s3
      ) else (
        f_Model_span_138 k60 k90 x1 x2 x3 x4 x7 x8 x9 x10 (((10 : Int32) * x8) + x10) s3
      )
    ) else (
      f_Model_span_150 k60 k90 x1 x2 x3 x4 x5 x6 x7 x8 x9 x10 s3
    ))
  )
def F_Model_span_90 (k60 : Int32 × Int32 × Int32 × Int32 × Int32 × Int32 × Int32 × Int32 × ZM → Option (Int32 × ZM)) (N : Nat) : Int32 × Int32 × Int32 × Int32 × Int32 × Int32 × Int32 × Int32 × Int32 × Int32 × ZM → Option (Int32 × ZM) := zlp (fun k90 a => f_Model_span_90 k60 k90 a.1 a.2.1 a.2.2.1 a.2.2.2.1 a.2.2.2.2.1 a.2.2.2.2.2.1 a.2.2.2.2.2.2.1 a.2.2.2.2.2.2.2.1 a.2.2.2.2.2.2.2.2.1 a.2.2.2.2.2.2.2.2.2.1 a.2.2.2.2.2.2.2.2.2.2) N
def f_Model_span_60 (k60 : Int32 × Int32 × Int32 × Int32 × Int32 × Int32 × Int32 × Int32 × ZM → Option (Int32 × ZM)) (x1 : Int32) (x2 : Int32) (x3 : Int32) (x4 : Int32) (x5 : Int32) (x6 : Int32) (x7 : Int32) (x8 : Int32) (σ : ZM) : Option (Int32 × ZM) :=
  if (999 : Int32) < x8 then (
    zck (zin x2 92) (
    if x4 = 0 then (
      some (x5, (zsI σ 130 x2.toNatClampNeg x7))
    ) else (
      some (x6, (zsI σ 130 x2.toNatClampNeg x7))
    ))
  ) else (
    zck (zin x2 92) (
    zbd (f_Model_partOf x1 x2 (zsI σ 130 x2.toNatClampNeg ((10 : Int32) * x8))) fun v5 s6 => (
    F_Model_span_90 k60 2000 (x1, x2, x3, x4, x5, x6, x7, x8, v5, (0 : Int32), s6)))
  )
def F_Model_span_60 (N : Nat) : Int32 × Int32 × Int32 × Int32 × Int32 × Int32 × Int32 × Int32 × ZM → Option (Int32 × ZM) := zlp (fun k60 a => f_Model_span_60 k60 a.1 a.2.1 a.2.2.1 a.2.2.2.1 a.2.2.2.2.1 a.2.2.2.2.2.1 a.2.2.2.2.2.2.1 a.2.2.2.2.2.2.2.1 a.2.2.2.2.2.2.2.2) N
def f_Model_span (x1 : Int32) (x2 : Int32) (x3 : Int32) (x4 : Int32) (σ : ZM) : Option (Int32 × ZM) :=
  zbd (f_Model_isLoaf x1 σ) fun v1 s2 => (
  if v1 = 0 then (
    some ((-1 : Int32), s2)
  ) else (
    zbd (f_Model_isTaste x2 s2) fun v5 s6 => (
    if v5 = 0 then (
      some ((-1 : Int32), s6)
    ) else (
      zbd (f_Model_isIn x4 (0 : Int32) (1 : Int32) s6) fun v9 s10 => (
      if v9 = 0 then (
        some ((-1 : Int32), s10)
      ) else (
        zbd (f_Model_isIn x3 (0 : Int32) (9999 : Int32) s10) fun v13 s14 => (
        if v13 = 0 then (
          some ((-2 : Int32), s14)
        ) else (
          zck (zin x2 92) (
          F_Model_span_60 2000 (x1, x2, x3, x4, (-5 : Int32), (-5 : Int32), (zI s14 130 x2.toNatClampNeg), (0 : Int32), s14))
        ))
      ))
    ))
  ))
def f_Model_year_32  (σ : ZM) : Option (Int32 × ZM) :=
  some ((-100002 : Int32), σ)
def f_Model_year_115 (k62 : Int32 × Int32 × Int32 × Int32 × Int32 × Int32 × ZM → Option (Int32 × ZM)) (x1 : Int32) (x2 : Int32) (x3 : Int32) (x4 : Int32) (x5 : Int32) (x6 : Int32) (σ : ZM) : Option (Int32 × ZM) :=
  k62 (x1, x2, x3, x4, x5, (x6 + (1 : Int32)), σ)
def f_Model_year_109 (k62 : Int32 × Int32 × Int32 × Int32 × Int32 × Int32 × ZM → Option (Int32 × ZM)) (x1 : Int32) (x2 : Int32) (x3 : Int32) (x4 : Int32) (x6 : Int32) (y0 : Int32) (y1 : Int32) (σ : ZM) : Option (Int32 × ZM) :=
  f_Model_year_115 k62 x1 x2 x3 (x4 + (1 : Int32)) (y1 + y0) x6 σ
def f_Model_year_137 (y0 : Int32) (σ : ZM) : Option (Int32 × ZM) :=
  zbd (f_Model_ends σ) fun v1 s2 => (
  some (y0, s2))
def f_Model_year_62 (k62 : Int32 × Int32 × Int32 × Int32 × Int32 × Int32 × ZM → Option (Int32 × ZM)) (x1 : Int32) (x2 : Int32) (x3 : Int32) (x4 : Int32) (x5 : Int32) (x6 : Int32) (σ : ZM) : Option (Int32 × ZM) :=
  if x1 ≤ x6 then (
    if x3 = (4 : Int32) then (
      f_Model_year_137 x5 σ
    ) else (
      zck (zin x3 92) (
      f_Model_year_137 (zI σ 130 x3.toNatClampNeg) σ)
    )
  ) else (
    zck (zin (4 : Int32) 92) (
    zck (x2 != 0) (
    if ((zI σ 130 (4 : Int32).toNatClampNeg) - (zI σ 130 (4 : Int32).toNatClampNeg) / x2 * x2) = 0 then (
      zbd (f_Model_cools σ) fun v13 s14 => (
      f_Model_year_115 k62 x1 x2 x3 x4 x5 x6 s14)
    ) else (
      zck (zin (5 : Int32) 92) (
      zck ((zI σ 130 (5 : Int32).toNatClampNeg) != 0) (
      zbd (f_Model_bakes (x4 - x4 / (zI σ 130 (5 : Int32).toNatClampNeg) * (zI σ 130 (5 : Int32).toNatClampNeg)) σ) fun v9 s10 => (
      if v9 = 0 then (
        f_Model_year_109 k62 x1 x2 x3 x4 x6 (0 : Int32) x5 s10
      ) else (
        f_Model_year_109 k62 x1 x2 x3 x4 x6 (1 : Int32) x5 s10
      ))))
    )))
  )
def F_Model_year_62 (N : Nat) : Int32 × Int32 × Int32 × Int32 × Int32 × Int32 × ZM → Option (Int32 × ZM) := zlp (fun k62 a => f_Model_year_62 k62 a.1 a.2.1 a.2.2.1 a.2.2.2.1 a.2.2.2.2.1 a.2.2.2.2.2.1 a.2.2.2.2.2.2) N
def f_Model_year (x1 : Int32) (x2 : Int32) (x3 : Int32) (σ : ZM) : Option (Int32 × ZM) :=
  zbd (f_Model_isIn x3 (0 : Int32) (4 : Int32) σ) fun v1 s2 => (
  if v1 = 0 then (
    some ((-100001 : Int32), s2)
  ) else (
    zbd (f_Model_isIn x1 (0 : Int32) (60 : Int32) s2) fun v5 s6 => (
    if v5 = 0 then (
      f_Model_year_32 s6
    ) else (
      zbd (f_Model_isIn x2 (2 : Int32) (30 : Int32) s6) fun v9 s10 => (
      if v9 = 0 then (
        f_Model_year_32 s10
      ) else (
        zck (zin (5 : Int32) 92) (
        if (zI s10 130 (5 : Int32).toNatClampNeg) = 0 then (
          some ((-100003 : Int32), s10)
        ) else (
          zbd (f_Model_begins s10) fun v15 s16 => (
          F_Model_year_62 2000 (x1, x2, x3, (0 : Int32), (0 : Int32), (0 : Int32), s16))
        ))
      ))
    ))
  ))
def f_Model_common (rec : Int32 × Int32 × ZM → Option (Int32 × ZM)) (x0 : Int32) (x1 : Int32) (σ : ZM) : Option (Int32 × ZM) :=
  if x1 = 0 then (
    some (x0, σ)
  ) else (
    zck (x1 != 0) (
    zbd (rec (x1, (x0 - x0 / x1 * x1), σ)) fun v3 s4 => (
    some (v3, s4)))
  )
def F_Model_common (N : Nat) : Int32 × Int32 × ZM → Option (Int32 × ZM) := zlp (fun rec a => f_Model_common rec a.1 a.2.1 a.2.2) N
def f_Model_lowest (x0 : Int32) (x1 : Int32) (x2 : Int32) (σ : ZM) : Option (Int64 × ZM) :=
  zbd (F_Model_common 20 (x1, x0, σ)) fun v1 s2 => (
  if x2 = 0 then (
    zck (v1 != 0) (
    some ((x0 / v1).toInt64, s2))
  ) else (
    zck (v1 != 0) (
    some ((x1 / v1).toInt64, s2))
  ))
def f_Model_odds_27  (σ : ZM) : Option (Int64 × ZM) :=
  some ((-9223372036854775808 : Int64), σ)
def f_Model_odds_88 (k36 : Int32 × Int32 × Int32 × Int32 × ZM → Option (Int64 × ZM)) (x1 : Int32) (x2 : Int32) (x3 : Int32) (x4 : Int32) (σ : ZM) : Option (Int64 × ZM) :=
  k36 (x1, x2, x3, (x4 + (1 : Int32)), σ)
def f_Model_odds_82 (k36 : Int32 × Int32 × Int32 × Int32 × ZM → Option (Int64 × ZM)) (x1 : Int32) (x2 : Int32) (x4 : Int32) (y0 : Int32) (y1 : Int32) (σ : ZM) : Option (Int64 × ZM) :=
  zbd (f_Model_ends σ) fun v1 s2 => (
  f_Model_odds_88 k36 x1 x2 (y1 + y0) x4 s2)
def f_Model_odds_36 (k36 : Int32 × Int32 × Int32 × Int32 × ZM → Option (Int64 × ZM)) (x1 : Int32) (x2 : Int32) (x3 : Int32) (x4 : Int32) (σ : ZM) : Option (Int64 × ZM) :=
  zck (zin (5 : Int32) 92) (
  if (zI σ 130 (5 : Int32).toNatClampNeg) ≤ x4 then (
    zck (zin (5 : Int32) 92) (
    zbd (f_Model_lowest x3 ((zI σ 130 (5 : Int32).toNatClampNeg) - (1 : Int32)) x2 σ) fun v4 s5 => (
    some (v4, s5)))
  ) else (
    if x4 = x1 then (
      f_Model_odds_88 k36 x1 x2 x3 x4 σ
    ) else (
      zbd (f_Model_begins σ) fun v8 s9 => (
      zbd (f_Model_bakes x4 s9) fun v11 s12 => (
      zbd (f_Model_isSpoiled x1 s12) fun v14 s15 => (
      if v14 = 0 then (
        f_Model_odds_82 k36 x1 x2 x4 (0 : Int32) x3 s15
      ) else (
        f_Model_odds_82 k36 x1 x2 x4 (1 : Int32) x3 s15
      ))))
    )
  ))
def F_Model_odds_36 (N : Nat) : Int32 × Int32 × Int32 × Int32 × ZM → Option (Int64 × ZM) := zlp (fun k36 a => f_Model_odds_36 k36 a.1 a.2.1 a.2.2.1 a.2.2.2.1 a.2.2.2.2) N
def f_Model_odds (x1 : Int32) (x2 : Int32) (σ : ZM) : Option (Int64 × ZM) :=
  zbd (f_Model_isLoaf x1 σ) fun v1 s2 => (
  if v1 = 0 then (
    f_Model_odds_27 s2
  ) else (
    zbd (f_Model_isIn x2 (0 : Int32) (1 : Int32) s2) fun v5 s6 => (
    if v5 = 0 then (
      f_Model_odds_27 s6
    ) else (
      zck (zin (5 : Int32) 92) (
      if (zI s6 130 (5 : Int32).toNatClampNeg) = (1 : Int32) then (
        f_Model_odds_27 s6
      ) else (
        F_Model_odds_36 2000 (x1, x2, (0 : Int32), (0 : Int32), s6)
      ))
    ))
  ))
def f_Model_mean_25  (σ : ZM) : Option (Int64 × ZM) :=
  some ((-9223372036854775808 : Int64), σ)
def f_Model_mean_34 (k34 : Int32 × Int32 × Int32 × Int32 × ZM → Option (Int64 × ZM)) (x1 : Int32) (x2 : Int32) (x3 : Int32) (x4 : Int32) (σ : ZM) : Option (Int64 × ZM) :=
  zck (zin (5 : Int32) 92) (
  if (zI σ 130 (5 : Int32).toNatClampNeg) ≤ x4 then (
    zck (zin (5 : Int32) 92) (
    zbd (f_Model_lowest x3 (zI σ 130 (5 : Int32).toNatClampNeg) x2 σ) fun v4 s5 => (
    some (v4, s5)))
  ) else (
    zbd (f_Model_takesOf x4 x1 σ) fun v7 s8 => (
    k34 (x1, x2, (x3 + v7), (x4 + (1 : Int32)), s8))
  ))
def F_Model_mean_34 (N : Nat) : Int32 × Int32 × Int32 × Int32 × ZM → Option (Int64 × ZM) := zlp (fun k34 a => f_Model_mean_34 k34 a.1 a.2.1 a.2.2.1 a.2.2.2.1 a.2.2.2.2) N
def f_Model_mean (x1 : Int32) (x2 : Int32) (σ : ZM) : Option (Int64 × ZM) :=
  zbd (f_Model_isTaste x1 σ) fun v1 s2 => (
  if v1 = 0 then (
    f_Model_mean_25 s2
  ) else (
    zbd (f_Model_isIn x2 (0 : Int32) (1 : Int32) s2) fun v5 s6 => (
    if v5 = 0 then (
      f_Model_mean_25 s6
    ) else (
      zck (zin (5 : Int32) 92) (
      if (zI s6 130 (5 : Int32).toNatClampNeg) = 0 then (
        f_Model_mean_25 s6
      ) else (
        F_Model_mean_34 2000 (x1, x2, (0 : Int32), (0 : Int32), s6)
      ))
    ))
  ))
def f_Model_book_91 (y0 : Int32) (y1 : Int32) (σ : ZM) : Option (Int32 × ZM) :=
  zck (zin y1 92) (
  zck (zin (7 : Int32) 92) (
  zck (zin (7 : Int32) 92) (
  zck (zin (7 : Int32) 92) (
  some (zI (zsI (zsI σ 130 y1.toNatClampNeg y0) 130 (7 : Int32).toNatClampNeg ((zI (zsI σ 130 y1.toNatClampNeg y0) 130 (7 : Int32).toNatClampNeg) + (1 : Int32))) 130 (7 : Int32).toNatClampNeg, (zsI (zsI σ 130 y1.toNatClampNeg y0) 130 (7 : Int32).toNatClampNeg ((zI (zsI σ 130 y1.toNatClampNeg y0) 130 (7 : Int32).toNatClampNeg) + (1 : Int32))))))))
def f_Model_book_31 (x1 : Int32) (x2 : Int32) (σ : ZM) : Option (Int32 × ZM) :=
  zck (zin (7 : Int32) 92) (
  if (zI σ 130 (7 : Int32).toNatClampNeg) = (12 : Int32) then (
    some ((-4 : Int32), σ)
  ) else (
    zck (zin (7 : Int32) 92) (
    zck (zin ((68 : Int32) + ((2 : Int32) * (zI σ 130 (7 : Int32).toNatClampNeg))) 92) (
    zck (zin (7 : Int32) 92) (
    if x2 = 0 then (
      f_Model_book_91 (0 : Int32) (((68 : Int32) + ((2 : Int32) * (zI (zsI σ 130 ((68 : Int32) + ((2 : Int32) * (zI σ 130 (7 : Int32).toNatClampNeg))).toNatClampNeg x1) 130 (7 : Int32).toNatClampNeg))) + (1 : Int32)) (zsI σ 130 ((68 : Int32) + ((2 : Int32) * (zI σ 130 (7 : Int32).toNatClampNeg))).toNatClampNeg x1)
    ) else (
      f_Model_book_91 (1 : Int32) (((68 : Int32) + ((2 : Int32) * (zI (zsI σ 130 ((68 : Int32) + ((2 : Int32) * (zI σ 130 (7 : Int32).toNatClampNeg))).toNatClampNeg x1) 130 (7 : Int32).toNatClampNeg))) + (1 : Int32)) (zsI σ 130 ((68 : Int32) + ((2 : Int32) * (zI σ 130 (7 : Int32).toNatClampNeg))).toNatClampNeg x1)
    ))))
  ))
def f_Model_book (x1 : Int32) (x2 : Int32) (σ : ZM) : Option (Int32 × ZM) :=
  if x1 = (-1 : Int32) then (
    zck (zin (7 : Int32) 92) (
    some ((0 : Int32), (zsI σ 130 (7 : Int32).toNatClampNeg (0 : Int32))))
  ) else (
    if x1 = (-2 : Int32) then (
      f_Model_book_31 x1 x2 σ
    ) else (
      zbd (f_Model_isLoaf x1 σ) fun v3 s4 => (
      if v3 = 0 then (
        some ((-1 : Int32), s4)
      ) else (
        f_Model_book_31 x1 x2 s4
      ))
    )
  )
def f_Model_isBookedSo_34 (x2 : Int32) (y0 : Int32) (σ : ZM) : Option (Int32 × ZM) :=
  if x2 < 0 then (
    zbd (f_Model_cools σ) fun v2 s3 => (
    if y0 = 0 then (
      some ((1 : Int32), s3)
    ) else (
      some ((0 : Int32), s3)
    ))
  ) else (
    zbd (f_Model_bakes x2 σ) fun v6 s7 => (
    if v6 = y0 then (
      some ((1 : Int32), s7)
    ) else (
      some ((0 : Int32), s7)
    ))
  )
def f_Model_isBookedSo (x1 : Int32) (σ : ZM) : Option (Int32 × ZM) :=
  zck (zin ((68 : Int32) + ((2 : Int32) * x1)) 92) (
  zck (zin (((68 : Int32) + ((2 : Int32) * x1)) + (1 : Int32)) 92) (
  if (zI σ 130 (((68 : Int32) + ((2 : Int32) * x1)) + (1 : Int32)).toNatClampNeg) = (1 : Int32) then (
    f_Model_isBookedSo_34 (zI σ 130 ((68 : Int32) + ((2 : Int32) * x1)).toNatClampNeg) (1 : Int32) σ
  ) else (
    f_Model_isBookedSo_34 (zI σ 130 ((68 : Int32) + ((2 : Int32) * x1)).toNatClampNeg) (0 : Int32) σ
  )))
def f_Model_looked_38 (k9 : Int32 × Int32 × ZM → Option (Int32 × ZM)) (x2 : Int32) (y0 : Int32) (σ : ZM) : Option (Int32 × ZM) :=
  k9 (y0, (x2 + (1 : Int32)), σ)
def f_Model_looked_45 (x1 : Int32) (σ : ZM) : Option (Int32 × ZM) :=
  zbd (f_Model_ends σ) fun v1 s2 => (
  some (x1, s2))
def f_Model_looked_9 (k9 : Int32 × Int32 × ZM → Option (Int32 × ZM)) (x1 : Int32) (x2 : Int32) (σ : ZM) : Option (Int32 × ZM) :=
  zck (zin (7 : Int32) 92) (
  if (zI σ 130 (7 : Int32).toNatClampNeg) ≤ x2 then (
    f_Model_looked_45 x1 σ
  ) else (
    if 0 ≤ x1 then (
      f_Model_looked_45 x1 σ
    ) else (
      zbd (f_Model_isBookedSo x2 σ) fun v4 s5 => (
      if v4 = 0 then (
        f_Model_looked_38 k9 x2 x2 s5
      ) else (
        f_Model_looked_38 k9 x2 (-5 : Int32) s5
      ))
    )
  ))
def F_Model_looked_9 (N : Nat) : Int32 × Int32 × ZM → Option (Int32 × ZM) := zlp (fun k9 a => f_Model_looked_9 k9 a.1 a.2.1 a.2.2) N
def f_Model_looked  (σ : ZM) : Option (Int32 × ZM) :=
  zbd (f_Model_begins σ) fun v1 s2 => (
  F_Model_looked_9 2000 ((-5 : Int32), (0 : Int32), s2))
def f_Model_isTape (x0 : Int32) (σ : ZM) : Option (Int32 × ZM) :=
  zbd (f_Model_isIn x0 (0 : Int32) (5 : Int32) σ) fun v1 s2 => (
  zck (zbl v1) (some (v1, s2)))
def f_Model_judge_49 (k49 : Int32 × Int32 × Int32 × ZM → Option (Int32 × ZM)) (x1 : Int32) (x2 : Int32) (x3 : Int32) (σ : ZM) : Option (Int32 × ZM) :=
  if (4 : Int32) ≤ x3 then (
    some ((-5 : Int32), σ)
  ) else (
    zck (zin x1 6) (
    if x2 < ((zI σ 140 x1.toNatClampNeg) - x3) then (
      zck (zin ((((60 : Int32) * x1) + x2) + x3) 360) (
      zck (zin x3 92) (
      if (lg_cmp (zL σ 141 ((((60 : Int32) * x1) + x2) + x3).toNatClampNeg) ((zI σ 130 x3.toNatClampNeg).toInt64)) = 0 then (
        k49 (x1, x2, (x3 + (1 : Int32)), σ)
      ) else (
        some (x3, σ)
      )))
    ) else (
      some ((100 : Int32) + x3, σ)
    ))
  )
def F_Model_judge_49 (N : Nat) : Int32 × Int32 × Int32 × ZM → Option (Int32 × ZM) := zlp (fun k49 a => f_Model_judge_49 k49 a.1 a.2.1 a.2.2.1 a.2.2.2) N
def f_Model_judge_31 (x1 : Int32) (x2 : Int32) (σ : ZM) : Option (Int32 × ZM) :=
  zck (zin x1 6) (
  if (zI σ 139 x1.toNatClampNeg) < 0 then (
    some ((100 : Int32), σ)
  ) else (
    if 0 ≤ x2 then (
      F_Model_judge_49 2000 (x1, x2, (0 : Int32), σ)
    ) else (
      some ((100 : Int32), σ)
    )
  ))
def f_Model_judge (x1 : Int32) (x2 : Int32) (σ : ZM) : Option (Int32 × ZM) :=
  zbd (f_Model_isTape x1 σ) fun v1 s2 => (
  if v1 = 0 then (
    some ((-1 : Int32), s2)
  ) else (
    zck (zin x1 6) (
    if (zI s2 139 x1.toNatClampNeg) < 0 then (
      f_Model_judge_31 x1 x2 s2
    ) else (
      zck (zin x1 6) (
      if (zI s2 139 x1.toNatClampNeg) = (1 : Int32) then (
        f_Model_judge_31 x1 x2 s2
      ) else (
        some ((-12 : Int32), s2)
      ))
    ))
  ))
def f_Model_image  (σ : ZM) : Option (Int32 × ZM) :=
  zbd (f_Model_lays 130 131 σ) fun v1 s2 => (
  zck (zin (5 : Int32) 92) (
  some (zI (zsI s2 129 3 (1 : Int32)) 130 (5 : Int32).toNatClampNeg, (zsI s2 129 3 (1 : Int32)))))
def f_Model_undo  (σ : ZM) : Option (Int32 × ZM) :=
  if (zI σ 129 3) = 0 then (
    some ((-3 : Int32), σ)
  ) else (
    zbd (f_Model_lays 131 130 σ) fun v2 s3 => (
    zck (zin (5 : Int32) 92) (
    some (zI s3 130 (5 : Int32).toNatClampNeg, s3)))
  )
def f_Model_runs_19  (σ : ZM) : Option (Unit × ZM) :=
  some ((), (zsI σ 129 29 ((zI σ 129 29) + (1 : Int32))))
def f_Model_runs (x1 : Int32) (σ : ZM) : Option (Unit × ZM) :=
  if (20 : Int32) ≤ (zI σ 129 29) then (
    f_Model_runs_19 σ
  ) else (
    zck (zin (zI σ 129 29) 20) (
    f_Model_runs_19 (zsI σ 142 (zI σ 129 29).toNatClampNeg x1))
  )
def f_Model_rises_72 (rec : Int32 × Int32 × ZM → Option (Int32 × ZM)) (x2 : Int32) (σ : ZM) : Option (Int32 × ZM) :=
  zbd (f_Model_runs (30 : Int32) σ) fun v1 s2 => (
  zbd (rec ((0 : Int32), (x2 * (3 : Int32)), s2)) fun v4 s5 => (
  some (v4, s5)))
def f_Model_rises_87 (rec : Int32 × Int32 × ZM → Option (Int32 × ZM)) (x2 : Int32) (σ : ZM) : Option (Int32 × ZM) :=
  zbd (f_Model_runs (10 : Int32) σ) fun v1 s2 => (
  some (x2 + (zI s2 129 30), s2))
def f_Model_rises (rec : Int32 × Int32 × ZM → Option (Int32 × ZM)) (x1 : Int32) (x2 : Int32) (σ : ZM) : Option (Int32 × ZM) :=
  if x1 = (2 : Int32) then (
    f_Model_rises_72 rec x2 σ
  ) else (
  if x1 = (3 : Int32) then (
    f_Model_rises_87 rec x2 σ
  ) else (
  if x1 = (4 : Int32) then (
    zbd (f_Model_runs (50 : Int32) σ) fun v4 s5 => (
    zbd (rec ((1 : Int32), x2, s5)) fun v7 s8 => (
    some (-v7, s8)))
  ) else (
  if x1 = (5 : Int32) then (
    f_Model_rises_72 rec x2 σ
  ) else (
  if x1 = (6 : Int32) then (
    zbd (f_Model_runs (71 : Int32) σ) fun v12 s13 => (
    zbd (rec ((3 : Int32), x2, s13)) fun v15 s16 => (
    zbd (f_Model_number (zI s16 129 30) s16) fun v18 s19 => (
    some (v15 ^^^ v18, s19))))
  ) else (
    f_Model_rises_87 rec x2 σ
  )))))
def F_Model_rises (N : Nat) : Int32 × Int32 × ZM → Option (Int32 × ZM) := zlp (fun rec a => f_Model_rises rec a.1 a.2.1 a.2.2) N
def f_Model_bakesFrom (rec : Int32 × Int32 × ZM → Option (Int32 × ZM)) (x1 : Int32) (x2 : Int32) (σ : ZM) : Option (Int32 × ZM) :=
  if x1 = (1 : Int32) then (
    zbd (f_Model_runs (20 : Int32) σ) fun v2 s3 => (
    zbd (rec ((0 : Int32), x2, s3)) fun v5 s6 => (
    some (v5 ^^^ (6 : Int32), s6)))
  ) else (
  if x1 = (4 : Int32) then (
    zbd (f_Model_runs (51 : Int32) σ) fun v9 s10 => (
    zbd (rec ((1 : Int32), (x2 + (1 : Int32)), s10)) fun v12 s13 => (
    some (v12, s13)))
  ) else (
  if x1 = (6 : Int32) then (
    zbd (f_Model_runs (70 : Int32) σ) fun v16 s17 => (
    zbd (rec ((3 : Int32), x2, s17)) fun v19 s20 => (
    zbd (F_Model_rises 6 ((3 : Int32), (2 : Int32), s20)) fun v22 s23 => (
    some (v19 + v22, s23))))
  ) else (
    zbd (f_Model_runs (11 : Int32) σ) fun v25 s26 => (
    zbd (f_Model_kind (zI s26 129 30) s26) fun v28 s29 => (
    zbd (F_Model_rises 6 (v28, x2, s29)) fun v31 s32 => (
    zbd (f_Model_number (zI s32 129 30) s32) fun v34 s35 => (
    some (v31 - v34, s35)))))
  )))
def F_Model_bakesFrom (N : Nat) : Int32 × Int32 × ZM → Option (Int32 × ZM) := zlp (fun rec a => f_Model_bakesFrom rec a.1 a.2.1 a.2.2) N
def f_Model_tells_50 (rec : Int32 × Int32 × ZM → Option (Int32 × ZM)) (x2 : Int32) (σ : ZM) : Option (Int32 × ZM) :=
  zbd (f_Model_runs (40 : Int32) σ) fun v1 s2 => (
  zbd (rec ((0 : Int32), x2, s2)) fun v4 s5 => (
  zbd (f_Model_kind (zI s5 129 30) s5) fun v7 s8 => (
  zbd (F_Model_bakesFrom 8 (v7, (1 : Int32), s8)) fun v10 s11 => (
  some (v4 + v10, s11)))))
def f_Model_tells_79 (rec : Int32 × Int32 × ZM → Option (Int32 × ZM)) (x2 : Int32) (σ : ZM) : Option (Int32 × ZM) :=
  zbd (f_Model_runs (12 : Int32) σ) fun v1 s2 => (
  zbd (f_Model_kind (zI s2 129 30) s2) fun v4 s5 => (
  zbd (F_Model_bakesFrom 8 (v4, x2, s5)) fun v7 s8 => (
  some (v7 * (2 : Int32), s8))))
def f_Model_tells (rec : Int32 × Int32 × ZM → Option (Int32 × ZM)) (x1 : Int32) (x2 : Int32) (σ : ZM) : Option (Int32 × ZM) :=
  if x1 = (3 : Int32) then (
    f_Model_tells_50 rec x2 σ
  ) else (
  if x1 = (4 : Int32) then (
    f_Model_tells_79 rec x2 σ
  ) else (
  if x1 = (5 : Int32) then (
    zbd (f_Model_runs (60 : Int32) σ) fun v4 s5 => (
    zbd (rec ((2 : Int32), (x2 - (zI s5 129 30)), s5)) fun v7 s8 => (
    some (v7, s8)))
  ) else (
  if x1 = (6 : Int32) then (
    f_Model_tells_50 rec x2 σ
  ) else (
    f_Model_tells_79 rec x2 σ
  ))))
def F_Model_tells (N : Nat) : Int32 × Int32 × ZM → Option (Int32 × ZM) := zlp (fun rec a => f_Model_tells rec a.1 a.2.1 a.2.2) N
def f_Model_act (x1 : Int32) (x2 : Int32) (x3 : Int32) (σ : ZM) : Option (Int32 × ZM) :=
  zbd (f_Model_isLoaf x1 (zsI σ 129 29 (0 : Int32))) fun v1 s2 => (
  if v1 = 0 then (
    some ((0 : Int32), s2)
  ) else (
    zbd (f_Model_isIn x2 (0 : Int32) (2 : Int32) s2) fun v5 s6 => (
    if v5 = 0 then (
      some ((0 : Int32), s6)
    ) else (
      zbd (f_Model_kind x1 (zsI s6 129 30 x1)) fun v9 s10 => (
      if x2 = 0 then (
        zbd (F_Model_rises 6 (v9, x3, s10)) fun v20 s21 => (
        some (v20, s21))
      ) else (
        if x2 = (1 : Int32) then (
          zbd (F_Model_bakesFrom 8 (v9, x3, s10)) fun v17 s18 => (
          some (v17, s18))
        ) else (
          zbd (F_Model_tells 8 (v9, x3, s10)) fun v14 s15 => (
          some (v14, s15))
        )
      ))
    ))
  ))
def f_Model_trace (x1 : Int32) (σ : ZM) : Option (Int32 × ZM) :=
  if x1 < 0 then (
    some ((-1 : Int32), σ)
  ) else (
    if (zI σ 129 29) ≤ x1 then (
      some ((-1 : Int32), σ)
    ) else (
      if (20 : Int32) ≤ x1 then (
        some ((-1 : Int32), σ)
      ) else (
        zck (zin x1 20) (
        some (zI σ 142 x1.toNatClampNeg, σ))
      )
    )
  )
def f_Model_above (x0 : Int32) (σ : ZM) : Option (Int32 × ZM) :=
  if x0 < (4 : Int32) then (
    some ((0 : Int32), σ)
  ) else (
    some (x0 - (3 : Int32), σ)
  )
def f_Model_taken (x1 : Int32) (x2 : Int32) (σ : ZM) : Option (Int32 × ZM) :=
  zbd (f_Model_isIn x2 (0 : Int32) (6 : Int32) σ) fun v1 s2 => (
  if v1 = 0 then (
    some ((-2 : Int32), s2)
  ) else (
    zbd (f_Model_isLoaf x1 s2) fun v5 s6 => (
    if v5 = 0 then (
      some ((-11 : Int32), s6)
    ) else (
      zbd (f_Model_kind x1 s6) fun v9 s10 => (
      if v9 = x2 then (
        some (v9, s10)
      ) else (
        zbd (f_Model_above v9 s10) fun v13 s14 => (
        if v13 = x2 then (
          some (v9, s14)
        ) else (
          if x2 = 0 then (
            some (v9, s14)
          ) else (
            some ((-12 : Int32), s14)
          )
        ))
      ))
    ))
  ))
def f_Model_count (x1 : Int32) (σ : ZM) : Option (Int32 × ZM) :=
  if x1 = (0 : Int32) then (
    zck (zin (5 : Int32) 92) (
    some (zI σ 130 (5 : Int32).toNatClampNeg, σ))
  ) else (
  if x1 = (1 : Int32) then (
    some (zI σ 129 8, σ)
  ) else (
  if x1 = (2 : Int32) then (
    zck (zin (7 : Int32) 92) (
    some (zI σ 130 (7 : Int32).toNatClampNeg, σ))
  ) else (
  if x1 = (3 : Int32) then (
    some (zI σ 129 7, σ)
  ) else (
  if x1 = (4 : Int32) then (
    some (zI σ 129 29, σ)
  ) else (
    some ((-2 : Int32), σ)
  )))))
def f_Model_tape_67 (k67 : Int32 × Int32 × ZM → Option (Int32 × ZM)) (x1 : Int32) (x4 : Int32) (σ : ZM) : Option (Int32 × ZM) :=
  if (60 : Int32) ≤ x4 then (
    some ((1 : Int32), σ)
  ) else (
    zck (zin (((60 : Int32) * x1) + x4) 360) (
    k67 (x1, (x4 + (1 : Int32)), (zsL σ 141 (((60 : Int32) * x1) + x4).toNatClampNeg (0 : Int64))))
  )
def F_Model_tape_67 (N : Nat) : Int32 × Int32 × ZM → Option (Int32 × ZM) := zlp (fun k67 a => f_Model_tape_67 k67 a.1 a.2.1 a.2.2) N
def f_Model_tape_63 (x1 : Int32) (y0 : Int32) (y1 : Int32) (σ : ZM) : Option (Int32 × ZM) :=
  zck (zin y1 6) (
  F_Model_tape_67 2000 (x1, (0 : Int32), (zsI σ 140 y1.toNatClampNeg y0)))
def f_Model_tape_42 (x1 : Int32) (x2 : Int32) (x3 : Int32) (σ : ZM) : Option (Int32 × ZM) :=
  zck (zin x1 6) (
  if 0 ≤ x2 then (
    f_Model_tape_63 x1 x3 x1 (zsI σ 139 x1.toNatClampNeg x2)
  ) else (
    f_Model_tape_63 x1 (0 : Int32) x1 (zsI σ 139 x1.toNatClampNeg x2)
  ))
def f_Model_tape_31 (x1 : Int32) (x2 : Int32) (x3 : Int32) (σ : ZM) : Option (Int32 × ZM) :=
  if x2 < 0 then (
    f_Model_tape_42 x1 x2 x3 σ
  ) else (
    if 0 ≤ x3 then (
      f_Model_tape_42 x1 x2 x3 σ
    ) else (
      some ((-14 : Int32), σ)
    )
  )
def f_Model_tape (x1 : Int32) (x2 : Int32) (x3 : Int32) (σ : ZM) : Option (Int32 × ZM) :=
  zbd (f_Model_isTape x1 σ) fun v1 s2 => (
  if v1 = 0 then (
    some ((-1 : Int32), s2)
  ) else (
    zbd (f_Model_isIn x2 (-1 : Int32) (4 : Int32) s2) fun v5 s6 => (
    if v5 = 0 then (
      some ((-2 : Int32), s6)
    ) else (
      if x2 < 0 then (
        f_Model_tape_31 x1 x2 x3 s6
      ) else (
        if x3 ≤ (60 : Int32) then (
          f_Model_tape_31 x1 x2 x3 s6
        ) else (
          some ((-2 : Int32), s6)
        )
      )
    ))
  ))
def f_Model_kept (x0 : Int32) (x1 : Int64) (σ : ZM) : Option (Int64 × ZM) :=
  if x0 = (0 : Int32) then (
    some (x1.toInt32.toInt8.toInt32.toInt64, σ)
  ) else (
  if x0 = (1 : Int32) then (
    some (x1.toInt32.toInt16.toInt32.toInt64, σ)
  ) else (
  if x0 = (2 : Int32) then (
    some (x1.toInt32.toInt64, σ)
  ) else (
  if x0 = (3 : Int32) then (
    some (x1, σ)
  ) else (
    if (lg_cmp x1 (0 : Int64)) = 0 then (
      some ((0 : Int64), σ)
    ) else (
      some ((1 : Int64), σ)
    )
  ))))
def f_Model_item (x1 : Int32) (x2 : Int32) (x3 : Int64) (σ : ZM) : Option (Int32 × ZM) :=
  zbd (f_Model_isTape x1 σ) fun v1 s2 => (
  if v1 = 0 then (
    some ((-1 : Int32), s2)
  ) else (
    zck (zin x1 6) (
    if 0 ≤ (zI s2 139 x1.toNatClampNeg) then (
      zck (zin x1 6) (
      zbd (f_Model_isIn x2 (0 : Int32) ((zI s2 140 x1.toNatClampNeg) - (1 : Int32)) s2) fun v8 s9 => (
      if v8 = 0 then (
        some ((-13 : Int32), s9)
      ) else (
        zck (zin x1 6) (
        zbd (f_Model_kept (zI s9 139 x1.toNatClampNeg) x3 s9) fun v13 s14 => (
        zck (zin (((60 : Int32) * x1) + x2) 360) (
        some ((1 : Int32), (zsL s14 141 (((60 : Int32) * x1) + x2).toNatClampNeg v13)))))
      )))
    ) else (
      some ((-11 : Int32), s2)
    ))
  ))
def f_Model_read_46  (σ : ZM) : Option (Int64 × ZM) :=
  some ((-9223372036854775808 : Int64), σ)
def f_Model_read (x1 : Int32) (x2 : Int32) (σ : ZM) : Option (Int64 × ZM) :=
  zbd (f_Model_isTape x1 σ) fun v1 s2 => (
  if v1 = 0 then (
    f_Model_read_46 s2
  ) else (
    zck (zin x1 6) (
    if (zI s2 139 x1.toNatClampNeg) < 0 then (
      f_Model_read_46 s2
    ) else (
      zck (zin x1 6) (
      zbd (f_Model_isIn x2 (0 : Int32) ((zI s2 140 x1.toNatClampNeg) - (1 : Int32)) s2) fun v8 s9 => (
      if v8 = 0 then (
        f_Model_read_46 s9
      ) else (
        zck (zin (((60 : Int32) * x1) + x2) 360) (
        some (zL s9 141 (((60 : Int32) * x1) + x2).toNatClampNeg, s9))
      )))
    ))
  ))
def f_Model_shift_127 (k102 : Int32 × Int32 × Int32 × Int32 × Int32 × Int32 × ZM → Option (Int32 × ZM)) (x1 : Int32) (x2 : Int32) (x3 : Int32) (x4 : Int32) (x5 : Int32) (x6 : Int32) (y0 : Int32) (σ : ZM) : Option (Int32 × ZM) :=
  zck (zin ((((60 : Int32) * x1) + x2) + y0) 360) (
  zck (zin ((((60 : Int32) * x3) + x4) + y0) 360) (
  k102 (x1, x2, x3, x4, x5, (x6 + (1 : Int32)), (zsL σ 141 ((((60 : Int32) * x3) + x4) + y0).toNatClampNeg (zL σ 141 ((((60 : Int32) * x1) + x2) + y0).toNatClampNeg)))))
def f_Model_shift_102 (k102 : Int32 × Int32 × Int32 × Int32 × Int32 × Int32 × ZM → Option (Int32 × ZM)) (x1 : Int32) (x2 : Int32) (x3 : Int32) (x4 : Int32) (x5 : Int32) (x6 : Int32) (σ : ZM) : Option (Int32 × ZM) :=
  if x5 ≤ x6 then (
    some (x5, σ)
  ) else (
    if x2 ≤ x4 then (
      f_Model_shift_127 k102 x1 x2 x3 x4 x5 x6 ((x5 - (1 : Int32)) - x6) σ
    ) else (
      f_Model_shift_127 k102 x1 x2 x3 x4 x5 x6 x6 σ
    )
  )
def F_Model_shift_102 (N : Nat) : Int32 × Int32 × Int32 × Int32 × Int32 × Int32 × ZM → Option (Int32 × ZM) := zlp (fun k102 a => f_Model_shift_102 k102 a.1 a.2.1 a.2.2.1 a.2.2.2.1 a.2.2.2.2.1 a.2.2.2.2.2.1 a.2.2.2.2.2.2) N
def f_Model_shift (x1 : Int32) (x2 : Int32) (x3 : Int32) (x4 : Int32) (x5 : Int32) (σ : ZM) : Option (Int32 × ZM) :=
  zbd (f_Model_isTape x1 σ) fun v1 s2 => (
  if v1 = 0 then (
    some ((-1 : Int32), s2)
  ) else (
    zbd (f_Model_isTape x3 s2) fun v5 s6 => (
    if v5 = 0 then (
      some ((-1 : Int32), s6)
    ) else (
      zck (zin x1 6) (
      if (zI s6 139 x1.toNatClampNeg) < 0 then (
        some ((-11 : Int32), s6)
      ) else (
        zck (zin x3 6) (
        if 0 ≤ (zI s6 139 x3.toNatClampNeg) then (
          zck (zin x1 6) (
          zck (zin x3 6) (
          if (zI s6 139 x1.toNatClampNeg) = (zI s6 139 x3.toNatClampNeg) then (
            if x5 < 0 then (
              some ((-13 : Int32), s6)
            ) else (
              if x2 < 0 then (
                some ((-13 : Int32), s6)
              ) else (
                if x4 < 0 then (
                  some ((-13 : Int32), s6)
                ) else (
                  zck (zin x1 6) (
                  if ((zI s6 140 x1.toNatClampNeg) - x2) < x5 then (
                    some ((-13 : Int32), s6)
                  ) else (
                    zck (zin x3 6) (
                    if x5 ≤ ((zI s6 140 x3.toNatClampNeg) - x4) then (
                      F_Model_shift_102 2000 (x1, x2, x3, x4, x5, (0 : Int32), s6)
                    ) else (
                      some ((-13 : Int32), s6)
                    ))
                  ))
                )
              )
            )
          ) else (
            some ((-12 : Int32), s6)
          )))
        ) else (
          some ((-11 : Int32), s6)
        ))
      ))
    ))
  ))
end
section
/-! words of the tables, methods, what a call asks of them -/
theorem q_in {w : Cond} (h : w ∈ tables_1) (hg : goodWord w = true) : w ∈ zW0 := List.mem_filter.mpr ⟨(show w ∈ k2_sels lw_privs ++ tables_1 from List.mem_append_right _ h), hg⟩
theorem q_is {w : Cond} (h : w ∈ k2_sels lw_privs) (hg : goodWord w = true) : w ∈ zW0 := List.mem_filter.mpr ⟨(show w ∈ k2_sels lw_privs ++ tables_1 from List.mem_append_left _ h), hg⟩
theorem q_1 : (Jvm.Cond.initialized "BakedBefore") ∈ zW0 := q_in (List.mem_of_getElem? (i := 1) (by decide +kernel)) (by decide +kernel)
theorem q_2 : (Jvm.Cond.initialized "BakedBefore$Stand") ∈ zW0 := q_in (List.mem_of_getElem? (i := 2) (by decide +kernel)) (by decide +kernel)
theorem q_3 : (Jvm.Cond.initialized "BakedBefore$Oven") ∈ zW0 := q_in (List.mem_of_getElem? (i := 3) (by decide +kernel)) (by decide +kernel)
theorem q_4 : (Jvm.Cond.initialized "BakedBefore$Book") ∈ zW0 := q_in (List.mem_of_getElem? (i := 4) (by decide +kernel)) (by decide +kernel)
theorem q_5 : (Jvm.Cond.initialized "BakedBefore$Loaf") ∈ zW0 := q_in (List.mem_of_getElem? (i := 5) (by decide +kernel)) (by decide +kernel)
theorem q_6 : (Jvm.Cond.initialized "BakedBefore$Reade\x72") ∈ zW0 := q_in (List.mem_of_getElem? (i := 6) (by decide +kernel)) (by decide +kernel)
theorem q_7 : (Jvm.Cond.initialized "BakedBefore$Kiln") ∈ zW0 := q_in (List.mem_of_getElem? (i := 7) (by decide +kernel)) (by decide +kernel)
theorem q_8 : (Jvm.Cond.initialized "BakedBefore$Bake\x72") ∈ zW0 := q_in (List.mem_of_getElem? (i := 8) (by decide +kernel)) (by decide +kernel)
theorem q_9 : (Jvm.Cond.initialized "BakedBefore$Aske\x72") ∈ zW0 := q_in (List.mem_of_getElem? (i := 9) (by decide +kernel)) (by decide +kernel)
theorem q_10 : (Jvm.Cond.initialized "BakedBefore$Search") ∈ zW0 := q_in (List.mem_of_getElem? (i := 10) (by decide +kernel)) (by decide +kernel)
theorem q_11 : (Jvm.Cond.initialized "BakedBefore$Acts") ∈ zW0 := q_in (List.mem_of_getElem? (i := 11) (by decide +kernel)) (by decide +kernel)
theorem q_12 : (Jvm.Cond.initialized "BakedBefore$Tapes") ∈ zW0 := q_in (List.mem_of_getElem? (i := 12) (by decide +kernel)) (by decide +kernel)
theorem q_13 : (Jvm.Cond.initialized "BakedBeforeModel") ∈ zW0 := q_in (List.mem_of_getElem? (i := 13) (by decide +kernel)) (by decide +kernel)
theorem q_14 : (Jvm.Cond.initialized "java/lang/Math") ∈ zW0 := q_in (List.mem_of_getElem? (i := 14) (by decide +kernel)) (by decide +kernel)
theorem q_19 : (Jvm.Cond.initialized "java/lang/Intege\x72") ∈ zW0 := q_in (List.mem_of_getElem? (i := 19) (by decide +kernel)) (by decide +kernel)
theorem q_43 : (Jvm.Cond.fieldLink "BakedBefore$Oven" (9 : Nat) "BakedBefore$Oven" "held" "[I") ∈ zW0 := q_in (List.mem_of_getElem? (i := 43) (by decide +kernel)) (by decide +kernel)
theorem q_44 : (Jvm.Cond.fieldLink "BakedBefore$Bake\x72" (50 : Nat) "BakedBefore$Oven" "held" "[I") ∈ zW0 := q_in (List.mem_of_getElem? (i := 44) (by decide +kernel)) (by decide +kernel)
theorem q_45 : (Jvm.Cond.fieldLink "BakedBefore" (144 : Nat) "BakedBefore$Oven" "held" "[I") ∈ zW0 := q_in (List.mem_of_getElem? (i := 45) (by decide +kernel)) (by decide +kernel)
theorem q_46 : (Jvm.Cond.fieldLink "BakedBefore$Tapes" (35 : Nat) "BakedBefore$Oven" "held" "[I") ∈ zW0 := q_in (List.mem_of_getElem? (i := 46) (by decide +kernel)) (by decide +kernel)
theorem q_47 : (Jvm.Cond.fieldLink "BakedBefore$Aske\x72" (105 : Nat) "BakedBefore$Oven" "held" "[I") ∈ zW0 := q_in (List.mem_of_getElem? (i := 47) (by decide +kernel)) (by decide +kernel)
theorem q_48 : (Jvm.Cond.fieldLink "BakedBefore$Oven" (15 : Nat) "BakedBefore$Oven" "hou\x72" "I") ∈ zW0 := q_in (List.mem_of_getElem? (i := 48) (by decide +kernel)) (by decide +kernel)
theorem q_49 : (Jvm.Cond.fieldLink "BakedBefore$Bake\x72" (55 : Nat) "BakedBefore$Oven" "hou\x72" "I") ∈ zW0 := q_in (List.mem_of_getElem? (i := 49) (by decide +kernel)) (by decide +kernel)
theorem q_50 : (Jvm.Cond.fieldLink "BakedBefore" (116 : Nat) "BakedBefore$Oven" "hou\x72" "I") ∈ zW0 := q_in (List.mem_of_getElem? (i := 50) (by decide +kernel)) (by decide +kernel)
theorem q_51 : (Jvm.Cond.fieldLink "BakedBefore$Aske\x72" (80 : Nat) "BakedBefore$Oven" "hou\x72" "I") ∈ zW0 := q_in (List.mem_of_getElem? (i := 51) (by decide +kernel)) (by decide +kernel)
theorem q_64 : (Jvm.Cond.fieldLink "BakedBefore$Book" (11 : Nat) "BakedBefore$Book" "loaves" "[I") ∈ zW0 := q_in (List.mem_of_getElem? (i := 64) (by decide +kernel)) (by decide +kernel)
theorem q_65 : (Jvm.Cond.fieldLink "BakedBefore$Aske\x72" (121 : Nat) "BakedBefore$Book" "loaves" "[I") ∈ zW0 := q_in (List.mem_of_getElem? (i := 65) (by decide +kernel)) (by decide +kernel)
theorem q_66 : (Jvm.Cond.fieldLink "BakedBefore$Book" (15 : Nat) "BakedBefore$Book" "spoiled" "[Z") ∈ zW0 := q_in (List.mem_of_getElem? (i := 66) (by decide +kernel)) (by decide +kernel)
theorem q_67 : (Jvm.Cond.fieldLink "BakedBefore$Aske\x72" (123 : Nat) "BakedBefore$Book" "spoiled" "[Z") ∈ zW0 := q_in (List.mem_of_getElem? (i := 67) (by decide +kernel)) (by decide +kernel)
theorem q_68 : (Jvm.Cond.fieldLink "BakedBefore$Book" (19 : Nat) "BakedBefore$Book" "rows" "I") ∈ zW0 := q_in (List.mem_of_getElem? (i := 68) (by decide +kernel)) (by decide +kernel)
theorem q_69 : (Jvm.Cond.fieldLink "BakedBefore$Aske\x72" (116 : Nat) "BakedBefore$Book" "rows" "I") ∈ zW0 := q_in (List.mem_of_getElem? (i := 69) (by decide +kernel)) (by decide +kernel)
theorem q_70 : (Jvm.Cond.fieldLink "BakedBefore" (241 : Nat) "BakedBefore$Book" "rows" "I") ∈ zW0 := q_in (List.mem_of_getElem? (i := 70) (by decide +kernel)) (by decide +kernel)
theorem q_85 : (Jvm.Cond.fieldLink "BakedBefore$Acts" (44 : Nat) "BakedBefore$Loaf" "numbe\x72" "I") ∈ zW0 := q_in (List.mem_of_getElem? (i := 85) (by decide +kernel)) (by decide +kernel)
theorem q_86 : (Jvm.Cond.fieldLink "BakedBefore$Kiln" (42 : Nat) "BakedBefore$Loaf" "numbe\x72" "I") ∈ zW0 := q_in (List.mem_of_getElem? (i := 86) (by decide +kernel)) (by decide +kernel)
theorem q_87 : (Jvm.Cond.fieldLink "BakedBefore$Loaf" (9 : Nat) "BakedBefore$Loaf" "gives" "[I") ∈ zW0 := q_in (List.mem_of_getElem? (i := 87) (by decide +kernel)) (by decide +kernel)
theorem q_88 : (Jvm.Cond.fieldLink "BakedBefore" (99 : Nat) "BakedBefore$Loaf" "gives" "[I") ∈ zW0 := q_in (List.mem_of_getElem? (i := 88) (by decide +kernel)) (by decide +kernel)
theorem q_89 : (Jvm.Cond.fieldLink "BakedBefore$Bake\x72" (69 : Nat) "BakedBefore$Loaf" "gives" "[I") ∈ zW0 := q_in (List.mem_of_getElem? (i := 89) (by decide +kernel)) (by decide +kernel)
theorem q_90 : (Jvm.Cond.fieldLink "BakedBefore$Loaf" (15 : Nat) "BakedBefore$Loaf" "bears" "[I") ∈ zW0 := q_in (List.mem_of_getElem? (i := 90) (by decide +kernel)) (by decide +kernel)
theorem q_91 : (Jvm.Cond.fieldLink "BakedBefore" (103 : Nat) "BakedBefore$Loaf" "bears" "[I") ∈ zW0 := q_in (List.mem_of_getElem? (i := 91) (by decide +kernel)) (by decide +kernel)
theorem q_92 : (Jvm.Cond.fieldLink "BakedBefore$Bake\x72" (34 : Nat) "BakedBefore$Loaf" "bears" "[I") ∈ zW0 := q_in (List.mem_of_getElem? (i := 92) (by decide +kernel)) (by decide +kernel)
theorem q_93 : (Jvm.Cond.fieldLink "BakedBefore$Loaf" (22 : Nat) "BakedBefore$Loaf" "kind" "I") ∈ zW0 := q_in (List.mem_of_getElem? (i := 93) (by decide +kernel)) (by decide +kernel)
theorem q_94 : (Jvm.Cond.fieldLink "BakedBefore$Acts" (19 : Nat) "BakedBefore$Loaf" "kind" "I") ∈ zW0 := q_in (List.mem_of_getElem? (i := 94) (by decide +kernel)) (by decide +kernel)
theorem q_95 : (Jvm.Cond.fieldLink "BakedBefore$Bake\x72" (29 : Nat) "BakedBefore$Loaf" "kind" "I") ∈ zW0 := q_in (List.mem_of_getElem? (i := 95) (by decide +kernel)) (by decide +kernel)
theorem q_96 : (Jvm.Cond.fieldLink "BakedBefore" (106 : Nat) "BakedBefore$Loaf" "kind" "I") ∈ zW0 := q_in (List.mem_of_getElem? (i := 96) (by decide +kernel)) (by decide +kernel)
theorem q_97 : (Jvm.Cond.fieldLink "BakedBefore$Kiln" (47 : Nat) "BakedBefore$Loaf" "kind" "I") ∈ zW0 := q_in (List.mem_of_getElem? (i := 97) (by decide +kernel)) (by decide +kernel)
theorem q_98 : (Jvm.Cond.fieldLink "BakedBefore$Loaf" (25 : Nat) "BakedBefore$Loaf" "v" "I") ∈ zW0 := q_in (List.mem_of_getElem? (i := 98) (by decide +kernel)) (by decide +kernel)
theorem q_99 : (Jvm.Cond.fieldLink "BakedBefore$Bake\x72" (44 : Nat) "BakedBefore$Loaf" "v" "I") ∈ zW0 := q_in (List.mem_of_getElem? (i := 99) (by decide +kernel)) (by decide +kernel)
theorem q_100 : (Jvm.Cond.fieldLink "BakedBefore$Acts" (47 : Nat) "BakedBefore$Loaf" "v" "I") ∈ zW0 := q_in (List.mem_of_getElem? (i := 100) (by decide +kernel)) (by decide +kernel)
theorem q_101 : (Jvm.Cond.fieldLink "BakedBefore" (109 : Nat) "BakedBefore$Loaf" "v" "I") ∈ zW0 := q_in (List.mem_of_getElem? (i := 101) (by decide +kernel)) (by decide +kernel)
theorem q_102 : (Jvm.Cond.fieldLink "BakedBefore$Kiln" (50 : Nat) "BakedBefore$Loaf" "v" "I") ∈ zW0 := q_in (List.mem_of_getElem? (i := 102) (by decide +kernel)) (by decide +kernel)
theorem q_114 : (Jvm.Cond.fieldLink "BakedBefore$Stand" (11 : Nat) "BakedBefore$Stand" "loaves" "[LBakedBefore$Loaf;") ∈ zW0 := q_in (List.mem_of_getElem? (i := 114) (by decide +kernel)) (by decide +kernel)
theorem q_115 : (Jvm.Cond.fieldLink "BakedBefore$Aske\x72" (39 : Nat) "BakedBefore$Stand" "loaves" "[LBakedBefore$Loaf;") ∈ zW0 := q_in (List.mem_of_getElem? (i := 115) (by decide +kernel)) (by decide +kernel)
theorem q_116 : (Jvm.Cond.fieldLink "BakedBefore" (82 : Nat) "BakedBefore$Stand" "loaves" "[LBakedBefore$Loaf;") ∈ zW0 := q_in (List.mem_of_getElem? (i := 116) (by decide +kernel)) (by decide +kernel)
theorem q_117 : (Jvm.Cond.fieldLink "BakedBefore$Search" (67 : Nat) "BakedBefore$Stand" "loaves" "[LBakedBefore$Loaf;") ∈ zW0 := q_in (List.mem_of_getElem? (i := 117) (by decide +kernel)) (by decide +kernel)
theorem q_118 : (Jvm.Cond.fieldLink "BakedBefore$Stand" (20 : Nat) "BakedBefore$Stand" "oven" "LBakedBefore$Oven;") ∈ zW0 := q_in (List.mem_of_getElem? (i := 118) (by decide +kernel)) (by decide +kernel)
theorem q_119 : (Jvm.Cond.fieldLink "BakedBefore$Aske\x72" (30 : Nat) "BakedBefore$Stand" "oven" "LBakedBefore$Oven;") ∈ zW0 := q_in (List.mem_of_getElem? (i := 119) (by decide +kernel)) (by decide +kernel)
theorem q_120 : (Jvm.Cond.fieldLink "BakedBefore$Search" (46 : Nat) "BakedBefore$Stand" "oven" "LBakedBefore$Oven;") ∈ zW0 := q_in (List.mem_of_getElem? (i := 120) (by decide +kernel)) (by decide +kernel)
theorem q_121 : (Jvm.Cond.fieldLink "BakedBefore" (112 : Nat) "BakedBefore$Stand" "oven" "LBakedBefore$Oven;") ∈ zW0 := q_in (List.mem_of_getElem? (i := 121) (by decide +kernel)) (by decide +kernel)
theorem q_122 : (Jvm.Cond.fieldLink "BakedBefore$Stand" (27 : Nat) "BakedBefore$Stand" "book" "LBakedBefore$Book;") ∈ zW0 := q_in (List.mem_of_getElem? (i := 122) (by decide +kernel)) (by decide +kernel)
theorem q_123 : (Jvm.Cond.fieldLink "BakedBefore$Aske\x72" (112 : Nat) "BakedBefore$Stand" "book" "LBakedBefore$Book;") ∈ zW0 := q_in (List.mem_of_getElem? (i := 123) (by decide +kernel)) (by decide +kernel)
theorem q_124 : (Jvm.Cond.fieldLink "BakedBefore" (237 : Nat) "BakedBefore$Stand" "book" "LBakedBefore$Book;") ∈ zW0 := q_in (List.mem_of_getElem? (i := 124) (by decide +kernel)) (by decide +kernel)
theorem q_125 : (Jvm.Cond.fieldLink "BakedBefore$Stand" (38 : Nat) "BakedBefore$Stand" "many" "I") ∈ zW0 := q_in (List.mem_of_getElem? (i := 125) (by decide +kernel)) (by decide +kernel)
theorem q_126 : (Jvm.Cond.fieldLink "BakedBefore" (78 : Nat) "BakedBefore$Stand" "many" "I") ∈ zW0 := q_in (List.mem_of_getElem? (i := 126) (by decide +kernel)) (by decide +kernel)
theorem q_127 : (Jvm.Cond.fieldLink "BakedBefore$Search" (64 : Nat) "BakedBefore$Stand" "many" "I") ∈ zW0 := q_in (List.mem_of_getElem? (i := 127) (by decide +kernel)) (by decide +kernel)
theorem q_128 : (Jvm.Cond.fieldLink "BakedBefore$Aske\x72" (65 : Nat) "BakedBefore$Stand" "many" "I") ∈ zW0 := q_in (List.mem_of_getElem? (i := 128) (by decide +kernel)) (by decide +kernel)
theorem q_129 : (Jvm.Cond.fieldLink "BakedBefore$Stand" (31 : Nat) "BakedBefore$Stand" "holding" "I") ∈ zW0 := q_in (List.mem_of_getElem? (i := 129) (by decide +kernel)) (by decide +kernel)
theorem q_130 : (Jvm.Cond.fieldLink "BakedBefore" (158 : Nat) "BakedBefore$Stand" "holding" "I") ∈ zW0 := q_in (List.mem_of_getElem? (i := 130) (by decide +kernel)) (by decide +kernel)
theorem q_148 : (Jvm.Cond.fieldLink "BakedBefore$Reade\x72" (11 : Nat) "BakedBefore$Reade\x72" "text" "[I") ∈ zW0 := q_in (List.mem_of_getElem? (i := 148) (by decide +kernel)) (by decide +kernel)
theorem q_149 : (Jvm.Cond.fieldLink "BakedBefore$Reade\x72" (15 : Nat) "BakedBefore$Reade\x72" "length" "I") ∈ zW0 := q_in (List.mem_of_getElem? (i := 149) (by decide +kernel)) (by decide +kernel)
theorem q_150 : (Jvm.Cond.fieldLink "BakedBefore" (279 : Nat) "BakedBefore$Reade\x72" "length" "I") ∈ zW0 := q_in (List.mem_of_getElem? (i := 150) (by decide +kernel)) (by decide +kernel)
theorem q_151 : (Jvm.Cond.fieldLink "BakedBefore$Reade\x72" (28 : Nat) "BakedBefore$Reade\x72" "at" "I") ∈ zW0 := q_in (List.mem_of_getElem? (i := 151) (by decide +kernel)) (by decide +kernel)
theorem q_152 : (Jvm.Cond.fieldLink "BakedBefore$Reade\x72" (58 : Nat) "BakedBefore$Reade\x72" "numbe\x72" "I") ∈ zW0 := q_in (List.mem_of_getElem? (i := 152) (by decide +kernel)) (by decide +kernel)
theorem q_153 : (Jvm.Cond.fieldLink "BakedBefore$Reade\x72" (19 : Nat) "BakedBefore$Reade\x72" "kiln" "LBakedBefore$Kiln;") ∈ zW0 := q_in (List.mem_of_getElem? (i := 153) (by decide +kernel)) (by decide +kernel)
theorem q_172 : (Jvm.Cond.fieldLink "BakedBefore$Kiln" (11 : Nat) "BakedBefore$Kiln" "words" "[I") ∈ zW0 := q_in (List.mem_of_getElem? (i := 172) (by decide +kernel)) (by decide +kernel)
theorem q_173 : (Jvm.Cond.fieldLink "BakedBefore$Kiln" (15 : Nat) "BakedBefore$Kiln" "numbers" "[I") ∈ zW0 := q_in (List.mem_of_getElem? (i := 173) (by decide +kernel)) (by decide +kernel)
theorem q_174 : (Jvm.Cond.fieldLink "BakedBefore$Kiln" (18 : Nat) "BakedBefore$Kiln" "ends" "[I") ∈ zW0 := q_in (List.mem_of_getElem? (i := 174) (by decide +kernel)) (by decide +kernel)
theorem q_175 : (Jvm.Cond.fieldLink "BakedBefore$Kiln" (23 : Nat) "BakedBefore$Kiln" "steps" "[I") ∈ zW0 := q_in (List.mem_of_getElem? (i := 175) (by decide +kernel)) (by decide +kernel)
theorem q_176 : (Jvm.Cond.fieldLink "BakedBefore$Kiln" (26 : Nat) "BakedBefore$Kiln" "letters" "[I") ∈ zW0 := q_in (List.mem_of_getElem? (i := 176) (by decide +kernel)) (by decide +kernel)
theorem q_177 : (Jvm.Cond.fieldLink "BakedBefore$Kiln" (33 : Nat) "BakedBefore$Kiln" "clauses" "I") ∈ zW0 := q_in (List.mem_of_getElem? (i := 177) (by decide +kernel)) (by decide +kernel)
theorem q_178 : (Jvm.Cond.fieldLink "BakedBefore$Kiln" (36 : Nat) "BakedBefore$Kiln" "stepCount" "I") ∈ zW0 := q_in (List.mem_of_getElem? (i := 178) (by decide +kernel)) (by decide +kernel)
theorem q_179 : (Jvm.Cond.fieldLink "BakedBefore$Bake\x72" (15 : Nat) "BakedBefore$Kiln" "takeClauses" "I") ∈ zW0 := q_in (List.mem_of_getElem? (i := 179) (by decide +kernel)) (by decide +kernel)
theorem q_180 : (Jvm.Cond.fieldLink "BakedBefore$Kiln" (39 : Nat) "BakedBefore$Kiln" "takeClauses" "I") ∈ zW0 := q_in (List.mem_of_getElem? (i := 180) (by decide +kernel)) (by decide +kernel)
theorem q_181 : (Jvm.Cond.fieldLink "BakedBefore$Kiln" (29 : Nat) "BakedBefore$Kiln" "coldPart" "I") ∈ zW0 := q_in (List.mem_of_getElem? (i := 181) (by decide +kernel)) (by decide +kernel)
theorem q_182 : (Jvm.Cond.fieldLink "BakedBefore$Bake\x72" (78 : Nat) "BakedBefore$Kiln" "coldPart" "I") ∈ zW0 := q_in (List.mem_of_getElem? (i := 182) (by decide +kernel)) (by decide +kernel)
theorem q_183 : (Jvm.Cond.fieldLink "BakedBefore" (164 : Nat) "BakedBefore$Kiln" "coldPart" "I") ∈ zW0 := q_in (List.mem_of_getElem? (i := 183) (by decide +kernel)) (by decide +kernel)
theorem q_209 : (Jvm.Cond.fieldLink "BakedBefore$Bake\x72" (9 : Nat) "BakedBefore$Bake\x72" "kiln" "LBakedBefore$Kiln;") ∈ zW0 := q_in (List.mem_of_getElem? (i := 209) (by decide +kernel)) (by decide +kernel)
theorem q_210 : (Jvm.Cond.fieldLink "BakedBefore" (161 : Nat) "BakedBefore$Bake\x72" "kiln" "LBakedBefore$Kiln;") ∈ zW0 := q_in (List.mem_of_getElem? (i := 210) (by decide +kernel)) (by decide +kernel)
theorem q_222 : (Jvm.Cond.fieldLink "BakedBefore$Aske\x72" (22 : Nat) "BakedBefore$Aske\x72" "now" "LBakedBefore$Stand;") ∈ zW0 := q_in (List.mem_of_getElem? (i := 222) (by decide +kernel)) (by decide +kernel)
theorem q_223 : (Jvm.Cond.fieldLink "BakedBefore$Aske\x72" (26 : Nat) "BakedBefore$Aske\x72" "bake\x72" "LBakedBefore$Baker;") ∈ zW0 := q_in (List.mem_of_getElem? (i := 223) (by decide +kernel)) (by decide +kernel)
theorem q_224 : (Jvm.Cond.fieldLink "BakedBefore$Aske\x72" (12 : Nat) "BakedBefore$Aske\x72" "trial" "LBakedBefore$Oven;") ∈ zW0 := q_in (List.mem_of_getElem? (i := 224) (by decide +kernel)) (by decide +kernel)
theorem q_225 : (Jvm.Cond.fieldLink "BakedBefore$Aske\x72" (18 : Nat) "BakedBefore$Aske\x72" "spoiledOf" "[I") ∈ zW0 := q_in (List.mem_of_getElem? (i := 225) (by decide +kernel)) (by decide +kernel)
theorem q_244 : (Jvm.Cond.fieldLink "BakedBefore$Search" (24 : Nat) "BakedBefore$Search" "now" "LBakedBefore$Stand;") ∈ zW0 := q_in (List.mem_of_getElem? (i := 244) (by decide +kernel)) (by decide +kernel)
theorem q_245 : (Jvm.Cond.fieldLink "BakedBefore$Search" (28 : Nat) "BakedBefore$Search" "bake\x72" "LBakedBefore$Baker;") ∈ zW0 := q_in (List.mem_of_getElem? (i := 245) (by decide +kernel)) (by decide +kernel)
theorem q_246 : (Jvm.Cond.fieldLink "BakedBefore$Search" (13 : Nat) "BakedBefore$Search" "ovens" "[LBakedBefore$Oven;") ∈ zW0 := q_in (List.mem_of_getElem? (i := 246) (by decide +kernel)) (by decide +kernel)
theorem q_247 : (Jvm.Cond.fieldLink "BakedBefore$Search" (17 : Nat) "BakedBefore$Search" "row" "[I") ∈ zW0 := q_in (List.mem_of_getElem? (i := 247) (by decide +kernel)) (by decide +kernel)
theorem q_248 : (Jvm.Cond.fieldLink "BakedBefore$Search" (21 : Nat) "BakedBefore$Search" "best" "[I") ∈ zW0 := q_in (List.mem_of_getElem? (i := 248) (by decide +kernel)) (by decide +kernel)
theorem q_249 : (Jvm.Cond.fieldLink "BakedBefore" (193 : Nat) "BakedBefore$Search" "best" "[I") ∈ zW0 := q_in (List.mem_of_getElem? (i := 249) (by decide +kernel)) (by decide +kernel)
theorem q_250 : (Jvm.Cond.fieldLink "BakedBefore$Search" (39 : Nat) "BakedBefore$Search" "length" "I") ∈ zW0 := q_in (List.mem_of_getElem? (i := 250) (by decide +kernel)) (by decide +kernel)
theorem q_251 : (Jvm.Cond.fieldLink "BakedBefore" (190 : Nat) "BakedBefore$Search" "length" "I") ∈ zW0 := q_in (List.mem_of_getElem? (i := 251) (by decide +kernel)) (by decide +kernel)
theorem q_252 : (Jvm.Cond.fieldLink "BakedBefore$Search" (43 : Nat) "BakedBefore$Search" "fewest" "I") ∈ zW0 := q_in (List.mem_of_getElem? (i := 252) (by decide +kernel)) (by decide +kernel)
theorem q_253 : (Jvm.Cond.fieldLink "BakedBefore" (187 : Nat) "BakedBefore$Search" "fewest" "I") ∈ zW0 := q_in (List.mem_of_getElem? (i := 253) (by decide +kernel)) (by decide +kernel)
theorem q_275 : (Jvm.Cond.fieldLink "BakedBefore$Acts" (11 : Nat) "BakedBefore$Acts" "bodies" "[I") ∈ zW0 := q_in (List.mem_of_getElem? (i := 275) (by decide +kernel)) (by decide +kernel)
theorem q_276 : (Jvm.Cond.fieldLink "BakedBefore" (273 : Nat) "BakedBefore$Acts" "bodies" "[I") ∈ zW0 := q_in (List.mem_of_getElem? (i := 276) (by decide +kernel)) (by decide +kernel)
theorem q_277 : (Jvm.Cond.fieldLink "BakedBefore$Acts" (15 : Nat) "BakedBefore$Acts" "ran" "I") ∈ zW0 := q_in (List.mem_of_getElem? (i := 277) (by decide +kernel)) (by decide +kernel)
theorem q_278 : (Jvm.Cond.fieldLink "BakedBefore" (267 : Nat) "BakedBefore$Acts" "ran" "I") ∈ zW0 := q_in (List.mem_of_getElem? (i := 278) (by decide +kernel)) (by decide +kernel)
theorem q_292 : (Jvm.Cond.fieldLink "BakedBefore$Tapes" (13 : Nat) "BakedBefore$Tapes" "rows" "[[J") ∈ zW0 := q_in (List.mem_of_getElem? (i := 292) (by decide +kernel)) (by decide +kernel)
theorem q_293 : (Jvm.Cond.fieldLink "BakedBefore$Tapes" (16 : Nat) "BakedBefore$Tapes" "sorts" "[I") ∈ zW0 := q_in (List.mem_of_getElem? (i := 293) (by decide +kernel)) (by decide +kernel)
theorem q_294 : (Jvm.Cond.fieldLink "BakedBefore$Tapes" (20 : Nat) "BakedBefore$Tapes" "lengths" "[I") ∈ zW0 := q_in (List.mem_of_getElem? (i := 294) (by decide +kernel)) (by decide +kernel)
theorem q_303 : (Jvm.Cond.fieldLink "BakedBefore" (12 : Nat) "BakedBefore" "now" "LBakedBefore$Stand;") ∈ zW0 := q_in (List.mem_of_getElem? (i := 303) (by decide +kernel)) (by decide +kernel)
theorem q_304 : (Jvm.Cond.fieldLink "BakedBefore" (18 : Nat) "BakedBefore" "kept" "LBakedBefore$Stand;") ∈ zW0 := q_in (List.mem_of_getElem? (i := 304) (by decide +kernel)) (by decide +kernel)
theorem q_305 : (Jvm.Cond.fieldLink "BakedBefore" (24 : Nat) "BakedBefore" "reade\x72" "LBakedBefore$Reader;") ∈ zW0 := q_in (List.mem_of_getElem? (i := 305) (by decide +kernel)) (by decide +kernel)
theorem q_306 : (Jvm.Cond.fieldLink "BakedBefore" (30 : Nat) "BakedBefore" "kilns" "[LBakedBefore$Kiln;") ∈ zW0 := q_in (List.mem_of_getElem? (i := 306) (by decide +kernel)) (by decide +kernel)
theorem q_307 : (Jvm.Cond.fieldLink "BakedBefore" (35 : Nat) "BakedBefore" "blank" "LBakedBefore$Kiln;") ∈ zW0 := q_in (List.mem_of_getElem? (i := 307) (by decide +kernel)) (by decide +kernel)
theorem q_308 : (Jvm.Cond.fieldLink "BakedBefore" (44 : Nat) "BakedBefore" "bake\x72" "LBakedBefore$Baker;") ∈ zW0 := q_in (List.mem_of_getElem? (i := 308) (by decide +kernel)) (by decide +kernel)
theorem q_309 : (Jvm.Cond.fieldLink "BakedBefore" (53 : Nat) "BakedBefore" "aske\x72" "LBakedBefore$Asker;") ∈ zW0 := q_in (List.mem_of_getElem? (i := 309) (by decide +kernel)) (by decide +kernel)
theorem q_310 : (Jvm.Cond.fieldLink "BakedBefore" (60 : Nat) "BakedBefore" "search" "LBakedBefore$Search;") ∈ zW0 := q_in (List.mem_of_getElem? (i := 310) (by decide +kernel)) (by decide +kernel)
theorem q_311 : (Jvm.Cond.fieldLink "BakedBefore" (67 : Nat) "BakedBefore" "acts" "LBakedBefore$Acts;") ∈ zW0 := q_in (List.mem_of_getElem? (i := 311) (by decide +kernel)) (by decide +kernel)
theorem q_312 : (Jvm.Cond.fieldLink "BakedBefore" (74 : Nat) "BakedBefore" "tapes" "LBakedBefore$Tapes;") ∈ zW0 := q_in (List.mem_of_getElem? (i := 312) (by decide +kernel)) (by decide +kernel)
theorem q_313 : (Jvm.Cond.fieldLink "BakedBefore" (151 : Nat) "BakedBefore" "kilnCount" "I") ∈ zW0 := q_in (List.mem_of_getElem? (i := 313) (by decide +kernel)) (by decide +kernel)
theorem q_314 : (Jvm.Cond.fieldLink "BakedBefore" (263 : Nat) "BakedBefore" "imaged" "Z") ∈ zW0 := q_in (List.mem_of_getElem? (i := 314) (by decide +kernel)) (by decide +kernel)
theorem q_341 : (Jvm.Cond.instanceMethod ({ cls := "BakedBefore", name := "loaf", desc := "(II)I" } : Jvm.MethodName)) ∈ zW0 := q_in (List.mem_of_getElem? (i := 341) (by decide +kernel)) (by decide +kernel)
theorem q_342 : (Jvm.Cond.selects "BakedBefore" ({ cls := "BakedBefore", name := "loaf", desc := "(II)I" } : Jvm.MethodName) ({ cls := "BakedBefore", name := "loaf", desc := "(II)I" } : Jvm.MethodName)) ∈ zW0 := q_in (List.mem_of_getElem? (i := 342) (by decide +kernel)) (by decide +kernel)
theorem q_343 : (Jvm.Cond.code ({ cls := "BakedBefore", name := "loaf", desc := "(II)I" } : Jvm.MethodName) prog_1_method_2_code (3 : Nat) (Option.some Jvm.ClassFile.FieldType.int)) ∈ zW0 := q_in (List.mem_of_getElem? (i := 343) (by decide +kernel)) (by decide +kernel)
theorem q_344 : (Jvm.Cond.methodLink "BakedBefore" (86 : Nat) ({ cls := "BakedBefore$Loaf", name := "begin", desc := "(II)V" } : Jvm.MethodName)) ∈ zW0 := q_in (List.mem_of_getElem? (i := 344) (by decide +kernel)) (by decide +kernel)
theorem q_345 : (Jvm.Cond.instanceMethod ({ cls := "BakedBefore$Loaf", name := "begin", desc := "(II)V" } : Jvm.MethodName)) ∈ zW0 := q_in (List.mem_of_getElem? (i := 345) (by decide +kernel)) (by decide +kernel)
theorem q_346 : (Jvm.Cond.selects "BakedBefore$Loaf" ({ cls := "BakedBefore$Loaf", name := "begin", desc := "(II)V" } : Jvm.MethodName) ({ cls := "BakedBefore$Loaf", name := "begin", desc := "(II)V" } : Jvm.MethodName)) ∈ zW0 := q_in (List.mem_of_getElem? (i := 346) (by decide +kernel)) (by decide +kernel)
theorem q_347 : (Jvm.Cond.code ({ cls := "BakedBefore$Loaf", name := "begin", desc := "(II)V" } : Jvm.MethodName) prog_7_method_2_code (4 : Nat) (Option.none : Option Jvm.ClassFile.FieldType)) ∈ zW0 := q_in (List.mem_of_getElem? (i := 347) (by decide +kernel)) (by decide +kernel)
theorem q_349 : (Jvm.Cond.instanceMethod ({ cls := "BakedBefore", name := "set", desc := "(IIII)I" } : Jvm.MethodName)) ∈ zW0 := q_in (List.mem_of_getElem? (i := 349) (by decide +kernel)) (by decide +kernel)
theorem q_350 : (Jvm.Cond.selects "BakedBefore" ({ cls := "BakedBefore", name := "set", desc := "(IIII)I" } : Jvm.MethodName) ({ cls := "BakedBefore", name := "set", desc := "(IIII)I" } : Jvm.MethodName)) ∈ zW0 := q_in (List.mem_of_getElem? (i := 350) (by decide +kernel)) (by decide +kernel)
theorem q_351 : (Jvm.Cond.code ({ cls := "BakedBefore", name := "set", desc := "(IIII)I" } : Jvm.MethodName) prog_1_method_3_code (7 : Nat) (Option.some Jvm.ClassFile.FieldType.int)) ∈ zW0 := q_in (List.mem_of_getElem? (i := 351) (by decide +kernel)) (by decide +kernel)
theorem q_352 : (Jvm.Cond.methodLink "BakedBefore" (92 : Nat) ({ cls := "BakedBefore", name := "isLoaf", desc := "(I)Z" } : Jvm.MethodName)) ∈ zW0 := q_in (List.mem_of_getElem? (i := 352) (by decide +kernel)) (by decide +kernel)
theorem q_354 : (Jvm.Cond.instanceMethod ({ cls := "BakedBefore", name := "isLoaf", desc := "(I)Z" } : Jvm.MethodName)) ∈ zW0 := q_in (List.mem_of_getElem? (i := 354) (by decide +kernel)) (by decide +kernel)
theorem q_355 : (Jvm.Cond.code ({ cls := "BakedBefore", name := "isLoaf", desc := "(I)Z" } : Jvm.MethodName) prog_1_method_37_code (2 : Nat) (Option.some Jvm.ClassFile.FieldType.boolean)) ∈ zW0 := q_in (List.mem_of_getElem? (i := 355) (by decide +kernel)) (by decide +kernel)
theorem q_356 : (Jvm.Cond.methodLink "BakedBefore" (96 : Nat) ({ cls := "BakedBefore", name := "isTaste", desc := "(I)Z" } : Jvm.MethodName)) ∈ zW0 := q_in (List.mem_of_getElem? (i := 356) (by decide +kernel)) (by decide +kernel)
theorem q_357 : (Jvm.Cond.static ({ cls := "BakedBefore", name := "isTaste", desc := "(I)Z" } : Jvm.MethodName)) ∈ zW0 := q_in (List.mem_of_getElem? (i := 357) (by decide +kernel)) (by decide +kernel)
theorem q_358 : (Jvm.Cond.code ({ cls := "BakedBefore", name := "isTaste", desc := "(I)Z" } : Jvm.MethodName) prog_1_method_39_code (1 : Nat) (Option.some Jvm.ClassFile.FieldType.boolean)) ∈ zW0 := q_in (List.mem_of_getElem? (i := 358) (by decide +kernel)) (by decide +kernel)
theorem q_360 : (Jvm.Cond.instanceMethod ({ cls := "BakedBefore", name := "of", desc := "(II)I" } : Jvm.MethodName)) ∈ zW0 := q_in (List.mem_of_getElem? (i := 360) (by decide +kernel)) (by decide +kernel)
theorem q_361 : (Jvm.Cond.selects "BakedBefore" ({ cls := "BakedBefore", name := "of", desc := "(II)I" } : Jvm.MethodName) ({ cls := "BakedBefore", name := "of", desc := "(II)I" } : Jvm.MethodName)) ∈ zW0 := q_in (List.mem_of_getElem? (i := 361) (by decide +kernel)) (by decide +kernel)
theorem q_362 : (Jvm.Cond.code ({ cls := "BakedBefore", name := "of", desc := "(II)I" } : Jvm.MethodName) prog_1_method_4_code (4 : Nat) (Option.some Jvm.ClassFile.FieldType.int)) ∈ zW0 := q_in (List.mem_of_getElem? (i := 362) (by decide +kernel)) (by decide +kernel)
theorem q_363 : (Jvm.Cond.methodLink "BakedBefore" (121 : Nat) ({ cls := "BakedBefore$Bake\x72", name := "feeOf", desc := "(LBakedBefore$Loaf;I)I" } : Jvm.MethodName)) ∈ zW0 := q_in (List.mem_of_getElem? (i := 363) (by decide +kernel)) (by decide +kernel)
theorem q_364 : (Jvm.Cond.instanceMethod ({ cls := "BakedBefore$Bake\x72", name := "feeOf", desc := "(LBakedBefore$Loaf;I)I" } : Jvm.MethodName)) ∈ zW0 := q_in (List.mem_of_getElem? (i := 364) (by decide +kernel)) (by decide +kernel)
theorem q_365 : (Jvm.Cond.selects "BakedBefore$Bake\x72" ({ cls := "BakedBefore$Bake\x72", name := "feeOf", desc := "(LBakedBefore$Loaf;I)I" } : Jvm.MethodName) ({ cls := "BakedBefore$Bake\x72", name := "feeOf", desc := "(LBakedBefore$Loaf;I)I" } : Jvm.MethodName)) ∈ zW0 := q_in (List.mem_of_getElem? (i := 365) (by decide +kernel)) (by decide +kernel)
theorem q_366 : (Jvm.Cond.code ({ cls := "BakedBefore$Bake\x72", name := "feeOf", desc := "(LBakedBefore$Loaf;I)I" } : Jvm.MethodName) prog_4_method_10_code (3 : Nat) (Option.some Jvm.ClassFile.FieldType.int)) ∈ zW0 := q_in (List.mem_of_getElem? (i := 366) (by decide +kernel)) (by decide +kernel)
theorem q_367 : (Jvm.Cond.methodLink "BakedBefore$Bake\x72" (21 : Nat) ({ cls := "BakedBefore$Kiln", name := "lookAt", desc := "(LBakedBefore$Loaf;III)V" } : Jvm.MethodName)) ∈ zW0 := q_in (List.mem_of_getElem? (i := 367) (by decide +kernel)) (by decide +kernel)
theorem q_368 : (Jvm.Cond.instanceMethod ({ cls := "BakedBefore$Kiln", name := "lookAt", desc := "(LBakedBefore$Loaf;III)V" } : Jvm.MethodName)) ∈ zW0 := q_in (List.mem_of_getElem? (i := 368) (by decide +kernel)) (by decide +kernel)
theorem q_369 : (Jvm.Cond.selects "BakedBefore$Kiln" ({ cls := "BakedBefore$Kiln", name := "lookAt", desc := "(LBakedBefore$Loaf;III)V" } : Jvm.MethodName) ({ cls := "BakedBefore$Kiln", name := "lookAt", desc := "(LBakedBefore$Loaf;III)V" } : Jvm.MethodName)) ∈ zW0 := q_in (List.mem_of_getElem? (i := 369) (by decide +kernel)) (by decide +kernel)
theorem q_370 : (Jvm.Cond.code ({ cls := "BakedBefore$Kiln", name := "lookAt", desc := "(LBakedBefore$Loaf;III)V" } : Jvm.MethodName) prog_6_method_5_code (5 : Nat) (Option.none : Option Jvm.ClassFile.FieldType)) ∈ zW0 := q_in (List.mem_of_getElem? (i := 370) (by decide +kernel)) (by decide +kernel)
theorem q_371 : (Jvm.Cond.methodLink "BakedBefore$Bake\x72" (25 : Nat) ({ cls := "BakedBefore$Kiln", name := "sum", desc := "(I)I" } : Jvm.MethodName)) ∈ zW0 := q_in (List.mem_of_getElem? (i := 371) (by decide +kernel)) (by decide +kernel)
theorem q_372 : (Jvm.Cond.instanceMethod ({ cls := "BakedBefore$Kiln", name := "sum", desc := "(I)I" } : Jvm.MethodName)) ∈ zW0 := q_in (List.mem_of_getElem? (i := 372) (by decide +kernel)) (by decide +kernel)
theorem q_373 : (Jvm.Cond.selects "BakedBefore$Kiln" ({ cls := "BakedBefore$Kiln", name := "sum", desc := "(I)I" } : Jvm.MethodName) ({ cls := "BakedBefore$Kiln", name := "sum", desc := "(I)I" } : Jvm.MethodName)) ∈ zW0 := q_in (List.mem_of_getElem? (i := 373) (by decide +kernel)) (by decide +kernel)
theorem q_374 : (Jvm.Cond.code ({ cls := "BakedBefore$Kiln", name := "sum", desc := "(I)I" } : Jvm.MethodName) prog_6_method_6_code (5 : Nat) (Option.some Jvm.ClassFile.FieldType.int)) ∈ zW0 := q_in (List.mem_of_getElem? (i := 374) (by decide +kernel)) (by decide +kernel)
theorem q_375 : (Jvm.Cond.methodLink "BakedBefore$Kiln" (53 : Nat) ({ cls := "BakedBefore$Kiln", name := "holds", desc := "(II)Z" } : Jvm.MethodName)) ∈ zW0 := q_in (List.mem_of_getElem? (i := 375) (by decide +kernel)) (by decide +kernel)
theorem q_377 : (Jvm.Cond.instanceMethod ({ cls := "BakedBefore$Kiln", name := "holds", desc := "(II)Z" } : Jvm.MethodName)) ∈ zW0 := q_in (List.mem_of_getElem? (i := 377) (by decide +kernel)) (by decide +kernel)
theorem q_378 : (Jvm.Cond.code ({ cls := "BakedBefore$Kiln", name := "holds", desc := "(II)Z" } : Jvm.MethodName) prog_6_method_7_code (13 : Nat) (Option.some Jvm.ClassFile.FieldType.boolean)) ∈ zW0 := q_in (List.mem_of_getElem? (i := 378) (by decide +kernel)) (by decide +kernel)
theorem q_379 : (Jvm.Cond.constantLong "BakedBefore$Kiln" (57 : Nat) (-2 : Int64)) ∈ zW0 := q_in (List.mem_of_getElem? (i := 379) (by decide +kernel)) (by decide +kernel)
theorem q_380 : (Jvm.Cond.methodLink "BakedBefore" (125 : Nat) ({ cls := "BakedBefore$Bake\x72", name := "spoils", desc := "(LBakedBefore$Loaf;LBakedBefore$Oven;)Z" } : Jvm.MethodName)) ∈ zW0 := q_in (List.mem_of_getElem? (i := 380) (by decide +kernel)) (by decide +kernel)
theorem q_381 : (Jvm.Cond.instanceMethod ({ cls := "BakedBefore$Bake\x72", name := "spoils", desc := "(LBakedBefore$Loaf;LBakedBefore$Oven;)Z" } : Jvm.MethodName)) ∈ zW0 := q_in (List.mem_of_getElem? (i := 381) (by decide +kernel)) (by decide +kernel)
theorem q_382 : (Jvm.Cond.selects "BakedBefore$Bake\x72" ({ cls := "BakedBefore$Bake\x72", name := "spoils", desc := "(LBakedBefore$Loaf;LBakedBefore$Oven;)Z" } : Jvm.MethodName) ({ cls := "BakedBefore$Bake\x72", name := "spoils", desc := "(LBakedBefore$Loaf;LBakedBefore$Oven;)Z" } : Jvm.MethodName)) ∈ zW0 := q_in (List.mem_of_getElem? (i := 382) (by decide +kernel)) (by decide +kernel)
theorem q_383 : (Jvm.Cond.code ({ cls := "BakedBefore$Bake\x72", name := "spoils", desc := "(LBakedBefore$Loaf;LBakedBefore$Oven;)Z" } : Jvm.MethodName) prog_4_method_7_code (4 : Nat) (Option.some Jvm.ClassFile.FieldType.boolean)) ∈ zW0 := q_in (List.mem_of_getElem? (i := 383) (by decide +kernel)) (by decide +kernel)
theorem q_384 : (Jvm.Cond.methodLink "BakedBefore$Bake\x72" (65 : Nat) ({ cls := "BakedBefore$Bake\x72", name := "takes", desc := "(LBakedBefore$Loaf;ILBakedBefore$Oven;)I" } : Jvm.MethodName)) ∈ zW0 := q_in (List.mem_of_getElem? (i := 384) (by decide +kernel)) (by decide +kernel)
theorem q_385 : (Jvm.Cond.instanceMethod ({ cls := "BakedBefore$Bake\x72", name := "takes", desc := "(LBakedBefore$Loaf;ILBakedBefore$Oven;)I" } : Jvm.MethodName)) ∈ zW0 := q_in (List.mem_of_getElem? (i := 385) (by decide +kernel)) (by decide +kernel)
theorem q_386 : (Jvm.Cond.selects "BakedBefore$Bake\x72" ({ cls := "BakedBefore$Bake\x72", name := "takes", desc := "(LBakedBefore$Loaf;ILBakedBefore$Oven;)I" } : Jvm.MethodName) ({ cls := "BakedBefore$Bake\x72", name := "takes", desc := "(LBakedBefore$Loaf;ILBakedBefore$Oven;)I" } : Jvm.MethodName)) ∈ zW0 := q_in (List.mem_of_getElem? (i := 386) (by decide +kernel)) (by decide +kernel)
theorem q_387 : (Jvm.Cond.code ({ cls := "BakedBefore$Bake\x72", name := "takes", desc := "(LBakedBefore$Loaf;ILBakedBefore$Oven;)I" } : Jvm.MethodName) prog_4_method_4_code (5 : Nat) (Option.some Jvm.ClassFile.FieldType.int)) ∈ zW0 := q_in (List.mem_of_getElem? (i := 387) (by decide +kernel)) (by decide +kernel)
theorem q_388 : (Jvm.Cond.methodLink "BakedBefore$Bake\x72" (58 : Nat) ({ cls := "BakedBefore$Bake\x72", name := "partOf", desc := "(LBakedBefore$Loaf;III)I" } : Jvm.MethodName)) ∈ zW0 := q_in (List.mem_of_getElem? (i := 388) (by decide +kernel)) (by decide +kernel)
theorem q_389 : (Jvm.Cond.instanceMethod ({ cls := "BakedBefore$Bake\x72", name := "partOf", desc := "(LBakedBefore$Loaf;III)I" } : Jvm.MethodName)) ∈ zW0 := q_in (List.mem_of_getElem? (i := 389) (by decide +kernel)) (by decide +kernel)
theorem q_390 : (Jvm.Cond.selects "BakedBefore$Bake\x72" ({ cls := "BakedBefore$Bake\x72", name := "partOf", desc := "(LBakedBefore$Loaf;III)I" } : Jvm.MethodName) ({ cls := "BakedBefore$Bake\x72", name := "partOf", desc := "(LBakedBefore$Loaf;III)I" } : Jvm.MethodName)) ∈ zW0 := q_in (List.mem_of_getElem? (i := 390) (by decide +kernel)) (by decide +kernel)
theorem q_391 : (Jvm.Cond.code ({ cls := "BakedBefore$Bake\x72", name := "partOf", desc := "(LBakedBefore$Loaf;III)I" } : Jvm.MethodName) prog_4_method_2_code (5 : Nat) (Option.some Jvm.ClassFile.FieldType.int)) ∈ zW0 := q_in (List.mem_of_getElem? (i := 391) (by decide +kernel)) (by decide +kernel)
theorem q_392 : (Jvm.Cond.methodLink "BakedBefore$Bake\x72" (62 : Nat) ({ cls := "BakedBefore$Bake\x72", name := "amount", desc := "(LBakedBefore$Loaf;III)I" } : Jvm.MethodName)) ∈ zW0 := q_in (List.mem_of_getElem? (i := 392) (by decide +kernel)) (by decide +kernel)
theorem q_393 : (Jvm.Cond.static ({ cls := "BakedBefore$Bake\x72", name := "amount", desc := "(LBakedBefore$Loaf;III)I" } : Jvm.MethodName)) ∈ zW0 := q_in (List.mem_of_getElem? (i := 393) (by decide +kernel)) (by decide +kernel)
theorem q_394 : (Jvm.Cond.code ({ cls := "BakedBefore$Bake\x72", name := "amount", desc := "(LBakedBefore$Loaf;III)I" } : Jvm.MethodName) prog_4_method_3_code (6 : Nat) (Option.some Jvm.ClassFile.FieldType.int)) ∈ zW0 := q_in (List.mem_of_getElem? (i := 394) (by decide +kernel)) (by decide +kernel)
theorem q_395 : (Jvm.Cond.methodLink "BakedBefore$Bake\x72" (38 : Nat) ({ cls := "java/lang/Math", name := "min", desc := "(II)I" } : Jvm.MethodName)) ∈ zW0 := q_in (List.mem_of_getElem? (i := 395) (by decide +kernel)) (by decide +kernel)
theorem q_396 : (Jvm.Cond.static ({ cls := "java/lang/Math", name := "min", desc := "(II)I" } : Jvm.MethodName)) ∈ zW0 := q_in (List.mem_of_getElem? (i := 396) (by decide +kernel)) (by decide +kernel)
theorem q_397 : (Jvm.Cond.code ({ cls := "java/lang/Math", name := "min", desc := "(II)I" } : Jvm.MethodName) prog_16_method_69_code (2 : Nat) (Option.some Jvm.ClassFile.FieldType.int)) ∈ zW0 := q_in (List.mem_of_getElem? (i := 397) (by decide +kernel)) (by decide +kernel)
theorem q_398 : (Jvm.Cond.methodLink "BakedBefore$Bake\x72" (47 : Nat) ({ cls := "java/lang/Math", name := "max", desc := "(II)I" } : Jvm.MethodName)) ∈ zW0 := q_in (List.mem_of_getElem? (i := 398) (by decide +kernel)) (by decide +kernel)
theorem q_399 : (Jvm.Cond.static ({ cls := "java/lang/Math", name := "max", desc := "(II)I" } : Jvm.MethodName)) ∈ zW0 := q_in (List.mem_of_getElem? (i := 399) (by decide +kernel)) (by decide +kernel)
theorem q_400 : (Jvm.Cond.code ({ cls := "java/lang/Math", name := "max", desc := "(II)I" } : Jvm.MethodName) prog_16_method_65_code (2 : Nat) (Option.some Jvm.ClassFile.FieldType.int)) ∈ zW0 := q_in (List.mem_of_getElem? (i := 400) (by decide +kernel)) (by decide +kernel)
theorem q_401 : (Jvm.Cond.methodLink "BakedBefore" (129 : Nat) ({ cls := "BakedBefore", name := "flag", desc := "(Z)I" } : Jvm.MethodName)) ∈ zW0 := q_in (List.mem_of_getElem? (i := 401) (by decide +kernel)) (by decide +kernel)
theorem q_402 : (Jvm.Cond.static ({ cls := "BakedBefore", name := "flag", desc := "(Z)I" } : Jvm.MethodName)) ∈ zW0 := q_in (List.mem_of_getElem? (i := 402) (by decide +kernel)) (by decide +kernel)
theorem q_403 : (Jvm.Cond.code ({ cls := "BakedBefore", name := "flag", desc := "(Z)I" } : Jvm.MethodName) prog_1_method_40_code (1 : Nat) (Option.some Jvm.ClassFile.FieldType.int)) ∈ zW0 := q_in (List.mem_of_getElem? (i := 403) (by decide +kernel)) (by decide +kernel)
theorem q_404 : (Jvm.Cond.methodLink "BakedBefore" (133 : Nat) ({ cls := "BakedBefore", name := "ofTaste", desc := "(LBakedBefore$Loaf;II)I" } : Jvm.MethodName)) ∈ zW0 := q_in (List.mem_of_getElem? (i := 404) (by decide +kernel)) (by decide +kernel)
theorem q_406 : (Jvm.Cond.instanceMethod ({ cls := "BakedBefore", name := "ofTaste", desc := "(LBakedBefore$Loaf;II)I" } : Jvm.MethodName)) ∈ zW0 := q_in (List.mem_of_getElem? (i := 406) (by decide +kernel)) (by decide +kernel)
theorem q_407 : (Jvm.Cond.code ({ cls := "BakedBefore", name := "ofTaste", desc := "(LBakedBefore$Loaf;II)I" } : Jvm.MethodName) prog_1_method_5_code (4 : Nat) (Option.some Jvm.ClassFile.FieldType.int)) ∈ zW0 := q_in (List.mem_of_getElem? (i := 407) (by decide +kernel)) (by decide +kernel)
theorem q_408 : (Jvm.Cond.methodLink "BakedBefore" (137 : Nat) ({ cls := "BakedBefore$Bake\x72", name := "takes", desc := "(LBakedBefore$Loaf;ILBakedBefore$Oven;)I" } : Jvm.MethodName)) ∈ zW0 := q_in (List.mem_of_getElem? (i := 408) (by decide +kernel)) (by decide +kernel)
theorem q_409 : (Jvm.Cond.methodLink "BakedBefore" (141 : Nat) ({ cls := "BakedBefore$Bake\x72", name := "leaves", desc := "(LBakedBefore$Loaf;ILBakedBefore$Oven;)I" } : Jvm.MethodName)) ∈ zW0 := q_in (List.mem_of_getElem? (i := 409) (by decide +kernel)) (by decide +kernel)
theorem q_410 : (Jvm.Cond.instanceMethod ({ cls := "BakedBefore$Bake\x72", name := "leaves", desc := "(LBakedBefore$Loaf;ILBakedBefore$Oven;)I" } : Jvm.MethodName)) ∈ zW0 := q_in (List.mem_of_getElem? (i := 410) (by decide +kernel)) (by decide +kernel)
theorem q_411 : (Jvm.Cond.selects "BakedBefore$Bake\x72" ({ cls := "BakedBefore$Bake\x72", name := "leaves", desc := "(LBakedBefore$Loaf;ILBakedBefore$Oven;)I" } : Jvm.MethodName) ({ cls := "BakedBefore$Bake\x72", name := "leaves", desc := "(LBakedBefore$Loaf;ILBakedBefore$Oven;)I" } : Jvm.MethodName)) ∈ zW0 := q_in (List.mem_of_getElem? (i := 411) (by decide +kernel)) (by decide +kernel)
theorem q_412 : (Jvm.Cond.code ({ cls := "BakedBefore$Bake\x72", name := "leaves", desc := "(LBakedBefore$Loaf;ILBakedBefore$Oven;)I" } : Jvm.MethodName) prog_4_method_6_code (5 : Nat) (Option.some Jvm.ClassFile.FieldType.int)) ∈ zW0 := q_in (List.mem_of_getElem? (i := 412) (by decide +kernel)) (by decide +kernel)
theorem q_414 : (Jvm.Cond.instanceMethod ({ cls := "BakedBefore", name := "oven", desc := "(II)I" } : Jvm.MethodName)) ∈ zW0 := q_in (List.mem_of_getElem? (i := 414) (by decide +kernel)) (by decide +kernel)
theorem q_415 : (Jvm.Cond.selects "BakedBefore" ({ cls := "BakedBefore", name := "oven", desc := "(II)I" } : Jvm.MethodName) ({ cls := "BakedBefore", name := "oven", desc := "(II)I" } : Jvm.MethodName)) ∈ zW0 := q_in (List.mem_of_getElem? (i := 415) (by decide +kernel)) (by decide +kernel)
theorem q_416 : (Jvm.Cond.code ({ cls := "BakedBefore", name := "oven", desc := "(II)I" } : Jvm.MethodName) prog_1_method_6_code (4 : Nat) (Option.some Jvm.ClassFile.FieldType.int)) ∈ zW0 := q_in (List.mem_of_getElem? (i := 416) (by decide +kernel)) (by decide +kernel)
theorem q_418 : (Jvm.Cond.instanceMethod ({ cls := "BakedBefore", name := "feed", desc := "(I)I" } : Jvm.MethodName)) ∈ zW0 := q_in (List.mem_of_getElem? (i := 418) (by decide +kernel)) (by decide +kernel)
theorem q_419 : (Jvm.Cond.selects "BakedBefore" ({ cls := "BakedBefore", name := "feed", desc := "(I)I" } : Jvm.MethodName) ({ cls := "BakedBefore", name := "feed", desc := "(I)I" } : Jvm.MethodName)) ∈ zW0 := q_in (List.mem_of_getElem? (i := 419) (by decide +kernel)) (by decide +kernel)
theorem q_420 : (Jvm.Cond.code ({ cls := "BakedBefore", name := "feed", desc := "(I)I" } : Jvm.MethodName) prog_1_method_7_code (2 : Nat) (Option.some Jvm.ClassFile.FieldType.int)) ∈ zW0 := q_in (List.mem_of_getElem? (i := 420) (by decide +kernel)) (by decide +kernel)
theorem q_421 : (Jvm.Cond.methodLink "BakedBefore" (147 : Nat) ({ cls := "BakedBefore$Reade\x72", name := "append", desc := "(I)I" } : Jvm.MethodName)) ∈ zW0 := q_in (List.mem_of_getElem? (i := 421) (by decide +kernel)) (by decide +kernel)
theorem q_422 : (Jvm.Cond.instanceMethod ({ cls := "BakedBefore$Reade\x72", name := "append", desc := "(I)I" } : Jvm.MethodName)) ∈ zW0 := q_in (List.mem_of_getElem? (i := 422) (by decide +kernel)) (by decide +kernel)
theorem q_423 : (Jvm.Cond.selects "BakedBefore$Reade\x72" ({ cls := "BakedBefore$Reade\x72", name := "append", desc := "(I)I" } : Jvm.MethodName) ({ cls := "BakedBefore$Reade\x72", name := "append", desc := "(I)I" } : Jvm.MethodName)) ∈ zW0 := q_in (List.mem_of_getElem? (i := 423) (by decide +kernel)) (by decide +kernel)
theorem q_424 : (Jvm.Cond.code ({ cls := "BakedBefore$Reade\x72", name := "append", desc := "(I)I" } : Jvm.MethodName) prog_9_method_2_code (2 : Nat) (Option.some Jvm.ClassFile.FieldType.int)) ∈ zW0 := q_in (List.mem_of_getElem? (i := 424) (by decide +kernel)) (by decide +kernel)
theorem q_426 : (Jvm.Cond.instanceMethod ({ cls := "BakedBefore", name := "kiln", desc := "()I" } : Jvm.MethodName)) ∈ zW0 := q_in (List.mem_of_getElem? (i := 426) (by decide +kernel)) (by decide +kernel)
theorem q_427 : (Jvm.Cond.selects "BakedBefore" ({ cls := "BakedBefore", name := "kiln", desc := "()I" } : Jvm.MethodName) ({ cls := "BakedBefore", name := "kiln", desc := "()I" } : Jvm.MethodName)) ∈ zW0 := q_in (List.mem_of_getElem? (i := 427) (by decide +kernel)) (by decide +kernel)
theorem q_428 : (Jvm.Cond.code ({ cls := "BakedBefore", name := "kiln", desc := "()I" } : Jvm.MethodName) prog_1_method_8_code (2 : Nat) (Option.some Jvm.ClassFile.FieldType.int)) ∈ zW0 := q_in (List.mem_of_getElem? (i := 428) (by decide +kernel)) (by decide +kernel)
theorem q_429 : (Jvm.Cond.methodLink "BakedBefore" (154 : Nat) ({ cls := "BakedBefore$Reade\x72", name := "readInto", desc := "(LBakedBefore$Kiln;)I" } : Jvm.MethodName)) ∈ zW0 := q_in (List.mem_of_getElem? (i := 429) (by decide +kernel)) (by decide +kernel)
theorem q_430 : (Jvm.Cond.instanceMethod ({ cls := "BakedBefore$Reade\x72", name := "readInto", desc := "(LBakedBefore$Kiln;)I" } : Jvm.MethodName)) ∈ zW0 := q_in (List.mem_of_getElem? (i := 430) (by decide +kernel)) (by decide +kernel)
theorem q_431 : (Jvm.Cond.selects "BakedBefore$Reade\x72" ({ cls := "BakedBefore$Reade\x72", name := "readInto", desc := "(LBakedBefore$Kiln;)I" } : Jvm.MethodName) ({ cls := "BakedBefore$Reade\x72", name := "readInto", desc := "(LBakedBefore$Kiln;)I" } : Jvm.MethodName)) ∈ zW0 := q_in (List.mem_of_getElem? (i := 431) (by decide +kernel)) (by decide +kernel)
theorem q_432 : (Jvm.Cond.code ({ cls := "BakedBefore$Reade\x72", name := "readInto", desc := "(LBakedBefore$Kiln;)I" } : Jvm.MethodName) prog_9_method_3_code (4 : Nat) (Option.some Jvm.ClassFile.FieldType.int)) ∈ zW0 := q_in (List.mem_of_getElem? (i := 432) (by decide +kernel)) (by decide +kernel)
theorem q_433 : (Jvm.Cond.methodLink "BakedBefore$Reade\x72" (23 : Nat) ({ cls := "BakedBefore$Kiln", name := "empty", desc := "()V" } : Jvm.MethodName)) ∈ zW0 := q_in (List.mem_of_getElem? (i := 433) (by decide +kernel)) (by decide +kernel)
theorem q_434 : (Jvm.Cond.instanceMethod ({ cls := "BakedBefore$Kiln", name := "empty", desc := "()V" } : Jvm.MethodName)) ∈ zW0 := q_in (List.mem_of_getElem? (i := 434) (by decide +kernel)) (by decide +kernel)
theorem q_435 : (Jvm.Cond.selects "BakedBefore$Kiln" ({ cls := "BakedBefore$Kiln", name := "empty", desc := "()V" } : Jvm.MethodName) ({ cls := "BakedBefore$Kiln", name := "empty", desc := "()V" } : Jvm.MethodName)) ∈ zW0 := q_in (List.mem_of_getElem? (i := 435) (by decide +kernel)) (by decide +kernel)
theorem q_436 : (Jvm.Cond.code ({ cls := "BakedBefore$Kiln", name := "empty", desc := "()V" } : Jvm.MethodName) prog_6_method_2_code (1 : Nat) (Option.none : Option Jvm.ClassFile.FieldType)) ∈ zW0 := q_in (List.mem_of_getElem? (i := 436) (by decide +kernel)) (by decide +kernel)
theorem q_437 : (Jvm.Cond.methodLink "BakedBefore$Reade\x72" (31 : Nat) ({ cls := "BakedBefore$Reade\x72", name := "readClause", desc := "()Z" } : Jvm.MethodName)) ∈ zW0 := q_in (List.mem_of_getElem? (i := 437) (by decide +kernel)) (by decide +kernel)
theorem q_439 : (Jvm.Cond.instanceMethod ({ cls := "BakedBefore$Reade\x72", name := "readClause", desc := "()Z" } : Jvm.MethodName)) ∈ zW0 := q_in (List.mem_of_getElem? (i := 439) (by decide +kernel)) (by decide +kernel)
theorem q_440 : (Jvm.Cond.code ({ cls := "BakedBefore$Reade\x72", name := "readClause", desc := "()Z" } : Jvm.MethodName) prog_9_method_4_code (2 : Nat) (Option.some Jvm.ClassFile.FieldType.boolean)) ∈ zW0 := q_in (List.mem_of_getElem? (i := 440) (by decide +kernel)) (by decide +kernel)
theorem q_441 : (Jvm.Cond.methodLink "BakedBefore$Reade\x72" (39 : Nat) ({ cls := "BakedBefore$Reade\x72", name := "here", desc := "()I" } : Jvm.MethodName)) ∈ zW0 := q_in (List.mem_of_getElem? (i := 441) (by decide +kernel)) (by decide +kernel)
theorem q_443 : (Jvm.Cond.instanceMethod ({ cls := "BakedBefore$Reade\x72", name := "here", desc := "()I" } : Jvm.MethodName)) ∈ zW0 := q_in (List.mem_of_getElem? (i := 443) (by decide +kernel)) (by decide +kernel)
theorem q_444 : (Jvm.Cond.code ({ cls := "BakedBefore$Reade\x72", name := "here", desc := "()I" } : Jvm.MethodName) prog_9_method_11_code (1 : Nat) (Option.some Jvm.ClassFile.FieldType.int)) ∈ zW0 := q_in (List.mem_of_getElem? (i := 444) (by decide +kernel)) (by decide +kernel)
theorem q_445 : (Jvm.Cond.methodLink "BakedBefore$Reade\x72" (43 : Nat) ({ cls := "BakedBefore$Reade\x72", name := "wordFrom", desc := "(I)I" } : Jvm.MethodName)) ∈ zW0 := q_in (List.mem_of_getElem? (i := 445) (by decide +kernel)) (by decide +kernel)
theorem q_446 : (Jvm.Cond.static ({ cls := "BakedBefore$Reade\x72", name := "wordFrom", desc := "(I)I" } : Jvm.MethodName)) ∈ zW0 := q_in (List.mem_of_getElem? (i := 446) (by decide +kernel)) (by decide +kernel)
theorem q_447 : (Jvm.Cond.code ({ cls := "BakedBefore$Reade\x72", name := "wordFrom", desc := "(I)I" } : Jvm.MethodName) prog_9_method_14_code (1 : Nat) (Option.some Jvm.ClassFile.FieldType.int)) ∈ zW0 := q_in (List.mem_of_getElem? (i := 447) (by decide +kernel)) (by decide +kernel)
theorem q_448 : (Jvm.Cond.methodLink "BakedBefore$Reade\x72" (47 : Nat) ({ cls := "BakedBefore$Reade\x72", name := "spelling", desc := "(I)Ljava/lang/String;" } : Jvm.MethodName)) ∈ zW0 := q_in (List.mem_of_getElem? (i := 448) (by decide +kernel)) (by decide +kernel)
theorem q_449 : (Jvm.Cond.static ({ cls := "BakedBefore$Reade\x72", name := "spelling", desc := "(I)Ljava/lang/String;" } : Jvm.MethodName)) ∈ zW0 := q_in (List.mem_of_getElem? (i := 449) (by decide +kernel)) (by decide +kernel)
theorem q_450 : (Jvm.Cond.code ({ cls := "BakedBefore$Reade\x72", name := "spelling", desc := "(I)Ljava/lang/String;" } : Jvm.MethodName) prog_9_method_15_code (1 : Nat) (Option.some (Jvm.ClassFile.FieldType.object "java/lang/String"))) ∈ zW0 := q_in (List.mem_of_getElem? (i := 450) (by decide +kernel)) (by decide +kernel)
theorem q_455 : (Jvm.Cond.methodLink "BakedBefore$Reade\x72" (51 : Nat) ({ cls := "BakedBefore$Reade\x72", name := "readWord", desc := "(Ljava/lang/String;)Z" } : Jvm.MethodName)) ∈ zW0 := q_in (List.mem_of_getElem? (i := 455) (by decide +kernel)) (by decide +kernel)
theorem q_457 : (Jvm.Cond.instanceMethod ({ cls := "BakedBefore$Reade\x72", name := "readWord", desc := "(Ljava/lang/String;)Z" } : Jvm.MethodName)) ∈ zW0 := q_in (List.mem_of_getElem? (i := 457) (by decide +kernel)) (by decide +kernel)
theorem q_458 : (Jvm.Cond.code ({ cls := "BakedBefore$Reade\x72", name := "readWord", desc := "(Ljava/lang/String;)Z" } : Jvm.MethodName) prog_9_method_5_code (3 : Nat) (Option.some Jvm.ClassFile.FieldType.boolean)) ∈ zW0 := q_in (List.mem_of_getElem? (i := 458) (by decide +kernel)) (by decide +kernel)
theorem q_459 : (Jvm.Cond.methodLink "BakedBefore$Reade\x72" (69 : Nat) ({ cls := "java/lang/String", name := "length", desc := "()I" } : Jvm.MethodName)) ∈ zW0 := q_in (List.mem_of_getElem? (i := 459) (by decide +kernel)) (by decide +kernel)
theorem q_469 : (Jvm.Cond.methodLink "BakedBefore$Reade\x72" (73 : Nat) ({ cls := "java/lang/String", name := "charAt", desc := "(I)C" } : Jvm.MethodName)) ∈ zW0 := q_in (List.mem_of_getElem? (i := 469) (by decide +kernel)) (by decide +kernel)
theorem q_507 : (Jvm.Cond.methodLink "BakedBefore$Reade\x72" (35 : Nat) ({ cls := "BakedBefore$Reade\x72", name := "skip", desc := "(C)Z" } : Jvm.MethodName)) ∈ zW0 := q_in (List.mem_of_getElem? (i := 507) (by decide +kernel)) (by decide +kernel)
theorem q_509 : (Jvm.Cond.instanceMethod ({ cls := "BakedBefore$Reade\x72", name := "skip", desc := "(C)Z" } : Jvm.MethodName)) ∈ zW0 := q_in (List.mem_of_getElem? (i := 509) (by decide +kernel)) (by decide +kernel)
theorem q_510 : (Jvm.Cond.code ({ cls := "BakedBefore$Reade\x72", name := "skip", desc := "(C)Z" } : Jvm.MethodName) prog_9_method_12_code (2 : Nat) (Option.some Jvm.ClassFile.FieldType.boolean)) ∈ zW0 := q_in (List.mem_of_getElem? (i := 510) (by decide +kernel)) (by decide +kernel)
theorem q_511 : (Jvm.Cond.methodLink "BakedBefore$Reade\x72" (55 : Nat) ({ cls := "BakedBefore$Reade\x72", name := "readNumbe\x72", desc := "()Z" } : Jvm.MethodName)) ∈ zW0 := q_in (List.mem_of_getElem? (i := 511) (by decide +kernel)) (by decide +kernel)
theorem q_513 : (Jvm.Cond.instanceMethod ({ cls := "BakedBefore$Reade\x72", name := "readNumbe\x72", desc := "()Z" } : Jvm.MethodName)) ∈ zW0 := q_in (List.mem_of_getElem? (i := 513) (by decide +kernel)) (by decide +kernel)
theorem q_514 : (Jvm.Cond.code ({ cls := "BakedBefore$Reade\x72", name := "readNumbe\x72", desc := "()Z" } : Jvm.MethodName) prog_9_method_6_code (1 : Nat) (Option.some Jvm.ClassFile.FieldType.boolean)) ∈ zW0 := q_in (List.mem_of_getElem? (i := 514) (by decide +kernel)) (by decide +kernel)
theorem q_515 : (Jvm.Cond.methodLink "BakedBefore$Reade\x72" (77 : Nat) ({ cls := "BakedBefore$Reade\x72", name := "isDigit", desc := "(I)Z" } : Jvm.MethodName)) ∈ zW0 := q_in (List.mem_of_getElem? (i := 515) (by decide +kernel)) (by decide +kernel)
theorem q_516 : (Jvm.Cond.static ({ cls := "BakedBefore$Reade\x72", name := "isDigit", desc := "(I)Z" } : Jvm.MethodName)) ∈ zW0 := q_in (List.mem_of_getElem? (i := 516) (by decide +kernel)) (by decide +kernel)
theorem q_517 : (Jvm.Cond.code ({ cls := "BakedBefore$Reade\x72", name := "isDigit", desc := "(I)Z" } : Jvm.MethodName) prog_9_method_13_code (1 : Nat) (Option.some Jvm.ClassFile.FieldType.boolean)) ∈ zW0 := q_in (List.mem_of_getElem? (i := 517) (by decide +kernel)) (by decide +kernel)
theorem q_518 : (Jvm.Cond.methodLink "BakedBefore$Reade\x72" (61 : Nat) ({ cls := "BakedBefore$Kiln", name := "begin", desc := "(II)V" } : Jvm.MethodName)) ∈ zW0 := q_in (List.mem_of_getElem? (i := 518) (by decide +kernel)) (by decide +kernel)
theorem q_519 : (Jvm.Cond.instanceMethod ({ cls := "BakedBefore$Kiln", name := "begin", desc := "(II)V" } : Jvm.MethodName)) ∈ zW0 := q_in (List.mem_of_getElem? (i := 519) (by decide +kernel)) (by decide +kernel)
theorem q_520 : (Jvm.Cond.selects "BakedBefore$Kiln" ({ cls := "BakedBefore$Kiln", name := "begin", desc := "(II)V" } : Jvm.MethodName) ({ cls := "BakedBefore$Kiln", name := "begin", desc := "(II)V" } : Jvm.MethodName)) ∈ zW0 := q_in (List.mem_of_getElem? (i := 520) (by decide +kernel)) (by decide +kernel)
theorem q_521 : (Jvm.Cond.code ({ cls := "BakedBefore$Kiln", name := "begin", desc := "(II)V" } : Jvm.MethodName) prog_6_method_3_code (3 : Nat) (Option.none : Option Jvm.ClassFile.FieldType)) ∈ zW0 := q_in (List.mem_of_getElem? (i := 521) (by decide +kernel)) (by decide +kernel)
theorem q_522 : (Jvm.Cond.methodLink "BakedBefore$Reade\x72" (65 : Nat) ({ cls := "BakedBefore$Reade\x72", name := "readEithe\x72", desc := "(I)Z" } : Jvm.MethodName)) ∈ zW0 := q_in (List.mem_of_getElem? (i := 522) (by decide +kernel)) (by decide +kernel)
theorem q_524 : (Jvm.Cond.instanceMethod ({ cls := "BakedBefore$Reade\x72", name := "readEithe\x72", desc := "(I)Z" } : Jvm.MethodName)) ∈ zW0 := q_in (List.mem_of_getElem? (i := 524) (by decide +kernel)) (by decide +kernel)
theorem q_525 : (Jvm.Cond.code ({ cls := "BakedBefore$Reade\x72", name := "readEithe\x72", desc := "(I)Z" } : Jvm.MethodName) prog_9_method_7_code (3 : Nat) (Option.some Jvm.ClassFile.FieldType.boolean)) ∈ zW0 := q_in (List.mem_of_getElem? (i := 525) (by decide +kernel)) (by decide +kernel)
theorem q_526 : (Jvm.Cond.methodLink "BakedBefore$Reade\x72" (80 : Nat) ({ cls := "BakedBefore$Reade\x72", name := "readBoth", desc := "(I)Z" } : Jvm.MethodName)) ∈ zW0 := q_in (List.mem_of_getElem? (i := 526) (by decide +kernel)) (by decide +kernel)
theorem q_528 : (Jvm.Cond.instanceMethod ({ cls := "BakedBefore$Reade\x72", name := "readBoth", desc := "(I)Z" } : Jvm.MethodName)) ∈ zW0 := q_in (List.mem_of_getElem? (i := 528) (by decide +kernel)) (by decide +kernel)
theorem q_529 : (Jvm.Cond.code ({ cls := "BakedBefore$Reade\x72", name := "readBoth", desc := "(I)Z" } : Jvm.MethodName) prog_9_method_8_code (3 : Nat) (Option.some Jvm.ClassFile.FieldType.boolean)) ∈ zW0 := q_in (List.mem_of_getElem? (i := 529) (by decide +kernel)) (by decide +kernel)
theorem q_530 : (Jvm.Cond.methodLink "BakedBefore$Reade\x72" (87 : Nat) ({ cls := "BakedBefore$Reade\x72", name := "readPart", desc := "(I)Z" } : Jvm.MethodName)) ∈ zW0 := q_in (List.mem_of_getElem? (i := 530) (by decide +kernel)) (by decide +kernel)
theorem q_532 : (Jvm.Cond.instanceMethod ({ cls := "BakedBefore$Reade\x72", name := "readPart", desc := "(I)Z" } : Jvm.MethodName)) ∈ zW0 := q_in (List.mem_of_getElem? (i := 532) (by decide +kernel)) (by decide +kernel)
theorem q_533 : (Jvm.Cond.code ({ cls := "BakedBefore$Reade\x72", name := "readPart", desc := "(I)Z" } : Jvm.MethodName) prog_9_method_9_code (3 : Nat) (Option.some Jvm.ClassFile.FieldType.boolean)) ∈ zW0 := q_in (List.mem_of_getElem? (i := 533) (by decide +kernel)) (by decide +kernel)
theorem q_534 : (Jvm.Cond.methodLink "BakedBefore$Reade\x72" (90 : Nat) ({ cls := "BakedBefore$Reade\x72", name := "readTest", desc := "()Z" } : Jvm.MethodName)) ∈ zW0 := q_in (List.mem_of_getElem? (i := 534) (by decide +kernel)) (by decide +kernel)
theorem q_536 : (Jvm.Cond.instanceMethod ({ cls := "BakedBefore$Reade\x72", name := "readTest", desc := "()Z" } : Jvm.MethodName)) ∈ zW0 := q_in (List.mem_of_getElem? (i := 536) (by decide +kernel)) (by decide +kernel)
theorem q_537 : (Jvm.Cond.code ({ cls := "BakedBefore$Reade\x72", name := "readTest", desc := "()Z" } : Jvm.MethodName) prog_9_method_10_code (3 : Nat) (Option.some Jvm.ClassFile.FieldType.boolean)) ∈ zW0 := q_in (List.mem_of_getElem? (i := 537) (by decide +kernel)) (by decide +kernel)
theorem q_538 : (Jvm.Cond.methodLink "BakedBefore$Reade\x72" (93 : Nat) ({ cls := "BakedBefore$Reade\x72", name := "letterOf", desc := "(I)I" } : Jvm.MethodName)) ∈ zW0 := q_in (List.mem_of_getElem? (i := 538) (by decide +kernel)) (by decide +kernel)
theorem q_539 : (Jvm.Cond.static ({ cls := "BakedBefore$Reade\x72", name := "letterOf", desc := "(I)I" } : Jvm.MethodName)) ∈ zW0 := q_in (List.mem_of_getElem? (i := 539) (by decide +kernel)) (by decide +kernel)
theorem q_540 : (Jvm.Cond.code ({ cls := "BakedBefore$Reade\x72", name := "letterOf", desc := "(I)I" } : Jvm.MethodName) prog_9_method_16_code (1 : Nat) (Option.some Jvm.ClassFile.FieldType.int)) ∈ zW0 := q_in (List.mem_of_getElem? (i := 540) (by decide +kernel)) (by decide +kernel)
theorem q_541 : (Jvm.Cond.methodLink "BakedBefore$Reade\x72" (83 : Nat) ({ cls := "BakedBefore$Kiln", name := "append", desc := "(I)V" } : Jvm.MethodName)) ∈ zW0 := q_in (List.mem_of_getElem? (i := 541) (by decide +kernel)) (by decide +kernel)
theorem q_542 : (Jvm.Cond.instanceMethod ({ cls := "BakedBefore$Kiln", name := "append", desc := "(I)V" } : Jvm.MethodName)) ∈ zW0 := q_in (List.mem_of_getElem? (i := 542) (by decide +kernel)) (by decide +kernel)
theorem q_543 : (Jvm.Cond.selects "BakedBefore$Kiln" ({ cls := "BakedBefore$Kiln", name := "append", desc := "(I)V" } : Jvm.MethodName) ({ cls := "BakedBefore$Kiln", name := "append", desc := "(I)V" } : Jvm.MethodName)) ∈ zW0 := q_in (List.mem_of_getElem? (i := 543) (by decide +kernel)) (by decide +kernel)
theorem q_544 : (Jvm.Cond.code ({ cls := "BakedBefore$Kiln", name := "append", desc := "(I)V" } : Jvm.MethodName) prog_6_method_4_code (2 : Nat) (Option.none : Option Jvm.ClassFile.FieldType)) ∈ zW0 := q_in (List.mem_of_getElem? (i := 544) (by decide +kernel)) (by decide +kernel)
theorem q_547 : (Jvm.Cond.instanceMethod ({ cls := "BakedBefore", name := "told", desc := "(I)I" } : Jvm.MethodName)) ∈ zW0 := q_in (List.mem_of_getElem? (i := 547) (by decide +kernel)) (by decide +kernel)
theorem q_548 : (Jvm.Cond.selects "BakedBefore" ({ cls := "BakedBefore", name := "told", desc := "(I)I" } : Jvm.MethodName) ({ cls := "BakedBefore", name := "told", desc := "(I)I" } : Jvm.MethodName)) ∈ zW0 := q_in (List.mem_of_getElem? (i := 548) (by decide +kernel)) (by decide +kernel)
theorem q_549 : (Jvm.Cond.code ({ cls := "BakedBefore", name := "told", desc := "(I)I" } : Jvm.MethodName) prog_1_method_9_code (2 : Nat) (Option.some Jvm.ClassFile.FieldType.int)) ∈ zW0 := q_in (List.mem_of_getElem? (i := 549) (by decide +kernel)) (by decide +kernel)
theorem q_551 : (Jvm.Cond.instanceMethod ({ cls := "BakedBefore", name := "bake", desc := "(I)I" } : Jvm.MethodName)) ∈ zW0 := q_in (List.mem_of_getElem? (i := 551) (by decide +kernel)) (by decide +kernel)
theorem q_552 : (Jvm.Cond.selects "BakedBefore" ({ cls := "BakedBefore", name := "bake", desc := "(I)I" } : Jvm.MethodName) ({ cls := "BakedBefore", name := "bake", desc := "(I)I" } : Jvm.MethodName)) ∈ zW0 := q_in (List.mem_of_getElem? (i := 552) (by decide +kernel)) (by decide +kernel)
theorem q_553 : (Jvm.Cond.code ({ cls := "BakedBefore", name := "bake", desc := "(I)I" } : Jvm.MethodName) prog_1_method_10_code (2 : Nat) (Option.some Jvm.ClassFile.FieldType.int)) ∈ zW0 := q_in (List.mem_of_getElem? (i := 553) (by decide +kernel)) (by decide +kernel)
theorem q_554 : (Jvm.Cond.methodLink "BakedBefore" (167 : Nat) ({ cls := "BakedBefore$Bake\x72", name := "bakeIn", desc := "(LBakedBefore$Oven;LBakedBefore$Loaf;)Z" } : Jvm.MethodName)) ∈ zW0 := q_in (List.mem_of_getElem? (i := 554) (by decide +kernel)) (by decide +kernel)
theorem q_555 : (Jvm.Cond.instanceMethod ({ cls := "BakedBefore$Bake\x72", name := "bakeIn", desc := "(LBakedBefore$Oven;LBakedBefore$Loaf;)Z" } : Jvm.MethodName)) ∈ zW0 := q_in (List.mem_of_getElem? (i := 555) (by decide +kernel)) (by decide +kernel)
theorem q_556 : (Jvm.Cond.selects "BakedBefore$Bake\x72" ({ cls := "BakedBefore$Bake\x72", name := "bakeIn", desc := "(LBakedBefore$Oven;LBakedBefore$Loaf;)Z" } : Jvm.MethodName) ({ cls := "BakedBefore$Bake\x72", name := "bakeIn", desc := "(LBakedBefore$Oven;LBakedBefore$Loaf;)Z" } : Jvm.MethodName)) ∈ zW0 := q_in (List.mem_of_getElem? (i := 556) (by decide +kernel)) (by decide +kernel)
theorem q_557 : (Jvm.Cond.code ({ cls := "BakedBefore$Bake\x72", name := "bakeIn", desc := "(LBakedBefore$Oven;LBakedBefore$Loaf;)Z" } : Jvm.MethodName) prog_4_method_8_code (7 : Nat) (Option.some Jvm.ClassFile.FieldType.boolean)) ∈ zW0 := q_in (List.mem_of_getElem? (i := 557) (by decide +kernel)) (by decide +kernel)
theorem q_558 : (Jvm.Cond.methodLink "BakedBefore$Bake\x72" (72 : Nat) ({ cls := "BakedBefore$Bake\x72", name := "leaves", desc := "(LBakedBefore$Loaf;ILBakedBefore$Oven;)I" } : Jvm.MethodName)) ∈ zW0 := q_in (List.mem_of_getElem? (i := 558) (by decide +kernel)) (by decide +kernel)
theorem q_559 : (Jvm.Cond.methodLink "BakedBefore$Bake\x72" (75 : Nat) ({ cls := "BakedBefore$Oven", name := "strike", desc := "()V" } : Jvm.MethodName)) ∈ zW0 := q_in (List.mem_of_getElem? (i := 559) (by decide +kernel)) (by decide +kernel)
theorem q_560 : (Jvm.Cond.instanceMethod ({ cls := "BakedBefore$Oven", name := "strike", desc := "()V" } : Jvm.MethodName)) ∈ zW0 := q_in (List.mem_of_getElem? (i := 560) (by decide +kernel)) (by decide +kernel)
theorem q_561 : (Jvm.Cond.selects "BakedBefore$Oven" ({ cls := "BakedBefore$Oven", name := "strike", desc := "()V" } : Jvm.MethodName) ({ cls := "BakedBefore$Oven", name := "strike", desc := "()V" } : Jvm.MethodName)) ∈ zW0 := q_in (List.mem_of_getElem? (i := 561) (by decide +kernel)) (by decide +kernel)
theorem q_562 : (Jvm.Cond.code ({ cls := "BakedBefore$Oven", name := "strike", desc := "()V" } : Jvm.MethodName) prog_8_method_3_code (1 : Nat) (Option.none : Option Jvm.ClassFile.FieldType)) ∈ zW0 := q_in (List.mem_of_getElem? (i := 562) (by decide +kernel)) (by decide +kernel)
theorem q_563 : (Jvm.Cond.methodLink "BakedBefore$Oven" (19 : Nat) ({ cls := "java/lang/Math", name := "min", desc := "(II)I" } : Jvm.MethodName)) ∈ zW0 := q_in (List.mem_of_getElem? (i := 563) (by decide +kernel)) (by decide +kernel)
theorem q_565 : (Jvm.Cond.instanceMethod ({ cls := "BakedBefore", name := "cold", desc := "()I" } : Jvm.MethodName)) ∈ zW0 := q_in (List.mem_of_getElem? (i := 565) (by decide +kernel)) (by decide +kernel)
theorem q_566 : (Jvm.Cond.selects "BakedBefore" ({ cls := "BakedBefore", name := "cold", desc := "()I" } : Jvm.MethodName) ({ cls := "BakedBefore", name := "cold", desc := "()I" } : Jvm.MethodName)) ∈ zW0 := q_in (List.mem_of_getElem? (i := 566) (by decide +kernel)) (by decide +kernel)
theorem q_567 : (Jvm.Cond.code ({ cls := "BakedBefore", name := "cold", desc := "()I" } : Jvm.MethodName) prog_1_method_11_code (1 : Nat) (Option.some Jvm.ClassFile.FieldType.int)) ∈ zW0 := q_in (List.mem_of_getElem? (i := 567) (by decide +kernel)) (by decide +kernel)
theorem q_568 : (Jvm.Cond.methodLink "BakedBefore" (171 : Nat) ({ cls := "BakedBefore$Bake\x72", name := "chill", desc := "(LBakedBefore$Oven;)V" } : Jvm.MethodName)) ∈ zW0 := q_in (List.mem_of_getElem? (i := 568) (by decide +kernel)) (by decide +kernel)
theorem q_569 : (Jvm.Cond.instanceMethod ({ cls := "BakedBefore$Bake\x72", name := "chill", desc := "(LBakedBefore$Oven;)V" } : Jvm.MethodName)) ∈ zW0 := q_in (List.mem_of_getElem? (i := 569) (by decide +kernel)) (by decide +kernel)
theorem q_570 : (Jvm.Cond.selects "BakedBefore$Bake\x72" ({ cls := "BakedBefore$Bake\x72", name := "chill", desc := "(LBakedBefore$Oven;)V" } : Jvm.MethodName) ({ cls := "BakedBefore$Bake\x72", name := "chill", desc := "(LBakedBefore$Oven;)V" } : Jvm.MethodName)) ∈ zW0 := q_in (List.mem_of_getElem? (i := 570) (by decide +kernel)) (by decide +kernel)
theorem q_571 : (Jvm.Cond.code ({ cls := "BakedBefore$Bake\x72", name := "chill", desc := "(LBakedBefore$Oven;)V" } : Jvm.MethodName) prog_4_method_9_code (3 : Nat) (Option.none : Option Jvm.ClassFile.FieldType)) ∈ zW0 := q_in (List.mem_of_getElem? (i := 571) (by decide +kernel)) (by decide +kernel)
theorem q_573 : (Jvm.Cond.instanceMethod ({ cls := "BakedBefore", name := "would", desc := "(III)I" } : Jvm.MethodName)) ∈ zW0 := q_in (List.mem_of_getElem? (i := 573) (by decide +kernel)) (by decide +kernel)
theorem q_574 : (Jvm.Cond.selects "BakedBefore" ({ cls := "BakedBefore", name := "would", desc := "(III)I" } : Jvm.MethodName) ({ cls := "BakedBefore", name := "would", desc := "(III)I" } : Jvm.MethodName)) ∈ zW0 := q_in (List.mem_of_getElem? (i := 574) (by decide +kernel)) (by decide +kernel)
theorem q_575 : (Jvm.Cond.code ({ cls := "BakedBefore", name := "would", desc := "(III)I" } : Jvm.MethodName) prog_1_method_12_code (4 : Nat) (Option.some Jvm.ClassFile.FieldType.int)) ∈ zW0 := q_in (List.mem_of_getElem? (i := 575) (by decide +kernel)) (by decide +kernel)
theorem q_576 : (Jvm.Cond.methodLink "BakedBefore" (175 : Nat) ({ cls := "BakedBefore$Aske\x72", name := "behind", desc := "(III)I" } : Jvm.MethodName)) ∈ zW0 := q_in (List.mem_of_getElem? (i := 576) (by decide +kernel)) (by decide +kernel)
theorem q_577 : (Jvm.Cond.instanceMethod ({ cls := "BakedBefore$Aske\x72", name := "behind", desc := "(III)I" } : Jvm.MethodName)) ∈ zW0 := q_in (List.mem_of_getElem? (i := 577) (by decide +kernel)) (by decide +kernel)
theorem q_578 : (Jvm.Cond.selects "BakedBefore$Aske\x72" ({ cls := "BakedBefore$Aske\x72", name := "behind", desc := "(III)I" } : Jvm.MethodName) ({ cls := "BakedBefore$Aske\x72", name := "behind", desc := "(III)I" } : Jvm.MethodName)) ∈ zW0 := q_in (List.mem_of_getElem? (i := 578) (by decide +kernel)) (by decide +kernel)
theorem q_579 : (Jvm.Cond.code ({ cls := "BakedBefore$Aske\x72", name := "behind", desc := "(III)I" } : Jvm.MethodName) prog_3_method_2_code (4 : Nat) (Option.some Jvm.ClassFile.FieldType.int)) ∈ zW0 := q_in (List.mem_of_getElem? (i := 579) (by decide +kernel)) (by decide +kernel)
theorem q_580 : (Jvm.Cond.methodLink "BakedBefore$Aske\x72" (35 : Nat) ({ cls := "BakedBefore$Oven", name := "become", desc := "(LBakedBefore$Oven;)V" } : Jvm.MethodName)) ∈ zW0 := q_in (List.mem_of_getElem? (i := 580) (by decide +kernel)) (by decide +kernel)
theorem q_581 : (Jvm.Cond.instanceMethod ({ cls := "BakedBefore$Oven", name := "become", desc := "(LBakedBefore$Oven;)V" } : Jvm.MethodName)) ∈ zW0 := q_in (List.mem_of_getElem? (i := 581) (by decide +kernel)) (by decide +kernel)
theorem q_582 : (Jvm.Cond.selects "BakedBefore$Oven" ({ cls := "BakedBefore$Oven", name := "become", desc := "(LBakedBefore$Oven;)V" } : Jvm.MethodName) ({ cls := "BakedBefore$Oven", name := "become", desc := "(LBakedBefore$Oven;)V" } : Jvm.MethodName)) ∈ zW0 := q_in (List.mem_of_getElem? (i := 582) (by decide +kernel)) (by decide +kernel)
theorem q_583 : (Jvm.Cond.code ({ cls := "BakedBefore$Oven", name := "become", desc := "(LBakedBefore$Oven;)V" } : Jvm.MethodName) prog_8_method_2_code (3 : Nat) (Option.none : Option Jvm.ClassFile.FieldType)) ∈ zW0 := q_in (List.mem_of_getElem? (i := 583) (by decide +kernel)) (by decide +kernel)
theorem q_584 : (Jvm.Cond.methodLink "BakedBefore$Aske\x72" (43 : Nat) ({ cls := "BakedBefore$Bake\x72", name := "bakeIn", desc := "(LBakedBefore$Oven;LBakedBefore$Loaf;)Z" } : Jvm.MethodName)) ∈ zW0 := q_in (List.mem_of_getElem? (i := 584) (by decide +kernel)) (by decide +kernel)
theorem q_585 : (Jvm.Cond.methodLink "BakedBefore$Aske\x72" (49 : Nat) ({ cls := "BakedBefore$Bake\x72", name := "takes", desc := "(LBakedBefore$Loaf;ILBakedBefore$Oven;)I" } : Jvm.MethodName)) ∈ zW0 := q_in (List.mem_of_getElem? (i := 585) (by decide +kernel)) (by decide +kernel)
theorem q_586 : (Jvm.Cond.methodLink "BakedBefore$Aske\x72" (53 : Nat) ({ cls := "BakedBefore$Bake\x72", name := "spoils", desc := "(LBakedBefore$Loaf;LBakedBefore$Oven;)Z" } : Jvm.MethodName)) ∈ zW0 := q_in (List.mem_of_getElem? (i := 586) (by decide +kernel)) (by decide +kernel)
theorem q_589 : (Jvm.Cond.instanceMethod ({ cls := "BakedBefore", name := "orde\x72", desc := "(II)I" } : Jvm.MethodName)) ∈ zW0 := q_in (List.mem_of_getElem? (i := 589) (by decide +kernel)) (by decide +kernel)
theorem q_590 : (Jvm.Cond.selects "BakedBefore" ({ cls := "BakedBefore", name := "orde\x72", desc := "(II)I" } : Jvm.MethodName) ({ cls := "BakedBefore", name := "orde\x72", desc := "(II)I" } : Jvm.MethodName)) ∈ zW0 := q_in (List.mem_of_getElem? (i := 590) (by decide +kernel)) (by decide +kernel)
theorem q_591 : (Jvm.Cond.code ({ cls := "BakedBefore", name := "orde\x72", desc := "(II)I" } : Jvm.MethodName) prog_1_method_13_code (3 : Nat) (Option.some Jvm.ClassFile.FieldType.int)) ∈ zW0 := q_in (List.mem_of_getElem? (i := 591) (by decide +kernel)) (by decide +kernel)
theorem q_592 : (Jvm.Cond.methodLink "BakedBefore" (179 : Nat) ({ cls := "BakedBefore", name := "isSet", desc := "(II)Z" } : Jvm.MethodName)) ∈ zW0 := q_in (List.mem_of_getElem? (i := 592) (by decide +kernel)) (by decide +kernel)
theorem q_594 : (Jvm.Cond.instanceMethod ({ cls := "BakedBefore", name := "isSet", desc := "(II)Z" } : Jvm.MethodName)) ∈ zW0 := q_in (List.mem_of_getElem? (i := 594) (by decide +kernel)) (by decide +kernel)
theorem q_595 : (Jvm.Cond.code ({ cls := "BakedBefore", name := "isSet", desc := "(II)Z" } : Jvm.MethodName) prog_1_method_38_code (3 : Nat) (Option.some Jvm.ClassFile.FieldType.boolean)) ∈ zW0 := q_in (List.mem_of_getElem? (i := 595) (by decide +kernel)) (by decide +kernel)
theorem q_596 : (Jvm.Cond.methodLink "BakedBefore" (294 : Nat) ({ cls := "java/lang/Intege\x72", name := "bitCount", desc := "(I)I" } : Jvm.MethodName)) ∈ zW0 := q_in (List.mem_of_getElem? (i := 596) (by decide +kernel)) (by decide +kernel)
theorem q_597 : (Jvm.Cond.static ({ cls := "java/lang/Intege\x72", name := "bitCount", desc := "(I)I" } : Jvm.MethodName)) ∈ zW0 := q_in (List.mem_of_getElem? (i := 597) (by decide +kernel)) (by decide +kernel)
theorem q_598 : (Jvm.Cond.code ({ cls := "java/lang/Intege\x72", name := "bitCount", desc := "(I)I" } : Jvm.MethodName) prog_15_method_49_code (1 : Nat) (Option.some Jvm.ClassFile.FieldType.int)) ∈ zW0 := q_in (List.mem_of_getElem? (i := 598) (by decide +kernel)) (by decide +kernel)
theorem q_599 : (Jvm.Cond.constant "java/lang/Intege\x72" (265 : Nat) (1431655765 : Int32)) ∈ zW0 := q_in (List.mem_of_getElem? (i := 599) (by decide +kernel)) (by decide +kernel)
theorem q_600 : (Jvm.Cond.constant "java/lang/Intege\x72" (266 : Nat) (858993459 : Int32)) ∈ zW0 := q_in (List.mem_of_getElem? (i := 600) (by decide +kernel)) (by decide +kernel)
theorem q_601 : (Jvm.Cond.constant "java/lang/Intege\x72" (267 : Nat) (252645135 : Int32)) ∈ zW0 := q_in (List.mem_of_getElem? (i := 601) (by decide +kernel)) (by decide +kernel)
theorem q_602 : (Jvm.Cond.methodLink "BakedBefore" (183 : Nat) ({ cls := "BakedBefore$Search", name := "seekOrde\x72", desc := "(I)V" } : Jvm.MethodName)) ∈ zW0 := q_in (List.mem_of_getElem? (i := 602) (by decide +kernel)) (by decide +kernel)
theorem q_603 : (Jvm.Cond.instanceMethod ({ cls := "BakedBefore$Search", name := "seekOrde\x72", desc := "(I)V" } : Jvm.MethodName)) ∈ zW0 := q_in (List.mem_of_getElem? (i := 603) (by decide +kernel)) (by decide +kernel)
theorem q_604 : (Jvm.Cond.selects "BakedBefore$Search" ({ cls := "BakedBefore$Search", name := "seekOrde\x72", desc := "(I)V" } : Jvm.MethodName) ({ cls := "BakedBefore$Search", name := "seekOrde\x72", desc := "(I)V" } : Jvm.MethodName)) ∈ zW0 := q_in (List.mem_of_getElem? (i := 604) (by decide +kernel)) (by decide +kernel)
theorem q_605 : (Jvm.Cond.code ({ cls := "BakedBefore$Search", name := "seekOrde\x72", desc := "(I)V" } : Jvm.MethodName) prog_10_method_2_code (2 : Nat) (Option.none : Option Jvm.ClassFile.FieldType)) ∈ zW0 := q_in (List.mem_of_getElem? (i := 605) (by decide +kernel)) (by decide +kernel)
theorem q_606 : (Jvm.Cond.methodLink "BakedBefore$Search" (33 : Nat) ({ cls := "java/lang/Intege\x72", name := "bitCount", desc := "(I)I" } : Jvm.MethodName)) ∈ zW0 := q_in (List.mem_of_getElem? (i := 606) (by decide +kernel)) (by decide +kernel)
theorem q_607 : (Jvm.Cond.methodLink "BakedBefore$Search" (52 : Nat) ({ cls := "BakedBefore$Oven", name := "become", desc := "(LBakedBefore$Oven;)V" } : Jvm.MethodName)) ∈ zW0 := q_in (List.mem_of_getElem? (i := 607) (by decide +kernel)) (by decide +kernel)
theorem q_608 : (Jvm.Cond.methodLink "BakedBefore$Search" (56 : Nat) ({ cls := "BakedBefore$Search", name := "goOnOrde\x72", desc := "(III)V" } : Jvm.MethodName)) ∈ zW0 := q_in (List.mem_of_getElem? (i := 608) (by decide +kernel)) (by decide +kernel)
theorem q_610 : (Jvm.Cond.instanceMethod ({ cls := "BakedBefore$Search", name := "goOnOrde\x72", desc := "(III)V" } : Jvm.MethodName)) ∈ zW0 := q_in (List.mem_of_getElem? (i := 610) (by decide +kernel)) (by decide +kernel)
theorem q_611 : (Jvm.Cond.code ({ cls := "BakedBefore$Search", name := "goOnOrde\x72", desc := "(III)V" } : Jvm.MethodName) prog_10_method_3_code (6 : Nat) (Option.none : Option Jvm.ClassFile.FieldType)) ∈ zW0 := q_in (List.mem_of_getElem? (i := 611) (by decide +kernel)) (by decide +kernel)
theorem q_612 : (Jvm.Cond.methodLink "BakedBefore$Search" (60 : Nat) ({ cls := "BakedBefore$Search", name := "keep", desc := "(I)V" } : Jvm.MethodName)) ∈ zW0 := q_in (List.mem_of_getElem? (i := 612) (by decide +kernel)) (by decide +kernel)
theorem q_614 : (Jvm.Cond.instanceMethod ({ cls := "BakedBefore$Search", name := "keep", desc := "(I)V" } : Jvm.MethodName)) ∈ zW0 := q_in (List.mem_of_getElem? (i := 614) (by decide +kernel)) (by decide +kernel)
theorem q_615 : (Jvm.Cond.code ({ cls := "BakedBefore$Search", name := "keep", desc := "(I)V" } : Jvm.MethodName) prog_10_method_7_code (3 : Nat) (Option.none : Option Jvm.ClassFile.FieldType)) ∈ zW0 := q_in (List.mem_of_getElem? (i := 615) (by decide +kernel)) (by decide +kernel)
theorem q_616 : (Jvm.Cond.methodLink "BakedBefore$Search" (71 : Nat) ({ cls := "BakedBefore$Bake\x72", name := "bakeIn", desc := "(LBakedBefore$Oven;LBakedBefore$Loaf;)Z" } : Jvm.MethodName)) ∈ zW0 := q_in (List.mem_of_getElem? (i := 616) (by decide +kernel)) (by decide +kernel)
theorem q_618 : (Jvm.Cond.instanceMethod ({ cls := "BakedBefore", name := "colds", desc := "(II)I" } : Jvm.MethodName)) ∈ zW0 := q_in (List.mem_of_getElem? (i := 618) (by decide +kernel)) (by decide +kernel)
theorem q_619 : (Jvm.Cond.selects "BakedBefore" ({ cls := "BakedBefore", name := "colds", desc := "(II)I" } : Jvm.MethodName) ({ cls := "BakedBefore", name := "colds", desc := "(II)I" } : Jvm.MethodName)) ∈ zW0 := q_in (List.mem_of_getElem? (i := 619) (by decide +kernel)) (by decide +kernel)
theorem q_620 : (Jvm.Cond.code ({ cls := "BakedBefore", name := "colds", desc := "(II)I" } : Jvm.MethodName) prog_1_method_14_code (3 : Nat) (Option.some Jvm.ClassFile.FieldType.int)) ∈ zW0 := q_in (List.mem_of_getElem? (i := 620) (by decide +kernel)) (by decide +kernel)
theorem q_621 : (Jvm.Cond.methodLink "BakedBefore" (196 : Nat) ({ cls := "BakedBefore$Search", name := "seekColds", desc := "(I)Z" } : Jvm.MethodName)) ∈ zW0 := q_in (List.mem_of_getElem? (i := 621) (by decide +kernel)) (by decide +kernel)
theorem q_622 : (Jvm.Cond.instanceMethod ({ cls := "BakedBefore$Search", name := "seekColds", desc := "(I)Z" } : Jvm.MethodName)) ∈ zW0 := q_in (List.mem_of_getElem? (i := 622) (by decide +kernel)) (by decide +kernel)
theorem q_623 : (Jvm.Cond.selects "BakedBefore$Search" ({ cls := "BakedBefore$Search", name := "seekColds", desc := "(I)Z" } : Jvm.MethodName) ({ cls := "BakedBefore$Search", name := "seekColds", desc := "(I)Z" } : Jvm.MethodName)) ∈ zW0 := q_in (List.mem_of_getElem? (i := 623) (by decide +kernel)) (by decide +kernel)
theorem q_624 : (Jvm.Cond.code ({ cls := "BakedBefore$Search", name := "seekColds", desc := "(I)Z" } : Jvm.MethodName) prog_10_method_4_code (3 : Nat) (Option.some Jvm.ClassFile.FieldType.boolean)) ∈ zW0 := q_in (List.mem_of_getElem? (i := 624) (by decide +kernel)) (by decide +kernel)
theorem q_625 : (Jvm.Cond.methodLink "BakedBefore$Search" (77 : Nat) ({ cls := "BakedBefore$Search", name := "goOnColds", desc := "(III)V" } : Jvm.MethodName)) ∈ zW0 := q_in (List.mem_of_getElem? (i := 625) (by decide +kernel)) (by decide +kernel)
theorem q_627 : (Jvm.Cond.instanceMethod ({ cls := "BakedBefore$Search", name := "goOnColds", desc := "(III)V" } : Jvm.MethodName)) ∈ zW0 := q_in (List.mem_of_getElem? (i := 627) (by decide +kernel)) (by decide +kernel)
theorem q_628 : (Jvm.Cond.code ({ cls := "BakedBefore$Search", name := "goOnColds", desc := "(III)V" } : Jvm.MethodName) prog_10_method_5_code (6 : Nat) (Option.none : Option Jvm.ClassFile.FieldType)) ∈ zW0 := q_in (List.mem_of_getElem? (i := 628) (by decide +kernel)) (by decide +kernel)
theorem q_629 : (Jvm.Cond.methodLink "BakedBefore$Search" (80 : Nat) ({ cls := "BakedBefore$Search", name := "lowestOf", desc := "(I)I" } : Jvm.MethodName)) ∈ zW0 := q_in (List.mem_of_getElem? (i := 629) (by decide +kernel)) (by decide +kernel)
theorem q_630 : (Jvm.Cond.static ({ cls := "BakedBefore$Search", name := "lowestOf", desc := "(I)I" } : Jvm.MethodName)) ∈ zW0 := q_in (List.mem_of_getElem? (i := 630) (by decide +kernel)) (by decide +kernel)
theorem q_631 : (Jvm.Cond.code ({ cls := "BakedBefore$Search", name := "lowestOf", desc := "(I)I" } : Jvm.MethodName) prog_10_method_6_code (2 : Nat) (Option.some Jvm.ClassFile.FieldType.int)) ∈ zW0 := q_in (List.mem_of_getElem? (i := 631) (by decide +kernel)) (by decide +kernel)
theorem q_632 : (Jvm.Cond.methodLink "BakedBefore$Search" (83 : Nat) ({ cls := "BakedBefore$Bake\x72", name := "chill", desc := "(LBakedBefore$Oven;)V" } : Jvm.MethodName)) ∈ zW0 := q_in (List.mem_of_getElem? (i := 632) (by decide +kernel)) (by decide +kernel)
theorem q_634 : (Jvm.Cond.instanceMethod ({ cls := "BakedBefore", name := "place", desc := "(II)I" } : Jvm.MethodName)) ∈ zW0 := q_in (List.mem_of_getElem? (i := 634) (by decide +kernel)) (by decide +kernel)
theorem q_635 : (Jvm.Cond.selects "BakedBefore" ({ cls := "BakedBefore", name := "place", desc := "(II)I" } : Jvm.MethodName) ({ cls := "BakedBefore", name := "place", desc := "(II)I" } : Jvm.MethodName)) ∈ zW0 := q_in (List.mem_of_getElem? (i := 635) (by decide +kernel)) (by decide +kernel)
theorem q_636 : (Jvm.Cond.code ({ cls := "BakedBefore", name := "place", desc := "(II)I" } : Jvm.MethodName) prog_1_method_15_code (3 : Nat) (Option.some Jvm.ClassFile.FieldType.int)) ∈ zW0 := q_in (List.mem_of_getElem? (i := 636) (by decide +kernel)) (by decide +kernel)
theorem q_637 : (Jvm.Cond.methodLink "BakedBefore" (199 : Nat) ({ cls := "BakedBefore$Aske\x72", name := "bestPlace", desc := "(IZ)I" } : Jvm.MethodName)) ∈ zW0 := q_in (List.mem_of_getElem? (i := 637) (by decide +kernel)) (by decide +kernel)
theorem q_638 : (Jvm.Cond.instanceMethod ({ cls := "BakedBefore$Aske\x72", name := "bestPlace", desc := "(IZ)I" } : Jvm.MethodName)) ∈ zW0 := q_in (List.mem_of_getElem? (i := 638) (by decide +kernel)) (by decide +kernel)
theorem q_639 : (Jvm.Cond.selects "BakedBefore$Aske\x72" ({ cls := "BakedBefore$Aske\x72", name := "bestPlace", desc := "(IZ)I" } : Jvm.MethodName) ({ cls := "BakedBefore$Aske\x72", name := "bestPlace", desc := "(IZ)I" } : Jvm.MethodName)) ∈ zW0 := q_in (List.mem_of_getElem? (i := 639) (by decide +kernel)) (by decide +kernel)
theorem q_640 : (Jvm.Cond.code ({ cls := "BakedBefore$Aske\x72", name := "bestPlace", desc := "(IZ)I" } : Jvm.MethodName) prog_3_method_3_code (8 : Nat) (Option.some Jvm.ClassFile.FieldType.int)) ∈ zW0 := q_in (List.mem_of_getElem? (i := 640) (by decide +kernel)) (by decide +kernel)
theorem q_641 : (Jvm.Cond.methodLink "BakedBefore$Aske\x72" (61 : Nat) ({ cls := "BakedBefore$Bake\x72", name := "takesOfAll", desc := "(LBakedBefore$Loaf;LBakedBefore$Oven;)I" } : Jvm.MethodName)) ∈ zW0 := q_in (List.mem_of_getElem? (i := 641) (by decide +kernel)) (by decide +kernel)
theorem q_642 : (Jvm.Cond.instanceMethod ({ cls := "BakedBefore$Bake\x72", name := "takesOfAll", desc := "(LBakedBefore$Loaf;LBakedBefore$Oven;)I" } : Jvm.MethodName)) ∈ zW0 := q_in (List.mem_of_getElem? (i := 642) (by decide +kernel)) (by decide +kernel)
theorem q_643 : (Jvm.Cond.selects "BakedBefore$Bake\x72" ({ cls := "BakedBefore$Bake\x72", name := "takesOfAll", desc := "(LBakedBefore$Loaf;LBakedBefore$Oven;)I" } : Jvm.MethodName) ({ cls := "BakedBefore$Bake\x72", name := "takesOfAll", desc := "(LBakedBefore$Loaf;LBakedBefore$Oven;)I" } : Jvm.MethodName)) ∈ zW0 := q_in (List.mem_of_getElem? (i := 643) (by decide +kernel)) (by decide +kernel)
theorem q_644 : (Jvm.Cond.code ({ cls := "BakedBefore$Bake\x72", name := "takesOfAll", desc := "(LBakedBefore$Loaf;LBakedBefore$Oven;)I" } : Jvm.MethodName) prog_4_method_5_code (5 : Nat) (Option.some Jvm.ClassFile.FieldType.int)) ∈ zW0 := q_in (List.mem_of_getElem? (i := 644) (by decide +kernel)) (by decide +kernel)
theorem q_646 : (Jvm.Cond.instanceMethod ({ cls := "BakedBefore", name := "guilty", desc := "(I)I" } : Jvm.MethodName)) ∈ zW0 := q_in (List.mem_of_getElem? (i := 646) (by decide +kernel)) (by decide +kernel)
theorem q_647 : (Jvm.Cond.selects "BakedBefore" ({ cls := "BakedBefore", name := "guilty", desc := "(I)I" } : Jvm.MethodName) ({ cls := "BakedBefore", name := "guilty", desc := "(I)I" } : Jvm.MethodName)) ∈ zW0 := q_in (List.mem_of_getElem? (i := 647) (by decide +kernel)) (by decide +kernel)
theorem q_648 : (Jvm.Cond.code ({ cls := "BakedBefore", name := "guilty", desc := "(I)I" } : Jvm.MethodName) prog_1_method_16_code (2 : Nat) (Option.some Jvm.ClassFile.FieldType.int)) ∈ zW0 := q_in (List.mem_of_getElem? (i := 648) (by decide +kernel)) (by decide +kernel)
theorem q_649 : (Jvm.Cond.methodLink "BakedBefore" (203 : Nat) ({ cls := "BakedBefore$Aske\x72", name := "guiltyOf", desc := "(I)I" } : Jvm.MethodName)) ∈ zW0 := q_in (List.mem_of_getElem? (i := 649) (by decide +kernel)) (by decide +kernel)
theorem q_650 : (Jvm.Cond.instanceMethod ({ cls := "BakedBefore$Aske\x72", name := "guiltyOf", desc := "(I)I" } : Jvm.MethodName)) ∈ zW0 := q_in (List.mem_of_getElem? (i := 650) (by decide +kernel)) (by decide +kernel)
theorem q_651 : (Jvm.Cond.selects "BakedBefore$Aske\x72" ({ cls := "BakedBefore$Aske\x72", name := "guiltyOf", desc := "(I)I" } : Jvm.MethodName) ({ cls := "BakedBefore$Aske\x72", name := "guiltyOf", desc := "(I)I" } : Jvm.MethodName)) ∈ zW0 := q_in (List.mem_of_getElem? (i := 651) (by decide +kernel)) (by decide +kernel)
theorem q_652 : (Jvm.Cond.code ({ cls := "BakedBefore$Aske\x72", name := "guiltyOf", desc := "(I)I" } : Jvm.MethodName) prog_3_method_4_code (4 : Nat) (Option.some Jvm.ClassFile.FieldType.int)) ∈ zW0 := q_in (List.mem_of_getElem? (i := 652) (by decide +kernel)) (by decide +kernel)
theorem q_653 : (Jvm.Cond.methodLink "BakedBefore$Aske\x72" (69 : Nat) ({ cls := "BakedBefore$Aske\x72", name := "spoilsWithout", desc := "(II)Z" } : Jvm.MethodName)) ∈ zW0 := q_in (List.mem_of_getElem? (i := 653) (by decide +kernel)) (by decide +kernel)
theorem q_655 : (Jvm.Cond.instanceMethod ({ cls := "BakedBefore$Aske\x72", name := "spoilsWithout", desc := "(II)Z" } : Jvm.MethodName)) ∈ zW0 := q_in (List.mem_of_getElem? (i := 655) (by decide +kernel)) (by decide +kernel)
theorem q_656 : (Jvm.Cond.code ({ cls := "BakedBefore$Aske\x72", name := "spoilsWithout", desc := "(II)Z" } : Jvm.MethodName) prog_3_method_5_code (4 : Nat) (Option.some Jvm.ClassFile.FieldType.boolean)) ∈ zW0 := q_in (List.mem_of_getElem? (i := 656) (by decide +kernel)) (by decide +kernel)
theorem q_658 : (Jvm.Cond.instanceMethod ({ cls := "BakedBefore", name := "two", desc := "(I)I" } : Jvm.MethodName)) ∈ zW0 := q_in (List.mem_of_getElem? (i := 658) (by decide +kernel)) (by decide +kernel)
theorem q_659 : (Jvm.Cond.selects "BakedBefore" ({ cls := "BakedBefore", name := "two", desc := "(I)I" } : Jvm.MethodName) ({ cls := "BakedBefore", name := "two", desc := "(I)I" } : Jvm.MethodName)) ∈ zW0 := q_in (List.mem_of_getElem? (i := 659) (by decide +kernel)) (by decide +kernel)
theorem q_660 : (Jvm.Cond.code ({ cls := "BakedBefore", name := "two", desc := "(I)I" } : Jvm.MethodName) prog_1_method_17_code (2 : Nat) (Option.some Jvm.ClassFile.FieldType.int)) ∈ zW0 := q_in (List.mem_of_getElem? (i := 660) (by decide +kernel)) (by decide +kernel)
theorem q_661 : (Jvm.Cond.methodLink "BakedBefore" (206 : Nat) ({ cls := "BakedBefore$Aske\x72", name := "bestParting", desc := "(Z)I" } : Jvm.MethodName)) ∈ zW0 := q_in (List.mem_of_getElem? (i := 661) (by decide +kernel)) (by decide +kernel)
theorem q_662 : (Jvm.Cond.instanceMethod ({ cls := "BakedBefore$Aske\x72", name := "bestParting", desc := "(Z)I" } : Jvm.MethodName)) ∈ zW0 := q_in (List.mem_of_getElem? (i := 662) (by decide +kernel)) (by decide +kernel)
theorem q_663 : (Jvm.Cond.selects "BakedBefore$Aske\x72" ({ cls := "BakedBefore$Aske\x72", name := "bestParting", desc := "(Z)I" } : Jvm.MethodName) ({ cls := "BakedBefore$Aske\x72", name := "bestParting", desc := "(Z)I" } : Jvm.MethodName)) ∈ zW0 := q_in (List.mem_of_getElem? (i := 663) (by decide +kernel)) (by decide +kernel)
theorem q_664 : (Jvm.Cond.code ({ cls := "BakedBefore$Aske\x72", name := "bestParting", desc := "(Z)I" } : Jvm.MethodName) prog_3_method_6_code (7 : Nat) (Option.some Jvm.ClassFile.FieldType.int)) ∈ zW0 := q_in (List.mem_of_getElem? (i := 664) (by decide +kernel)) (by decide +kernel)
theorem q_665 : (Jvm.Cond.methodLink "BakedBefore$Aske\x72" (73 : Nat) ({ cls := "BakedBefore$Aske\x72", name := "spoiledIn", desc := "(I)I" } : Jvm.MethodName)) ∈ zW0 := q_in (List.mem_of_getElem? (i := 665) (by decide +kernel)) (by decide +kernel)
theorem q_667 : (Jvm.Cond.instanceMethod ({ cls := "BakedBefore$Aske\x72", name := "spoiledIn", desc := "(I)I" } : Jvm.MethodName)) ∈ zW0 := q_in (List.mem_of_getElem? (i := 667) (by decide +kernel)) (by decide +kernel)
theorem q_668 : (Jvm.Cond.code ({ cls := "BakedBefore$Aske\x72", name := "spoiledIn", desc := "(I)I" } : Jvm.MethodName) prog_3_method_7_code (4 : Nat) (Option.some Jvm.ClassFile.FieldType.int)) ∈ zW0 := q_in (List.mem_of_getElem? (i := 668) (by decide +kernel)) (by decide +kernel)
theorem q_670 : (Jvm.Cond.instanceMethod ({ cls := "BakedBefore", name := "has", desc := "(I)I" } : Jvm.MethodName)) ∈ zW0 := q_in (List.mem_of_getElem? (i := 670) (by decide +kernel)) (by decide +kernel)
theorem q_671 : (Jvm.Cond.selects "BakedBefore" ({ cls := "BakedBefore", name := "has", desc := "(I)I" } : Jvm.MethodName) ({ cls := "BakedBefore", name := "has", desc := "(I)I" } : Jvm.MethodName)) ∈ zW0 := q_in (List.mem_of_getElem? (i := 671) (by decide +kernel)) (by decide +kernel)
theorem q_672 : (Jvm.Cond.code ({ cls := "BakedBefore", name := "has", desc := "(I)I" } : Jvm.MethodName) prog_1_method_18_code (2 : Nat) (Option.some Jvm.ClassFile.FieldType.int)) ∈ zW0 := q_in (List.mem_of_getElem? (i := 672) (by decide +kernel)) (by decide +kernel)
theorem q_673 : (Jvm.Cond.constant "BakedBefore" (209 : Nat) (-100001 : Int32)) ∈ zW0 := q_in (List.mem_of_getElem? (i := 673) (by decide +kernel)) (by decide +kernel)
theorem q_674 : (Jvm.Cond.methodLink "BakedBefore" (210 : Nat) ({ cls := "BakedBefore$Aske\x72", name := "purse", desc := "(I)I" } : Jvm.MethodName)) ∈ zW0 := q_in (List.mem_of_getElem? (i := 674) (by decide +kernel)) (by decide +kernel)
theorem q_675 : (Jvm.Cond.instanceMethod ({ cls := "BakedBefore$Aske\x72", name := "purse", desc := "(I)I" } : Jvm.MethodName)) ∈ zW0 := q_in (List.mem_of_getElem? (i := 675) (by decide +kernel)) (by decide +kernel)
theorem q_676 : (Jvm.Cond.selects "BakedBefore$Aske\x72" ({ cls := "BakedBefore$Aske\x72", name := "purse", desc := "(I)I" } : Jvm.MethodName) ({ cls := "BakedBefore$Aske\x72", name := "purse", desc := "(I)I" } : Jvm.MethodName)) ∈ zW0 := q_in (List.mem_of_getElem? (i := 676) (by decide +kernel)) (by decide +kernel)
theorem q_677 : (Jvm.Cond.code ({ cls := "BakedBefore$Aske\x72", name := "purse", desc := "(I)I" } : Jvm.MethodName) prog_3_method_8_code (3 : Nat) (Option.some Jvm.ClassFile.FieldType.int)) ∈ zW0 := q_in (List.mem_of_getElem? (i := 677) (by decide +kernel)) (by decide +kernel)
theorem q_678 : (Jvm.Cond.methodLink "BakedBefore$Aske\x72" (77 : Nat) ({ cls := "BakedBefore$Aske\x72", name := "gainOfFirst", desc := "(I)I" } : Jvm.MethodName)) ∈ zW0 := q_in (List.mem_of_getElem? (i := 678) (by decide +kernel)) (by decide +kernel)
theorem q_680 : (Jvm.Cond.instanceMethod ({ cls := "BakedBefore$Aske\x72", name := "gainOfFirst", desc := "(I)I" } : Jvm.MethodName)) ∈ zW0 := q_in (List.mem_of_getElem? (i := 680) (by decide +kernel)) (by decide +kernel)
theorem q_681 : (Jvm.Cond.code ({ cls := "BakedBefore$Aske\x72", name := "gainOfFirst", desc := "(I)I" } : Jvm.MethodName) prog_3_method_9_code (4 : Nat) (Option.some Jvm.ClassFile.FieldType.int)) ∈ zW0 := q_in (List.mem_of_getElem? (i := 681) (by decide +kernel)) (by decide +kernel)
theorem q_682 : (Jvm.Cond.methodLink "BakedBefore$Aske\x72" (83 : Nat) ({ cls := "BakedBefore$Bake\x72", name := "feeOf", desc := "(LBakedBefore$Loaf;I)I" } : Jvm.MethodName)) ∈ zW0 := q_in (List.mem_of_getElem? (i := 682) (by decide +kernel)) (by decide +kernel)
theorem q_684 : (Jvm.Cond.instanceMethod ({ cls := "BakedBefore", name := "swaps", desc := "(I)I" } : Jvm.MethodName)) ∈ zW0 := q_in (List.mem_of_getElem? (i := 684) (by decide +kernel)) (by decide +kernel)
theorem q_685 : (Jvm.Cond.selects "BakedBefore" ({ cls := "BakedBefore", name := "swaps", desc := "(I)I" } : Jvm.MethodName) ({ cls := "BakedBefore", name := "swaps", desc := "(I)I" } : Jvm.MethodName)) ∈ zW0 := q_in (List.mem_of_getElem? (i := 685) (by decide +kernel)) (by decide +kernel)
theorem q_686 : (Jvm.Cond.code ({ cls := "BakedBefore", name := "swaps", desc := "(I)I" } : Jvm.MethodName) prog_1_method_19_code (2 : Nat) (Option.some Jvm.ClassFile.FieldType.int)) ∈ zW0 := q_in (List.mem_of_getElem? (i := 686) (by decide +kernel)) (by decide +kernel)
theorem q_687 : (Jvm.Cond.methodLink "BakedBefore" (213 : Nat) ({ cls := "BakedBefore$Aske\x72", name := "bothAgree", desc := "(I)Z" } : Jvm.MethodName)) ∈ zW0 := q_in (List.mem_of_getElem? (i := 687) (by decide +kernel)) (by decide +kernel)
theorem q_688 : (Jvm.Cond.instanceMethod ({ cls := "BakedBefore$Aske\x72", name := "bothAgree", desc := "(I)Z" } : Jvm.MethodName)) ∈ zW0 := q_in (List.mem_of_getElem? (i := 688) (by decide +kernel)) (by decide +kernel)
theorem q_689 : (Jvm.Cond.selects "BakedBefore$Aske\x72" ({ cls := "BakedBefore$Aske\x72", name := "bothAgree", desc := "(I)Z" } : Jvm.MethodName) ({ cls := "BakedBefore$Aske\x72", name := "bothAgree", desc := "(I)Z" } : Jvm.MethodName)) ∈ zW0 := q_in (List.mem_of_getElem? (i := 689) (by decide +kernel)) (by decide +kernel)
theorem q_690 : (Jvm.Cond.code ({ cls := "BakedBefore$Aske\x72", name := "bothAgree", desc := "(I)Z" } : Jvm.MethodName) prog_3_method_10_code (8 : Nat) (Option.some Jvm.ClassFile.FieldType.boolean)) ∈ zW0 := q_in (List.mem_of_getElem? (i := 690) (by decide +kernel)) (by decide +kernel)
theorem q_691 : (Jvm.Cond.methodLink "BakedBefore$Aske\x72" (87 : Nat) ({ cls := "BakedBefore$Aske\x72", name := "bakeAhead", desc := "(I)V" } : Jvm.MethodName)) ∈ zW0 := q_in (List.mem_of_getElem? (i := 691) (by decide +kernel)) (by decide +kernel)
theorem q_693 : (Jvm.Cond.instanceMethod ({ cls := "BakedBefore$Aske\x72", name := "bakeAhead", desc := "(I)V" } : Jvm.MethodName)) ∈ zW0 := q_in (List.mem_of_getElem? (i := 693) (by decide +kernel)) (by decide +kernel)
theorem q_694 : (Jvm.Cond.code ({ cls := "BakedBefore$Aske\x72", name := "bakeAhead", desc := "(I)V" } : Jvm.MethodName) prog_3_method_11_code (3 : Nat) (Option.none : Option Jvm.ClassFile.FieldType)) ∈ zW0 := q_in (List.mem_of_getElem? (i := 694) (by decide +kernel)) (by decide +kernel)
theorem q_696 : (Jvm.Cond.instanceMethod ({ cls := "BakedBefore", name := "span", desc := "(IIII)I" } : Jvm.MethodName)) ∈ zW0 := q_in (List.mem_of_getElem? (i := 696) (by decide +kernel)) (by decide +kernel)
theorem q_697 : (Jvm.Cond.selects "BakedBefore" ({ cls := "BakedBefore", name := "span", desc := "(IIII)I" } : Jvm.MethodName) ({ cls := "BakedBefore", name := "span", desc := "(IIII)I" } : Jvm.MethodName)) ∈ zW0 := q_in (List.mem_of_getElem? (i := 697) (by decide +kernel)) (by decide +kernel)
theorem q_698 : (Jvm.Cond.code ({ cls := "BakedBefore", name := "span", desc := "(IIII)I" } : Jvm.MethodName) prog_1_method_20_code (5 : Nat) (Option.some Jvm.ClassFile.FieldType.int)) ∈ zW0 := q_in (List.mem_of_getElem? (i := 698) (by decide +kernel)) (by decide +kernel)
theorem q_699 : (Jvm.Cond.methodLink "BakedBefore" (216 : Nat) ({ cls := "BakedBefore$Aske\x72", name := "heldBy", desc := "(LBakedBefore$Loaf;IIZ)I" } : Jvm.MethodName)) ∈ zW0 := q_in (List.mem_of_getElem? (i := 699) (by decide +kernel)) (by decide +kernel)
theorem q_700 : (Jvm.Cond.instanceMethod ({ cls := "BakedBefore$Aske\x72", name := "heldBy", desc := "(LBakedBefore$Loaf;IIZ)I" } : Jvm.MethodName)) ∈ zW0 := q_in (List.mem_of_getElem? (i := 700) (by decide +kernel)) (by decide +kernel)
theorem q_701 : (Jvm.Cond.selects "BakedBefore$Aske\x72" ({ cls := "BakedBefore$Aske\x72", name := "heldBy", desc := "(LBakedBefore$Loaf;IIZ)I" } : Jvm.MethodName) ({ cls := "BakedBefore$Aske\x72", name := "heldBy", desc := "(LBakedBefore$Loaf;IIZ)I" } : Jvm.MethodName)) ∈ zW0 := q_in (List.mem_of_getElem? (i := 701) (by decide +kernel)) (by decide +kernel)
theorem q_702 : (Jvm.Cond.code ({ cls := "BakedBefore$Aske\x72", name := "heldBy", desc := "(LBakedBefore$Loaf;IIZ)I" } : Jvm.MethodName) prog_3_method_12_code (11 : Nat) (Option.some Jvm.ClassFile.FieldType.int)) ∈ zW0 := q_in (List.mem_of_getElem? (i := 702) (by decide +kernel)) (by decide +kernel)
theorem q_703 : (Jvm.Cond.methodLink "BakedBefore$Aske\x72" (91 : Nat) ({ cls := "BakedBefore$Bake\x72", name := "partOf", desc := "(LBakedBefore$Loaf;III)I" } : Jvm.MethodName)) ∈ zW0 := q_in (List.mem_of_getElem? (i := 703) (by decide +kernel)) (by decide +kernel)
theorem q_704 : (Jvm.Cond.methodLink "BakedBefore$Aske\x72" (95 : Nat) ({ cls := "BakedBefore$Aske\x72", name := "reaching", desc := "(LBakedBefore$Loaf;IIIII)I" } : Jvm.MethodName)) ∈ zW0 := q_in (List.mem_of_getElem? (i := 704) (by decide +kernel)) (by decide +kernel)
theorem q_705 : (Jvm.Cond.static ({ cls := "BakedBefore$Aske\x72", name := "reaching", desc := "(LBakedBefore$Loaf;IIIII)I" } : Jvm.MethodName)) ∈ zW0 := q_in (List.mem_of_getElem? (i := 705) (by decide +kernel)) (by decide +kernel)
theorem q_706 : (Jvm.Cond.code ({ cls := "BakedBefore$Aske\x72", name := "reaching", desc := "(LBakedBefore$Loaf;IIIII)I" } : Jvm.MethodName) prog_3_method_13_code (9 : Nat) (Option.some Jvm.ClassFile.FieldType.int)) ∈ zW0 := q_in (List.mem_of_getElem? (i := 706) (by decide +kernel)) (by decide +kernel)
theorem q_707 : (Jvm.Cond.methodLink "BakedBefore$Aske\x72" (99 : Nat) ({ cls := "BakedBefore$Bake\x72", name := "amount", desc := "(LBakedBefore$Loaf;III)I" } : Jvm.MethodName)) ∈ zW0 := q_in (List.mem_of_getElem? (i := 707) (by decide +kernel)) (by decide +kernel)
theorem q_709 : (Jvm.Cond.instanceMethod ({ cls := "BakedBefore", name := "yea\x72", desc := "(III)I" } : Jvm.MethodName)) ∈ zW0 := q_in (List.mem_of_getElem? (i := 709) (by decide +kernel)) (by decide +kernel)
theorem q_710 : (Jvm.Cond.selects "BakedBefore" ({ cls := "BakedBefore", name := "yea\x72", desc := "(III)I" } : Jvm.MethodName) ({ cls := "BakedBefore", name := "yea\x72", desc := "(III)I" } : Jvm.MethodName)) ∈ zW0 := q_in (List.mem_of_getElem? (i := 710) (by decide +kernel)) (by decide +kernel)
theorem q_711 : (Jvm.Cond.code ({ cls := "BakedBefore", name := "yea\x72", desc := "(III)I" } : Jvm.MethodName) prog_1_method_21_code (4 : Nat) (Option.some Jvm.ClassFile.FieldType.int)) ∈ zW0 := q_in (List.mem_of_getElem? (i := 711) (by decide +kernel)) (by decide +kernel)
theorem q_712 : (Jvm.Cond.constant "BakedBefore" (220 : Nat) (-100002 : Int32)) ∈ zW0 := q_in (List.mem_of_getElem? (i := 712) (by decide +kernel)) (by decide +kernel)
theorem q_713 : (Jvm.Cond.constant "BakedBefore" (221 : Nat) (-100003 : Int32)) ∈ zW0 := q_in (List.mem_of_getElem? (i := 713) (by decide +kernel)) (by decide +kernel)
theorem q_714 : (Jvm.Cond.methodLink "BakedBefore" (222 : Nat) ({ cls := "BakedBefore$Aske\x72", name := "afterYea\x72", desc := "(III)I" } : Jvm.MethodName)) ∈ zW0 := q_in (List.mem_of_getElem? (i := 714) (by decide +kernel)) (by decide +kernel)
theorem q_715 : (Jvm.Cond.instanceMethod ({ cls := "BakedBefore$Aske\x72", name := "afterYea\x72", desc := "(III)I" } : Jvm.MethodName)) ∈ zW0 := q_in (List.mem_of_getElem? (i := 715) (by decide +kernel)) (by decide +kernel)
theorem q_716 : (Jvm.Cond.selects "BakedBefore$Aske\x72" ({ cls := "BakedBefore$Aske\x72", name := "afterYea\x72", desc := "(III)I" } : Jvm.MethodName) ({ cls := "BakedBefore$Aske\x72", name := "afterYea\x72", desc := "(III)I" } : Jvm.MethodName)) ∈ zW0 := q_in (List.mem_of_getElem? (i := 716) (by decide +kernel)) (by decide +kernel)
theorem q_717 : (Jvm.Cond.code ({ cls := "BakedBefore$Aske\x72", name := "afterYea\x72", desc := "(III)I" } : Jvm.MethodName) prog_3_method_14_code (7 : Nat) (Option.some Jvm.ClassFile.FieldType.int)) ∈ zW0 := q_in (List.mem_of_getElem? (i := 717) (by decide +kernel)) (by decide +kernel)
theorem q_718 : (Jvm.Cond.methodLink "BakedBefore$Aske\x72" (102 : Nat) ({ cls := "BakedBefore$Bake\x72", name := "chill", desc := "(LBakedBefore$Oven;)V" } : Jvm.MethodName)) ∈ zW0 := q_in (List.mem_of_getElem? (i := 718) (by decide +kernel)) (by decide +kernel)
theorem q_720 : (Jvm.Cond.instanceMethod ({ cls := "BakedBefore", name := "odds", desc := "(II)J" } : Jvm.MethodName)) ∈ zW0 := q_in (List.mem_of_getElem? (i := 720) (by decide +kernel)) (by decide +kernel)
theorem q_721 : (Jvm.Cond.selects "BakedBefore" ({ cls := "BakedBefore", name := "odds", desc := "(II)J" } : Jvm.MethodName) ({ cls := "BakedBefore", name := "odds", desc := "(II)J" } : Jvm.MethodName)) ∈ zW0 := q_in (List.mem_of_getElem? (i := 721) (by decide +kernel)) (by decide +kernel)
theorem q_722 : (Jvm.Cond.code ({ cls := "BakedBefore", name := "odds", desc := "(II)J" } : Jvm.MethodName) prog_1_method_22_code (3 : Nat) (Option.some Jvm.ClassFile.FieldType.long)) ∈ zW0 := q_in (List.mem_of_getElem? (i := 722) (by decide +kernel)) (by decide +kernel)
theorem q_723 : (Jvm.Cond.constantLong "BakedBefore" (225 : Nat) (-9223372036854775808 : Int64)) ∈ zW0 := q_in (List.mem_of_getElem? (i := 723) (by decide +kernel)) (by decide +kernel)
theorem q_724 : (Jvm.Cond.methodLink "BakedBefore" (227 : Nat) ({ cls := "BakedBefore$Aske\x72", name := "spoilers", desc := "(I)I" } : Jvm.MethodName)) ∈ zW0 := q_in (List.mem_of_getElem? (i := 724) (by decide +kernel)) (by decide +kernel)
theorem q_725 : (Jvm.Cond.instanceMethod ({ cls := "BakedBefore$Aske\x72", name := "spoilers", desc := "(I)I" } : Jvm.MethodName)) ∈ zW0 := q_in (List.mem_of_getElem? (i := 725) (by decide +kernel)) (by decide +kernel)
theorem q_726 : (Jvm.Cond.selects "BakedBefore$Aske\x72" ({ cls := "BakedBefore$Aske\x72", name := "spoilers", desc := "(I)I" } : Jvm.MethodName) ({ cls := "BakedBefore$Aske\x72", name := "spoilers", desc := "(I)I" } : Jvm.MethodName)) ∈ zW0 := q_in (List.mem_of_getElem? (i := 726) (by decide +kernel)) (by decide +kernel)
theorem q_727 : (Jvm.Cond.code ({ cls := "BakedBefore$Aske\x72", name := "spoilers", desc := "(I)I" } : Jvm.MethodName) prog_3_method_15_code (4 : Nat) (Option.some Jvm.ClassFile.FieldType.int)) ∈ zW0 := q_in (List.mem_of_getElem? (i := 727) (by decide +kernel)) (by decide +kernel)
theorem q_728 : (Jvm.Cond.methodLink "BakedBefore$Aske\x72" (108 : Nat) ({ cls := "BakedBefore$Aske\x72", name := "behind", desc := "(III)I" } : Jvm.MethodName)) ∈ zW0 := q_in (List.mem_of_getElem? (i := 728) (by decide +kernel)) (by decide +kernel)
theorem q_729 : (Jvm.Cond.methodLink "BakedBefore" (230 : Nat) ({ cls := "BakedBefore", name := "lowest", desc := "(III)J" } : Jvm.MethodName)) ∈ zW0 := q_in (List.mem_of_getElem? (i := 729) (by decide +kernel)) (by decide +kernel)
theorem q_730 : (Jvm.Cond.static ({ cls := "BakedBefore", name := "lowest", desc := "(III)J" } : Jvm.MethodName)) ∈ zW0 := q_in (List.mem_of_getElem? (i := 730) (by decide +kernel)) (by decide +kernel)
theorem q_731 : (Jvm.Cond.code ({ cls := "BakedBefore", name := "lowest", desc := "(III)J" } : Jvm.MethodName) prog_1_method_41_code (4 : Nat) (Option.some Jvm.ClassFile.FieldType.long)) ∈ zW0 := q_in (List.mem_of_getElem? (i := 731) (by decide +kernel)) (by decide +kernel)
theorem q_733 : (Jvm.Cond.instanceMethod ({ cls := "BakedBefore", name := "mean", desc := "(II)J" } : Jvm.MethodName)) ∈ zW0 := q_in (List.mem_of_getElem? (i := 733) (by decide +kernel)) (by decide +kernel)
theorem q_734 : (Jvm.Cond.selects "BakedBefore" ({ cls := "BakedBefore", name := "mean", desc := "(II)J" } : Jvm.MethodName) ({ cls := "BakedBefore", name := "mean", desc := "(II)J" } : Jvm.MethodName)) ∈ zW0 := q_in (List.mem_of_getElem? (i := 734) (by decide +kernel)) (by decide +kernel)
theorem q_735 : (Jvm.Cond.code ({ cls := "BakedBefore", name := "mean", desc := "(II)J" } : Jvm.MethodName) prog_1_method_23_code (3 : Nat) (Option.some Jvm.ClassFile.FieldType.long)) ∈ zW0 := q_in (List.mem_of_getElem? (i := 735) (by decide +kernel)) (by decide +kernel)
theorem q_736 : (Jvm.Cond.methodLink "BakedBefore" (234 : Nat) ({ cls := "BakedBefore$Aske\x72", name := "takenByAll", desc := "(I)I" } : Jvm.MethodName)) ∈ zW0 := q_in (List.mem_of_getElem? (i := 736) (by decide +kernel)) (by decide +kernel)
theorem q_737 : (Jvm.Cond.instanceMethod ({ cls := "BakedBefore$Aske\x72", name := "takenByAll", desc := "(I)I" } : Jvm.MethodName)) ∈ zW0 := q_in (List.mem_of_getElem? (i := 737) (by decide +kernel)) (by decide +kernel)
theorem q_738 : (Jvm.Cond.selects "BakedBefore$Aske\x72" ({ cls := "BakedBefore$Aske\x72", name := "takenByAll", desc := "(I)I" } : Jvm.MethodName) ({ cls := "BakedBefore$Aske\x72", name := "takenByAll", desc := "(I)I" } : Jvm.MethodName)) ∈ zW0 := q_in (List.mem_of_getElem? (i := 738) (by decide +kernel)) (by decide +kernel)
theorem q_739 : (Jvm.Cond.code ({ cls := "BakedBefore$Aske\x72", name := "takenByAll", desc := "(I)I" } : Jvm.MethodName) prog_3_method_16_code (4 : Nat) (Option.some Jvm.ClassFile.FieldType.int)) ∈ zW0 := q_in (List.mem_of_getElem? (i := 739) (by decide +kernel)) (by decide +kernel)
theorem q_741 : (Jvm.Cond.instanceMethod ({ cls := "BakedBefore", name := "book", desc := "(IZ)I" } : Jvm.MethodName)) ∈ zW0 := q_in (List.mem_of_getElem? (i := 741) (by decide +kernel)) (by decide +kernel)
theorem q_742 : (Jvm.Cond.selects "BakedBefore" ({ cls := "BakedBefore", name := "book", desc := "(IZ)I" } : Jvm.MethodName) ({ cls := "BakedBefore", name := "book", desc := "(IZ)I" } : Jvm.MethodName)) ∈ zW0 := q_in (List.mem_of_getElem? (i := 742) (by decide +kernel)) (by decide +kernel)
theorem q_743 : (Jvm.Cond.code ({ cls := "BakedBefore", name := "book", desc := "(IZ)I" } : Jvm.MethodName) prog_1_method_24_code (3 : Nat) (Option.some Jvm.ClassFile.FieldType.int)) ∈ zW0 := q_in (List.mem_of_getElem? (i := 743) (by decide +kernel)) (by decide +kernel)
theorem q_744 : (Jvm.Cond.methodLink "BakedBefore" (246 : Nat) ({ cls := "BakedBefore$Book", name := "append", desc := "(IZ)I" } : Jvm.MethodName)) ∈ zW0 := q_in (List.mem_of_getElem? (i := 744) (by decide +kernel)) (by decide +kernel)
theorem q_745 : (Jvm.Cond.instanceMethod ({ cls := "BakedBefore$Book", name := "append", desc := "(IZ)I" } : Jvm.MethodName)) ∈ zW0 := q_in (List.mem_of_getElem? (i := 745) (by decide +kernel)) (by decide +kernel)
theorem q_746 : (Jvm.Cond.selects "BakedBefore$Book" ({ cls := "BakedBefore$Book", name := "append", desc := "(IZ)I" } : Jvm.MethodName) ({ cls := "BakedBefore$Book", name := "append", desc := "(IZ)I" } : Jvm.MethodName)) ∈ zW0 := q_in (List.mem_of_getElem? (i := 746) (by decide +kernel)) (by decide +kernel)
theorem q_747 : (Jvm.Cond.code ({ cls := "BakedBefore$Book", name := "append", desc := "(IZ)I" } : Jvm.MethodName) prog_5_method_2_code (3 : Nat) (Option.some Jvm.ClassFile.FieldType.int)) ∈ zW0 := q_in (List.mem_of_getElem? (i := 747) (by decide +kernel)) (by decide +kernel)
theorem q_749 : (Jvm.Cond.instanceMethod ({ cls := "BakedBefore", name := "looked", desc := "()I" } : Jvm.MethodName)) ∈ zW0 := q_in (List.mem_of_getElem? (i := 749) (by decide +kernel)) (by decide +kernel)
theorem q_750 : (Jvm.Cond.selects "BakedBefore" ({ cls := "BakedBefore", name := "looked", desc := "()I" } : Jvm.MethodName) ({ cls := "BakedBefore", name := "looked", desc := "()I" } : Jvm.MethodName)) ∈ zW0 := q_in (List.mem_of_getElem? (i := 750) (by decide +kernel)) (by decide +kernel)
theorem q_751 : (Jvm.Cond.code ({ cls := "BakedBefore", name := "looked", desc := "()I" } : Jvm.MethodName) prog_1_method_25_code (1 : Nat) (Option.some Jvm.ClassFile.FieldType.int)) ∈ zW0 := q_in (List.mem_of_getElem? (i := 751) (by decide +kernel)) (by decide +kernel)
theorem q_752 : (Jvm.Cond.methodLink "BakedBefore" (248 : Nat) ({ cls := "BakedBefore$Aske\x72", name := "firstOtherwise", desc := "()I" } : Jvm.MethodName)) ∈ zW0 := q_in (List.mem_of_getElem? (i := 752) (by decide +kernel)) (by decide +kernel)
theorem q_753 : (Jvm.Cond.instanceMethod ({ cls := "BakedBefore$Aske\x72", name := "firstOtherwise", desc := "()I" } : Jvm.MethodName)) ∈ zW0 := q_in (List.mem_of_getElem? (i := 753) (by decide +kernel)) (by decide +kernel)
theorem q_754 : (Jvm.Cond.selects "BakedBefore$Aske\x72" ({ cls := "BakedBefore$Aske\x72", name := "firstOtherwise", desc := "()I" } : Jvm.MethodName) ({ cls := "BakedBefore$Aske\x72", name := "firstOtherwise", desc := "()I" } : Jvm.MethodName)) ∈ zW0 := q_in (List.mem_of_getElem? (i := 754) (by decide +kernel)) (by decide +kernel)
theorem q_755 : (Jvm.Cond.code ({ cls := "BakedBefore$Aske\x72", name := "firstOtherwise", desc := "()I" } : Jvm.MethodName) prog_3_method_17_code (4 : Nat) (Option.some Jvm.ClassFile.FieldType.int)) ∈ zW0 := q_in (List.mem_of_getElem? (i := 755) (by decide +kernel)) (by decide +kernel)
theorem q_757 : (Jvm.Cond.instanceMethod ({ cls := "BakedBefore", name := "judge", desc := "(II)I" } : Jvm.MethodName)) ∈ zW0 := q_in (List.mem_of_getElem? (i := 757) (by decide +kernel)) (by decide +kernel)
theorem q_758 : (Jvm.Cond.selects "BakedBefore" ({ cls := "BakedBefore", name := "judge", desc := "(II)I" } : Jvm.MethodName) ({ cls := "BakedBefore", name := "judge", desc := "(II)I" } : Jvm.MethodName)) ∈ zW0 := q_in (List.mem_of_getElem? (i := 758) (by decide +kernel)) (by decide +kernel)
theorem q_759 : (Jvm.Cond.code ({ cls := "BakedBefore", name := "judge", desc := "(II)I" } : Jvm.MethodName) prog_1_method_26_code (3 : Nat) (Option.some Jvm.ClassFile.FieldType.int)) ∈ zW0 := q_in (List.mem_of_getElem? (i := 759) (by decide +kernel)) (by decide +kernel)
theorem q_760 : (Jvm.Cond.methodLink "BakedBefore" (252 : Nat) ({ cls := "BakedBefore$Tapes", name := "isTape", desc := "(I)Z" } : Jvm.MethodName)) ∈ zW0 := q_in (List.mem_of_getElem? (i := 760) (by decide +kernel)) (by decide +kernel)
theorem q_761 : (Jvm.Cond.static ({ cls := "BakedBefore$Tapes", name := "isTape", desc := "(I)Z" } : Jvm.MethodName)) ∈ zW0 := q_in (List.mem_of_getElem? (i := 761) (by decide +kernel)) (by decide +kernel)
theorem q_762 : (Jvm.Cond.code ({ cls := "BakedBefore$Tapes", name := "isTape", desc := "(I)Z" } : Jvm.MethodName) prog_12_method_2_code (1 : Nat) (Option.some Jvm.ClassFile.FieldType.boolean)) ∈ zW0 := q_in (List.mem_of_getElem? (i := 762) (by decide +kernel)) (by decide +kernel)
theorem q_763 : (Jvm.Cond.methodLink "BakedBefore" (255 : Nat) ({ cls := "BakedBefore$Tapes", name := "firstUnlike", desc := "(IILBakedBefore$Oven;)I" } : Jvm.MethodName)) ∈ zW0 := q_in (List.mem_of_getElem? (i := 763) (by decide +kernel)) (by decide +kernel)
theorem q_764 : (Jvm.Cond.instanceMethod ({ cls := "BakedBefore$Tapes", name := "firstUnlike", desc := "(IILBakedBefore$Oven;)I" } : Jvm.MethodName)) ∈ zW0 := q_in (List.mem_of_getElem? (i := 764) (by decide +kernel)) (by decide +kernel)
theorem q_765 : (Jvm.Cond.selects "BakedBefore$Tapes" ({ cls := "BakedBefore$Tapes", name := "firstUnlike", desc := "(IILBakedBefore$Oven;)I" } : Jvm.MethodName) ({ cls := "BakedBefore$Tapes", name := "firstUnlike", desc := "(IILBakedBefore$Oven;)I" } : Jvm.MethodName)) ∈ zW0 := q_in (List.mem_of_getElem? (i := 765) (by decide +kernel)) (by decide +kernel)
theorem q_766 : (Jvm.Cond.code ({ cls := "BakedBefore$Tapes", name := "firstUnlike", desc := "(IILBakedBefore$Oven;)I" } : Jvm.MethodName) prog_12_method_8_code (5 : Nat) (Option.some Jvm.ClassFile.FieldType.int)) ∈ zW0 := q_in (List.mem_of_getElem? (i := 766) (by decide +kernel)) (by decide +kernel)
theorem q_768 : (Jvm.Cond.instanceMethod ({ cls := "BakedBefore", name := "image", desc := "()I" } : Jvm.MethodName)) ∈ zW0 := q_in (List.mem_of_getElem? (i := 768) (by decide +kernel)) (by decide +kernel)
theorem q_769 : (Jvm.Cond.selects "BakedBefore" ({ cls := "BakedBefore", name := "image", desc := "()I" } : Jvm.MethodName) ({ cls := "BakedBefore", name := "image", desc := "()I" } : Jvm.MethodName)) ∈ zW0 := q_in (List.mem_of_getElem? (i := 769) (by decide +kernel)) (by decide +kernel)
theorem q_770 : (Jvm.Cond.code ({ cls := "BakedBefore", name := "image", desc := "()I" } : Jvm.MethodName) prog_1_method_27_code (1 : Nat) (Option.some Jvm.ClassFile.FieldType.int)) ∈ zW0 := q_in (List.mem_of_getElem? (i := 770) (by decide +kernel)) (by decide +kernel)
theorem q_771 : (Jvm.Cond.methodLink "BakedBefore" (259 : Nat) ({ cls := "BakedBefore$Stand", name := "become", desc := "(LBakedBefore$Stand;)V" } : Jvm.MethodName)) ∈ zW0 := q_in (List.mem_of_getElem? (i := 771) (by decide +kernel)) (by decide +kernel)
theorem q_772 : (Jvm.Cond.instanceMethod ({ cls := "BakedBefore$Stand", name := "become", desc := "(LBakedBefore$Stand;)V" } : Jvm.MethodName)) ∈ zW0 := q_in (List.mem_of_getElem? (i := 772) (by decide +kernel)) (by decide +kernel)
theorem q_773 : (Jvm.Cond.selects "BakedBefore$Stand" ({ cls := "BakedBefore$Stand", name := "become", desc := "(LBakedBefore$Stand;)V" } : Jvm.MethodName) ({ cls := "BakedBefore$Stand", name := "become", desc := "(LBakedBefore$Stand;)V" } : Jvm.MethodName)) ∈ zW0 := q_in (List.mem_of_getElem? (i := 773) (by decide +kernel)) (by decide +kernel)
theorem q_774 : (Jvm.Cond.code ({ cls := "BakedBefore$Stand", name := "become", desc := "(LBakedBefore$Stand;)V" } : Jvm.MethodName) prog_11_method_2_code (3 : Nat) (Option.none : Option Jvm.ClassFile.FieldType)) ∈ zW0 := q_in (List.mem_of_getElem? (i := 774) (by decide +kernel)) (by decide +kernel)
theorem q_775 : (Jvm.Cond.methodLink "BakedBefore$Stand" (41 : Nat) ({ cls := "BakedBefore$Loaf", name := "become", desc := "(LBakedBefore$Loaf;)V" } : Jvm.MethodName)) ∈ zW0 := q_in (List.mem_of_getElem? (i := 775) (by decide +kernel)) (by decide +kernel)
theorem q_776 : (Jvm.Cond.instanceMethod ({ cls := "BakedBefore$Loaf", name := "become", desc := "(LBakedBefore$Loaf;)V" } : Jvm.MethodName)) ∈ zW0 := q_in (List.mem_of_getElem? (i := 776) (by decide +kernel)) (by decide +kernel)
theorem q_777 : (Jvm.Cond.selects "BakedBefore$Loaf" ({ cls := "BakedBefore$Loaf", name := "become", desc := "(LBakedBefore$Loaf;)V" } : Jvm.MethodName) ({ cls := "BakedBefore$Loaf", name := "become", desc := "(LBakedBefore$Loaf;)V" } : Jvm.MethodName)) ∈ zW0 := q_in (List.mem_of_getElem? (i := 777) (by decide +kernel)) (by decide +kernel)
theorem q_778 : (Jvm.Cond.code ({ cls := "BakedBefore$Loaf", name := "become", desc := "(LBakedBefore$Loaf;)V" } : Jvm.MethodName) prog_7_method_3_code (3 : Nat) (Option.none : Option Jvm.ClassFile.FieldType)) ∈ zW0 := q_in (List.mem_of_getElem? (i := 778) (by decide +kernel)) (by decide +kernel)
theorem q_779 : (Jvm.Cond.methodLink "BakedBefore$Stand" (45 : Nat) ({ cls := "BakedBefore$Oven", name := "become", desc := "(LBakedBefore$Oven;)V" } : Jvm.MethodName)) ∈ zW0 := q_in (List.mem_of_getElem? (i := 779) (by decide +kernel)) (by decide +kernel)
theorem q_780 : (Jvm.Cond.methodLink "BakedBefore$Stand" (48 : Nat) ({ cls := "BakedBefore$Book", name := "become", desc := "(LBakedBefore$Book;)V" } : Jvm.MethodName)) ∈ zW0 := q_in (List.mem_of_getElem? (i := 780) (by decide +kernel)) (by decide +kernel)
theorem q_781 : (Jvm.Cond.instanceMethod ({ cls := "BakedBefore$Book", name := "become", desc := "(LBakedBefore$Book;)V" } : Jvm.MethodName)) ∈ zW0 := q_in (List.mem_of_getElem? (i := 781) (by decide +kernel)) (by decide +kernel)
theorem q_782 : (Jvm.Cond.selects "BakedBefore$Book" ({ cls := "BakedBefore$Book", name := "become", desc := "(LBakedBefore$Book;)V" } : Jvm.MethodName) ({ cls := "BakedBefore$Book", name := "become", desc := "(LBakedBefore$Book;)V" } : Jvm.MethodName)) ∈ zW0 := q_in (List.mem_of_getElem? (i := 782) (by decide +kernel)) (by decide +kernel)
theorem q_783 : (Jvm.Cond.code ({ cls := "BakedBefore$Book", name := "become", desc := "(LBakedBefore$Book;)V" } : Jvm.MethodName) prog_5_method_3_code (3 : Nat) (Option.none : Option Jvm.ClassFile.FieldType)) ∈ zW0 := q_in (List.mem_of_getElem? (i := 783) (by decide +kernel)) (by decide +kernel)
theorem q_785 : (Jvm.Cond.instanceMethod ({ cls := "BakedBefore", name := "undo", desc := "()I" } : Jvm.MethodName)) ∈ zW0 := q_in (List.mem_of_getElem? (i := 785) (by decide +kernel)) (by decide +kernel)
theorem q_786 : (Jvm.Cond.selects "BakedBefore" ({ cls := "BakedBefore", name := "undo", desc := "()I" } : Jvm.MethodName) ({ cls := "BakedBefore", name := "undo", desc := "()I" } : Jvm.MethodName)) ∈ zW0 := q_in (List.mem_of_getElem? (i := 786) (by decide +kernel)) (by decide +kernel)
theorem q_787 : (Jvm.Cond.code ({ cls := "BakedBefore", name := "undo", desc := "()I" } : Jvm.MethodName) prog_1_method_28_code (1 : Nat) (Option.some Jvm.ClassFile.FieldType.int)) ∈ zW0 := q_in (List.mem_of_getElem? (i := 787) (by decide +kernel)) (by decide +kernel)
theorem q_789 : (Jvm.Cond.instanceMethod ({ cls := "BakedBefore", name := "act", desc := "(III)I" } : Jvm.MethodName)) ∈ zW0 := q_in (List.mem_of_getElem? (i := 789) (by decide +kernel)) (by decide +kernel)
theorem q_790 : (Jvm.Cond.selects "BakedBefore" ({ cls := "BakedBefore", name := "act", desc := "(III)I" } : Jvm.MethodName) ({ cls := "BakedBefore", name := "act", desc := "(III)I" } : Jvm.MethodName)) ∈ zW0 := q_in (List.mem_of_getElem? (i := 790) (by decide +kernel)) (by decide +kernel)
theorem q_791 : (Jvm.Cond.code ({ cls := "BakedBefore", name := "act", desc := "(III)I" } : Jvm.MethodName) prog_1_method_29_code (4 : Nat) (Option.some Jvm.ClassFile.FieldType.int)) ∈ zW0 := q_in (List.mem_of_getElem? (i := 791) (by decide +kernel)) (by decide +kernel)
theorem q_792 : (Jvm.Cond.methodLink "BakedBefore" (270 : Nat) ({ cls := "BakedBefore$Acts", name := "play", desc := "(LBakedBefore$Loaf;II)I" } : Jvm.MethodName)) ∈ zW0 := q_in (List.mem_of_getElem? (i := 792) (by decide +kernel)) (by decide +kernel)
theorem q_793 : (Jvm.Cond.instanceMethod ({ cls := "BakedBefore$Acts", name := "play", desc := "(LBakedBefore$Loaf;II)I" } : Jvm.MethodName)) ∈ zW0 := q_in (List.mem_of_getElem? (i := 793) (by decide +kernel)) (by decide +kernel)
theorem q_794 : (Jvm.Cond.selects "BakedBefore$Acts" ({ cls := "BakedBefore$Acts", name := "play", desc := "(LBakedBefore$Loaf;II)I" } : Jvm.MethodName) ({ cls := "BakedBefore$Acts", name := "play", desc := "(LBakedBefore$Loaf;II)I" } : Jvm.MethodName)) ∈ zW0 := q_in (List.mem_of_getElem? (i := 794) (by decide +kernel)) (by decide +kernel)
theorem q_795 : (Jvm.Cond.code ({ cls := "BakedBefore$Acts", name := "play", desc := "(LBakedBefore$Loaf;II)I" } : Jvm.MethodName) prog_2_method_2_code (4 : Nat) (Option.some Jvm.ClassFile.FieldType.int)) ∈ zW0 := q_in (List.mem_of_getElem? (i := 795) (by decide +kernel)) (by decide +kernel)
theorem q_796 : (Jvm.Cond.methodLink "BakedBefore$Acts" (24 : Nat) ({ cls := "BakedBefore$Acts", name := "run", desc := "(LBakedBefore$Loaf;IIII)I" } : Jvm.MethodName)) ∈ zW0 := q_in (List.mem_of_getElem? (i := 796) (by decide +kernel)) (by decide +kernel)
theorem q_798 : (Jvm.Cond.instanceMethod ({ cls := "BakedBefore$Acts", name := "run", desc := "(LBakedBefore$Loaf;IIII)I" } : Jvm.MethodName)) ∈ zW0 := q_in (List.mem_of_getElem? (i := 798) (by decide +kernel)) (by decide +kernel)
theorem q_799 : (Jvm.Cond.code ({ cls := "BakedBefore$Acts", name := "run", desc := "(LBakedBefore$Loaf;IIII)I" } : Jvm.MethodName) prog_2_method_3_code (10 : Nat) (Option.some Jvm.ClassFile.FieldType.int)) ∈ zW0 := q_in (List.mem_of_getElem? (i := 799) (by decide +kernel)) (by decide +kernel)
theorem q_800 : (Jvm.Cond.methodLink "BakedBefore$Acts" (28 : Nat) ({ cls := "BakedBefore$Acts", name := "bodyOf", desc := "(II)I" } : Jvm.MethodName)) ∈ zW0 := q_in (List.mem_of_getElem? (i := 800) (by decide +kernel)) (by decide +kernel)
theorem q_801 : (Jvm.Cond.static ({ cls := "BakedBefore$Acts", name := "bodyOf", desc := "(II)I" } : Jvm.MethodName)) ∈ zW0 := q_in (List.mem_of_getElem? (i := 801) (by decide +kernel)) (by decide +kernel)
theorem q_802 : (Jvm.Cond.code ({ cls := "BakedBefore$Acts", name := "bodyOf", desc := "(II)I" } : Jvm.MethodName) prog_2_method_4_code (4 : Nat) (Option.some Jvm.ClassFile.FieldType.int)) ∈ zW0 := q_in (List.mem_of_getElem? (i := 802) (by decide +kernel)) (by decide +kernel)
theorem q_803 : (Jvm.Cond.fieldLink "BakedBefore$Acts" (50 : Nat) "BakedBefore$Acts" "BODIES" "[I") ∈ zW0 := q_in (List.mem_of_getElem? (i := 803) (by decide +kernel)) (by decide +kernel)
theorem q_807 : (Jvm.Cond.methodLink "BakedBefore$Acts" (32 : Nat) ({ cls := "BakedBefore$Acts", name := "note", desc := "(I)V" } : Jvm.MethodName)) ∈ zW0 := q_in (List.mem_of_getElem? (i := 807) (by decide +kernel)) (by decide +kernel)
theorem q_809 : (Jvm.Cond.instanceMethod ({ cls := "BakedBefore$Acts", name := "note", desc := "(I)V" } : Jvm.MethodName)) ∈ zW0 := q_in (List.mem_of_getElem? (i := 809) (by decide +kernel)) (by decide +kernel)
theorem q_810 : (Jvm.Cond.code ({ cls := "BakedBefore$Acts", name := "note", desc := "(I)V" } : Jvm.MethodName) prog_2_method_5_code (2 : Nat) (Option.none : Option Jvm.ClassFile.FieldType)) ∈ zW0 := q_in (List.mem_of_getElem? (i := 810) (by decide +kernel)) (by decide +kernel)
theorem q_811 : (Jvm.Cond.methodLink "BakedBefore$Acts" (39 : Nat) ({ cls := "java/lang/Math", name := "max", desc := "(II)I" } : Jvm.MethodName)) ∈ zW0 := q_in (List.mem_of_getElem? (i := 811) (by decide +kernel)) (by decide +kernel)
theorem q_813 : (Jvm.Cond.instanceMethod ({ cls := "BakedBefore", name := "trace", desc := "(I)I" } : Jvm.MethodName)) ∈ zW0 := q_in (List.mem_of_getElem? (i := 813) (by decide +kernel)) (by decide +kernel)
theorem q_814 : (Jvm.Cond.selects "BakedBefore" ({ cls := "BakedBefore", name := "trace", desc := "(I)I" } : Jvm.MethodName) ({ cls := "BakedBefore", name := "trace", desc := "(I)I" } : Jvm.MethodName)) ∈ zW0 := q_in (List.mem_of_getElem? (i := 814) (by decide +kernel)) (by decide +kernel)
theorem q_815 : (Jvm.Cond.code ({ cls := "BakedBefore", name := "trace", desc := "(I)I" } : Jvm.MethodName) prog_1_method_30_code (2 : Nat) (Option.some Jvm.ClassFile.FieldType.int)) ∈ zW0 := q_in (List.mem_of_getElem? (i := 815) (by decide +kernel)) (by decide +kernel)
theorem q_817 : (Jvm.Cond.instanceMethod ({ cls := "BakedBefore", name := "taken", desc := "(II)I" } : Jvm.MethodName)) ∈ zW0 := q_in (List.mem_of_getElem? (i := 817) (by decide +kernel)) (by decide +kernel)
theorem q_818 : (Jvm.Cond.selects "BakedBefore" ({ cls := "BakedBefore", name := "taken", desc := "(II)I" } : Jvm.MethodName) ({ cls := "BakedBefore", name := "taken", desc := "(II)I" } : Jvm.MethodName)) ∈ zW0 := q_in (List.mem_of_getElem? (i := 818) (by decide +kernel)) (by decide +kernel)
theorem q_819 : (Jvm.Cond.code ({ cls := "BakedBefore", name := "taken", desc := "(II)I" } : Jvm.MethodName) prog_1_method_31_code (3 : Nat) (Option.some Jvm.ClassFile.FieldType.int)) ∈ zW0 := q_in (List.mem_of_getElem? (i := 819) (by decide +kernel)) (by decide +kernel)
theorem q_820 : (Jvm.Cond.methodLink "BakedBefore" (276 : Nat) ({ cls := "BakedBefore$Loaf", name := "isUnde\x72", desc := "(I)Z" } : Jvm.MethodName)) ∈ zW0 := q_in (List.mem_of_getElem? (i := 820) (by decide +kernel)) (by decide +kernel)
theorem q_821 : (Jvm.Cond.instanceMethod ({ cls := "BakedBefore$Loaf", name := "isUnde\x72", desc := "(I)Z" } : Jvm.MethodName)) ∈ zW0 := q_in (List.mem_of_getElem? (i := 821) (by decide +kernel)) (by decide +kernel)
theorem q_822 : (Jvm.Cond.selects "BakedBefore$Loaf" ({ cls := "BakedBefore$Loaf", name := "isUnde\x72", desc := "(I)Z" } : Jvm.MethodName) ({ cls := "BakedBefore$Loaf", name := "isUnde\x72", desc := "(I)Z" } : Jvm.MethodName)) ∈ zW0 := q_in (List.mem_of_getElem? (i := 822) (by decide +kernel)) (by decide +kernel)
theorem q_823 : (Jvm.Cond.code ({ cls := "BakedBefore$Loaf", name := "isUnde\x72", desc := "(I)Z" } : Jvm.MethodName) prog_7_method_4_code (4 : Nat) (Option.some Jvm.ClassFile.FieldType.boolean)) ∈ zW0 := q_in (List.mem_of_getElem? (i := 823) (by decide +kernel)) (by decide +kernel)
theorem q_826 : (Jvm.Cond.instanceMethod ({ cls := "BakedBefore", name := "count", desc := "(I)I" } : Jvm.MethodName)) ∈ zW0 := q_in (List.mem_of_getElem? (i := 826) (by decide +kernel)) (by decide +kernel)
theorem q_827 : (Jvm.Cond.selects "BakedBefore" ({ cls := "BakedBefore", name := "count", desc := "(I)I" } : Jvm.MethodName) ({ cls := "BakedBefore", name := "count", desc := "(I)I" } : Jvm.MethodName)) ∈ zW0 := q_in (List.mem_of_getElem? (i := 827) (by decide +kernel)) (by decide +kernel)
theorem q_828 : (Jvm.Cond.code ({ cls := "BakedBefore", name := "count", desc := "(I)I" } : Jvm.MethodName) prog_1_method_32_code (2 : Nat) (Option.some Jvm.ClassFile.FieldType.int)) ∈ zW0 := q_in (List.mem_of_getElem? (i := 828) (by decide +kernel)) (by decide +kernel)
theorem q_830 : (Jvm.Cond.instanceMethod ({ cls := "BakedBefore", name := "tape", desc := "(III)I" } : Jvm.MethodName)) ∈ zW0 := q_in (List.mem_of_getElem? (i := 830) (by decide +kernel)) (by decide +kernel)
theorem q_831 : (Jvm.Cond.selects "BakedBefore" ({ cls := "BakedBefore", name := "tape", desc := "(III)I" } : Jvm.MethodName) ({ cls := "BakedBefore", name := "tape", desc := "(III)I" } : Jvm.MethodName)) ∈ zW0 := q_in (List.mem_of_getElem? (i := 831) (by decide +kernel)) (by decide +kernel)
theorem q_832 : (Jvm.Cond.code ({ cls := "BakedBefore", name := "tape", desc := "(III)I" } : Jvm.MethodName) prog_1_method_33_code (4 : Nat) (Option.some Jvm.ClassFile.FieldType.int)) ∈ zW0 := q_in (List.mem_of_getElem? (i := 832) (by decide +kernel)) (by decide +kernel)
theorem q_833 : (Jvm.Cond.methodLink "BakedBefore" (280 : Nat) ({ cls := "BakedBefore$Tapes", name := "begin", desc := "(III)I" } : Jvm.MethodName)) ∈ zW0 := q_in (List.mem_of_getElem? (i := 833) (by decide +kernel)) (by decide +kernel)
theorem q_834 : (Jvm.Cond.instanceMethod ({ cls := "BakedBefore$Tapes", name := "begin", desc := "(III)I" } : Jvm.MethodName)) ∈ zW0 := q_in (List.mem_of_getElem? (i := 834) (by decide +kernel)) (by decide +kernel)
theorem q_835 : (Jvm.Cond.selects "BakedBefore$Tapes" ({ cls := "BakedBefore$Tapes", name := "begin", desc := "(III)I" } : Jvm.MethodName) ({ cls := "BakedBefore$Tapes", name := "begin", desc := "(III)I" } : Jvm.MethodName)) ∈ zW0 := q_in (List.mem_of_getElem? (i := 835) (by decide +kernel)) (by decide +kernel)
theorem q_836 : (Jvm.Cond.code ({ cls := "BakedBefore$Tapes", name := "begin", desc := "(III)I" } : Jvm.MethodName) prog_12_method_3_code (5 : Nat) (Option.some Jvm.ClassFile.FieldType.int)) ∈ zW0 := q_in (List.mem_of_getElem? (i := 836) (by decide +kernel)) (by decide +kernel)
theorem q_838 : (Jvm.Cond.instanceMethod ({ cls := "BakedBefore", name := "item", desc := "(IIJ)I" } : Jvm.MethodName)) ∈ zW0 := q_in (List.mem_of_getElem? (i := 838) (by decide +kernel)) (by decide +kernel)
theorem q_839 : (Jvm.Cond.selects "BakedBefore" ({ cls := "BakedBefore", name := "item", desc := "(IIJ)I" } : Jvm.MethodName) ({ cls := "BakedBefore", name := "item", desc := "(IIJ)I" } : Jvm.MethodName)) ∈ zW0 := q_in (List.mem_of_getElem? (i := 839) (by decide +kernel)) (by decide +kernel)
theorem q_840 : (Jvm.Cond.code ({ cls := "BakedBefore", name := "item", desc := "(IIJ)I" } : Jvm.MethodName) prog_1_method_34_code (5 : Nat) (Option.some Jvm.ClassFile.FieldType.int)) ∈ zW0 := q_in (List.mem_of_getElem? (i := 840) (by decide +kernel)) (by decide +kernel)
theorem q_841 : (Jvm.Cond.methodLink "BakedBefore" (282 : Nat) ({ cls := "BakedBefore$Tapes", name := "write", desc := "(IIJ)I" } : Jvm.MethodName)) ∈ zW0 := q_in (List.mem_of_getElem? (i := 841) (by decide +kernel)) (by decide +kernel)
theorem q_842 : (Jvm.Cond.instanceMethod ({ cls := "BakedBefore$Tapes", name := "write", desc := "(IIJ)I" } : Jvm.MethodName)) ∈ zW0 := q_in (List.mem_of_getElem? (i := 842) (by decide +kernel)) (by decide +kernel)
theorem q_843 : (Jvm.Cond.selects "BakedBefore$Tapes" ({ cls := "BakedBefore$Tapes", name := "write", desc := "(IIJ)I" } : Jvm.MethodName) ({ cls := "BakedBefore$Tapes", name := "write", desc := "(IIJ)I" } : Jvm.MethodName)) ∈ zW0 := q_in (List.mem_of_getElem? (i := 843) (by decide +kernel)) (by decide +kernel)
theorem q_844 : (Jvm.Cond.code ({ cls := "BakedBefore$Tapes", name := "write", desc := "(IIJ)I" } : Jvm.MethodName) prog_12_method_4_code (5 : Nat) (Option.some Jvm.ClassFile.FieldType.int)) ∈ zW0 := q_in (List.mem_of_getElem? (i := 844) (by decide +kernel)) (by decide +kernel)
theorem q_845 : (Jvm.Cond.methodLink "BakedBefore$Tapes" (23 : Nat) ({ cls := "BakedBefore$Tapes", name := "asItem", desc := "(IJ)J" } : Jvm.MethodName)) ∈ zW0 := q_in (List.mem_of_getElem? (i := 845) (by decide +kernel)) (by decide +kernel)
theorem q_846 : (Jvm.Cond.static ({ cls := "BakedBefore$Tapes", name := "asItem", desc := "(IJ)J" } : Jvm.MethodName)) ∈ zW0 := q_in (List.mem_of_getElem? (i := 846) (by decide +kernel)) (by decide +kernel)
theorem q_847 : (Jvm.Cond.code ({ cls := "BakedBefore$Tapes", name := "asItem", desc := "(IJ)J" } : Jvm.MethodName) prog_12_method_5_code (3 : Nat) (Option.some Jvm.ClassFile.FieldType.long)) ∈ zW0 := q_in (List.mem_of_getElem? (i := 847) (by decide +kernel)) (by decide +kernel)
theorem q_849 : (Jvm.Cond.instanceMethod ({ cls := "BakedBefore", name := "read", desc := "(II)J" } : Jvm.MethodName)) ∈ zW0 := q_in (List.mem_of_getElem? (i := 849) (by decide +kernel)) (by decide +kernel)
theorem q_850 : (Jvm.Cond.selects "BakedBefore" ({ cls := "BakedBefore", name := "read", desc := "(II)J" } : Jvm.MethodName) ({ cls := "BakedBefore", name := "read", desc := "(II)J" } : Jvm.MethodName)) ∈ zW0 := q_in (List.mem_of_getElem? (i := 850) (by decide +kernel)) (by decide +kernel)
theorem q_851 : (Jvm.Cond.code ({ cls := "BakedBefore", name := "read", desc := "(II)J" } : Jvm.MethodName) prog_1_method_35_code (3 : Nat) (Option.some Jvm.ClassFile.FieldType.long)) ∈ zW0 := q_in (List.mem_of_getElem? (i := 851) (by decide +kernel)) (by decide +kernel)
theorem q_852 : (Jvm.Cond.methodLink "BakedBefore" (286 : Nat) ({ cls := "BakedBefore$Tapes", name := "valueAt", desc := "(II)J" } : Jvm.MethodName)) ∈ zW0 := q_in (List.mem_of_getElem? (i := 852) (by decide +kernel)) (by decide +kernel)
theorem q_853 : (Jvm.Cond.instanceMethod ({ cls := "BakedBefore$Tapes", name := "valueAt", desc := "(II)J" } : Jvm.MethodName)) ∈ zW0 := q_in (List.mem_of_getElem? (i := 853) (by decide +kernel)) (by decide +kernel)
theorem q_854 : (Jvm.Cond.selects "BakedBefore$Tapes" ({ cls := "BakedBefore$Tapes", name := "valueAt", desc := "(II)J" } : Jvm.MethodName) ({ cls := "BakedBefore$Tapes", name := "valueAt", desc := "(II)J" } : Jvm.MethodName)) ∈ zW0 := q_in (List.mem_of_getElem? (i := 854) (by decide +kernel)) (by decide +kernel)
theorem q_855 : (Jvm.Cond.code ({ cls := "BakedBefore$Tapes", name := "valueAt", desc := "(II)J" } : Jvm.MethodName) prog_12_method_6_code (3 : Nat) (Option.some Jvm.ClassFile.FieldType.long)) ∈ zW0 := q_in (List.mem_of_getElem? (i := 855) (by decide +kernel)) (by decide +kernel)
theorem q_856 : (Jvm.Cond.constantLong "BakedBefore$Tapes" (27 : Nat) (-9223372036854775808 : Int64)) ∈ zW0 := q_in (List.mem_of_getElem? (i := 856) (by decide +kernel)) (by decide +kernel)
theorem q_858 : (Jvm.Cond.instanceMethod ({ cls := "BakedBefore", name := "shift", desc := "(IIIII)I" } : Jvm.MethodName)) ∈ zW0 := q_in (List.mem_of_getElem? (i := 858) (by decide +kernel)) (by decide +kernel)
theorem q_859 : (Jvm.Cond.selects "BakedBefore" ({ cls := "BakedBefore", name := "shift", desc := "(IIIII)I" } : Jvm.MethodName) ({ cls := "BakedBefore", name := "shift", desc := "(IIIII)I" } : Jvm.MethodName)) ∈ zW0 := q_in (List.mem_of_getElem? (i := 859) (by decide +kernel)) (by decide +kernel)
theorem q_860 : (Jvm.Cond.code ({ cls := "BakedBefore", name := "shift", desc := "(IIIII)I" } : Jvm.MethodName) prog_1_method_36_code (6 : Nat) (Option.some Jvm.ClassFile.FieldType.int)) ∈ zW0 := q_in (List.mem_of_getElem? (i := 860) (by decide +kernel)) (by decide +kernel)
theorem q_861 : (Jvm.Cond.methodLink "BakedBefore" (290 : Nat) ({ cls := "BakedBefore$Tapes", name := "move", desc := "(IIIII)I" } : Jvm.MethodName)) ∈ zW0 := q_in (List.mem_of_getElem? (i := 861) (by decide +kernel)) (by decide +kernel)
theorem q_862 : (Jvm.Cond.instanceMethod ({ cls := "BakedBefore$Tapes", name := "move", desc := "(IIIII)I" } : Jvm.MethodName)) ∈ zW0 := q_in (List.mem_of_getElem? (i := 862) (by decide +kernel)) (by decide +kernel)
theorem q_863 : (Jvm.Cond.selects "BakedBefore$Tapes" ({ cls := "BakedBefore$Tapes", name := "move", desc := "(IIIII)I" } : Jvm.MethodName) ({ cls := "BakedBefore$Tapes", name := "move", desc := "(IIIII)I" } : Jvm.MethodName)) ∈ zW0 := q_in (List.mem_of_getElem? (i := 863) (by decide +kernel)) (by decide +kernel)
theorem q_864 : (Jvm.Cond.code ({ cls := "BakedBefore$Tapes", name := "move", desc := "(IIIII)I" } : Jvm.MethodName) prog_12_method_7_code (6 : Nat) (Option.some Jvm.ClassFile.FieldType.int)) ∈ zW0 := q_in (List.mem_of_getElem? (i := 864) (by decide +kernel)) (by decide +kernel)
theorem q_865 : (Jvm.Cond.methodLink "BakedBefore$Tapes" (29 : Nat) ({ cls := "java/lang/System", name := "arraycopy", desc := "(Ljava/lang/Object;ILjava/lang/Object;II)V" } : Jvm.MethodName)) ∈ zW0 := q_in (List.mem_of_getElem? (i := 865) (by decide +kernel)) (by decide +kernel)
theorem q_874 : (Jvm.Cond.fieldLink "BakedBeforeModel" (11 : Nat) "BakedBeforeModel" "s" "[I") ∈ zW0 := q_in (List.mem_of_getElem? (i := 874) (by decide +kernel)) (by decide +kernel)
theorem q_875 : (Jvm.Cond.fieldLink "BakedBeforeModel" (15 : Nat) "BakedBeforeModel" "image" "[I") ∈ zW0 := q_in (List.mem_of_getElem? (i := 875) (by decide +kernel)) (by decide +kernel)
theorem q_876 : (Jvm.Cond.fieldLink "BakedBeforeModel" (18 : Nat) "BakedBeforeModel" "mind" "[I") ∈ zW0 := q_in (List.mem_of_getElem? (i := 876) (by decide +kernel)) (by decide +kernel)
theorem q_877 : (Jvm.Cond.fieldLink "BakedBeforeModel" (278 : Nat) "BakedBeforeModel" "hasImage" "Z") ∈ zW0 := q_in (List.mem_of_getElem? (i := 877) (by decide +kernel)) (by decide +kernel)
theorem q_878 : (Jvm.Cond.fieldLink "BakedBeforeModel" (21 : Nat) "BakedBeforeModel" "text" "[I") ∈ zW0 := q_in (List.mem_of_getElem? (i := 878) (by decide +kernel)) (by decide +kernel)
theorem q_879 : (Jvm.Cond.fieldLink "BakedBeforeModel" (24 : Nat) "BakedBeforeModel" "kilnText" "[I") ∈ zW0 := q_in (List.mem_of_getElem? (i := 879) (by decide +kernel)) (by decide +kernel)
theorem q_880 : (Jvm.Cond.fieldLink "BakedBeforeModel" (27 : Nat) "BakedBeforeModel" "kilnLong" "[I") ∈ zW0 := q_in (List.mem_of_getElem? (i := 880) (by decide +kernel)) (by decide +kernel)
theorem q_881 : (Jvm.Cond.fieldLink "BakedBeforeModel" (64 : Nat) "BakedBeforeModel" "texted" "I") ∈ zW0 := q_in (List.mem_of_getElem? (i := 881) (by decide +kernel)) (by decide +kernel)
theorem q_882 : (Jvm.Cond.fieldLink "BakedBeforeModel" (173 : Nat) "BakedBeforeModel" "kilns" "I") ∈ zW0 := q_in (List.mem_of_getElem? (i := 882) (by decide +kernel)) (by decide +kernel)
theorem q_883 : (Jvm.Cond.fieldLink "BakedBeforeModel" (74 : Nat) "BakedBeforeModel" "base" "I") ∈ zW0 := q_in (List.mem_of_getElem? (i := 883) (by decide +kernel)) (by decide +kernel)
theorem q_884 : (Jvm.Cond.fieldLink "BakedBeforeModel" (71 : Nat) "BakedBeforeModel" "end" "I") ∈ zW0 := q_in (List.mem_of_getElem? (i := 884) (by decide +kernel)) (by decide +kernel)
theorem q_885 : (Jvm.Cond.fieldLink "BakedBeforeModel" (68 : Nat) "BakedBeforeModel" "at" "I") ∈ zW0 := q_in (List.mem_of_getElem? (i := 885) (by decide +kernel)) (by decide +kernel)
theorem q_886 : (Jvm.Cond.fieldLink "BakedBeforeModel" (89 : Nat) "BakedBeforeModel" "loaf" "I") ∈ zW0 := q_in (List.mem_of_getElem? (i := 886) (by decide +kernel)) (by decide +kernel)
theorem q_887 : (Jvm.Cond.fieldLink "BakedBeforeModel" (99 : Nat) "BakedBeforeModel" "taste" "I") ∈ zW0 := q_in (List.mem_of_getElem? (i := 887) (by decide +kernel)) (by decide +kernel)
theorem q_888 : (Jvm.Cond.fieldLink "BakedBeforeModel" (77 : Nat) "BakedBeforeModel" "wrong" "Z") ∈ zW0 := q_in (List.mem_of_getElem? (i := 888) (by decide +kernel)) (by decide +kernel)
theorem q_889 : (Jvm.Cond.fieldLink "BakedBeforeModel" (96 : Nat) "BakedBeforeModel" "isFee" "Z") ∈ zW0 := q_in (List.mem_of_getElem? (i := 889) (by decide +kernel)) (by decide +kernel)
theorem q_890 : (Jvm.Cond.fieldLink "BakedBeforeModel" (157 : Nat) "BakedBeforeModel" "part" "I") ∈ zW0 := q_in (List.mem_of_getElem? (i := 890) (by decide +kernel)) (by decide +kernel)
theorem q_891 : (Jvm.Cond.fieldLink "BakedBeforeModel" (154 : Nat) "BakedBeforeModel" "parts" "I") ∈ zW0 := q_in (List.mem_of_getElem? (i := 891) (by decide +kernel)) (by decide +kernel)
theorem q_892 : (Jvm.Cond.fieldLink "BakedBeforeModel" (160 : Nat) "BakedBeforeModel" "more" "I") ∈ zW0 := q_in (List.mem_of_getElem? (i := 892) (by decide +kernel)) (by decide +kernel)
theorem q_893 : (Jvm.Cond.fieldLink "BakedBeforeModel" (151 : Nat) "BakedBeforeModel" "cold" "I") ∈ zW0 := q_in (List.mem_of_getElem? (i := 893) (by decide +kernel)) (by decide +kernel)
theorem q_894 : (Jvm.Cond.fieldLink "BakedBeforeModel" (163 : Nat) "BakedBeforeModel" "fee" "I") ∈ zW0 := q_in (List.mem_of_getElem? (i := 894) (by decide +kernel)) (by decide +kernel)
theorem q_895 : (Jvm.Cond.fieldLink "BakedBeforeModel" (30 : Nat) "BakedBeforeModel" "held" "[I") ∈ zW0 := q_in (List.mem_of_getElem? (i := 895) (by decide +kernel)) (by decide +kernel)
theorem q_896 : (Jvm.Cond.fieldLink "BakedBeforeModel" (33 : Nat) "BakedBeforeModel" "line" "[I") ∈ zW0 := q_in (List.mem_of_getElem? (i := 896) (by decide +kernel)) (by decide +kernel)
theorem q_897 : (Jvm.Cond.fieldLink "BakedBeforeModel" (36 : Nat) "BakedBeforeModel" "best" "[I") ∈ zW0 := q_in (List.mem_of_getElem? (i := 897) (by decide +kernel)) (by decide +kernel)
theorem q_898 : (Jvm.Cond.fieldLink "BakedBeforeModel" (223 : Nat) "BakedBeforeModel" "fewest" "I") ∈ zW0 := q_in (List.mem_of_getElem? (i := 898) (by decide +kernel)) (by decide +kernel)
theorem q_899 : (Jvm.Cond.fieldLink "BakedBeforeModel" (39 : Nat) "BakedBeforeModel" "tapeSort" "[I") ∈ zW0 := q_in (List.mem_of_getElem? (i := 899) (by decide +kernel)) (by decide +kernel)
theorem q_900 : (Jvm.Cond.fieldLink "BakedBeforeModel" (42 : Nat) "BakedBeforeModel" "tapeLong" "[I") ∈ zW0 := q_in (List.mem_of_getElem? (i := 900) (by decide +kernel)) (by decide +kernel)
theorem q_901 : (Jvm.Cond.fieldLink "BakedBeforeModel" (45 : Nat) "BakedBeforeModel" "item" "[J") ∈ zW0 := q_in (List.mem_of_getElem? (i := 901) (by decide +kernel)) (by decide +kernel)
theorem q_902 : (Jvm.Cond.fieldLink "BakedBeforeModel" (49 : Nat) "BakedBeforeModel" "trace" "[I") ∈ zW0 := q_in (List.mem_of_getElem? (i := 902) (by decide +kernel)) (by decide +kernel)
theorem q_903 : (Jvm.Cond.fieldLink "BakedBeforeModel" (281 : Nat) "BakedBeforeModel" "ran" "I") ∈ zW0 := q_in (List.mem_of_getElem? (i := 903) (by decide +kernel)) (by decide +kernel)
theorem q_904 : (Jvm.Cond.fieldLink "BakedBeforeModel" (291 : Nat) "BakedBeforeModel" "own" "I") ∈ zW0 := q_in (List.mem_of_getElem? (i := 904) (by decide +kernel)) (by decide +kernel)
theorem q_969 : (Jvm.Cond.instanceMethod ({ cls := "BakedBeforeModel", name := "feed", desc := "(I)I" } : Jvm.MethodName)) ∈ zW0 := q_in (List.mem_of_getElem? (i := 969) (by decide +kernel)) (by decide +kernel)
theorem q_970 : (Jvm.Cond.selects "BakedBeforeModel" ({ cls := "BakedBeforeModel", name := "feed", desc := "(I)I" } : Jvm.MethodName) ({ cls := "BakedBeforeModel", name := "feed", desc := "(I)I" } : Jvm.MethodName)) ∈ zW0 := q_in (List.mem_of_getElem? (i := 970) (by decide +kernel)) (by decide +kernel)
theorem q_971 : (Jvm.Cond.code ({ cls := "BakedBeforeModel", name := "feed", desc := "(I)I" } : Jvm.MethodName) prog_14_method_13_code (2 : Nat) (Option.some Jvm.ClassFile.FieldType.int)) ∈ zW0 := q_in (List.mem_of_getElem? (i := 971) (by decide +kernel)) (by decide +kernel)
theorem q_972 : (Jvm.Cond.methodLink "BakedBeforeModel" (52 : Nat) ({ cls := "BakedBeforeModel", name := "isIn", desc := "(III)Z" } : Jvm.MethodName)) ∈ zW0 := q_in (List.mem_of_getElem? (i := 972) (by decide +kernel)) (by decide +kernel)
theorem q_973 : (Jvm.Cond.static ({ cls := "BakedBeforeModel", name := "isIn", desc := "(III)Z" } : Jvm.MethodName)) ∈ zW0 := q_in (List.mem_of_getElem? (i := 973) (by decide +kernel)) (by decide +kernel)
theorem q_974 : (Jvm.Cond.code ({ cls := "BakedBeforeModel", name := "isIn", desc := "(III)Z" } : Jvm.MethodName) prog_14_method_2_code (3 : Nat) (Option.some Jvm.ClassFile.FieldType.boolean)) ∈ zW0 := q_in (List.mem_of_getElem? (i := 974) (by decide +kernel)) (by decide +kernel)
theorem q_976 : (Jvm.Cond.instanceMethod ({ cls := "BakedBeforeModel", name := "kiln", desc := "()I" } : Jvm.MethodName)) ∈ zW0 := q_in (List.mem_of_getElem? (i := 976) (by decide +kernel)) (by decide +kernel)
theorem q_977 : (Jvm.Cond.selects "BakedBeforeModel" ({ cls := "BakedBeforeModel", name := "kiln", desc := "()I" } : Jvm.MethodName) ({ cls := "BakedBeforeModel", name := "kiln", desc := "()I" } : Jvm.MethodName)) ∈ zW0 := q_in (List.mem_of_getElem? (i := 977) (by decide +kernel)) (by decide +kernel)
theorem q_978 : (Jvm.Cond.code ({ cls := "BakedBeforeModel", name := "kiln", desc := "()I" } : Jvm.MethodName) prog_14_method_28_code (2 : Nat) (Option.some Jvm.ClassFile.FieldType.int)) ∈ zW0 := q_in (List.mem_of_getElem? (i := 978) (by decide +kernel)) (by decide +kernel)
theorem q_979 : (Jvm.Cond.methodLink "BakedBeforeModel" (169 : Nat) ({ cls := "BakedBeforeModel", name := "reads", desc := "(III)V" } : Jvm.MethodName)) ∈ zW0 := q_in (List.mem_of_getElem? (i := 979) (by decide +kernel)) (by decide +kernel)
theorem q_981 : (Jvm.Cond.instanceMethod ({ cls := "BakedBeforeModel", name := "reads", desc := "(III)V" } : Jvm.MethodName)) ∈ zW0 := q_in (List.mem_of_getElem? (i := 981) (by decide +kernel)) (by decide +kernel)
theorem q_982 : (Jvm.Cond.code ({ cls := "BakedBeforeModel", name := "reads", desc := "(III)V" } : Jvm.MethodName) prog_14_method_26_code (5 : Nat) (Option.none : Option Jvm.ClassFile.FieldType)) ∈ zW0 := q_in (List.mem_of_getElem? (i := 982) (by decide +kernel)) (by decide +kernel)
theorem q_983 : (Jvm.Cond.methodLink "BakedBeforeModel" (166 : Nat) ({ cls := "BakedBeforeModel", name := "readsClause", desc := "()V" } : Jvm.MethodName)) ∈ zW0 := q_in (List.mem_of_getElem? (i := 983) (by decide +kernel)) (by decide +kernel)
theorem q_985 : (Jvm.Cond.instanceMethod ({ cls := "BakedBeforeModel", name := "readsClause", desc := "()V" } : Jvm.MethodName)) ∈ zW0 := q_in (List.mem_of_getElem? (i := 985) (by decide +kernel)) (by decide +kernel)
theorem q_986 : (Jvm.Cond.code ({ cls := "BakedBeforeModel", name := "readsClause", desc := "()V" } : Jvm.MethodName) prog_14_method_25_code (4 : Nat) (Option.none : Option Jvm.ClassFile.FieldType)) ∈ zW0 := q_in (List.mem_of_getElem? (i := 986) (by decide +kernel)) (by decide +kernel)
theorem q_987 : (Jvm.Cond.methodLink "BakedBeforeModel" (81 : Nat) ({ cls := "BakedBeforeModel", name := "here", desc := "()I" } : Jvm.MethodName)) ∈ zW0 := q_in (List.mem_of_getElem? (i := 987) (by decide +kernel)) (by decide +kernel)
theorem q_989 : (Jvm.Cond.instanceMethod ({ cls := "BakedBeforeModel", name := "here", desc := "()I" } : Jvm.MethodName)) ∈ zW0 := q_in (List.mem_of_getElem? (i := 989) (by decide +kernel)) (by decide +kernel)
theorem q_990 : (Jvm.Cond.code ({ cls := "BakedBeforeModel", name := "here", desc := "()I" } : Jvm.MethodName) prog_14_method_14_code (1 : Nat) (Option.some Jvm.ClassFile.FieldType.int)) ∈ zW0 := q_in (List.mem_of_getElem? (i := 990) (by decide +kernel)) (by decide +kernel)
theorem q_995 : (Jvm.Cond.methodLink "BakedBeforeModel" (147 : Nat) ({ cls := "BakedBeforeModel", name := "readsWord", desc := "(Ljava/lang/String;)V" } : Jvm.MethodName)) ∈ zW0 := q_in (List.mem_of_getElem? (i := 995) (by decide +kernel)) (by decide +kernel)
theorem q_997 : (Jvm.Cond.instanceMethod ({ cls := "BakedBeforeModel", name := "readsWord", desc := "(Ljava/lang/String;)V" } : Jvm.MethodName)) ∈ zW0 := q_in (List.mem_of_getElem? (i := 997) (by decide +kernel)) (by decide +kernel)
theorem q_998 : (Jvm.Cond.code ({ cls := "BakedBeforeModel", name := "readsWord", desc := "(Ljava/lang/String;)V" } : Jvm.MethodName) prog_14_method_24_code (3 : Nat) (Option.none : Option Jvm.ClassFile.FieldType)) ∈ zW0 := q_in (List.mem_of_getElem? (i := 998) (by decide +kernel)) (by decide +kernel)
theorem q_999 : (Jvm.Cond.methodLink "BakedBeforeModel" (130 : Nat) ({ cls := "java/lang/String", name := "length", desc := "()I" } : Jvm.MethodName)) ∈ zW0 := q_in (List.mem_of_getElem? (i := 999) (by decide +kernel)) (by decide +kernel)
theorem q_1000 : (Jvm.Cond.methodLink "BakedBeforeModel" (135 : Nat) ({ cls := "java/lang/String", name := "charAt", desc := "(I)C" } : Jvm.MethodName)) ∈ zW0 := q_in (List.mem_of_getElem? (i := 1000) (by decide +kernel)) (by decide +kernel)
theorem q_1001 : (Jvm.Cond.methodLink "BakedBeforeModel" (124 : Nat) ({ cls := "BakedBeforeModel", name := "takes", desc := "(I)Z" } : Jvm.MethodName)) ∈ zW0 := q_in (List.mem_of_getElem? (i := 1001) (by decide +kernel)) (by decide +kernel)
theorem q_1003 : (Jvm.Cond.instanceMethod ({ cls := "BakedBeforeModel", name := "takes", desc := "(I)Z" } : Jvm.MethodName)) ∈ zW0 := q_in (List.mem_of_getElem? (i := 1003) (by decide +kernel)) (by decide +kernel)
theorem q_1004 : (Jvm.Cond.code ({ cls := "BakedBeforeModel", name := "takes", desc := "(I)Z" } : Jvm.MethodName) prog_14_method_15_code (2 : Nat) (Option.some Jvm.ClassFile.FieldType.boolean)) ∈ zW0 := q_in (List.mem_of_getElem? (i := 1004) (by decide +kernel)) (by decide +kernel)
theorem q_1005 : (Jvm.Cond.methodLink "BakedBeforeModel" (109 : Nat) ({ cls := "BakedBeforeModel", name := "readsNumbe\x72", desc := "()I" } : Jvm.MethodName)) ∈ zW0 := q_in (List.mem_of_getElem? (i := 1005) (by decide +kernel)) (by decide +kernel)
theorem q_1007 : (Jvm.Cond.instanceMethod ({ cls := "BakedBeforeModel", name := "readsNumbe\x72", desc := "()I" } : Jvm.MethodName)) ∈ zW0 := q_in (List.mem_of_getElem? (i := 1007) (by decide +kernel)) (by decide +kernel)
theorem q_1008 : (Jvm.Cond.code ({ cls := "BakedBeforeModel", name := "readsNumbe\x72", desc := "()I" } : Jvm.MethodName) prog_14_method_17_code (2 : Nat) (Option.some Jvm.ClassFile.FieldType.int)) ∈ zW0 := q_in (List.mem_of_getElem? (i := 1008) (by decide +kernel)) (by decide +kernel)
theorem q_1009 : (Jvm.Cond.methodLink "BakedBeforeModel" (85 : Nat) ({ cls := "BakedBeforeModel", name := "isDigit", desc := "()Z" } : Jvm.MethodName)) ∈ zW0 := q_in (List.mem_of_getElem? (i := 1009) (by decide +kernel)) (by decide +kernel)
theorem q_1011 : (Jvm.Cond.instanceMethod ({ cls := "BakedBeforeModel", name := "isDigit", desc := "()Z" } : Jvm.MethodName)) ∈ zW0 := q_in (List.mem_of_getElem? (i := 1011) (by decide +kernel)) (by decide +kernel)
theorem q_1012 : (Jvm.Cond.code ({ cls := "BakedBeforeModel", name := "isDigit", desc := "()Z" } : Jvm.MethodName) prog_14_method_16_code (1 : Nat) (Option.some Jvm.ClassFile.FieldType.boolean)) ∈ zW0 := q_in (List.mem_of_getElem? (i := 1012) (by decide +kernel)) (by decide +kernel)
theorem q_1013 : (Jvm.Cond.methodLink "BakedBeforeModel" (121 : Nat) ({ cls := "BakedBeforeModel", name := "readsE", desc := "(I)Z" } : Jvm.MethodName)) ∈ zW0 := q_in (List.mem_of_getElem? (i := 1013) (by decide +kernel)) (by decide +kernel)
theorem q_1015 : (Jvm.Cond.instanceMethod ({ cls := "BakedBeforeModel", name := "readsE", desc := "(I)Z" } : Jvm.MethodName)) ∈ zW0 := q_in (List.mem_of_getElem? (i := 1015) (by decide +kernel)) (by decide +kernel)
theorem q_1016 : (Jvm.Cond.code ({ cls := "BakedBeforeModel", name := "readsE", desc := "(I)Z" } : Jvm.MethodName) prog_14_method_23_code (4 : Nat) (Option.some Jvm.ClassFile.FieldType.boolean)) ∈ zW0 := q_in (List.mem_of_getElem? (i := 1016) (by decide +kernel)) (by decide +kernel)
theorem q_1017 : (Jvm.Cond.methodLink "BakedBeforeModel" (127 : Nat) ({ cls := "BakedBeforeModel", name := "readsT", desc := "(I)Z" } : Jvm.MethodName)) ∈ zW0 := q_in (List.mem_of_getElem? (i := 1017) (by decide +kernel)) (by decide +kernel)
theorem q_1019 : (Jvm.Cond.instanceMethod ({ cls := "BakedBeforeModel", name := "readsT", desc := "(I)Z" } : Jvm.MethodName)) ∈ zW0 := q_in (List.mem_of_getElem? (i := 1019) (by decide +kernel)) (by decide +kernel)
theorem q_1020 : (Jvm.Cond.code ({ cls := "BakedBeforeModel", name := "readsT", desc := "(I)Z" } : Jvm.MethodName) prog_14_method_22_code (4 : Nat) (Option.some Jvm.ClassFile.FieldType.boolean)) ∈ zW0 := q_in (List.mem_of_getElem? (i := 1020) (by decide +kernel)) (by decide +kernel)
theorem q_1021 : (Jvm.Cond.methodLink "BakedBeforeModel" (118 : Nat) ({ cls := "BakedBeforeModel", name := "readsF", desc := "(I)Z" } : Jvm.MethodName)) ∈ zW0 := q_in (List.mem_of_getElem? (i := 1021) (by decide +kernel)) (by decide +kernel)
theorem q_1023 : (Jvm.Cond.instanceMethod ({ cls := "BakedBeforeModel", name := "readsF", desc := "(I)Z" } : Jvm.MethodName)) ∈ zW0 := q_in (List.mem_of_getElem? (i := 1023) (by decide +kernel)) (by decide +kernel)
theorem q_1024 : (Jvm.Cond.code ({ cls := "BakedBeforeModel", name := "readsF", desc := "(I)Z" } : Jvm.MethodName) prog_14_method_21_code (4 : Nat) (Option.some Jvm.ClassFile.FieldType.boolean)) ∈ zW0 := q_in (List.mem_of_getElem? (i := 1024) (by decide +kernel)) (by decide +kernel)
theorem q_1025 : (Jvm.Cond.methodLink "BakedBeforeModel" (115 : Nat) ({ cls := "BakedBeforeModel", name := "readsTest", desc := "()Z" } : Jvm.MethodName)) ∈ zW0 := q_in (List.mem_of_getElem? (i := 1025) (by decide +kernel)) (by decide +kernel)
theorem q_1027 : (Jvm.Cond.instanceMethod ({ cls := "BakedBeforeModel", name := "readsTest", desc := "()Z" } : Jvm.MethodName)) ∈ zW0 := q_in (List.mem_of_getElem? (i := 1027) (by decide +kernel)) (by decide +kernel)
theorem q_1028 : (Jvm.Cond.code ({ cls := "BakedBeforeModel", name := "readsTest", desc := "()Z" } : Jvm.MethodName) prog_14_method_20_code (5 : Nat) (Option.some Jvm.ClassFile.FieldType.boolean)) ∈ zW0 := q_in (List.mem_of_getElem? (i := 1028) (by decide +kernel)) (by decide +kernel)
theorem q_1029 : (Jvm.Cond.methodLink "BakedBeforeModel" (105 : Nat) ({ cls := "BakedBeforeModel", name := "isLette\x72", desc := "(I)Z" } : Jvm.MethodName)) ∈ zW0 := q_in (List.mem_of_getElem? (i := 1029) (by decide +kernel)) (by decide +kernel)
theorem q_1030 : (Jvm.Cond.static ({ cls := "BakedBeforeModel", name := "isLette\x72", desc := "(I)Z" } : Jvm.MethodName)) ∈ zW0 := q_in (List.mem_of_getElem? (i := 1030) (by decide +kernel)) (by decide +kernel)
theorem q_1031 : (Jvm.Cond.code ({ cls := "BakedBeforeModel", name := "isLette\x72", desc := "(I)Z" } : Jvm.MethodName) prog_14_method_19_code (1 : Nat) (Option.some Jvm.ClassFile.FieldType.boolean)) ∈ zW0 := q_in (List.mem_of_getElem? (i := 1031) (by decide +kernel)) (by decide +kernel)
theorem q_1032 : (Jvm.Cond.methodLink "BakedBeforeModel" (112 : Nat) ({ cls := "BakedBeforeModel", name := "valueOf", desc := "(I)I" } : Jvm.MethodName)) ∈ zW0 := q_in (List.mem_of_getElem? (i := 1032) (by decide +kernel)) (by decide +kernel)
theorem q_1034 : (Jvm.Cond.instanceMethod ({ cls := "BakedBeforeModel", name := "valueOf", desc := "(I)I" } : Jvm.MethodName)) ∈ zW0 := q_in (List.mem_of_getElem? (i := 1034) (by decide +kernel)) (by decide +kernel)
theorem q_1035 : (Jvm.Cond.code ({ cls := "BakedBeforeModel", name := "valueOf", desc := "(I)I" } : Jvm.MethodName) prog_14_method_18_code (2 : Nat) (Option.some Jvm.ClassFile.FieldType.int)) ∈ zW0 := q_in (List.mem_of_getElem? (i := 1035) (by decide +kernel)) (by decide +kernel)
theorem q_1036 : (Jvm.Cond.methodLink "BakedBeforeModel" (92 : Nat) ({ cls := "BakedBeforeModel", name := "kind", desc := "(I)I" } : Jvm.MethodName)) ∈ zW0 := q_in (List.mem_of_getElem? (i := 1036) (by decide +kernel)) (by decide +kernel)
theorem q_1038 : (Jvm.Cond.instanceMethod ({ cls := "BakedBeforeModel", name := "kind", desc := "(I)I" } : Jvm.MethodName)) ∈ zW0 := q_in (List.mem_of_getElem? (i := 1038) (by decide +kernel)) (by decide +kernel)
theorem q_1039 : (Jvm.Cond.code ({ cls := "BakedBeforeModel", name := "kind", desc := "(I)I" } : Jvm.MethodName) prog_14_method_11_code (2 : Nat) (Option.some Jvm.ClassFile.FieldType.int)) ∈ zW0 := q_in (List.mem_of_getElem? (i := 1039) (by decide +kernel)) (by decide +kernel)
theorem q_1040 : (Jvm.Cond.methodLink "BakedBeforeModel" (60 : Nat) ({ cls := "BakedBeforeModel", name := "get", desc := "(II)I" } : Jvm.MethodName)) ∈ zW0 := q_in (List.mem_of_getElem? (i := 1040) (by decide +kernel)) (by decide +kernel)
theorem q_1042 : (Jvm.Cond.instanceMethod ({ cls := "BakedBeforeModel", name := "get", desc := "(II)I" } : Jvm.MethodName)) ∈ zW0 := q_in (List.mem_of_getElem? (i := 1042) (by decide +kernel)) (by decide +kernel)
theorem q_1043 : (Jvm.Cond.code ({ cls := "BakedBeforeModel", name := "get", desc := "(II)I" } : Jvm.MethodName) prog_14_method_10_code (3 : Nat) (Option.some Jvm.ClassFile.FieldType.int)) ∈ zW0 := q_in (List.mem_of_getElem? (i := 1043) (by decide +kernel)) (by decide +kernel)
theorem q_1044 : (Jvm.Cond.methodLink "BakedBeforeModel" (102 : Nat) ({ cls := "BakedBeforeModel", name := "numbe\x72", desc := "(I)I" } : Jvm.MethodName)) ∈ zW0 := q_in (List.mem_of_getElem? (i := 1044) (by decide +kernel)) (by decide +kernel)
theorem q_1046 : (Jvm.Cond.instanceMethod ({ cls := "BakedBeforeModel", name := "numbe\x72", desc := "(I)I" } : Jvm.MethodName)) ∈ zW0 := q_in (List.mem_of_getElem? (i := 1046) (by decide +kernel)) (by decide +kernel)
theorem q_1047 : (Jvm.Cond.code ({ cls := "BakedBeforeModel", name := "numbe\x72", desc := "(I)I" } : Jvm.MethodName) prog_14_method_12_code (2 : Nat) (Option.some Jvm.ClassFile.FieldType.int)) ∈ zW0 := q_in (List.mem_of_getElem? (i := 1047) (by decide +kernel)) (by decide +kernel)
theorem q_1049 : (Jvm.Cond.instanceMethod ({ cls := "BakedBeforeModel", name := "loaf", desc := "(II)I" } : Jvm.MethodName)) ∈ zW0 := q_in (List.mem_of_getElem? (i := 1049) (by decide +kernel)) (by decide +kernel)
theorem q_1050 : (Jvm.Cond.selects "BakedBeforeModel" ({ cls := "BakedBeforeModel", name := "loaf", desc := "(II)I" } : Jvm.MethodName) ({ cls := "BakedBeforeModel", name := "loaf", desc := "(II)I" } : Jvm.MethodName)) ∈ zW0 := q_in (List.mem_of_getElem? (i := 1050) (by decide +kernel)) (by decide +kernel)
theorem q_1051 : (Jvm.Cond.code ({ cls := "BakedBeforeModel", name := "loaf", desc := "(II)I" } : Jvm.MethodName) prog_14_method_39_code (5 : Nat) (Option.some Jvm.ClassFile.FieldType.int)) ∈ zW0 := q_in (List.mem_of_getElem? (i := 1051) (by decide +kernel)) (by decide +kernel)
theorem q_1053 : (Jvm.Cond.instanceMethod ({ cls := "BakedBeforeModel", name := "set", desc := "(IIII)I" } : Jvm.MethodName)) ∈ zW0 := q_in (List.mem_of_getElem? (i := 1053) (by decide +kernel)) (by decide +kernel)
theorem q_1054 : (Jvm.Cond.selects "BakedBeforeModel" ({ cls := "BakedBeforeModel", name := "set", desc := "(IIII)I" } : Jvm.MethodName) ({ cls := "BakedBeforeModel", name := "set", desc := "(IIII)I" } : Jvm.MethodName)) ∈ zW0 := q_in (List.mem_of_getElem? (i := 1054) (by decide +kernel)) (by decide +kernel)
theorem q_1055 : (Jvm.Cond.code ({ cls := "BakedBeforeModel", name := "set", desc := "(IIII)I" } : Jvm.MethodName) prog_14_method_40_code (7 : Nat) (Option.some Jvm.ClassFile.FieldType.int)) ∈ zW0 := q_in (List.mem_of_getElem? (i := 1055) (by decide +kernel)) (by decide +kernel)
theorem q_1056 : (Jvm.Cond.methodLink "BakedBeforeModel" (199 : Nat) ({ cls := "BakedBeforeModel", name := "isLoaf", desc := "(I)Z" } : Jvm.MethodName)) ∈ zW0 := q_in (List.mem_of_getElem? (i := 1056) (by decide +kernel)) (by decide +kernel)
theorem q_1058 : (Jvm.Cond.instanceMethod ({ cls := "BakedBeforeModel", name := "isLoaf", desc := "(I)Z" } : Jvm.MethodName)) ∈ zW0 := q_in (List.mem_of_getElem? (i := 1058) (by decide +kernel)) (by decide +kernel)
theorem q_1059 : (Jvm.Cond.code ({ cls := "BakedBeforeModel", name := "isLoaf", desc := "(I)Z" } : Jvm.MethodName) prog_14_method_4_code (2 : Nat) (Option.some Jvm.ClassFile.FieldType.boolean)) ∈ zW0 := q_in (List.mem_of_getElem? (i := 1059) (by decide +kernel)) (by decide +kernel)
theorem q_1060 : (Jvm.Cond.methodLink "BakedBeforeModel" (202 : Nat) ({ cls := "BakedBeforeModel", name := "isTaste", desc := "(I)Z" } : Jvm.MethodName)) ∈ zW0 := q_in (List.mem_of_getElem? (i := 1060) (by decide +kernel)) (by decide +kernel)
theorem q_1061 : (Jvm.Cond.static ({ cls := "BakedBeforeModel", name := "isTaste", desc := "(I)Z" } : Jvm.MethodName)) ∈ zW0 := q_in (List.mem_of_getElem? (i := 1061) (by decide +kernel)) (by decide +kernel)
theorem q_1062 : (Jvm.Cond.code ({ cls := "BakedBeforeModel", name := "isTaste", desc := "(I)Z" } : Jvm.MethodName) prog_14_method_3_code (1 : Nat) (Option.some Jvm.ClassFile.FieldType.boolean)) ∈ zW0 := q_in (List.mem_of_getElem? (i := 1062) (by decide +kernel)) (by decide +kernel)
theorem q_1064 : (Jvm.Cond.instanceMethod ({ cls := "BakedBeforeModel", name := "of", desc := "(II)I" } : Jvm.MethodName)) ∈ zW0 := q_in (List.mem_of_getElem? (i := 1064) (by decide +kernel)) (by decide +kernel)
theorem q_1065 : (Jvm.Cond.selects "BakedBeforeModel" ({ cls := "BakedBeforeModel", name := "of", desc := "(II)I" } : Jvm.MethodName) ({ cls := "BakedBeforeModel", name := "of", desc := "(II)I" } : Jvm.MethodName)) ∈ zW0 := q_in (List.mem_of_getElem? (i := 1065) (by decide +kernel)) (by decide +kernel)
theorem q_1066 : (Jvm.Cond.code ({ cls := "BakedBeforeModel", name := "of", desc := "(II)I" } : Jvm.MethodName) prog_14_method_41_code (4 : Nat) (Option.some Jvm.ClassFile.FieldType.int)) ∈ zW0 := q_in (List.mem_of_getElem? (i := 1066) (by decide +kernel)) (by decide +kernel)
theorem q_1067 : (Jvm.Cond.methodLink "BakedBeforeModel" (205 : Nat) ({ cls := "BakedBeforeModel", name := "feeOf", desc := "(I)I" } : Jvm.MethodName)) ∈ zW0 := q_in (List.mem_of_getElem? (i := 1067) (by decide +kernel)) (by decide +kernel)
theorem q_1069 : (Jvm.Cond.instanceMethod ({ cls := "BakedBeforeModel", name := "feeOf", desc := "(I)I" } : Jvm.MethodName)) ∈ zW0 := q_in (List.mem_of_getElem? (i := 1069) (by decide +kernel)) (by decide +kernel)
theorem q_1070 : (Jvm.Cond.code ({ cls := "BakedBeforeModel", name := "feeOf", desc := "(I)I" } : Jvm.MethodName) prog_14_method_35_code (2 : Nat) (Option.some Jvm.ClassFile.FieldType.int)) ∈ zW0 := q_in (List.mem_of_getElem? (i := 1070) (by decide +kernel)) (by decide +kernel)
theorem q_1071 : (Jvm.Cond.methodLink "BakedBeforeModel" (176 : Nat) ({ cls := "BakedBeforeModel", name := "readsNow", desc := "(II)V" } : Jvm.MethodName)) ∈ zW0 := q_in (List.mem_of_getElem? (i := 1071) (by decide +kernel)) (by decide +kernel)
theorem q_1073 : (Jvm.Cond.instanceMethod ({ cls := "BakedBeforeModel", name := "readsNow", desc := "(II)V" } : Jvm.MethodName)) ∈ zW0 := q_in (List.mem_of_getElem? (i := 1073) (by decide +kernel)) (by decide +kernel)
theorem q_1074 : (Jvm.Cond.code ({ cls := "BakedBeforeModel", name := "readsNow", desc := "(II)V" } : Jvm.MethodName) prog_14_method_27_code (3 : Nat) (Option.none : Option Jvm.ClassFile.FieldType)) ∈ zW0 := q_in (List.mem_of_getElem? (i := 1074) (by decide +kernel)) (by decide +kernel)
theorem q_1075 : (Jvm.Cond.methodLink "BakedBeforeModel" (190 : Nat) ({ cls := "BakedBeforeModel", name := "isSpoiled", desc := "(I)Z" } : Jvm.MethodName)) ∈ zW0 := q_in (List.mem_of_getElem? (i := 1075) (by decide +kernel)) (by decide +kernel)
theorem q_1077 : (Jvm.Cond.instanceMethod ({ cls := "BakedBeforeModel", name := "isSpoiled", desc := "(I)Z" } : Jvm.MethodName)) ∈ zW0 := q_in (List.mem_of_getElem? (i := 1077) (by decide +kernel)) (by decide +kernel)
theorem q_1078 : (Jvm.Cond.code ({ cls := "BakedBeforeModel", name := "isSpoiled", desc := "(I)Z" } : Jvm.MethodName) prog_14_method_34_code (3 : Nat) (Option.some Jvm.ClassFile.FieldType.boolean)) ∈ zW0 := q_in (List.mem_of_getElem? (i := 1078) (by decide +kernel)) (by decide +kernel)
theorem q_1079 : (Jvm.Cond.methodLink "BakedBeforeModel" (187 : Nat) ({ cls := "BakedBeforeModel", name := "takesOf", desc := "(II)I" } : Jvm.MethodName)) ∈ zW0 := q_in (List.mem_of_getElem? (i := 1079) (by decide +kernel)) (by decide +kernel)
theorem q_1081 : (Jvm.Cond.instanceMethod ({ cls := "BakedBeforeModel", name := "takesOf", desc := "(II)I" } : Jvm.MethodName)) ∈ zW0 := q_in (List.mem_of_getElem? (i := 1081) (by decide +kernel)) (by decide +kernel)
theorem q_1082 : (Jvm.Cond.code ({ cls := "BakedBeforeModel", name := "takesOf", desc := "(II)I" } : Jvm.MethodName) prog_14_method_31_code (3 : Nat) (Option.some Jvm.ClassFile.FieldType.int)) ∈ zW0 := q_in (List.mem_of_getElem? (i := 1082) (by decide +kernel)) (by decide +kernel)
theorem q_1083 : (Jvm.Cond.methodLink "BakedBeforeModel" (180 : Nat) ({ cls := "BakedBeforeModel", name := "partOf", desc := "(II)I" } : Jvm.MethodName)) ∈ zW0 := q_in (List.mem_of_getElem? (i := 1083) (by decide +kernel)) (by decide +kernel)
theorem q_1085 : (Jvm.Cond.instanceMethod ({ cls := "BakedBeforeModel", name := "partOf", desc := "(II)I" } : Jvm.MethodName)) ∈ zW0 := q_in (List.mem_of_getElem? (i := 1085) (by decide +kernel)) (by decide +kernel)
theorem q_1086 : (Jvm.Cond.code ({ cls := "BakedBeforeModel", name := "partOf", desc := "(II)I" } : Jvm.MethodName) prog_14_method_29_code (3 : Nat) (Option.some Jvm.ClassFile.FieldType.int)) ∈ zW0 := q_in (List.mem_of_getElem? (i := 1086) (by decide +kernel)) (by decide +kernel)
theorem q_1087 : (Jvm.Cond.methodLink "BakedBeforeModel" (183 : Nat) ({ cls := "BakedBeforeModel", name := "takesBy", desc := "(IIII)I" } : Jvm.MethodName)) ∈ zW0 := q_in (List.mem_of_getElem? (i := 1087) (by decide +kernel)) (by decide +kernel)
theorem q_1089 : (Jvm.Cond.instanceMethod ({ cls := "BakedBeforeModel", name := "takesBy", desc := "(IIII)I" } : Jvm.MethodName)) ∈ zW0 := q_in (List.mem_of_getElem? (i := 1089) (by decide +kernel)) (by decide +kernel)
theorem q_1090 : (Jvm.Cond.code ({ cls := "BakedBeforeModel", name := "takesBy", desc := "(IIII)I" } : Jvm.MethodName) prog_14_method_30_code (8 : Nat) (Option.some Jvm.ClassFile.FieldType.int)) ∈ zW0 := q_in (List.mem_of_getElem? (i := 1090) (by decide +kernel)) (by decide +kernel)
theorem q_1091 : (Jvm.Cond.methodLink "BakedBeforeModel" (193 : Nat) ({ cls := "BakedBeforeModel", name := "leavesOf", desc := "(II)I" } : Jvm.MethodName)) ∈ zW0 := q_in (List.mem_of_getElem? (i := 1091) (by decide +kernel)) (by decide +kernel)
theorem q_1093 : (Jvm.Cond.instanceMethod ({ cls := "BakedBeforeModel", name := "leavesOf", desc := "(II)I" } : Jvm.MethodName)) ∈ zW0 := q_in (List.mem_of_getElem? (i := 1093) (by decide +kernel)) (by decide +kernel)
theorem q_1094 : (Jvm.Cond.code ({ cls := "BakedBeforeModel", name := "leavesOf", desc := "(II)I" } : Jvm.MethodName) prog_14_method_32_code (5 : Nat) (Option.some Jvm.ClassFile.FieldType.int)) ∈ zW0 := q_in (List.mem_of_getElem? (i := 1094) (by decide +kernel)) (by decide +kernel)
theorem q_1096 : (Jvm.Cond.instanceMethod ({ cls := "BakedBeforeModel", name := "oven", desc := "(II)I" } : Jvm.MethodName)) ∈ zW0 := q_in (List.mem_of_getElem? (i := 1096) (by decide +kernel)) (by decide +kernel)
theorem q_1097 : (Jvm.Cond.selects "BakedBeforeModel" ({ cls := "BakedBeforeModel", name := "oven", desc := "(II)I" } : Jvm.MethodName) ({ cls := "BakedBeforeModel", name := "oven", desc := "(II)I" } : Jvm.MethodName)) ∈ zW0 := q_in (List.mem_of_getElem? (i := 1097) (by decide +kernel)) (by decide +kernel)
theorem q_1098 : (Jvm.Cond.code ({ cls := "BakedBeforeModel", name := "oven", desc := "(II)I" } : Jvm.MethodName) prog_14_method_42_code (4 : Nat) (Option.some Jvm.ClassFile.FieldType.int)) ∈ zW0 := q_in (List.mem_of_getElem? (i := 1098) (by decide +kernel)) (by decide +kernel)
theorem q_1100 : (Jvm.Cond.instanceMethod ({ cls := "BakedBeforeModel", name := "told", desc := "(I)I" } : Jvm.MethodName)) ∈ zW0 := q_in (List.mem_of_getElem? (i := 1100) (by decide +kernel)) (by decide +kernel)
theorem q_1101 : (Jvm.Cond.selects "BakedBeforeModel" ({ cls := "BakedBeforeModel", name := "told", desc := "(I)I" } : Jvm.MethodName) ({ cls := "BakedBeforeModel", name := "told", desc := "(I)I" } : Jvm.MethodName)) ∈ zW0 := q_in (List.mem_of_getElem? (i := 1101) (by decide +kernel)) (by decide +kernel)
theorem q_1102 : (Jvm.Cond.code ({ cls := "BakedBeforeModel", name := "told", desc := "(I)I" } : Jvm.MethodName) prog_14_method_43_code (2 : Nat) (Option.some Jvm.ClassFile.FieldType.int)) ∈ zW0 := q_in (List.mem_of_getElem? (i := 1102) (by decide +kernel)) (by decide +kernel)
theorem q_1104 : (Jvm.Cond.instanceMethod ({ cls := "BakedBeforeModel", name := "bake", desc := "(I)I" } : Jvm.MethodName)) ∈ zW0 := q_in (List.mem_of_getElem? (i := 1104) (by decide +kernel)) (by decide +kernel)
theorem q_1105 : (Jvm.Cond.selects "BakedBeforeModel" ({ cls := "BakedBeforeModel", name := "bake", desc := "(I)I" } : Jvm.MethodName) ({ cls := "BakedBeforeModel", name := "bake", desc := "(I)I" } : Jvm.MethodName)) ∈ zW0 := q_in (List.mem_of_getElem? (i := 1105) (by decide +kernel)) (by decide +kernel)
theorem q_1106 : (Jvm.Cond.code ({ cls := "BakedBeforeModel", name := "bake", desc := "(I)I" } : Jvm.MethodName) prog_14_method_44_code (2 : Nat) (Option.some Jvm.ClassFile.FieldType.int)) ∈ zW0 := q_in (List.mem_of_getElem? (i := 1106) (by decide +kernel)) (by decide +kernel)
theorem q_1107 : (Jvm.Cond.methodLink "BakedBeforeModel" (208 : Nat) ({ cls := "BakedBeforeModel", name := "bakes", desc := "(I)Z" } : Jvm.MethodName)) ∈ zW0 := q_in (List.mem_of_getElem? (i := 1107) (by decide +kernel)) (by decide +kernel)
theorem q_1109 : (Jvm.Cond.instanceMethod ({ cls := "BakedBeforeModel", name := "bakes", desc := "(I)Z" } : Jvm.MethodName)) ∈ zW0 := q_in (List.mem_of_getElem? (i := 1109) (by decide +kernel)) (by decide +kernel)
theorem q_1110 : (Jvm.Cond.code ({ cls := "BakedBeforeModel", name := "bakes", desc := "(I)Z" } : Jvm.MethodName) prog_14_method_37_code (5 : Nat) (Option.some Jvm.ClassFile.FieldType.boolean)) ∈ zW0 := q_in (List.mem_of_getElem? (i := 1110) (by decide +kernel)) (by decide +kernel)
theorem q_1111 : (Jvm.Cond.methodLink "BakedBeforeModel" (196 : Nat) ({ cls := "BakedBeforeModel", name := "ages", desc := "()V" } : Jvm.MethodName)) ∈ zW0 := q_in (List.mem_of_getElem? (i := 1111) (by decide +kernel)) (by decide +kernel)
theorem q_1113 : (Jvm.Cond.instanceMethod ({ cls := "BakedBeforeModel", name := "ages", desc := "()V" } : Jvm.MethodName)) ∈ zW0 := q_in (List.mem_of_getElem? (i := 1113) (by decide +kernel)) (by decide +kernel)
theorem q_1114 : (Jvm.Cond.code ({ cls := "BakedBeforeModel", name := "ages", desc := "()V" } : Jvm.MethodName) prog_14_method_36_code (1 : Nat) (Option.none : Option Jvm.ClassFile.FieldType)) ∈ zW0 := q_in (List.mem_of_getElem? (i := 1114) (by decide +kernel)) (by decide +kernel)
theorem q_1116 : (Jvm.Cond.instanceMethod ({ cls := "BakedBeforeModel", name := "cold", desc := "()I" } : Jvm.MethodName)) ∈ zW0 := q_in (List.mem_of_getElem? (i := 1116) (by decide +kernel)) (by decide +kernel)
theorem q_1117 : (Jvm.Cond.selects "BakedBeforeModel" ({ cls := "BakedBeforeModel", name := "cold", desc := "()I" } : Jvm.MethodName) ({ cls := "BakedBeforeModel", name := "cold", desc := "()I" } : Jvm.MethodName)) ∈ zW0 := q_in (List.mem_of_getElem? (i := 1117) (by decide +kernel)) (by decide +kernel)
theorem q_1118 : (Jvm.Cond.code ({ cls := "BakedBeforeModel", name := "cold", desc := "()I" } : Jvm.MethodName) prog_14_method_45_code (1 : Nat) (Option.some Jvm.ClassFile.FieldType.int)) ∈ zW0 := q_in (List.mem_of_getElem? (i := 1118) (by decide +kernel)) (by decide +kernel)
theorem q_1119 : (Jvm.Cond.methodLink "BakedBeforeModel" (211 : Nat) ({ cls := "BakedBeforeModel", name := "cools", desc := "()V" } : Jvm.MethodName)) ∈ zW0 := q_in (List.mem_of_getElem? (i := 1119) (by decide +kernel)) (by decide +kernel)
theorem q_1121 : (Jvm.Cond.instanceMethod ({ cls := "BakedBeforeModel", name := "cools", desc := "()V" } : Jvm.MethodName)) ∈ zW0 := q_in (List.mem_of_getElem? (i := 1121) (by decide +kernel)) (by decide +kernel)
theorem q_1122 : (Jvm.Cond.code ({ cls := "BakedBeforeModel", name := "cools", desc := "()V" } : Jvm.MethodName) prog_14_method_38_code (4 : Nat) (Option.none : Option Jvm.ClassFile.FieldType)) ∈ zW0 := q_in (List.mem_of_getElem? (i := 1122) (by decide +kernel)) (by decide +kernel)
theorem q_1124 : (Jvm.Cond.instanceMethod ({ cls := "BakedBeforeModel", name := "would", desc := "(III)I" } : Jvm.MethodName)) ∈ zW0 := q_in (List.mem_of_getElem? (i := 1124) (by decide +kernel)) (by decide +kernel)
theorem q_1125 : (Jvm.Cond.selects "BakedBeforeModel" ({ cls := "BakedBeforeModel", name := "would", desc := "(III)I" } : Jvm.MethodName) ({ cls := "BakedBeforeModel", name := "would", desc := "(III)I" } : Jvm.MethodName)) ∈ zW0 := q_in (List.mem_of_getElem? (i := 1125) (by decide +kernel)) (by decide +kernel)
theorem q_1126 : (Jvm.Cond.code ({ cls := "BakedBeforeModel", name := "would", desc := "(III)I" } : Jvm.MethodName) prog_14_method_46_code (6 : Nat) (Option.some Jvm.ClassFile.FieldType.int)) ∈ zW0 := q_in (List.mem_of_getElem? (i := 1126) (by decide +kernel)) (by decide +kernel)
theorem q_1127 : (Jvm.Cond.methodLink "BakedBeforeModel" (214 : Nat) ({ cls := "BakedBeforeModel", name := "begins", desc := "()V" } : Jvm.MethodName)) ∈ zW0 := q_in (List.mem_of_getElem? (i := 1127) (by decide +kernel)) (by decide +kernel)
theorem q_1129 : (Jvm.Cond.instanceMethod ({ cls := "BakedBeforeModel", name := "begins", desc := "()V" } : Jvm.MethodName)) ∈ zW0 := q_in (List.mem_of_getElem? (i := 1129) (by decide +kernel)) (by decide +kernel)
theorem q_1130 : (Jvm.Cond.code ({ cls := "BakedBeforeModel", name := "begins", desc := "()V" } : Jvm.MethodName) prog_14_method_8_code (1 : Nat) (Option.none : Option Jvm.ClassFile.FieldType)) ∈ zW0 := q_in (List.mem_of_getElem? (i := 1130) (by decide +kernel)) (by decide +kernel)
theorem q_1131 : (Jvm.Cond.methodLink "BakedBeforeModel" (56 : Nat) ({ cls := "BakedBeforeModel", name := "lays", desc := "([I[I)V" } : Jvm.MethodName)) ∈ zW0 := q_in (List.mem_of_getElem? (i := 1131) (by decide +kernel)) (by decide +kernel)
theorem q_1132 : (Jvm.Cond.static ({ cls := "BakedBeforeModel", name := "lays", desc := "([I[I)V" } : Jvm.MethodName)) ∈ zW0 := q_in (List.mem_of_getElem? (i := 1132) (by decide +kernel)) (by decide +kernel)
theorem q_1133 : (Jvm.Cond.code ({ cls := "BakedBeforeModel", name := "lays", desc := "([I[I)V" } : Jvm.MethodName) prog_14_method_7_code (3 : Nat) (Option.none : Option Jvm.ClassFile.FieldType)) ∈ zW0 := q_in (List.mem_of_getElem? (i := 1133) (by decide +kernel)) (by decide +kernel)
theorem q_1134 : (Jvm.Cond.methodLink "BakedBeforeModel" (217 : Nat) ({ cls := "BakedBeforeModel", name := "ends", desc := "()V" } : Jvm.MethodName)) ∈ zW0 := q_in (List.mem_of_getElem? (i := 1134) (by decide +kernel)) (by decide +kernel)
theorem q_1136 : (Jvm.Cond.instanceMethod ({ cls := "BakedBeforeModel", name := "ends", desc := "()V" } : Jvm.MethodName)) ∈ zW0 := q_in (List.mem_of_getElem? (i := 1136) (by decide +kernel)) (by decide +kernel)
theorem q_1137 : (Jvm.Cond.code ({ cls := "BakedBeforeModel", name := "ends", desc := "()V" } : Jvm.MethodName) prog_14_method_9_code (1 : Nat) (Option.none : Option Jvm.ClassFile.FieldType)) ∈ zW0 := q_in (List.mem_of_getElem? (i := 1137) (by decide +kernel)) (by decide +kernel)
theorem q_1139 : (Jvm.Cond.instanceMethod ({ cls := "BakedBeforeModel", name := "orde\x72", desc := "(II)I" } : Jvm.MethodName)) ∈ zW0 := q_in (List.mem_of_getElem? (i := 1139) (by decide +kernel)) (by decide +kernel)
theorem q_1140 : (Jvm.Cond.selects "BakedBeforeModel" ({ cls := "BakedBeforeModel", name := "orde\x72", desc := "(II)I" } : Jvm.MethodName) ({ cls := "BakedBeforeModel", name := "orde\x72", desc := "(II)I" } : Jvm.MethodName)) ∈ zW0 := q_in (List.mem_of_getElem? (i := 1140) (by decide +kernel)) (by decide +kernel)
theorem q_1141 : (Jvm.Cond.code ({ cls := "BakedBeforeModel", name := "orde\x72", desc := "(II)I" } : Jvm.MethodName) prog_14_method_49_code (3 : Nat) (Option.some Jvm.ClassFile.FieldType.int)) ∈ zW0 := q_in (List.mem_of_getElem? (i := 1141) (by decide +kernel)) (by decide +kernel)
theorem q_1142 : (Jvm.Cond.methodLink "BakedBeforeModel" (229 : Nat) ({ cls := "BakedBeforeModel", name := "areLoaves", desc := "(I)Z" } : Jvm.MethodName)) ∈ zW0 := q_in (List.mem_of_getElem? (i := 1142) (by decide +kernel)) (by decide +kernel)
theorem q_1144 : (Jvm.Cond.instanceMethod ({ cls := "BakedBeforeModel", name := "areLoaves", desc := "(I)Z" } : Jvm.MethodName)) ∈ zW0 := q_in (List.mem_of_getElem? (i := 1144) (by decide +kernel)) (by decide +kernel)
theorem q_1145 : (Jvm.Cond.code ({ cls := "BakedBeforeModel", name := "areLoaves", desc := "(I)Z" } : Jvm.MethodName) prog_14_method_5_code (2 : Nat) (Option.some Jvm.ClassFile.FieldType.boolean)) ∈ zW0 := q_in (List.mem_of_getElem? (i := 1145) (by decide +kernel)) (by decide +kernel)
theorem q_1146 : (Jvm.Cond.methodLink "BakedBeforeModel" (232 : Nat) ({ cls := "BakedBeforeModel", name := "bits", desc := "(I)I" } : Jvm.MethodName)) ∈ zW0 := q_in (List.mem_of_getElem? (i := 1146) (by decide +kernel)) (by decide +kernel)
theorem q_1147 : (Jvm.Cond.static ({ cls := "BakedBeforeModel", name := "bits", desc := "(I)I" } : Jvm.MethodName)) ∈ zW0 := q_in (List.mem_of_getElem? (i := 1147) (by decide +kernel)) (by decide +kernel)
theorem q_1148 : (Jvm.Cond.code ({ cls := "BakedBeforeModel", name := "bits", desc := "(I)I" } : Jvm.MethodName) prog_14_method_6_code (3 : Nat) (Option.some Jvm.ClassFile.FieldType.int)) ∈ zW0 := q_in (List.mem_of_getElem? (i := 1148) (by decide +kernel)) (by decide +kernel)
theorem q_1149 : (Jvm.Cond.methodLink "BakedBeforeModel" (226 : Nat) ({ cls := "BakedBeforeModel", name := "orders", desc := "(III)V" } : Jvm.MethodName)) ∈ zW0 := q_in (List.mem_of_getElem? (i := 1149) (by decide +kernel)) (by decide +kernel)
theorem q_1151 : (Jvm.Cond.instanceMethod ({ cls := "BakedBeforeModel", name := "orders", desc := "(III)V" } : Jvm.MethodName)) ∈ zW0 := q_in (List.mem_of_getElem? (i := 1151) (by decide +kernel)) (by decide +kernel)
theorem q_1152 : (Jvm.Cond.code ({ cls := "BakedBeforeModel", name := "orders", desc := "(III)V" } : Jvm.MethodName) prog_14_method_48_code (6 : Nat) (Option.none : Option Jvm.ClassFile.FieldType)) ∈ zW0 := q_in (List.mem_of_getElem? (i := 1152) (by decide +kernel)) (by decide +kernel)
theorem q_1153 : (Jvm.Cond.methodLink "BakedBeforeModel" (220 : Nat) ({ cls := "BakedBeforeModel", name := "spoiledBy", desc := "(I)I" } : Jvm.MethodName)) ∈ zW0 := q_in (List.mem_of_getElem? (i := 1153) (by decide +kernel)) (by decide +kernel)
theorem q_1155 : (Jvm.Cond.instanceMethod ({ cls := "BakedBeforeModel", name := "spoiledBy", desc := "(I)I" } : Jvm.MethodName)) ∈ zW0 := q_in (List.mem_of_getElem? (i := 1155) (by decide +kernel)) (by decide +kernel)
theorem q_1156 : (Jvm.Cond.code ({ cls := "BakedBeforeModel", name := "spoiledBy", desc := "(I)I" } : Jvm.MethodName) prog_14_method_47_code (4 : Nat) (Option.some Jvm.ClassFile.FieldType.int)) ∈ zW0 := q_in (List.mem_of_getElem? (i := 1156) (by decide +kernel)) (by decide +kernel)
theorem q_1158 : (Jvm.Cond.instanceMethod ({ cls := "BakedBeforeModel", name := "colds", desc := "(II)I" } : Jvm.MethodName)) ∈ zW0 := q_in (List.mem_of_getElem? (i := 1158) (by decide +kernel)) (by decide +kernel)
theorem q_1159 : (Jvm.Cond.selects "BakedBeforeModel" ({ cls := "BakedBeforeModel", name := "colds", desc := "(II)I" } : Jvm.MethodName) ({ cls := "BakedBeforeModel", name := "colds", desc := "(II)I" } : Jvm.MethodName)) ∈ zW0 := q_in (List.mem_of_getElem? (i := 1159) (by decide +kernel)) (by decide +kernel)
theorem q_1160 : (Jvm.Cond.code ({ cls := "BakedBeforeModel", name := "colds", desc := "(II)I" } : Jvm.MethodName) prog_14_method_52_code (9 : Nat) (Option.some Jvm.ClassFile.FieldType.int)) ∈ zW0 := q_in (List.mem_of_getElem? (i := 1160) (by decide +kernel)) (by decide +kernel)
theorem q_1161 : (Jvm.Cond.methodLink "BakedBeforeModel" (238 : Nat) ({ cls := "BakedBeforeModel", name := "isWellBy", desc := "(III)Z" } : Jvm.MethodName)) ∈ zW0 := q_in (List.mem_of_getElem? (i := 1161) (by decide +kernel)) (by decide +kernel)
theorem q_1163 : (Jvm.Cond.instanceMethod ({ cls := "BakedBeforeModel", name := "isWellBy", desc := "(III)Z" } : Jvm.MethodName)) ∈ zW0 := q_in (List.mem_of_getElem? (i := 1163) (by decide +kernel)) (by decide +kernel)
theorem q_1164 : (Jvm.Cond.code ({ cls := "BakedBeforeModel", name := "isWellBy", desc := "(III)Z" } : Jvm.MethodName) prog_14_method_51_code (8 : Nat) (Option.some Jvm.ClassFile.FieldType.boolean)) ∈ zW0 := q_in (List.mem_of_getElem? (i := 1164) (by decide +kernel)) (by decide +kernel)
theorem q_1165 : (Jvm.Cond.methodLink "BakedBeforeModel" (235 : Nat) ({ cls := "BakedBeforeModel", name := "memberOf", desc := "(II)I" } : Jvm.MethodName)) ∈ zW0 := q_in (List.mem_of_getElem? (i := 1165) (by decide +kernel)) (by decide +kernel)
theorem q_1166 : (Jvm.Cond.static ({ cls := "BakedBeforeModel", name := "memberOf", desc := "(II)I" } : Jvm.MethodName)) ∈ zW0 := q_in (List.mem_of_getElem? (i := 1166) (by decide +kernel)) (by decide +kernel)
theorem q_1167 : (Jvm.Cond.code ({ cls := "BakedBeforeModel", name := "memberOf", desc := "(II)I" } : Jvm.MethodName) prog_14_method_50_code (4 : Nat) (Option.some Jvm.ClassFile.FieldType.int)) ∈ zW0 := q_in (List.mem_of_getElem? (i := 1167) (by decide +kernel)) (by decide +kernel)
theorem q_1169 : (Jvm.Cond.instanceMethod ({ cls := "BakedBeforeModel", name := "place", desc := "(II)I" } : Jvm.MethodName)) ∈ zW0 := q_in (List.mem_of_getElem? (i := 1169) (by decide +kernel)) (by decide +kernel)
theorem q_1170 : (Jvm.Cond.selects "BakedBeforeModel" ({ cls := "BakedBeforeModel", name := "place", desc := "(II)I" } : Jvm.MethodName) ({ cls := "BakedBeforeModel", name := "place", desc := "(II)I" } : Jvm.MethodName)) ∈ zW0 := q_in (List.mem_of_getElem? (i := 1170) (by decide +kernel)) (by decide +kernel)
theorem q_1171 : (Jvm.Cond.code ({ cls := "BakedBeforeModel", name := "place", desc := "(II)I" } : Jvm.MethodName) prog_14_method_54_code (7 : Nat) (Option.some Jvm.ClassFile.FieldType.int)) ∈ zW0 := q_in (List.mem_of_getElem? (i := 1171) (by decide +kernel)) (by decide +kernel)
theorem q_1172 : (Jvm.Cond.methodLink "BakedBeforeModel" (244 : Nat) ({ cls := "BakedBeforeModel", name := "takesAt", desc := "(II)I" } : Jvm.MethodName)) ∈ zW0 := q_in (List.mem_of_getElem? (i := 1172) (by decide +kernel)) (by decide +kernel)
theorem q_1174 : (Jvm.Cond.instanceMethod ({ cls := "BakedBeforeModel", name := "takesAt", desc := "(II)I" } : Jvm.MethodName)) ∈ zW0 := q_in (List.mem_of_getElem? (i := 1174) (by decide +kernel)) (by decide +kernel)
theorem q_1175 : (Jvm.Cond.code ({ cls := "BakedBeforeModel", name := "takesAt", desc := "(II)I" } : Jvm.MethodName) prog_14_method_53_code (6 : Nat) (Option.some Jvm.ClassFile.FieldType.int)) ∈ zW0 := q_in (List.mem_of_getElem? (i := 1175) (by decide +kernel)) (by decide +kernel)
theorem q_1176 : (Jvm.Cond.methodLink "BakedBeforeModel" (241 : Nat) ({ cls := "BakedBeforeModel", name := "allTakes", desc := "(I)I" } : Jvm.MethodName)) ∈ zW0 := q_in (List.mem_of_getElem? (i := 1176) (by decide +kernel)) (by decide +kernel)
theorem q_1178 : (Jvm.Cond.instanceMethod ({ cls := "BakedBeforeModel", name := "allTakes", desc := "(I)I" } : Jvm.MethodName)) ∈ zW0 := q_in (List.mem_of_getElem? (i := 1178) (by decide +kernel)) (by decide +kernel)
theorem q_1179 : (Jvm.Cond.code ({ cls := "BakedBeforeModel", name := "allTakes", desc := "(I)I" } : Jvm.MethodName) prog_14_method_33_code (4 : Nat) (Option.some Jvm.ClassFile.FieldType.int)) ∈ zW0 := q_in (List.mem_of_getElem? (i := 1179) (by decide +kernel)) (by decide +kernel)
theorem q_1181 : (Jvm.Cond.instanceMethod ({ cls := "BakedBeforeModel", name := "guilty", desc := "(I)I" } : Jvm.MethodName)) ∈ zW0 := q_in (List.mem_of_getElem? (i := 1181) (by decide +kernel)) (by decide +kernel)
theorem q_1182 : (Jvm.Cond.selects "BakedBeforeModel" ({ cls := "BakedBeforeModel", name := "guilty", desc := "(I)I" } : Jvm.MethodName) ({ cls := "BakedBeforeModel", name := "guilty", desc := "(I)I" } : Jvm.MethodName)) ∈ zW0 := q_in (List.mem_of_getElem? (i := 1182) (by decide +kernel)) (by decide +kernel)
theorem q_1183 : (Jvm.Cond.code ({ cls := "BakedBeforeModel", name := "guilty", desc := "(I)I" } : Jvm.MethodName) prog_14_method_56_code (4 : Nat) (Option.some Jvm.ClassFile.FieldType.int)) ∈ zW0 := q_in (List.mem_of_getElem? (i := 1183) (by decide +kernel)) (by decide +kernel)
theorem q_1184 : (Jvm.Cond.methodLink "BakedBeforeModel" (247 : Nat) ({ cls := "BakedBeforeModel", name := "isSpoiledBehind", desc := "(II)Z" } : Jvm.MethodName)) ∈ zW0 := q_in (List.mem_of_getElem? (i := 1184) (by decide +kernel)) (by decide +kernel)
theorem q_1186 : (Jvm.Cond.instanceMethod ({ cls := "BakedBeforeModel", name := "isSpoiledBehind", desc := "(II)Z" } : Jvm.MethodName)) ∈ zW0 := q_in (List.mem_of_getElem? (i := 1186) (by decide +kernel)) (by decide +kernel)
theorem q_1187 : (Jvm.Cond.code ({ cls := "BakedBeforeModel", name := "isSpoiledBehind", desc := "(II)Z" } : Jvm.MethodName) prog_14_method_55_code (5 : Nat) (Option.some Jvm.ClassFile.FieldType.boolean)) ∈ zW0 := q_in (List.mem_of_getElem? (i := 1187) (by decide +kernel)) (by decide +kernel)
theorem q_1189 : (Jvm.Cond.instanceMethod ({ cls := "BakedBeforeModel", name := "two", desc := "(I)I" } : Jvm.MethodName)) ∈ zW0 := q_in (List.mem_of_getElem? (i := 1189) (by decide +kernel)) (by decide +kernel)
theorem q_1190 : (Jvm.Cond.selects "BakedBeforeModel" ({ cls := "BakedBeforeModel", name := "two", desc := "(I)I" } : Jvm.MethodName) ({ cls := "BakedBeforeModel", name := "two", desc := "(I)I" } : Jvm.MethodName)) ∈ zW0 := q_in (List.mem_of_getElem? (i := 1190) (by decide +kernel)) (by decide +kernel)
theorem q_1191 : (Jvm.Cond.code ({ cls := "BakedBeforeModel", name := "two", desc := "(I)I" } : Jvm.MethodName) prog_14_method_58_code (7 : Nat) (Option.some Jvm.ClassFile.FieldType.int)) ∈ zW0 := q_in (List.mem_of_getElem? (i := 1191) (by decide +kernel)) (by decide +kernel)
theorem q_1192 : (Jvm.Cond.methodLink "BakedBeforeModel" (251 : Nat) ({ cls := "BakedBeforeModel", name := "spoiledIn", desc := "(I)I" } : Jvm.MethodName)) ∈ zW0 := q_in (List.mem_of_getElem? (i := 1192) (by decide +kernel)) (by decide +kernel)
theorem q_1194 : (Jvm.Cond.instanceMethod ({ cls := "BakedBeforeModel", name := "spoiledIn", desc := "(I)I" } : Jvm.MethodName)) ∈ zW0 := q_in (List.mem_of_getElem? (i := 1194) (by decide +kernel)) (by decide +kernel)
theorem q_1195 : (Jvm.Cond.code ({ cls := "BakedBeforeModel", name := "spoiledIn", desc := "(I)I" } : Jvm.MethodName) prog_14_method_57_code (4 : Nat) (Option.some Jvm.ClassFile.FieldType.int)) ∈ zW0 := q_in (List.mem_of_getElem? (i := 1195) (by decide +kernel)) (by decide +kernel)
theorem q_1197 : (Jvm.Cond.instanceMethod ({ cls := "BakedBeforeModel", name := "has", desc := "(I)I" } : Jvm.MethodName)) ∈ zW0 := q_in (List.mem_of_getElem? (i := 1197) (by decide +kernel)) (by decide +kernel)
theorem q_1198 : (Jvm.Cond.selects "BakedBeforeModel" ({ cls := "BakedBeforeModel", name := "has", desc := "(I)I" } : Jvm.MethodName) ({ cls := "BakedBeforeModel", name := "has", desc := "(I)I" } : Jvm.MethodName)) ∈ zW0 := q_in (List.mem_of_getElem? (i := 1198) (by decide +kernel)) (by decide +kernel)
theorem q_1199 : (Jvm.Cond.code ({ cls := "BakedBeforeModel", name := "has", desc := "(I)I" } : Jvm.MethodName) prog_14_method_60_code (6 : Nat) (Option.some Jvm.ClassFile.FieldType.int)) ∈ zW0 := q_in (List.mem_of_getElem? (i := 1199) (by decide +kernel)) (by decide +kernel)
theorem q_1200 : (Jvm.Cond.constant "BakedBeforeModel" (254 : Nat) (-100001 : Int32)) ∈ zW0 := q_in (List.mem_of_getElem? (i := 1200) (by decide +kernel)) (by decide +kernel)
theorem q_1201 : (Jvm.Cond.methodLink "BakedBeforeModel" (255 : Nat) ({ cls := "BakedBeforeModel", name := "takesBehind", desc := "(II)I" } : Jvm.MethodName)) ∈ zW0 := q_in (List.mem_of_getElem? (i := 1201) (by decide +kernel)) (by decide +kernel)
theorem q_1203 : (Jvm.Cond.instanceMethod ({ cls := "BakedBeforeModel", name := "takesBehind", desc := "(II)I" } : Jvm.MethodName)) ∈ zW0 := q_in (List.mem_of_getElem? (i := 1203) (by decide +kernel)) (by decide +kernel)
theorem q_1204 : (Jvm.Cond.code ({ cls := "BakedBeforeModel", name := "takesBehind", desc := "(II)I" } : Jvm.MethodName) prog_14_method_59_code (5 : Nat) (Option.some Jvm.ClassFile.FieldType.int)) ∈ zW0 := q_in (List.mem_of_getElem? (i := 1204) (by decide +kernel)) (by decide +kernel)
theorem q_1206 : (Jvm.Cond.instanceMethod ({ cls := "BakedBeforeModel", name := "swaps", desc := "(I)I" } : Jvm.MethodName)) ∈ zW0 := q_in (List.mem_of_getElem? (i := 1206) (by decide +kernel)) (by decide +kernel)
theorem q_1207 : (Jvm.Cond.selects "BakedBeforeModel" ({ cls := "BakedBeforeModel", name := "swaps", desc := "(I)I" } : Jvm.MethodName) ({ cls := "BakedBeforeModel", name := "swaps", desc := "(I)I" } : Jvm.MethodName)) ∈ zW0 := q_in (List.mem_of_getElem? (i := 1207) (by decide +kernel)) (by decide +kernel)
theorem q_1208 : (Jvm.Cond.code ({ cls := "BakedBeforeModel", name := "swaps", desc := "(I)I" } : Jvm.MethodName) prog_14_method_62_code (6 : Nat) (Option.some Jvm.ClassFile.FieldType.int)) ∈ zW0 := q_in (List.mem_of_getElem? (i := 1208) (by decide +kernel)) (by decide +kernel)
theorem q_1209 : (Jvm.Cond.methodLink "BakedBeforeModel" (258 : Nat) ({ cls := "BakedBeforeModel", name := "takesInRow", desc := "(II)I" } : Jvm.MethodName)) ∈ zW0 := q_in (List.mem_of_getElem? (i := 1209) (by decide +kernel)) (by decide +kernel)
theorem q_1211 : (Jvm.Cond.instanceMethod ({ cls := "BakedBeforeModel", name := "takesInRow", desc := "(II)I" } : Jvm.MethodName)) ∈ zW0 := q_in (List.mem_of_getElem? (i := 1211) (by decide +kernel)) (by decide +kernel)
theorem q_1212 : (Jvm.Cond.code ({ cls := "BakedBeforeModel", name := "takesInRow", desc := "(II)I" } : Jvm.MethodName) prog_14_method_61_code (7 : Nat) (Option.some Jvm.ClassFile.FieldType.int)) ∈ zW0 := q_in (List.mem_of_getElem? (i := 1212) (by decide +kernel)) (by decide +kernel)
theorem q_1214 : (Jvm.Cond.instanceMethod ({ cls := "BakedBeforeModel", name := "span", desc := "(IIII)I" } : Jvm.MethodName)) ∈ zW0 := q_in (List.mem_of_getElem? (i := 1214) (by decide +kernel)) (by decide +kernel)
theorem q_1215 : (Jvm.Cond.selects "BakedBeforeModel" ({ cls := "BakedBeforeModel", name := "span", desc := "(IIII)I" } : Jvm.MethodName) ({ cls := "BakedBeforeModel", name := "span", desc := "(IIII)I" } : Jvm.MethodName)) ∈ zW0 := q_in (List.mem_of_getElem? (i := 1215) (by decide +kernel)) (by decide +kernel)
theorem q_1216 : (Jvm.Cond.code ({ cls := "BakedBeforeModel", name := "span", desc := "(IIII)I" } : Jvm.MethodName) prog_14_method_63_code (11 : Nat) (Option.some Jvm.ClassFile.FieldType.int)) ∈ zW0 := q_in (List.mem_of_getElem? (i := 1216) (by decide +kernel)) (by decide +kernel)
theorem q_1218 : (Jvm.Cond.instanceMethod ({ cls := "BakedBeforeModel", name := "yea\x72", desc := "(III)I" } : Jvm.MethodName)) ∈ zW0 := q_in (List.mem_of_getElem? (i := 1218) (by decide +kernel)) (by decide +kernel)
theorem q_1219 : (Jvm.Cond.selects "BakedBeforeModel" ({ cls := "BakedBeforeModel", name := "yea\x72", desc := "(III)I" } : Jvm.MethodName) ({ cls := "BakedBeforeModel", name := "yea\x72", desc := "(III)I" } : Jvm.MethodName)) ∈ zW0 := q_in (List.mem_of_getElem? (i := 1219) (by decide +kernel)) (by decide +kernel)
theorem q_1220 : (Jvm.Cond.code ({ cls := "BakedBeforeModel", name := "yea\x72", desc := "(III)I" } : Jvm.MethodName) prog_14_method_64_code (7 : Nat) (Option.some Jvm.ClassFile.FieldType.int)) ∈ zW0 := q_in (List.mem_of_getElem? (i := 1220) (by decide +kernel)) (by decide +kernel)
theorem q_1221 : (Jvm.Cond.constant "BakedBeforeModel" (261 : Nat) (-100002 : Int32)) ∈ zW0 := q_in (List.mem_of_getElem? (i := 1221) (by decide +kernel)) (by decide +kernel)
theorem q_1222 : (Jvm.Cond.constant "BakedBeforeModel" (262 : Nat) (-100003 : Int32)) ∈ zW0 := q_in (List.mem_of_getElem? (i := 1222) (by decide +kernel)) (by decide +kernel)
theorem q_1224 : (Jvm.Cond.instanceMethod ({ cls := "BakedBeforeModel", name := "odds", desc := "(II)J" } : Jvm.MethodName)) ∈ zW0 := q_in (List.mem_of_getElem? (i := 1224) (by decide +kernel)) (by decide +kernel)
theorem q_1225 : (Jvm.Cond.selects "BakedBeforeModel" ({ cls := "BakedBeforeModel", name := "odds", desc := "(II)J" } : Jvm.MethodName) ({ cls := "BakedBeforeModel", name := "odds", desc := "(II)J" } : Jvm.MethodName)) ∈ zW0 := q_in (List.mem_of_getElem? (i := 1225) (by decide +kernel)) (by decide +kernel)
theorem q_1226 : (Jvm.Cond.code ({ cls := "BakedBeforeModel", name := "odds", desc := "(II)J" } : Jvm.MethodName) prog_14_method_67_code (6 : Nat) (Option.some Jvm.ClassFile.FieldType.long)) ∈ zW0 := q_in (List.mem_of_getElem? (i := 1226) (by decide +kernel)) (by decide +kernel)
theorem q_1227 : (Jvm.Cond.constantLong "BakedBeforeModel" (266 : Nat) (-9223372036854775808 : Int64)) ∈ zW0 := q_in (List.mem_of_getElem? (i := 1227) (by decide +kernel)) (by decide +kernel)
theorem q_1228 : (Jvm.Cond.methodLink "BakedBeforeModel" (268 : Nat) ({ cls := "BakedBeforeModel", name := "lowest", desc := "(III)J" } : Jvm.MethodName)) ∈ zW0 := q_in (List.mem_of_getElem? (i := 1228) (by decide +kernel)) (by decide +kernel)
theorem q_1229 : (Jvm.Cond.static ({ cls := "BakedBeforeModel", name := "lowest", desc := "(III)J" } : Jvm.MethodName)) ∈ zW0 := q_in (List.mem_of_getElem? (i := 1229) (by decide +kernel)) (by decide +kernel)
theorem q_1230 : (Jvm.Cond.code ({ cls := "BakedBeforeModel", name := "lowest", desc := "(III)J" } : Jvm.MethodName) prog_14_method_66_code (4 : Nat) (Option.some Jvm.ClassFile.FieldType.long)) ∈ zW0 := q_in (List.mem_of_getElem? (i := 1230) (by decide +kernel)) (by decide +kernel)
theorem q_1231 : (Jvm.Cond.methodLink "BakedBeforeModel" (263 : Nat) ({ cls := "BakedBeforeModel", name := "common", desc := "(II)I" } : Jvm.MethodName)) ∈ zW0 := q_in (List.mem_of_getElem? (i := 1231) (by decide +kernel)) (by decide +kernel)
theorem q_1232 : (Jvm.Cond.static ({ cls := "BakedBeforeModel", name := "common", desc := "(II)I" } : Jvm.MethodName)) ∈ zW0 := q_in (List.mem_of_getElem? (i := 1232) (by decide +kernel)) (by decide +kernel)
theorem q_1233 : (Jvm.Cond.code ({ cls := "BakedBeforeModel", name := "common", desc := "(II)I" } : Jvm.MethodName) prog_14_method_65_code (2 : Nat) (Option.some Jvm.ClassFile.FieldType.int)) ∈ zW0 := q_in (List.mem_of_getElem? (i := 1233) (by decide +kernel)) (by decide +kernel)
theorem q_1235 : (Jvm.Cond.instanceMethod ({ cls := "BakedBeforeModel", name := "mean", desc := "(II)J" } : Jvm.MethodName)) ∈ zW0 := q_in (List.mem_of_getElem? (i := 1235) (by decide +kernel)) (by decide +kernel)
theorem q_1236 : (Jvm.Cond.selects "BakedBeforeModel" ({ cls := "BakedBeforeModel", name := "mean", desc := "(II)J" } : Jvm.MethodName) ({ cls := "BakedBeforeModel", name := "mean", desc := "(II)J" } : Jvm.MethodName)) ∈ zW0 := q_in (List.mem_of_getElem? (i := 1236) (by decide +kernel)) (by decide +kernel)
theorem q_1237 : (Jvm.Cond.code ({ cls := "BakedBeforeModel", name := "mean", desc := "(II)J" } : Jvm.MethodName) prog_14_method_68_code (5 : Nat) (Option.some Jvm.ClassFile.FieldType.long)) ∈ zW0 := q_in (List.mem_of_getElem? (i := 1237) (by decide +kernel)) (by decide +kernel)
theorem q_1239 : (Jvm.Cond.instanceMethod ({ cls := "BakedBeforeModel", name := "book", desc := "(IZ)I" } : Jvm.MethodName)) ∈ zW0 := q_in (List.mem_of_getElem? (i := 1239) (by decide +kernel)) (by decide +kernel)
theorem q_1240 : (Jvm.Cond.selects "BakedBeforeModel" ({ cls := "BakedBeforeModel", name := "book", desc := "(IZ)I" } : Jvm.MethodName) ({ cls := "BakedBeforeModel", name := "book", desc := "(IZ)I" } : Jvm.MethodName)) ∈ zW0 := q_in (List.mem_of_getElem? (i := 1240) (by decide +kernel)) (by decide +kernel)
theorem q_1241 : (Jvm.Cond.code ({ cls := "BakedBeforeModel", name := "book", desc := "(IZ)I" } : Jvm.MethodName) prog_14_method_69_code (3 : Nat) (Option.some Jvm.ClassFile.FieldType.int)) ∈ zW0 := q_in (List.mem_of_getElem? (i := 1241) (by decide +kernel)) (by decide +kernel)
theorem q_1243 : (Jvm.Cond.instanceMethod ({ cls := "BakedBeforeModel", name := "looked", desc := "()I" } : Jvm.MethodName)) ∈ zW0 := q_in (List.mem_of_getElem? (i := 1243) (by decide +kernel)) (by decide +kernel)
theorem q_1244 : (Jvm.Cond.selects "BakedBeforeModel" ({ cls := "BakedBeforeModel", name := "looked", desc := "()I" } : Jvm.MethodName) ({ cls := "BakedBeforeModel", name := "looked", desc := "()I" } : Jvm.MethodName)) ∈ zW0 := q_in (List.mem_of_getElem? (i := 1244) (by decide +kernel)) (by decide +kernel)
theorem q_1245 : (Jvm.Cond.code ({ cls := "BakedBeforeModel", name := "looked", desc := "()I" } : Jvm.MethodName) prog_14_method_71_code (3 : Nat) (Option.some Jvm.ClassFile.FieldType.int)) ∈ zW0 := q_in (List.mem_of_getElem? (i := 1245) (by decide +kernel)) (by decide +kernel)
theorem q_1246 : (Jvm.Cond.methodLink "BakedBeforeModel" (272 : Nat) ({ cls := "BakedBeforeModel", name := "isBookedSo", desc := "(I)Z" } : Jvm.MethodName)) ∈ zW0 := q_in (List.mem_of_getElem? (i := 1246) (by decide +kernel)) (by decide +kernel)
theorem q_1248 : (Jvm.Cond.instanceMethod ({ cls := "BakedBeforeModel", name := "isBookedSo", desc := "(I)Z" } : Jvm.MethodName)) ∈ zW0 := q_in (List.mem_of_getElem? (i := 1248) (by decide +kernel)) (by decide +kernel)
theorem q_1249 : (Jvm.Cond.code ({ cls := "BakedBeforeModel", name := "isBookedSo", desc := "(I)Z" } : Jvm.MethodName) prog_14_method_70_code (4 : Nat) (Option.some Jvm.ClassFile.FieldType.boolean)) ∈ zW0 := q_in (List.mem_of_getElem? (i := 1249) (by decide +kernel)) (by decide +kernel)
theorem q_1251 : (Jvm.Cond.instanceMethod ({ cls := "BakedBeforeModel", name := "judge", desc := "(II)I" } : Jvm.MethodName)) ∈ zW0 := q_in (List.mem_of_getElem? (i := 1251) (by decide +kernel)) (by decide +kernel)
theorem q_1252 : (Jvm.Cond.selects "BakedBeforeModel" ({ cls := "BakedBeforeModel", name := "judge", desc := "(II)I" } : Jvm.MethodName) ({ cls := "BakedBeforeModel", name := "judge", desc := "(II)I" } : Jvm.MethodName)) ∈ zW0 := q_in (List.mem_of_getElem? (i := 1252) (by decide +kernel)) (by decide +kernel)
theorem q_1253 : (Jvm.Cond.code ({ cls := "BakedBeforeModel", name := "judge", desc := "(II)I" } : Jvm.MethodName) prog_14_method_73_code (4 : Nat) (Option.some Jvm.ClassFile.FieldType.int)) ∈ zW0 := q_in (List.mem_of_getElem? (i := 1253) (by decide +kernel)) (by decide +kernel)
theorem q_1254 : (Jvm.Cond.methodLink "BakedBeforeModel" (275 : Nat) ({ cls := "BakedBeforeModel", name := "isTape", desc := "(I)Z" } : Jvm.MethodName)) ∈ zW0 := q_in (List.mem_of_getElem? (i := 1254) (by decide +kernel)) (by decide +kernel)
theorem q_1255 : (Jvm.Cond.static ({ cls := "BakedBeforeModel", name := "isTape", desc := "(I)Z" } : Jvm.MethodName)) ∈ zW0 := q_in (List.mem_of_getElem? (i := 1255) (by decide +kernel)) (by decide +kernel)
theorem q_1256 : (Jvm.Cond.code ({ cls := "BakedBeforeModel", name := "isTape", desc := "(I)Z" } : Jvm.MethodName) prog_14_method_72_code (1 : Nat) (Option.some Jvm.ClassFile.FieldType.boolean)) ∈ zW0 := q_in (List.mem_of_getElem? (i := 1256) (by decide +kernel)) (by decide +kernel)
theorem q_1258 : (Jvm.Cond.instanceMethod ({ cls := "BakedBeforeModel", name := "image", desc := "()I" } : Jvm.MethodName)) ∈ zW0 := q_in (List.mem_of_getElem? (i := 1258) (by decide +kernel)) (by decide +kernel)
theorem q_1259 : (Jvm.Cond.selects "BakedBeforeModel" ({ cls := "BakedBeforeModel", name := "image", desc := "()I" } : Jvm.MethodName) ({ cls := "BakedBeforeModel", name := "image", desc := "()I" } : Jvm.MethodName)) ∈ zW0 := q_in (List.mem_of_getElem? (i := 1259) (by decide +kernel)) (by decide +kernel)
theorem q_1260 : (Jvm.Cond.code ({ cls := "BakedBeforeModel", name := "image", desc := "()I" } : Jvm.MethodName) prog_14_method_74_code (1 : Nat) (Option.some Jvm.ClassFile.FieldType.int)) ∈ zW0 := q_in (List.mem_of_getElem? (i := 1260) (by decide +kernel)) (by decide +kernel)
theorem q_1262 : (Jvm.Cond.instanceMethod ({ cls := "BakedBeforeModel", name := "undo", desc := "()I" } : Jvm.MethodName)) ∈ zW0 := q_in (List.mem_of_getElem? (i := 1262) (by decide +kernel)) (by decide +kernel)
theorem q_1263 : (Jvm.Cond.selects "BakedBeforeModel" ({ cls := "BakedBeforeModel", name := "undo", desc := "()I" } : Jvm.MethodName) ({ cls := "BakedBeforeModel", name := "undo", desc := "()I" } : Jvm.MethodName)) ∈ zW0 := q_in (List.mem_of_getElem? (i := 1263) (by decide +kernel)) (by decide +kernel)
theorem q_1264 : (Jvm.Cond.code ({ cls := "BakedBeforeModel", name := "undo", desc := "()I" } : Jvm.MethodName) prog_14_method_75_code (1 : Nat) (Option.some Jvm.ClassFile.FieldType.int)) ∈ zW0 := q_in (List.mem_of_getElem? (i := 1264) (by decide +kernel)) (by decide +kernel)
theorem q_1266 : (Jvm.Cond.instanceMethod ({ cls := "BakedBeforeModel", name := "act", desc := "(III)I" } : Jvm.MethodName)) ∈ zW0 := q_in (List.mem_of_getElem? (i := 1266) (by decide +kernel)) (by decide +kernel)
theorem q_1267 : (Jvm.Cond.selects "BakedBeforeModel" ({ cls := "BakedBeforeModel", name := "act", desc := "(III)I" } : Jvm.MethodName) ({ cls := "BakedBeforeModel", name := "act", desc := "(III)I" } : Jvm.MethodName)) ∈ zW0 := q_in (List.mem_of_getElem? (i := 1267) (by decide +kernel)) (by decide +kernel)
theorem q_1268 : (Jvm.Cond.code ({ cls := "BakedBeforeModel", name := "act", desc := "(III)I" } : Jvm.MethodName) prog_14_method_80_code (5 : Nat) (Option.some Jvm.ClassFile.FieldType.int)) ∈ zW0 := q_in (List.mem_of_getElem? (i := 1268) (by decide +kernel)) (by decide +kernel)
theorem q_1269 : (Jvm.Cond.methodLink "BakedBeforeModel" (288 : Nat) ({ cls := "BakedBeforeModel", name := "rises", desc := "(II)I" } : Jvm.MethodName)) ∈ zW0 := q_in (List.mem_of_getElem? (i := 1269) (by decide +kernel)) (by decide +kernel)
theorem q_1271 : (Jvm.Cond.instanceMethod ({ cls := "BakedBeforeModel", name := "rises", desc := "(II)I" } : Jvm.MethodName)) ∈ zW0 := q_in (List.mem_of_getElem? (i := 1271) (by decide +kernel)) (by decide +kernel)
theorem q_1272 : (Jvm.Cond.code ({ cls := "BakedBeforeModel", name := "rises", desc := "(II)I" } : Jvm.MethodName) prog_14_method_77_code (3 : Nat) (Option.some Jvm.ClassFile.FieldType.int)) ∈ zW0 := q_in (List.mem_of_getElem? (i := 1272) (by decide +kernel)) (by decide +kernel)
theorem q_1273 : (Jvm.Cond.methodLink "BakedBeforeModel" (284 : Nat) ({ cls := "BakedBeforeModel", name := "runs", desc := "(I)V" } : Jvm.MethodName)) ∈ zW0 := q_in (List.mem_of_getElem? (i := 1273) (by decide +kernel)) (by decide +kernel)
theorem q_1275 : (Jvm.Cond.instanceMethod ({ cls := "BakedBeforeModel", name := "runs", desc := "(I)V" } : Jvm.MethodName)) ∈ zW0 := q_in (List.mem_of_getElem? (i := 1275) (by decide +kernel)) (by decide +kernel)
theorem q_1276 : (Jvm.Cond.code ({ cls := "BakedBeforeModel", name := "runs", desc := "(I)V" } : Jvm.MethodName) prog_14_method_76_code (2 : Nat) (Option.none : Option Jvm.ClassFile.FieldType)) ∈ zW0 := q_in (List.mem_of_getElem? (i := 1276) (by decide +kernel)) (by decide +kernel)
theorem q_1277 : (Jvm.Cond.methodLink "BakedBeforeModel" (294 : Nat) ({ cls := "BakedBeforeModel", name := "bakesFrom", desc := "(II)I" } : Jvm.MethodName)) ∈ zW0 := q_in (List.mem_of_getElem? (i := 1277) (by decide +kernel)) (by decide +kernel)
theorem q_1279 : (Jvm.Cond.instanceMethod ({ cls := "BakedBeforeModel", name := "bakesFrom", desc := "(II)I" } : Jvm.MethodName)) ∈ zW0 := q_in (List.mem_of_getElem? (i := 1279) (by decide +kernel)) (by decide +kernel)
theorem q_1280 : (Jvm.Cond.code ({ cls := "BakedBeforeModel", name := "bakesFrom", desc := "(II)I" } : Jvm.MethodName) prog_14_method_78_code (4 : Nat) (Option.some Jvm.ClassFile.FieldType.int)) ∈ zW0 := q_in (List.mem_of_getElem? (i := 1280) (by decide +kernel)) (by decide +kernel)
theorem q_1281 : (Jvm.Cond.methodLink "BakedBeforeModel" (297 : Nat) ({ cls := "BakedBeforeModel", name := "tells", desc := "(II)I" } : Jvm.MethodName)) ∈ zW0 := q_in (List.mem_of_getElem? (i := 1281) (by decide +kernel)) (by decide +kernel)
theorem q_1283 : (Jvm.Cond.instanceMethod ({ cls := "BakedBeforeModel", name := "tells", desc := "(II)I" } : Jvm.MethodName)) ∈ zW0 := q_in (List.mem_of_getElem? (i := 1283) (by decide +kernel)) (by decide +kernel)
theorem q_1284 : (Jvm.Cond.code ({ cls := "BakedBeforeModel", name := "tells", desc := "(II)I" } : Jvm.MethodName) prog_14_method_79_code (4 : Nat) (Option.some Jvm.ClassFile.FieldType.int)) ∈ zW0 := q_in (List.mem_of_getElem? (i := 1284) (by decide +kernel)) (by decide +kernel)
theorem q_1286 : (Jvm.Cond.instanceMethod ({ cls := "BakedBeforeModel", name := "trace", desc := "(I)I" } : Jvm.MethodName)) ∈ zW0 := q_in (List.mem_of_getElem? (i := 1286) (by decide +kernel)) (by decide +kernel)
theorem q_1287 : (Jvm.Cond.selects "BakedBeforeModel" ({ cls := "BakedBeforeModel", name := "trace", desc := "(I)I" } : Jvm.MethodName) ({ cls := "BakedBeforeModel", name := "trace", desc := "(I)I" } : Jvm.MethodName)) ∈ zW0 := q_in (List.mem_of_getElem? (i := 1287) (by decide +kernel)) (by decide +kernel)
theorem q_1288 : (Jvm.Cond.code ({ cls := "BakedBeforeModel", name := "trace", desc := "(I)I" } : Jvm.MethodName) prog_14_method_81_code (2 : Nat) (Option.some Jvm.ClassFile.FieldType.int)) ∈ zW0 := q_in (List.mem_of_getElem? (i := 1288) (by decide +kernel)) (by decide +kernel)
theorem q_1290 : (Jvm.Cond.instanceMethod ({ cls := "BakedBeforeModel", name := "taken", desc := "(II)I" } : Jvm.MethodName)) ∈ zW0 := q_in (List.mem_of_getElem? (i := 1290) (by decide +kernel)) (by decide +kernel)
theorem q_1291 : (Jvm.Cond.selects "BakedBeforeModel" ({ cls := "BakedBeforeModel", name := "taken", desc := "(II)I" } : Jvm.MethodName) ({ cls := "BakedBeforeModel", name := "taken", desc := "(II)I" } : Jvm.MethodName)) ∈ zW0 := q_in (List.mem_of_getElem? (i := 1291) (by decide +kernel)) (by decide +kernel)
theorem q_1292 : (Jvm.Cond.code ({ cls := "BakedBeforeModel", name := "taken", desc := "(II)I" } : Jvm.MethodName) prog_14_method_83_code (4 : Nat) (Option.some Jvm.ClassFile.FieldType.int)) ∈ zW0 := q_in (List.mem_of_getElem? (i := 1292) (by decide +kernel)) (by decide +kernel)
theorem q_1293 : (Jvm.Cond.methodLink "BakedBeforeModel" (300 : Nat) ({ cls := "BakedBeforeModel", name := "above", desc := "(I)I" } : Jvm.MethodName)) ∈ zW0 := q_in (List.mem_of_getElem? (i := 1293) (by decide +kernel)) (by decide +kernel)
theorem q_1294 : (Jvm.Cond.static ({ cls := "BakedBeforeModel", name := "above", desc := "(I)I" } : Jvm.MethodName)) ∈ zW0 := q_in (List.mem_of_getElem? (i := 1294) (by decide +kernel)) (by decide +kernel)
theorem q_1295 : (Jvm.Cond.code ({ cls := "BakedBeforeModel", name := "above", desc := "(I)I" } : Jvm.MethodName) prog_14_method_82_code (1 : Nat) (Option.some Jvm.ClassFile.FieldType.int)) ∈ zW0 := q_in (List.mem_of_getElem? (i := 1295) (by decide +kernel)) (by decide +kernel)
theorem q_1297 : (Jvm.Cond.instanceMethod ({ cls := "BakedBeforeModel", name := "count", desc := "(I)I" } : Jvm.MethodName)) ∈ zW0 := q_in (List.mem_of_getElem? (i := 1297) (by decide +kernel)) (by decide +kernel)
theorem q_1298 : (Jvm.Cond.selects "BakedBeforeModel" ({ cls := "BakedBeforeModel", name := "count", desc := "(I)I" } : Jvm.MethodName) ({ cls := "BakedBeforeModel", name := "count", desc := "(I)I" } : Jvm.MethodName)) ∈ zW0 := q_in (List.mem_of_getElem? (i := 1298) (by decide +kernel)) (by decide +kernel)
theorem q_1299 : (Jvm.Cond.code ({ cls := "BakedBeforeModel", name := "count", desc := "(I)I" } : Jvm.MethodName) prog_14_method_84_code (2 : Nat) (Option.some Jvm.ClassFile.FieldType.int)) ∈ zW0 := q_in (List.mem_of_getElem? (i := 1299) (by decide +kernel)) (by decide +kernel)
theorem q_1301 : (Jvm.Cond.instanceMethod ({ cls := "BakedBeforeModel", name := "tape", desc := "(III)I" } : Jvm.MethodName)) ∈ zW0 := q_in (List.mem_of_getElem? (i := 1301) (by decide +kernel)) (by decide +kernel)
theorem q_1302 : (Jvm.Cond.selects "BakedBeforeModel" ({ cls := "BakedBeforeModel", name := "tape", desc := "(III)I" } : Jvm.MethodName) ({ cls := "BakedBeforeModel", name := "tape", desc := "(III)I" } : Jvm.MethodName)) ∈ zW0 := q_in (List.mem_of_getElem? (i := 1302) (by decide +kernel)) (by decide +kernel)
theorem q_1303 : (Jvm.Cond.code ({ cls := "BakedBeforeModel", name := "tape", desc := "(III)I" } : Jvm.MethodName) prog_14_method_85_code (5 : Nat) (Option.some Jvm.ClassFile.FieldType.int)) ∈ zW0 := q_in (List.mem_of_getElem? (i := 1303) (by decide +kernel)) (by decide +kernel)
theorem q_1305 : (Jvm.Cond.instanceMethod ({ cls := "BakedBeforeModel", name := "item", desc := "(IIJ)I" } : Jvm.MethodName)) ∈ zW0 := q_in (List.mem_of_getElem? (i := 1305) (by decide +kernel)) (by decide +kernel)
theorem q_1306 : (Jvm.Cond.selects "BakedBeforeModel" ({ cls := "BakedBeforeModel", name := "item", desc := "(IIJ)I" } : Jvm.MethodName) ({ cls := "BakedBeforeModel", name := "item", desc := "(IIJ)I" } : Jvm.MethodName)) ∈ zW0 := q_in (List.mem_of_getElem? (i := 1306) (by decide +kernel)) (by decide +kernel)
theorem q_1307 : (Jvm.Cond.code ({ cls := "BakedBeforeModel", name := "item", desc := "(IIJ)I" } : Jvm.MethodName) prog_14_method_87_code (5 : Nat) (Option.some Jvm.ClassFile.FieldType.int)) ∈ zW0 := q_in (List.mem_of_getElem? (i := 1307) (by decide +kernel)) (by decide +kernel)
theorem q_1308 : (Jvm.Cond.methodLink "BakedBeforeModel" (303 : Nat) ({ cls := "BakedBeforeModel", name := "kept", desc := "(IJ)J" } : Jvm.MethodName)) ∈ zW0 := q_in (List.mem_of_getElem? (i := 1308) (by decide +kernel)) (by decide +kernel)
theorem q_1309 : (Jvm.Cond.static ({ cls := "BakedBeforeModel", name := "kept", desc := "(IJ)J" } : Jvm.MethodName)) ∈ zW0 := q_in (List.mem_of_getElem? (i := 1309) (by decide +kernel)) (by decide +kernel)
theorem q_1310 : (Jvm.Cond.code ({ cls := "BakedBeforeModel", name := "kept", desc := "(IJ)J" } : Jvm.MethodName) prog_14_method_86_code (3 : Nat) (Option.some Jvm.ClassFile.FieldType.long)) ∈ zW0 := q_in (List.mem_of_getElem? (i := 1310) (by decide +kernel)) (by decide +kernel)
theorem q_1312 : (Jvm.Cond.instanceMethod ({ cls := "BakedBeforeModel", name := "read", desc := "(II)J" } : Jvm.MethodName)) ∈ zW0 := q_in (List.mem_of_getElem? (i := 1312) (by decide +kernel)) (by decide +kernel)
theorem q_1313 : (Jvm.Cond.selects "BakedBeforeModel" ({ cls := "BakedBeforeModel", name := "read", desc := "(II)J" } : Jvm.MethodName) ({ cls := "BakedBeforeModel", name := "read", desc := "(II)J" } : Jvm.MethodName)) ∈ zW0 := q_in (List.mem_of_getElem? (i := 1313) (by decide +kernel)) (by decide +kernel)
theorem q_1314 : (Jvm.Cond.code ({ cls := "BakedBeforeModel", name := "read", desc := "(II)J" } : Jvm.MethodName) prog_14_method_88_code (3 : Nat) (Option.some Jvm.ClassFile.FieldType.long)) ∈ zW0 := q_in (List.mem_of_getElem? (i := 1314) (by decide +kernel)) (by decide +kernel)
theorem q_1316 : (Jvm.Cond.instanceMethod ({ cls := "BakedBeforeModel", name := "shift", desc := "(IIIII)I" } : Jvm.MethodName)) ∈ zW0 := q_in (List.mem_of_getElem? (i := 1316) (by decide +kernel)) (by decide +kernel)
theorem q_1317 : (Jvm.Cond.selects "BakedBeforeModel" ({ cls := "BakedBeforeModel", name := "shift", desc := "(IIIII)I" } : Jvm.MethodName) ({ cls := "BakedBeforeModel", name := "shift", desc := "(IIIII)I" } : Jvm.MethodName)) ∈ zW0 := q_in (List.mem_of_getElem? (i := 1317) (by decide +kernel)) (by decide +kernel)
theorem q_1318 : (Jvm.Cond.code ({ cls := "BakedBeforeModel", name := "shift", desc := "(IIIII)I" } : Jvm.MethodName) prog_14_method_89_code (8 : Nat) (Option.some Jvm.ClassFile.FieldType.int)) ∈ zW0 := q_in (List.mem_of_getElem? (i := 1318) (by decide +kernel)) (by decide +kernel)
theorem qs_0 : (Jvm.Cond.selects "BakedBefore" ({ cls := "BakedBefore", name := "isLoaf", desc := "(I)Z" } : Jvm.MethodName) ({ cls := "BakedBefore", name := "isLoaf", desc := "(I)Z" } : Jvm.MethodName)) ∈ zW0 := q_is (List.mem_of_getElem? (i := 0) (by decide +kernel)) (by decide +kernel)
theorem qs_1 : (Jvm.Cond.selects "BakedBefore$Kiln" ({ cls := "BakedBefore$Kiln", name := "holds", desc := "(II)Z" } : Jvm.MethodName) ({ cls := "BakedBefore$Kiln", name := "holds", desc := "(II)Z" } : Jvm.MethodName)) ∈ zW0 := q_is (List.mem_of_getElem? (i := 1) (by decide +kernel)) (by decide +kernel)
theorem qs_2 : (Jvm.Cond.selects "BakedBefore" ({ cls := "BakedBefore", name := "ofTaste", desc := "(LBakedBefore$Loaf;II)I" } : Jvm.MethodName) ({ cls := "BakedBefore", name := "ofTaste", desc := "(LBakedBefore$Loaf;II)I" } : Jvm.MethodName)) ∈ zW0 := q_is (List.mem_of_getElem? (i := 2) (by decide +kernel)) (by decide +kernel)
theorem qs_3 : (Jvm.Cond.selects "BakedBefore$Reade\x72" ({ cls := "BakedBefore$Reade\x72", name := "readClause", desc := "()Z" } : Jvm.MethodName) ({ cls := "BakedBefore$Reade\x72", name := "readClause", desc := "()Z" } : Jvm.MethodName)) ∈ zW0 := q_is (List.mem_of_getElem? (i := 3) (by decide +kernel)) (by decide +kernel)
theorem qs_4 : (Jvm.Cond.selects "BakedBefore$Reade\x72" ({ cls := "BakedBefore$Reade\x72", name := "here", desc := "()I" } : Jvm.MethodName) ({ cls := "BakedBefore$Reade\x72", name := "here", desc := "()I" } : Jvm.MethodName)) ∈ zW0 := q_is (List.mem_of_getElem? (i := 4) (by decide +kernel)) (by decide +kernel)
theorem qs_5 : (Jvm.Cond.selects "BakedBefore$Reade\x72" ({ cls := "BakedBefore$Reade\x72", name := "readWord", desc := "(Ljava/lang/String;)Z" } : Jvm.MethodName) ({ cls := "BakedBefore$Reade\x72", name := "readWord", desc := "(Ljava/lang/String;)Z" } : Jvm.MethodName)) ∈ zW0 := q_is (List.mem_of_getElem? (i := 5) (by decide +kernel)) (by decide +kernel)
theorem qs_6 : (Jvm.Cond.selects "BakedBefore$Reade\x72" ({ cls := "BakedBefore$Reade\x72", name := "skip", desc := "(C)Z" } : Jvm.MethodName) ({ cls := "BakedBefore$Reade\x72", name := "skip", desc := "(C)Z" } : Jvm.MethodName)) ∈ zW0 := q_is (List.mem_of_getElem? (i := 6) (by decide +kernel)) (by decide +kernel)
theorem qs_7 : (Jvm.Cond.selects "BakedBefore$Reade\x72" ({ cls := "BakedBefore$Reade\x72", name := "readNumbe\x72", desc := "()Z" } : Jvm.MethodName) ({ cls := "BakedBefore$Reade\x72", name := "readNumbe\x72", desc := "()Z" } : Jvm.MethodName)) ∈ zW0 := q_is (List.mem_of_getElem? (i := 7) (by decide +kernel)) (by decide +kernel)
theorem qs_8 : (Jvm.Cond.selects "BakedBefore$Reade\x72" ({ cls := "BakedBefore$Reade\x72", name := "readEithe\x72", desc := "(I)Z" } : Jvm.MethodName) ({ cls := "BakedBefore$Reade\x72", name := "readEithe\x72", desc := "(I)Z" } : Jvm.MethodName)) ∈ zW0 := q_is (List.mem_of_getElem? (i := 8) (by decide +kernel)) (by decide +kernel)
theorem qs_9 : (Jvm.Cond.selects "BakedBefore$Reade\x72" ({ cls := "BakedBefore$Reade\x72", name := "readBoth", desc := "(I)Z" } : Jvm.MethodName) ({ cls := "BakedBefore$Reade\x72", name := "readBoth", desc := "(I)Z" } : Jvm.MethodName)) ∈ zW0 := q_is (List.mem_of_getElem? (i := 9) (by decide +kernel)) (by decide +kernel)
theorem qs_10 : (Jvm.Cond.selects "BakedBefore$Reade\x72" ({ cls := "BakedBefore$Reade\x72", name := "readPart", desc := "(I)Z" } : Jvm.MethodName) ({ cls := "BakedBefore$Reade\x72", name := "readPart", desc := "(I)Z" } : Jvm.MethodName)) ∈ zW0 := q_is (List.mem_of_getElem? (i := 10) (by decide +kernel)) (by decide +kernel)
theorem qs_11 : (Jvm.Cond.selects "BakedBefore$Reade\x72" ({ cls := "BakedBefore$Reade\x72", name := "readTest", desc := "()Z" } : Jvm.MethodName) ({ cls := "BakedBefore$Reade\x72", name := "readTest", desc := "()Z" } : Jvm.MethodName)) ∈ zW0 := q_is (List.mem_of_getElem? (i := 11) (by decide +kernel)) (by decide +kernel)
theorem qs_12 : (Jvm.Cond.selects "BakedBefore" ({ cls := "BakedBefore", name := "isSet", desc := "(II)Z" } : Jvm.MethodName) ({ cls := "BakedBefore", name := "isSet", desc := "(II)Z" } : Jvm.MethodName)) ∈ zW0 := q_is (List.mem_of_getElem? (i := 12) (by decide +kernel)) (by decide +kernel)
theorem qs_13 : (Jvm.Cond.selects "BakedBefore$Search" ({ cls := "BakedBefore$Search", name := "goOnOrde\x72", desc := "(III)V" } : Jvm.MethodName) ({ cls := "BakedBefore$Search", name := "goOnOrde\x72", desc := "(III)V" } : Jvm.MethodName)) ∈ zW0 := q_is (List.mem_of_getElem? (i := 13) (by decide +kernel)) (by decide +kernel)
theorem qs_14 : (Jvm.Cond.selects "BakedBefore$Search" ({ cls := "BakedBefore$Search", name := "keep", desc := "(I)V" } : Jvm.MethodName) ({ cls := "BakedBefore$Search", name := "keep", desc := "(I)V" } : Jvm.MethodName)) ∈ zW0 := q_is (List.mem_of_getElem? (i := 14) (by decide +kernel)) (by decide +kernel)
theorem qs_15 : (Jvm.Cond.selects "BakedBefore$Search" ({ cls := "BakedBefore$Search", name := "goOnColds", desc := "(III)V" } : Jvm.MethodName) ({ cls := "BakedBefore$Search", name := "goOnColds", desc := "(III)V" } : Jvm.MethodName)) ∈ zW0 := q_is (List.mem_of_getElem? (i := 15) (by decide +kernel)) (by decide +kernel)
theorem qs_16 : (Jvm.Cond.selects "BakedBefore$Aske\x72" ({ cls := "BakedBefore$Aske\x72", name := "spoilsWithout", desc := "(II)Z" } : Jvm.MethodName) ({ cls := "BakedBefore$Aske\x72", name := "spoilsWithout", desc := "(II)Z" } : Jvm.MethodName)) ∈ zW0 := q_is (List.mem_of_getElem? (i := 16) (by decide +kernel)) (by decide +kernel)
theorem qs_17 : (Jvm.Cond.selects "BakedBefore$Aske\x72" ({ cls := "BakedBefore$Aske\x72", name := "spoiledIn", desc := "(I)I" } : Jvm.MethodName) ({ cls := "BakedBefore$Aske\x72", name := "spoiledIn", desc := "(I)I" } : Jvm.MethodName)) ∈ zW0 := q_is (List.mem_of_getElem? (i := 17) (by decide +kernel)) (by decide +kernel)
theorem qs_18 : (Jvm.Cond.selects "BakedBefore$Aske\x72" ({ cls := "BakedBefore$Aske\x72", name := "gainOfFirst", desc := "(I)I" } : Jvm.MethodName) ({ cls := "BakedBefore$Aske\x72", name := "gainOfFirst", desc := "(I)I" } : Jvm.MethodName)) ∈ zW0 := q_is (List.mem_of_getElem? (i := 18) (by decide +kernel)) (by decide +kernel)
theorem qs_19 : (Jvm.Cond.selects "BakedBefore$Aske\x72" ({ cls := "BakedBefore$Aske\x72", name := "bakeAhead", desc := "(I)V" } : Jvm.MethodName) ({ cls := "BakedBefore$Aske\x72", name := "bakeAhead", desc := "(I)V" } : Jvm.MethodName)) ∈ zW0 := q_is (List.mem_of_getElem? (i := 19) (by decide +kernel)) (by decide +kernel)
theorem qs_20 : (Jvm.Cond.selects "BakedBefore$Acts" ({ cls := "BakedBefore$Acts", name := "run", desc := "(LBakedBefore$Loaf;IIII)I" } : Jvm.MethodName) ({ cls := "BakedBefore$Acts", name := "run", desc := "(LBakedBefore$Loaf;IIII)I" } : Jvm.MethodName)) ∈ zW0 := q_is (List.mem_of_getElem? (i := 20) (by decide +kernel)) (by decide +kernel)
theorem qs_21 : (Jvm.Cond.selects "BakedBefore$Acts" ({ cls := "BakedBefore$Acts", name := "note", desc := "(I)V" } : Jvm.MethodName) ({ cls := "BakedBefore$Acts", name := "note", desc := "(I)V" } : Jvm.MethodName)) ∈ zW0 := q_is (List.mem_of_getElem? (i := 21) (by decide +kernel)) (by decide +kernel)
theorem qs_22 : (Jvm.Cond.selects "BakedBeforeModel" ({ cls := "BakedBeforeModel", name := "reads", desc := "(III)V" } : Jvm.MethodName) ({ cls := "BakedBeforeModel", name := "reads", desc := "(III)V" } : Jvm.MethodName)) ∈ zW0 := q_is (List.mem_of_getElem? (i := 22) (by decide +kernel)) (by decide +kernel)
theorem qs_23 : (Jvm.Cond.selects "BakedBeforeModel" ({ cls := "BakedBeforeModel", name := "readsClause", desc := "()V" } : Jvm.MethodName) ({ cls := "BakedBeforeModel", name := "readsClause", desc := "()V" } : Jvm.MethodName)) ∈ zW0 := q_is (List.mem_of_getElem? (i := 23) (by decide +kernel)) (by decide +kernel)
theorem qs_24 : (Jvm.Cond.selects "BakedBeforeModel" ({ cls := "BakedBeforeModel", name := "here", desc := "()I" } : Jvm.MethodName) ({ cls := "BakedBeforeModel", name := "here", desc := "()I" } : Jvm.MethodName)) ∈ zW0 := q_is (List.mem_of_getElem? (i := 24) (by decide +kernel)) (by decide +kernel)
theorem qs_25 : (Jvm.Cond.selects "BakedBeforeModel" ({ cls := "BakedBeforeModel", name := "readsWord", desc := "(Ljava/lang/String;)V" } : Jvm.MethodName) ({ cls := "BakedBeforeModel", name := "readsWord", desc := "(Ljava/lang/String;)V" } : Jvm.MethodName)) ∈ zW0 := q_is (List.mem_of_getElem? (i := 25) (by decide +kernel)) (by decide +kernel)
theorem qs_26 : (Jvm.Cond.selects "BakedBeforeModel" ({ cls := "BakedBeforeModel", name := "takes", desc := "(I)Z" } : Jvm.MethodName) ({ cls := "BakedBeforeModel", name := "takes", desc := "(I)Z" } : Jvm.MethodName)) ∈ zW0 := q_is (List.mem_of_getElem? (i := 26) (by decide +kernel)) (by decide +kernel)
theorem qs_27 : (Jvm.Cond.selects "BakedBeforeModel" ({ cls := "BakedBeforeModel", name := "readsNumbe\x72", desc := "()I" } : Jvm.MethodName) ({ cls := "BakedBeforeModel", name := "readsNumbe\x72", desc := "()I" } : Jvm.MethodName)) ∈ zW0 := q_is (List.mem_of_getElem? (i := 27) (by decide +kernel)) (by decide +kernel)
theorem qs_28 : (Jvm.Cond.selects "BakedBeforeModel" ({ cls := "BakedBeforeModel", name := "isDigit", desc := "()Z" } : Jvm.MethodName) ({ cls := "BakedBeforeModel", name := "isDigit", desc := "()Z" } : Jvm.MethodName)) ∈ zW0 := q_is (List.mem_of_getElem? (i := 28) (by decide +kernel)) (by decide +kernel)
theorem qs_29 : (Jvm.Cond.selects "BakedBeforeModel" ({ cls := "BakedBeforeModel", name := "readsE", desc := "(I)Z" } : Jvm.MethodName) ({ cls := "BakedBeforeModel", name := "readsE", desc := "(I)Z" } : Jvm.MethodName)) ∈ zW0 := q_is (List.mem_of_getElem? (i := 29) (by decide +kernel)) (by decide +kernel)
theorem qs_30 : (Jvm.Cond.selects "BakedBeforeModel" ({ cls := "BakedBeforeModel", name := "readsT", desc := "(I)Z" } : Jvm.MethodName) ({ cls := "BakedBeforeModel", name := "readsT", desc := "(I)Z" } : Jvm.MethodName)) ∈ zW0 := q_is (List.mem_of_getElem? (i := 30) (by decide +kernel)) (by decide +kernel)
theorem qs_31 : (Jvm.Cond.selects "BakedBeforeModel" ({ cls := "BakedBeforeModel", name := "readsF", desc := "(I)Z" } : Jvm.MethodName) ({ cls := "BakedBeforeModel", name := "readsF", desc := "(I)Z" } : Jvm.MethodName)) ∈ zW0 := q_is (List.mem_of_getElem? (i := 31) (by decide +kernel)) (by decide +kernel)
theorem qs_32 : (Jvm.Cond.selects "BakedBeforeModel" ({ cls := "BakedBeforeModel", name := "readsTest", desc := "()Z" } : Jvm.MethodName) ({ cls := "BakedBeforeModel", name := "readsTest", desc := "()Z" } : Jvm.MethodName)) ∈ zW0 := q_is (List.mem_of_getElem? (i := 32) (by decide +kernel)) (by decide +kernel)
theorem qs_33 : (Jvm.Cond.selects "BakedBeforeModel" ({ cls := "BakedBeforeModel", name := "valueOf", desc := "(I)I" } : Jvm.MethodName) ({ cls := "BakedBeforeModel", name := "valueOf", desc := "(I)I" } : Jvm.MethodName)) ∈ zW0 := q_is (List.mem_of_getElem? (i := 33) (by decide +kernel)) (by decide +kernel)
theorem qs_34 : (Jvm.Cond.selects "BakedBeforeModel" ({ cls := "BakedBeforeModel", name := "kind", desc := "(I)I" } : Jvm.MethodName) ({ cls := "BakedBeforeModel", name := "kind", desc := "(I)I" } : Jvm.MethodName)) ∈ zW0 := q_is (List.mem_of_getElem? (i := 34) (by decide +kernel)) (by decide +kernel)
theorem qs_35 : (Jvm.Cond.selects "BakedBeforeModel" ({ cls := "BakedBeforeModel", name := "get", desc := "(II)I" } : Jvm.MethodName) ({ cls := "BakedBeforeModel", name := "get", desc := "(II)I" } : Jvm.MethodName)) ∈ zW0 := q_is (List.mem_of_getElem? (i := 35) (by decide +kernel)) (by decide +kernel)
theorem qs_36 : (Jvm.Cond.selects "BakedBeforeModel" ({ cls := "BakedBeforeModel", name := "numbe\x72", desc := "(I)I" } : Jvm.MethodName) ({ cls := "BakedBeforeModel", name := "numbe\x72", desc := "(I)I" } : Jvm.MethodName)) ∈ zW0 := q_is (List.mem_of_getElem? (i := 36) (by decide +kernel)) (by decide +kernel)
theorem qs_37 : (Jvm.Cond.selects "BakedBeforeModel" ({ cls := "BakedBeforeModel", name := "isLoaf", desc := "(I)Z" } : Jvm.MethodName) ({ cls := "BakedBeforeModel", name := "isLoaf", desc := "(I)Z" } : Jvm.MethodName)) ∈ zW0 := q_is (List.mem_of_getElem? (i := 37) (by decide +kernel)) (by decide +kernel)
theorem qs_38 : (Jvm.Cond.selects "BakedBeforeModel" ({ cls := "BakedBeforeModel", name := "feeOf", desc := "(I)I" } : Jvm.MethodName) ({ cls := "BakedBeforeModel", name := "feeOf", desc := "(I)I" } : Jvm.MethodName)) ∈ zW0 := q_is (List.mem_of_getElem? (i := 38) (by decide +kernel)) (by decide +kernel)
theorem qs_39 : (Jvm.Cond.selects "BakedBeforeModel" ({ cls := "BakedBeforeModel", name := "readsNow", desc := "(II)V" } : Jvm.MethodName) ({ cls := "BakedBeforeModel", name := "readsNow", desc := "(II)V" } : Jvm.MethodName)) ∈ zW0 := q_is (List.mem_of_getElem? (i := 39) (by decide +kernel)) (by decide +kernel)
theorem qs_40 : (Jvm.Cond.selects "BakedBeforeModel" ({ cls := "BakedBeforeModel", name := "isSpoiled", desc := "(I)Z" } : Jvm.MethodName) ({ cls := "BakedBeforeModel", name := "isSpoiled", desc := "(I)Z" } : Jvm.MethodName)) ∈ zW0 := q_is (List.mem_of_getElem? (i := 40) (by decide +kernel)) (by decide +kernel)
theorem qs_41 : (Jvm.Cond.selects "BakedBeforeModel" ({ cls := "BakedBeforeModel", name := "takesOf", desc := "(II)I" } : Jvm.MethodName) ({ cls := "BakedBeforeModel", name := "takesOf", desc := "(II)I" } : Jvm.MethodName)) ∈ zW0 := q_is (List.mem_of_getElem? (i := 41) (by decide +kernel)) (by decide +kernel)
theorem qs_42 : (Jvm.Cond.selects "BakedBeforeModel" ({ cls := "BakedBeforeModel", name := "partOf", desc := "(II)I" } : Jvm.MethodName) ({ cls := "BakedBeforeModel", name := "partOf", desc := "(II)I" } : Jvm.MethodName)) ∈ zW0 := q_is (List.mem_of_getElem? (i := 42) (by decide +kernel)) (by decide +kernel)
theorem qs_43 : (Jvm.Cond.selects "BakedBeforeModel" ({ cls := "BakedBeforeModel", name := "takesBy", desc := "(IIII)I" } : Jvm.MethodName) ({ cls := "BakedBeforeModel", name := "takesBy", desc := "(IIII)I" } : Jvm.MethodName)) ∈ zW0 := q_is (List.mem_of_getElem? (i := 43) (by decide +kernel)) (by decide +kernel)
theorem qs_44 : (Jvm.Cond.selects "BakedBeforeModel" ({ cls := "BakedBeforeModel", name := "leavesOf", desc := "(II)I" } : Jvm.MethodName) ({ cls := "BakedBeforeModel", name := "leavesOf", desc := "(II)I" } : Jvm.MethodName)) ∈ zW0 := q_is (List.mem_of_getElem? (i := 44) (by decide +kernel)) (by decide +kernel)
theorem qs_45 : (Jvm.Cond.selects "BakedBeforeModel" ({ cls := "BakedBeforeModel", name := "bakes", desc := "(I)Z" } : Jvm.MethodName) ({ cls := "BakedBeforeModel", name := "bakes", desc := "(I)Z" } : Jvm.MethodName)) ∈ zW0 := q_is (List.mem_of_getElem? (i := 45) (by decide +kernel)) (by decide +kernel)
theorem qs_46 : (Jvm.Cond.selects "BakedBeforeModel" ({ cls := "BakedBeforeModel", name := "ages", desc := "()V" } : Jvm.MethodName) ({ cls := "BakedBeforeModel", name := "ages", desc := "()V" } : Jvm.MethodName)) ∈ zW0 := q_is (List.mem_of_getElem? (i := 46) (by decide +kernel)) (by decide +kernel)
theorem qs_47 : (Jvm.Cond.selects "BakedBeforeModel" ({ cls := "BakedBeforeModel", name := "cools", desc := "()V" } : Jvm.MethodName) ({ cls := "BakedBeforeModel", name := "cools", desc := "()V" } : Jvm.MethodName)) ∈ zW0 := q_is (List.mem_of_getElem? (i := 47) (by decide +kernel)) (by decide +kernel)
theorem qs_48 : (Jvm.Cond.selects "BakedBeforeModel" ({ cls := "BakedBeforeModel", name := "begins", desc := "()V" } : Jvm.MethodName) ({ cls := "BakedBeforeModel", name := "begins", desc := "()V" } : Jvm.MethodName)) ∈ zW0 := q_is (List.mem_of_getElem? (i := 48) (by decide +kernel)) (by decide +kernel)
theorem qs_49 : (Jvm.Cond.selects "BakedBeforeModel" ({ cls := "BakedBeforeModel", name := "ends", desc := "()V" } : Jvm.MethodName) ({ cls := "BakedBeforeModel", name := "ends", desc := "()V" } : Jvm.MethodName)) ∈ zW0 := q_is (List.mem_of_getElem? (i := 49) (by decide +kernel)) (by decide +kernel)
theorem qs_50 : (Jvm.Cond.selects "BakedBeforeModel" ({ cls := "BakedBeforeModel", name := "areLoaves", desc := "(I)Z" } : Jvm.MethodName) ({ cls := "BakedBeforeModel", name := "areLoaves", desc := "(I)Z" } : Jvm.MethodName)) ∈ zW0 := q_is (List.mem_of_getElem? (i := 50) (by decide +kernel)) (by decide +kernel)
theorem qs_51 : (Jvm.Cond.selects "BakedBeforeModel" ({ cls := "BakedBeforeModel", name := "orders", desc := "(III)V" } : Jvm.MethodName) ({ cls := "BakedBeforeModel", name := "orders", desc := "(III)V" } : Jvm.MethodName)) ∈ zW0 := q_is (List.mem_of_getElem? (i := 51) (by decide +kernel)) (by decide +kernel)
theorem qs_52 : (Jvm.Cond.selects "BakedBeforeModel" ({ cls := "BakedBeforeModel", name := "spoiledBy", desc := "(I)I" } : Jvm.MethodName) ({ cls := "BakedBeforeModel", name := "spoiledBy", desc := "(I)I" } : Jvm.MethodName)) ∈ zW0 := q_is (List.mem_of_getElem? (i := 52) (by decide +kernel)) (by decide +kernel)
theorem qs_53 : (Jvm.Cond.selects "BakedBeforeModel" ({ cls := "BakedBeforeModel", name := "isWellBy", desc := "(III)Z" } : Jvm.MethodName) ({ cls := "BakedBeforeModel", name := "isWellBy", desc := "(III)Z" } : Jvm.MethodName)) ∈ zW0 := q_is (List.mem_of_getElem? (i := 53) (by decide +kernel)) (by decide +kernel)
theorem qs_54 : (Jvm.Cond.selects "BakedBeforeModel" ({ cls := "BakedBeforeModel", name := "takesAt", desc := "(II)I" } : Jvm.MethodName) ({ cls := "BakedBeforeModel", name := "takesAt", desc := "(II)I" } : Jvm.MethodName)) ∈ zW0 := q_is (List.mem_of_getElem? (i := 54) (by decide +kernel)) (by decide +kernel)
theorem qs_55 : (Jvm.Cond.selects "BakedBeforeModel" ({ cls := "BakedBeforeModel", name := "allTakes", desc := "(I)I" } : Jvm.MethodName) ({ cls := "BakedBeforeModel", name := "allTakes", desc := "(I)I" } : Jvm.MethodName)) ∈ zW0 := q_is (List.mem_of_getElem? (i := 55) (by decide +kernel)) (by decide +kernel)
theorem qs_56 : (Jvm.Cond.selects "BakedBeforeModel" ({ cls := "BakedBeforeModel", name := "isSpoiledBehind", desc := "(II)Z" } : Jvm.MethodName) ({ cls := "BakedBeforeModel", name := "isSpoiledBehind", desc := "(II)Z" } : Jvm.MethodName)) ∈ zW0 := q_is (List.mem_of_getElem? (i := 56) (by decide +kernel)) (by decide +kernel)
theorem qs_57 : (Jvm.Cond.selects "BakedBeforeModel" ({ cls := "BakedBeforeModel", name := "spoiledIn", desc := "(I)I" } : Jvm.MethodName) ({ cls := "BakedBeforeModel", name := "spoiledIn", desc := "(I)I" } : Jvm.MethodName)) ∈ zW0 := q_is (List.mem_of_getElem? (i := 57) (by decide +kernel)) (by decide +kernel)
theorem qs_58 : (Jvm.Cond.selects "BakedBeforeModel" ({ cls := "BakedBeforeModel", name := "takesBehind", desc := "(II)I" } : Jvm.MethodName) ({ cls := "BakedBeforeModel", name := "takesBehind", desc := "(II)I" } : Jvm.MethodName)) ∈ zW0 := q_is (List.mem_of_getElem? (i := 58) (by decide +kernel)) (by decide +kernel)
theorem qs_59 : (Jvm.Cond.selects "BakedBeforeModel" ({ cls := "BakedBeforeModel", name := "takesInRow", desc := "(II)I" } : Jvm.MethodName) ({ cls := "BakedBeforeModel", name := "takesInRow", desc := "(II)I" } : Jvm.MethodName)) ∈ zW0 := q_is (List.mem_of_getElem? (i := 59) (by decide +kernel)) (by decide +kernel)
theorem qs_60 : (Jvm.Cond.selects "BakedBeforeModel" ({ cls := "BakedBeforeModel", name := "isBookedSo", desc := "(I)Z" } : Jvm.MethodName) ({ cls := "BakedBeforeModel", name := "isBookedSo", desc := "(I)Z" } : Jvm.MethodName)) ∈ zW0 := q_is (List.mem_of_getElem? (i := 60) (by decide +kernel)) (by decide +kernel)
theorem qs_61 : (Jvm.Cond.selects "BakedBeforeModel" ({ cls := "BakedBeforeModel", name := "rises", desc := "(II)I" } : Jvm.MethodName) ({ cls := "BakedBeforeModel", name := "rises", desc := "(II)I" } : Jvm.MethodName)) ∈ zW0 := q_is (List.mem_of_getElem? (i := 61) (by decide +kernel)) (by decide +kernel)
theorem qs_62 : (Jvm.Cond.selects "BakedBeforeModel" ({ cls := "BakedBeforeModel", name := "runs", desc := "(I)V" } : Jvm.MethodName) ({ cls := "BakedBeforeModel", name := "runs", desc := "(I)V" } : Jvm.MethodName)) ∈ zW0 := q_is (List.mem_of_getElem? (i := 62) (by decide +kernel)) (by decide +kernel)
theorem qs_63 : (Jvm.Cond.selects "BakedBeforeModel" ({ cls := "BakedBeforeModel", name := "bakesFrom", desc := "(II)I" } : Jvm.MethodName) ({ cls := "BakedBeforeModel", name := "bakesFrom", desc := "(II)I" } : Jvm.MethodName)) ∈ zW0 := q_is (List.mem_of_getElem? (i := 63) (by decide +kernel)) (by decide +kernel)
theorem qs_64 : (Jvm.Cond.selects "BakedBeforeModel" ({ cls := "BakedBeforeModel", name := "tells", desc := "(II)I" } : Jvm.MethodName) ({ cls := "BakedBeforeModel", name := "tells", desc := "(II)I" } : Jvm.MethodName)) ∈ zW0 := q_is (List.mem_of_getElem? (i := 64) (by decide +kernel)) (by decide +kernel)
abbrev b_BB_loaf : ByteArray := prog_1_method_2_code
def y_BB_loaf : MethodName := ⟨"BakedBefore", "loaf", "(II)I"⟩
theorem cf_BB_loaf : zcfV y_BB_loaf b_BB_loaf 3 (some .int) 2 := ⟨⟨q_343, q_1, by decide, by decide, by decide +kernel⟩, q_341, q_342⟩
abbrev b_BB_set : ByteArray := prog_1_method_3_code
def y_BB_set : MethodName := ⟨"BakedBefore", "set", "(IIII)I"⟩
theorem cf_BB_set : zcfV y_BB_set b_BB_set 7 (some .int) 4 := ⟨⟨q_351, q_1, by decide, by decide, by decide +kernel⟩, q_349, q_350⟩
abbrev b_BB_of : ByteArray := prog_1_method_4_code
def y_BB_of : MethodName := ⟨"BakedBefore", "of", "(II)I"⟩
theorem cf_BB_of : zcfV y_BB_of b_BB_of 4 (some .int) 2 := ⟨⟨q_362, q_1, by decide, by decide, by decide +kernel⟩, q_360, q_361⟩
abbrev b_BB_ofTaste : ByteArray := prog_1_method_5_code
def y_BB_ofTaste : MethodName := ⟨"BakedBefore", "ofTaste", "(LBakedBefore$Loaf;II)I"⟩
theorem cf_BB_ofTaste : zcfV y_BB_ofTaste b_BB_ofTaste 4 (some .int) 3 := ⟨⟨q_407, q_1, by decide, by decide, by decide +kernel⟩, q_406, qs_2⟩
abbrev b_BB_oven : ByteArray := prog_1_method_6_code
def y_BB_oven : MethodName := ⟨"BakedBefore", "oven", "(II)I"⟩
theorem cf_BB_oven : zcfV y_BB_oven b_BB_oven 4 (some .int) 2 := ⟨⟨q_416, q_1, by decide, by decide, by decide +kernel⟩, q_414, q_415⟩
abbrev b_BB_feed : ByteArray := prog_1_method_7_code
def y_BB_feed : MethodName := ⟨"BakedBefore", "feed", "(I)I"⟩
theorem cf_BB_feed : zcfV y_BB_feed b_BB_feed 2 (some .int) 1 := ⟨⟨q_420, q_1, by decide, by decide, by decide +kernel⟩, q_418, q_419⟩
abbrev b_BB_kiln : ByteArray := prog_1_method_8_code
def y_BB_kiln : MethodName := ⟨"BakedBefore", "kiln", "()I"⟩
theorem cf_BB_kiln : zcfV y_BB_kiln b_BB_kiln 2 (some .int) 0 := ⟨⟨q_428, q_1, by decide, by decide, by decide +kernel⟩, q_426, q_427⟩
abbrev b_BB_told : ByteArray := prog_1_method_9_code
def y_BB_told : MethodName := ⟨"BakedBefore", "told", "(I)I"⟩
theorem cf_BB_told : zcfV y_BB_told b_BB_told 2 (some .int) 1 := ⟨⟨q_549, q_1, by decide, by decide, by decide +kernel⟩, q_547, q_548⟩
abbrev b_BB_bake : ByteArray := prog_1_method_10_code
def y_BB_bake : MethodName := ⟨"BakedBefore", "bake", "(I)I"⟩
theorem cf_BB_bake : zcfV y_BB_bake b_BB_bake 2 (some .int) 1 := ⟨⟨q_553, q_1, by decide, by decide, by decide +kernel⟩, q_551, q_552⟩
abbrev b_BB_cold : ByteArray := prog_1_method_11_code
def y_BB_cold : MethodName := ⟨"BakedBefore", "cold", "()I"⟩
theorem cf_BB_cold : zcfV y_BB_cold b_BB_cold 1 (some .int) 0 := ⟨⟨q_567, q_1, by decide, by decide, by decide +kernel⟩, q_565, q_566⟩
abbrev b_BB_would : ByteArray := prog_1_method_12_code
def y_BB_would : MethodName := ⟨"BakedBefore", "would", "(III)I"⟩
theorem cf_BB_would : zcfV y_BB_would b_BB_would 4 (some .int) 3 := ⟨⟨q_575, q_1, by decide, by decide, by decide +kernel⟩, q_573, q_574⟩
abbrev b_BB_order : ByteArray := prog_1_method_13_code
def y_BB_order : MethodName := ⟨"BakedBefore", "orde\x72", "(II)I"⟩
theorem cf_BB_order : zcfV y_BB_order b_BB_order 3 (some .int) 2 := ⟨⟨q_591, q_1, by decide, by decide, by decide +kernel⟩, q_589, q_590⟩
abbrev b_BB_colds : ByteArray := prog_1_method_14_code
def y_BB_colds : MethodName := ⟨"BakedBefore", "colds", "(II)I"⟩
theorem cf_BB_colds : zcfV y_BB_colds b_BB_colds 3 (some .int) 2 := ⟨⟨q_620, q_1, by decide, by decide, by decide +kernel⟩, q_618, q_619⟩
abbrev b_BB_place : ByteArray := prog_1_method_15_code
def y_BB_place : MethodName := ⟨"BakedBefore", "place", "(II)I"⟩
theorem cf_BB_place : zcfV y_BB_place b_BB_place 3 (some .int) 2 := ⟨⟨q_636, q_1, by decide, by decide, by decide +kernel⟩, q_634, q_635⟩
abbrev b_BB_guilty : ByteArray := prog_1_method_16_code
def y_BB_guilty : MethodName := ⟨"BakedBefore", "guilty", "(I)I"⟩
theorem cf_BB_guilty : zcfV y_BB_guilty b_BB_guilty 2 (some .int) 1 := ⟨⟨q_648, q_1, by decide, by decide, by decide +kernel⟩, q_646, q_647⟩
abbrev b_BB_two : ByteArray := prog_1_method_17_code
def y_BB_two : MethodName := ⟨"BakedBefore", "two", "(I)I"⟩
theorem cf_BB_two : zcfV y_BB_two b_BB_two 2 (some .int) 1 := ⟨⟨q_660, q_1, by decide, by decide, by decide +kernel⟩, q_658, q_659⟩
abbrev b_BB_has : ByteArray := prog_1_method_18_code
def y_BB_has : MethodName := ⟨"BakedBefore", "has", "(I)I"⟩
theorem cf_BB_has : zcfV y_BB_has b_BB_has 2 (some .int) 1 := ⟨⟨q_672, q_1, by decide, by decide, by decide +kernel⟩, q_670, q_671⟩
abbrev b_BB_swaps : ByteArray := prog_1_method_19_code
def y_BB_swaps : MethodName := ⟨"BakedBefore", "swaps", "(I)I"⟩
theorem cf_BB_swaps : zcfV y_BB_swaps b_BB_swaps 2 (some .int) 1 := ⟨⟨q_686, q_1, by decide, by decide, by decide +kernel⟩, q_684, q_685⟩
abbrev b_BB_span : ByteArray := prog_1_method_20_code
def y_BB_span : MethodName := ⟨"BakedBefore", "span", "(IIII)I"⟩
theorem cf_BB_span : zcfV y_BB_span b_BB_span 5 (some .int) 4 := ⟨⟨q_698, q_1, by decide, by decide, by decide +kernel⟩, q_696, q_697⟩
abbrev b_BB_year : ByteArray := prog_1_method_21_code
def y_BB_year : MethodName := ⟨"BakedBefore", "yea\x72", "(III)I"⟩
theorem cf_BB_year : zcfV y_BB_year b_BB_year 4 (some .int) 3 := ⟨⟨q_711, q_1, by decide, by decide, by decide +kernel⟩, q_709, q_710⟩
abbrev b_BB_odds : ByteArray := prog_1_method_22_code
def y_BB_odds : MethodName := ⟨"BakedBefore", "odds", "(II)J"⟩
theorem cf_BB_odds : zcfV y_BB_odds b_BB_odds 3 (some .long) 2 := ⟨⟨q_722, q_1, by decide, by decide, by decide +kernel⟩, q_720, q_721⟩
abbrev b_BB_mean : ByteArray := prog_1_method_23_code
def y_BB_mean : MethodName := ⟨"BakedBefore", "mean", "(II)J"⟩
theorem cf_BB_mean : zcfV y_BB_mean b_BB_mean 3 (some .long) 2 := ⟨⟨q_735, q_1, by decide, by decide, by decide +kernel⟩, q_733, q_734⟩
abbrev b_BB_book : ByteArray := prog_1_method_24_code
def y_BB_book : MethodName := ⟨"BakedBefore", "book", "(IZ)I"⟩
theorem cf_BB_book : zcfV y_BB_book b_BB_book 3 (some .int) 2 := ⟨⟨q_743, q_1, by decide, by decide, by decide +kernel⟩, q_741, q_742⟩
abbrev b_BB_looked : ByteArray := prog_1_method_25_code
def y_BB_looked : MethodName := ⟨"BakedBefore", "looked", "()I"⟩
theorem cf_BB_looked : zcfV y_BB_looked b_BB_looked 1 (some .int) 0 := ⟨⟨q_751, q_1, by decide, by decide, by decide +kernel⟩, q_749, q_750⟩
abbrev b_BB_judge : ByteArray := prog_1_method_26_code
def y_BB_judge : MethodName := ⟨"BakedBefore", "judge", "(II)I"⟩
theorem cf_BB_judge : zcfV y_BB_judge b_BB_judge 3 (some .int) 2 := ⟨⟨q_759, q_1, by decide, by decide, by decide +kernel⟩, q_757, q_758⟩
abbrev b_BB_image : ByteArray := prog_1_method_27_code
def y_BB_image : MethodName := ⟨"BakedBefore", "image", "()I"⟩
theorem cf_BB_image : zcfV y_BB_image b_BB_image 1 (some .int) 0 := ⟨⟨q_770, q_1, by decide, by decide, by decide +kernel⟩, q_768, q_769⟩
abbrev b_BB_undo : ByteArray := prog_1_method_28_code
def y_BB_undo : MethodName := ⟨"BakedBefore", "undo", "()I"⟩
theorem cf_BB_undo : zcfV y_BB_undo b_BB_undo 1 (some .int) 0 := ⟨⟨q_787, q_1, by decide, by decide, by decide +kernel⟩, q_785, q_786⟩
abbrev b_BB_act : ByteArray := prog_1_method_29_code
def y_BB_act : MethodName := ⟨"BakedBefore", "act", "(III)I"⟩
theorem cf_BB_act : zcfV y_BB_act b_BB_act 4 (some .int) 3 := ⟨⟨q_791, q_1, by decide, by decide, by decide +kernel⟩, q_789, q_790⟩
abbrev b_BB_trace : ByteArray := prog_1_method_30_code
def y_BB_trace : MethodName := ⟨"BakedBefore", "trace", "(I)I"⟩
theorem cf_BB_trace : zcfV y_BB_trace b_BB_trace 2 (some .int) 1 := ⟨⟨q_815, q_1, by decide, by decide, by decide +kernel⟩, q_813, q_814⟩
abbrev b_BB_taken : ByteArray := prog_1_method_31_code
def y_BB_taken : MethodName := ⟨"BakedBefore", "taken", "(II)I"⟩
theorem cf_BB_taken : zcfV y_BB_taken b_BB_taken 3 (some .int) 2 := ⟨⟨q_819, q_1, by decide, by decide, by decide +kernel⟩, q_817, q_818⟩
abbrev b_BB_count : ByteArray := prog_1_method_32_code
def y_BB_count : MethodName := ⟨"BakedBefore", "count", "(I)I"⟩
theorem cf_BB_count : zcfV y_BB_count b_BB_count 2 (some .int) 1 := ⟨⟨q_828, q_1, by decide, by decide, by decide +kernel⟩, q_826, q_827⟩
abbrev b_BB_tape : ByteArray := prog_1_method_33_code
def y_BB_tape : MethodName := ⟨"BakedBefore", "tape", "(III)I"⟩
theorem cf_BB_tape : zcfV y_BB_tape b_BB_tape 4 (some .int) 3 := ⟨⟨q_832, q_1, by decide, by decide, by decide +kernel⟩, q_830, q_831⟩
abbrev b_BB_item : ByteArray := prog_1_method_34_code
def y_BB_item : MethodName := ⟨"BakedBefore", "item", "(IIJ)I"⟩
theorem cf_BB_item : zcfV y_BB_item b_BB_item 5 (some .int) 3 := ⟨⟨q_840, q_1, by decide, by decide, by decide +kernel⟩, q_838, q_839⟩
abbrev b_BB_read : ByteArray := prog_1_method_35_code
def y_BB_read : MethodName := ⟨"BakedBefore", "read", "(II)J"⟩
theorem cf_BB_read : zcfV y_BB_read b_BB_read 3 (some .long) 2 := ⟨⟨q_851, q_1, by decide, by decide, by decide +kernel⟩, q_849, q_850⟩
abbrev b_BB_shift : ByteArray := prog_1_method_36_code
def y_BB_shift : MethodName := ⟨"BakedBefore", "shift", "(IIIII)I"⟩
theorem cf_BB_shift : zcfV y_BB_shift b_BB_shift 6 (some .int) 5 := ⟨⟨q_860, q_1, by decide, by decide, by decide +kernel⟩, q_858, q_859⟩
abbrev b_BB_isLoaf : ByteArray := prog_1_method_37_code
def y_BB_isLoaf : MethodName := ⟨"BakedBefore", "isLoaf", "(I)Z"⟩
theorem cf_BB_isLoaf : zcfV y_BB_isLoaf b_BB_isLoaf 2 (some .boolean) 1 := ⟨⟨q_355, q_1, by decide, by decide, by decide +kernel⟩, q_354, qs_0⟩
abbrev b_BB_isSet : ByteArray := prog_1_method_38_code
def y_BB_isSet : MethodName := ⟨"BakedBefore", "isSet", "(II)Z"⟩
theorem cf_BB_isSet : zcfV y_BB_isSet b_BB_isSet 3 (some .boolean) 2 := ⟨⟨q_595, q_1, by decide, by decide, by decide +kernel⟩, q_594, qs_12⟩
abbrev b_BB_isTaste : ByteArray := prog_1_method_39_code
def y_BB_isTaste : MethodName := ⟨"BakedBefore", "isTaste", "(I)Z"⟩
theorem cf_BB_isTaste : zcfS y_BB_isTaste b_BB_isTaste 1 (some .boolean) 1 := ⟨⟨q_358, q_1, by decide, by decide, by decide +kernel⟩, q_357⟩
abbrev b_BB_flag : ByteArray := prog_1_method_40_code
def y_BB_flag : MethodName := ⟨"BakedBefore", "flag", "(Z)I"⟩
theorem cf_BB_flag : zcfS y_BB_flag b_BB_flag 1 (some .int) 1 := ⟨⟨q_403, q_1, by decide, by decide, by decide +kernel⟩, q_402⟩
abbrev b_BB_lowest : ByteArray := prog_1_method_41_code
def y_BB_lowest : MethodName := ⟨"BakedBefore", "lowest", "(III)J"⟩
theorem cf_BB_lowest : zcfS y_BB_lowest b_BB_lowest 4 (some .long) 3 := ⟨⟨q_731, q_1, by decide, by decide, by decide +kernel⟩, q_730⟩
abbrev b_Model_isIn : ByteArray := prog_14_method_2_code
def y_Model_isIn : MethodName := ⟨"BakedBeforeModel", "isIn", "(III)Z"⟩
theorem cf_Model_isIn : zcfS y_Model_isIn b_Model_isIn 3 (some .boolean) 3 := ⟨⟨q_974, q_13, by decide, by decide, by decide +kernel⟩, q_973⟩
abbrev b_Model_isTaste : ByteArray := prog_14_method_3_code
def y_Model_isTaste : MethodName := ⟨"BakedBeforeModel", "isTaste", "(I)Z"⟩
theorem cf_Model_isTaste : zcfS y_Model_isTaste b_Model_isTaste 1 (some .boolean) 1 := ⟨⟨q_1062, q_13, by decide, by decide, by decide +kernel⟩, q_1061⟩
abbrev b_Model_isLoaf : ByteArray := prog_14_method_4_code
def y_Model_isLoaf : MethodName := ⟨"BakedBeforeModel", "isLoaf", "(I)Z"⟩
theorem cf_Model_isLoaf : zcfV y_Model_isLoaf b_Model_isLoaf 2 (some .boolean) 1 := ⟨⟨q_1059, q_13, by decide, by decide, by decide +kernel⟩, q_1058, qs_37⟩
abbrev b_Model_areLoaves : ByteArray := prog_14_method_5_code
def y_Model_areLoaves : MethodName := ⟨"BakedBeforeModel", "areLoaves", "(I)Z"⟩
theorem cf_Model_areLoaves : zcfV y_Model_areLoaves b_Model_areLoaves 2 (some .boolean) 1 := ⟨⟨q_1145, q_13, by decide, by decide, by decide +kernel⟩, q_1144, qs_50⟩
abbrev b_Model_bits : ByteArray := prog_14_method_6_code
def y_Model_bits : MethodName := ⟨"BakedBeforeModel", "bits", "(I)I"⟩
theorem cf_Model_bits : zcfS y_Model_bits b_Model_bits 3 (some .int) 1 := ⟨⟨q_1148, q_13, by decide, by decide, by decide +kernel⟩, q_1147⟩
abbrev b_Model_lays : ByteArray := prog_14_method_7_code
def y_Model_lays : MethodName := ⟨"BakedBeforeModel", "lays", "([I[I)V"⟩
theorem cf_Model_lays : zcfS y_Model_lays b_Model_lays 3 none 2 := ⟨⟨q_1133, q_13, by decide, by decide, by decide +kernel⟩, q_1132⟩
abbrev b_Model_begins : ByteArray := prog_14_method_8_code
def y_Model_begins : MethodName := ⟨"BakedBeforeModel", "begins", "()V"⟩
theorem cf_Model_begins : zcfV y_Model_begins b_Model_begins 1 none 0 := ⟨⟨q_1130, q_13, by decide, by decide, by decide +kernel⟩, q_1129, qs_48⟩
abbrev b_Model_ends : ByteArray := prog_14_method_9_code
def y_Model_ends : MethodName := ⟨"BakedBeforeModel", "ends", "()V"⟩
theorem cf_Model_ends : zcfV y_Model_ends b_Model_ends 1 none 0 := ⟨⟨q_1137, q_13, by decide, by decide, by decide +kernel⟩, q_1136, qs_49⟩
abbrev b_Model_get : ByteArray := prog_14_method_10_code
def y_Model_get : MethodName := ⟨"BakedBeforeModel", "get", "(II)I"⟩
theorem cf_Model_get : zcfV y_Model_get b_Model_get 3 (some .int) 2 := ⟨⟨q_1043, q_13, by decide, by decide, by decide +kernel⟩, q_1042, qs_35⟩
abbrev b_Model_kind : ByteArray := prog_14_method_11_code
def y_Model_kind : MethodName := ⟨"BakedBeforeModel", "kind", "(I)I"⟩
theorem cf_Model_kind : zcfV y_Model_kind b_Model_kind 2 (some .int) 1 := ⟨⟨q_1039, q_13, by decide, by decide, by decide +kernel⟩, q_1038, qs_34⟩
abbrev b_Model_number : ByteArray := prog_14_method_12_code
def y_Model_number : MethodName := ⟨"BakedBeforeModel", "numbe\x72", "(I)I"⟩
theorem cf_Model_number : zcfV y_Model_number b_Model_number 2 (some .int) 1 := ⟨⟨q_1047, q_13, by decide, by decide, by decide +kernel⟩, q_1046, qs_36⟩
abbrev b_Model_feed : ByteArray := prog_14_method_13_code
def y_Model_feed : MethodName := ⟨"BakedBeforeModel", "feed", "(I)I"⟩
theorem cf_Model_feed : zcfV y_Model_feed b_Model_feed 2 (some .int) 1 := ⟨⟨q_971, q_13, by decide, by decide, by decide +kernel⟩, q_969, q_970⟩
abbrev b_Model_here : ByteArray := prog_14_method_14_code
def y_Model_here : MethodName := ⟨"BakedBeforeModel", "here", "()I"⟩
theorem cf_Model_here : zcfV y_Model_here b_Model_here 1 (some .int) 0 := ⟨⟨q_990, q_13, by decide, by decide, by decide +kernel⟩, q_989, qs_24⟩
abbrev b_Model_takes : ByteArray := prog_14_method_15_code
def y_Model_takes : MethodName := ⟨"BakedBeforeModel", "takes", "(I)Z"⟩
theorem cf_Model_takes : zcfV y_Model_takes b_Model_takes 2 (some .boolean) 1 := ⟨⟨q_1004, q_13, by decide, by decide, by decide +kernel⟩, q_1003, qs_26⟩
abbrev b_Model_isDigit : ByteArray := prog_14_method_16_code
def y_Model_isDigit : MethodName := ⟨"BakedBeforeModel", "isDigit", "()Z"⟩
theorem cf_Model_isDigit : zcfV y_Model_isDigit b_Model_isDigit 1 (some .boolean) 0 := ⟨⟨q_1012, q_13, by decide, by decide, by decide +kernel⟩, q_1011, qs_28⟩
abbrev b_Model_readsNumber : ByteArray := prog_14_method_17_code
def y_Model_readsNumber : MethodName := ⟨"BakedBeforeModel", "readsNumbe\x72", "()I"⟩
theorem cf_Model_readsNumber : zcfV y_Model_readsNumber b_Model_readsNumber 2 (some .int) 0 := ⟨⟨q_1008, q_13, by decide, by decide, by decide +kernel⟩, q_1007, qs_27⟩
abbrev b_Model_valueOf : ByteArray := prog_14_method_18_code
def y_Model_valueOf : MethodName := ⟨"BakedBeforeModel", "valueOf", "(I)I"⟩
theorem cf_Model_valueOf : zcfV y_Model_valueOf b_Model_valueOf 2 (some .int) 1 := ⟨⟨q_1035, q_13, by decide, by decide, by decide +kernel⟩, q_1034, qs_33⟩
abbrev b_Model_isLetter : ByteArray := prog_14_method_19_code
def y_Model_isLetter : MethodName := ⟨"BakedBeforeModel", "isLette\x72", "(I)Z"⟩
theorem cf_Model_isLetter : zcfS y_Model_isLetter b_Model_isLetter 1 (some .boolean) 1 := ⟨⟨q_1031, q_13, by decide, by decide, by decide +kernel⟩, q_1030⟩
abbrev b_Model_readsTest : ByteArray := prog_14_method_20_code
def y_Model_readsTest : MethodName := ⟨"BakedBeforeModel", "readsTest", "()Z"⟩
theorem cf_Model_readsTest : zcfV y_Model_readsTest b_Model_readsTest 5 (some .boolean) 0 := ⟨⟨q_1028, q_13, by decide, by decide, by decide +kernel⟩, q_1027, qs_32⟩
abbrev b_Model_readsF : ByteArray := prog_14_method_21_code
def y_Model_readsF : MethodName := ⟨"BakedBeforeModel", "readsF", "(I)Z"⟩
theorem cf_Model_readsF : zcfV y_Model_readsF b_Model_readsF 4 (some .boolean) 1 := ⟨⟨q_1024, q_13, by decide, by decide, by decide +kernel⟩, q_1023, qs_31⟩
abbrev b_Model_readsT : ByteArray := prog_14_method_22_code
def y_Model_readsT : MethodName := ⟨"BakedBeforeModel", "readsT", "(I)Z"⟩
theorem cf_Model_readsT : zcfV y_Model_readsT b_Model_readsT 4 (some .boolean) 1 := ⟨⟨q_1020, q_13, by decide, by decide, by decide +kernel⟩, q_1019, qs_30⟩
abbrev b_Model_readsE : ByteArray := prog_14_method_23_code
def y_Model_readsE : MethodName := ⟨"BakedBeforeModel", "readsE", "(I)Z"⟩
theorem cf_Model_readsE : zcfV y_Model_readsE b_Model_readsE 4 (some .boolean) 1 := ⟨⟨q_1016, q_13, by decide, by decide, by decide +kernel⟩, q_1015, qs_29⟩
abbrev b_Model_readsWord : ByteArray := prog_14_method_24_code
def y_Model_readsWord : MethodName := ⟨"BakedBeforeModel", "readsWord", "(Ljava/lang/String;)V"⟩
theorem cf_Model_readsWord : zcfV y_Model_readsWord b_Model_readsWord 3 none 1 := ⟨⟨q_998, q_13, by decide, by decide, by decide +kernel⟩, q_997, qs_25⟩
abbrev b_Model_readsClause : ByteArray := prog_14_method_25_code
def y_Model_readsClause : MethodName := ⟨"BakedBeforeModel", "readsClause", "()V"⟩
theorem cf_Model_readsClause : zcfV y_Model_readsClause b_Model_readsClause 4 none 0 := ⟨⟨q_986, q_13, by decide, by decide, by decide +kernel⟩, q_985, qs_23⟩
abbrev b_Model_reads : ByteArray := prog_14_method_26_code
def y_Model_reads : MethodName := ⟨"BakedBeforeModel", "reads", "(III)V"⟩
theorem cf_Model_reads : zcfV y_Model_reads b_Model_reads 5 none 3 := ⟨⟨q_982, q_13, by decide, by decide, by decide +kernel⟩, q_981, qs_22⟩
abbrev b_Model_readsNow : ByteArray := prog_14_method_27_code
def y_Model_readsNow : MethodName := ⟨"BakedBeforeModel", "readsNow", "(II)V"⟩
theorem cf_Model_readsNow : zcfV y_Model_readsNow b_Model_readsNow 3 none 2 := ⟨⟨q_1074, q_13, by decide, by decide, by decide +kernel⟩, q_1073, qs_39⟩
abbrev b_Model_kiln : ByteArray := prog_14_method_28_code
def y_Model_kiln : MethodName := ⟨"BakedBeforeModel", "kiln", "()I"⟩
theorem cf_Model_kiln : zcfV y_Model_kiln b_Model_kiln 2 (some .int) 0 := ⟨⟨q_978, q_13, by decide, by decide, by decide +kernel⟩, q_976, q_977⟩
abbrev b_Model_partOf : ByteArray := prog_14_method_29_code
def y_Model_partOf : MethodName := ⟨"BakedBeforeModel", "partOf", "(II)I"⟩
theorem cf_Model_partOf : zcfV y_Model_partOf b_Model_partOf 3 (some .int) 2 := ⟨⟨q_1086, q_13, by decide, by decide, by decide +kernel⟩, q_1085, qs_42⟩
abbrev b_Model_takesBy : ByteArray := prog_14_method_30_code
def y_Model_takesBy : MethodName := ⟨"BakedBeforeModel", "takesBy", "(IIII)I"⟩
theorem cf_Model_takesBy : zcfV y_Model_takesBy b_Model_takesBy 8 (some .int) 4 := ⟨⟨q_1090, q_13, by decide, by decide, by decide +kernel⟩, q_1089, qs_43⟩
abbrev b_Model_takesOf : ByteArray := prog_14_method_31_code
def y_Model_takesOf : MethodName := ⟨"BakedBeforeModel", "takesOf", "(II)I"⟩
theorem cf_Model_takesOf : zcfV y_Model_takesOf b_Model_takesOf 3 (some .int) 2 := ⟨⟨q_1082, q_13, by decide, by decide, by decide +kernel⟩, q_1081, qs_41⟩
abbrev b_Model_leavesOf : ByteArray := prog_14_method_32_code
def y_Model_leavesOf : MethodName := ⟨"BakedBeforeModel", "leavesOf", "(II)I"⟩
theorem cf_Model_leavesOf : zcfV y_Model_leavesOf b_Model_leavesOf 5 (some .int) 2 := ⟨⟨q_1094, q_13, by decide, by decide, by decide +kernel⟩, q_1093, qs_44⟩
abbrev b_Model_allTakes : ByteArray := prog_14_method_33_code
def y_Model_allTakes : MethodName := ⟨"BakedBeforeModel", "allTakes", "(I)I"⟩
theorem cf_Model_allTakes : zcfV y_Model_allTakes b_Model_allTakes 4 (some .int) 1 := ⟨⟨q_1179, q_13, by decide, by decide, by decide +kernel⟩, q_1178, qs_55⟩
abbrev b_Model_isSpoiled : ByteArray := prog_14_method_34_code
def y_Model_isSpoiled : MethodName := ⟨"BakedBeforeModel", "isSpoiled", "(I)Z"⟩
theorem cf_Model_isSpoiled : zcfV y_Model_isSpoiled b_Model_isSpoiled 3 (some .boolean) 1 := ⟨⟨q_1078, q_13, by decide, by decide, by decide +kernel⟩, q_1077, qs_40⟩
abbrev b_Model_feeOf : ByteArray := prog_14_method_35_code
def y_Model_feeOf : MethodName := ⟨"BakedBeforeModel", "feeOf", "(I)I"⟩
theorem cf_Model_feeOf : zcfV y_Model_feeOf b_Model_feeOf 2 (some .int) 1 := ⟨⟨q_1070, q_13, by decide, by decide, by decide +kernel⟩, q_1069, qs_38⟩
abbrev b_Model_ages : ByteArray := prog_14_method_36_code
def y_Model_ages : MethodName := ⟨"BakedBeforeModel", "ages", "()V"⟩
theorem cf_Model_ages : zcfV y_Model_ages b_Model_ages 1 none 0 := ⟨⟨q_1114, q_13, by decide, by decide, by decide +kernel⟩, q_1113, qs_46⟩
abbrev b_Model_bakes : ByteArray := prog_14_method_37_code
def y_Model_bakes : MethodName := ⟨"BakedBeforeModel", "bakes", "(I)Z"⟩
theorem cf_Model_bakes : zcfV y_Model_bakes b_Model_bakes 5 (some .boolean) 1 := ⟨⟨q_1110, q_13, by decide, by decide, by decide +kernel⟩, q_1109, qs_45⟩
abbrev b_Model_cools : ByteArray := prog_14_method_38_code
def y_Model_cools : MethodName := ⟨"BakedBeforeModel", "cools", "()V"⟩
theorem cf_Model_cools : zcfV y_Model_cools b_Model_cools 4 none 0 := ⟨⟨q_1122, q_13, by decide, by decide, by decide +kernel⟩, q_1121, qs_47⟩
abbrev b_Model_loaf : ByteArray := prog_14_method_39_code
def y_Model_loaf : MethodName := ⟨"BakedBeforeModel", "loaf", "(II)I"⟩
theorem cf_Model_loaf : zcfV y_Model_loaf b_Model_loaf 5 (some .int) 2 := ⟨⟨q_1051, q_13, by decide, by decide, by decide +kernel⟩, q_1049, q_1050⟩
abbrev b_Model_set : ByteArray := prog_14_method_40_code
def y_Model_set : MethodName := ⟨"BakedBeforeModel", "set", "(IIII)I"⟩
theorem cf_Model_set : zcfV y_Model_set b_Model_set 7 (some .int) 4 := ⟨⟨q_1055, q_13, by decide, by decide, by decide +kernel⟩, q_1053, q_1054⟩
abbrev b_Model_of : ByteArray := prog_14_method_41_code
def y_Model_of : MethodName := ⟨"BakedBeforeModel", "of", "(II)I"⟩
theorem cf_Model_of : zcfV y_Model_of b_Model_of 4 (some .int) 2 := ⟨⟨q_1066, q_13, by decide, by decide, by decide +kernel⟩, q_1064, q_1065⟩
abbrev b_Model_oven : ByteArray := prog_14_method_42_code
def y_Model_oven : MethodName := ⟨"BakedBeforeModel", "oven", "(II)I"⟩
theorem cf_Model_oven : zcfV y_Model_oven b_Model_oven 4 (some .int) 2 := ⟨⟨q_1098, q_13, by decide, by decide, by decide +kernel⟩, q_1096, q_1097⟩
abbrev b_Model_told : ByteArray := prog_14_method_43_code
def y_Model_told : MethodName := ⟨"BakedBeforeModel", "told", "(I)I"⟩
theorem cf_Model_told : zcfV y_Model_told b_Model_told 2 (some .int) 1 := ⟨⟨q_1102, q_13, by decide, by decide, by decide +kernel⟩, q_1100, q_1101⟩
abbrev b_Model_bake : ByteArray := prog_14_method_44_code
def y_Model_bake : MethodName := ⟨"BakedBeforeModel", "bake", "(I)I"⟩
theorem cf_Model_bake : zcfV y_Model_bake b_Model_bake 2 (some .int) 1 := ⟨⟨q_1106, q_13, by decide, by decide, by decide +kernel⟩, q_1104, q_1105⟩
abbrev b_Model_cold : ByteArray := prog_14_method_45_code
def y_Model_cold : MethodName := ⟨"BakedBeforeModel", "cold", "()I"⟩
theorem cf_Model_cold : zcfV y_Model_cold b_Model_cold 1 (some .int) 0 := ⟨⟨q_1118, q_13, by decide, by decide, by decide +kernel⟩, q_1116, q_1117⟩
abbrev b_Model_would : ByteArray := prog_14_method_46_code
def y_Model_would : MethodName := ⟨"BakedBeforeModel", "would", "(III)I"⟩
theorem cf_Model_would : zcfV y_Model_would b_Model_would 6 (some .int) 3 := ⟨⟨q_1126, q_13, by decide, by decide, by decide +kernel⟩, q_1124, q_1125⟩
abbrev b_Model_spoiledBy : ByteArray := prog_14_method_47_code
def y_Model_spoiledBy : MethodName := ⟨"BakedBeforeModel", "spoiledBy", "(I)I"⟩
theorem cf_Model_spoiledBy : zcfV y_Model_spoiledBy b_Model_spoiledBy 4 (some .int) 1 := ⟨⟨q_1156, q_13, by decide, by decide, by decide +kernel⟩, q_1155, qs_52⟩
abbrev b_Model_orders : ByteArray := prog_14_method_48_code
def y_Model_orders : MethodName := ⟨"BakedBeforeModel", "orders", "(III)V"⟩
theorem cf_Model_orders : zcfV y_Model_orders b_Model_orders 6 none 3 := ⟨⟨q_1152, q_13, by decide, by decide, by decide +kernel⟩, q_1151, qs_51⟩
abbrev b_Model_order : ByteArray := prog_14_method_49_code
def y_Model_order : MethodName := ⟨"BakedBeforeModel", "orde\x72", "(II)I"⟩
theorem cf_Model_order : zcfV y_Model_order b_Model_order 3 (some .int) 2 := ⟨⟨q_1141, q_13, by decide, by decide, by decide +kernel⟩, q_1139, q_1140⟩
abbrev b_Model_memberOf : ByteArray := prog_14_method_50_code
def y_Model_memberOf : MethodName := ⟨"BakedBeforeModel", "memberOf", "(II)I"⟩
theorem cf_Model_memberOf : zcfS y_Model_memberOf b_Model_memberOf 4 (some .int) 2 := ⟨⟨q_1167, q_13, by decide, by decide, by decide +kernel⟩, q_1166⟩
abbrev b_Model_isWellBy : ByteArray := prog_14_method_51_code
def y_Model_isWellBy : MethodName := ⟨"BakedBeforeModel", "isWellBy", "(III)Z"⟩
theorem cf_Model_isWellBy : zcfV y_Model_isWellBy b_Model_isWellBy 8 (some .boolean) 3 := ⟨⟨q_1164, q_13, by decide, by decide, by decide +kernel⟩, q_1163, qs_53⟩
abbrev b_Model_colds : ByteArray := prog_14_method_52_code
def y_Model_colds : MethodName := ⟨"BakedBeforeModel", "colds", "(II)I"⟩
theorem cf_Model_colds : zcfV y_Model_colds b_Model_colds 9 (some .int) 2 := ⟨⟨q_1160, q_13, by decide, by decide, by decide +kernel⟩, q_1158, q_1159⟩
abbrev b_Model_takesAt : ByteArray := prog_14_method_53_code
def y_Model_takesAt : MethodName := ⟨"BakedBeforeModel", "takesAt", "(II)I"⟩
theorem cf_Model_takesAt : zcfV y_Model_takesAt b_Model_takesAt 6 (some .int) 2 := ⟨⟨q_1175, q_13, by decide, by decide, by decide +kernel⟩, q_1174, qs_54⟩
abbrev b_Model_place : ByteArray := prog_14_method_54_code
def y_Model_place : MethodName := ⟨"BakedBeforeModel", "place", "(II)I"⟩
theorem cf_Model_place : zcfV y_Model_place b_Model_place 7 (some .int) 2 := ⟨⟨q_1171, q_13, by decide, by decide, by decide +kernel⟩, q_1169, q_1170⟩
abbrev b_Model_isSpoiledBehind : ByteArray := prog_14_method_55_code
def y_Model_isSpoiledBehind : MethodName := ⟨"BakedBeforeModel", "isSpoiledBehind", "(II)Z"⟩
theorem cf_Model_isSpoiledBehind : zcfV y_Model_isSpoiledBehind b_Model_isSpoiledBehind 5 (some .boolean) 2 := ⟨⟨q_1187, q_13, by decide, by decide, by decide +kernel⟩, q_1186, qs_56⟩
abbrev b_Model_guilty : ByteArray := prog_14_method_56_code
def y_Model_guilty : MethodName := ⟨"BakedBeforeModel", "guilty", "(I)I"⟩
theorem cf_Model_guilty : zcfV y_Model_guilty b_Model_guilty 4 (some .int) 1 := ⟨⟨q_1183, q_13, by decide, by decide, by decide +kernel⟩, q_1181, q_1182⟩
abbrev b_Model_spoiledIn : ByteArray := prog_14_method_57_code
def y_Model_spoiledIn : MethodName := ⟨"BakedBeforeModel", "spoiledIn", "(I)I"⟩
theorem cf_Model_spoiledIn : zcfV y_Model_spoiledIn b_Model_spoiledIn 4 (some .int) 1 := ⟨⟨q_1195, q_13, by decide, by decide, by decide +kernel⟩, q_1194, qs_57⟩
abbrev b_Model_two : ByteArray := prog_14_method_58_code
def y_Model_two : MethodName := ⟨"BakedBeforeModel", "two", "(I)I"⟩
theorem cf_Model_two : zcfV y_Model_two b_Model_two 7 (some .int) 1 := ⟨⟨q_1191, q_13, by decide, by decide, by decide +kernel⟩, q_1189, q_1190⟩
abbrev b_Model_takesBehind : ByteArray := prog_14_method_59_code
def y_Model_takesBehind : MethodName := ⟨"BakedBeforeModel", "takesBehind", "(II)I"⟩
theorem cf_Model_takesBehind : zcfV y_Model_takesBehind b_Model_takesBehind 5 (some .int) 2 := ⟨⟨q_1204, q_13, by decide, by decide, by decide +kernel⟩, q_1203, qs_58⟩
abbrev b_Model_has : ByteArray := prog_14_method_60_code
def y_Model_has : MethodName := ⟨"BakedBeforeModel", "has", "(I)I"⟩
theorem cf_Model_has : zcfV y_Model_has b_Model_has 6 (some .int) 1 := ⟨⟨q_1199, q_13, by decide, by decide, by decide +kernel⟩, q_1197, q_1198⟩
abbrev b_Model_takesInRow : ByteArray := prog_14_method_61_code
def y_Model_takesInRow : MethodName := ⟨"BakedBeforeModel", "takesInRow", "(II)I"⟩
theorem cf_Model_takesInRow : zcfV y_Model_takesInRow b_Model_takesInRow 7 (some .int) 2 := ⟨⟨q_1212, q_13, by decide, by decide, by decide +kernel⟩, q_1211, qs_59⟩
abbrev b_Model_swaps : ByteArray := prog_14_method_62_code
def y_Model_swaps : MethodName := ⟨"BakedBeforeModel", "swaps", "(I)I"⟩
theorem cf_Model_swaps : zcfV y_Model_swaps b_Model_swaps 6 (some .int) 1 := ⟨⟨q_1208, q_13, by decide, by decide, by decide +kernel⟩, q_1206, q_1207⟩
abbrev b_Model_span : ByteArray := prog_14_method_63_code
def y_Model_span : MethodName := ⟨"BakedBeforeModel", "span", "(IIII)I"⟩
theorem cf_Model_span : zcfV y_Model_span b_Model_span 11 (some .int) 4 := ⟨⟨q_1216, q_13, by decide, by decide, by decide +kernel⟩, q_1214, q_1215⟩
abbrev b_Model_year : ByteArray := prog_14_method_64_code
def y_Model_year : MethodName := ⟨"BakedBeforeModel", "yea\x72", "(III)I"⟩
theorem cf_Model_year : zcfV y_Model_year b_Model_year 7 (some .int) 3 := ⟨⟨q_1220, q_13, by decide, by decide, by decide +kernel⟩, q_1218, q_1219⟩
abbrev b_Model_common : ByteArray := prog_14_method_65_code
def y_Model_common : MethodName := ⟨"BakedBeforeModel", "common", "(II)I"⟩
theorem cf_Model_common : zcfS y_Model_common b_Model_common 2 (some .int) 2 := ⟨⟨q_1233, q_13, by decide, by decide, by decide +kernel⟩, q_1232⟩
abbrev b_Model_lowest : ByteArray := prog_14_method_66_code
def y_Model_lowest : MethodName := ⟨"BakedBeforeModel", "lowest", "(III)J"⟩
theorem cf_Model_lowest : zcfS y_Model_lowest b_Model_lowest 4 (some .long) 3 := ⟨⟨q_1230, q_13, by decide, by decide, by decide +kernel⟩, q_1229⟩
abbrev b_Model_odds : ByteArray := prog_14_method_67_code
def y_Model_odds : MethodName := ⟨"BakedBeforeModel", "odds", "(II)J"⟩
theorem cf_Model_odds : zcfV y_Model_odds b_Model_odds 6 (some .long) 2 := ⟨⟨q_1226, q_13, by decide, by decide, by decide +kernel⟩, q_1224, q_1225⟩
abbrev b_Model_mean : ByteArray := prog_14_method_68_code
def y_Model_mean : MethodName := ⟨"BakedBeforeModel", "mean", "(II)J"⟩
theorem cf_Model_mean : zcfV y_Model_mean b_Model_mean 5 (some .long) 2 := ⟨⟨q_1237, q_13, by decide, by decide, by decide +kernel⟩, q_1235, q_1236⟩
abbrev b_Model_book : ByteArray := prog_14_method_69_code
def y_Model_book : MethodName := ⟨"BakedBeforeModel", "book", "(IZ)I"⟩
theorem cf_Model_book : zcfV y_Model_book b_Model_book 3 (some .int) 2 := ⟨⟨q_1241, q_13, by decide, by decide, by decide +kernel⟩, q_1239, q_1240⟩
abbrev b_Model_isBookedSo : ByteArray := prog_14_method_70_code
def y_Model_isBookedSo : MethodName := ⟨"BakedBeforeModel", "isBookedSo", "(I)Z"⟩
theorem cf_Model_isBookedSo : zcfV y_Model_isBookedSo b_Model_isBookedSo 4 (some .boolean) 1 := ⟨⟨q_1249, q_13, by decide, by decide, by decide +kernel⟩, q_1248, qs_60⟩
abbrev b_Model_looked : ByteArray := prog_14_method_71_code
def y_Model_looked : MethodName := ⟨"BakedBeforeModel", "looked", "()I"⟩
theorem cf_Model_looked : zcfV y_Model_looked b_Model_looked 3 (some .int) 0 := ⟨⟨q_1245, q_13, by decide, by decide, by decide +kernel⟩, q_1243, q_1244⟩
abbrev b_Model_isTape : ByteArray := prog_14_method_72_code
def y_Model_isTape : MethodName := ⟨"BakedBeforeModel", "isTape", "(I)Z"⟩
theorem cf_Model_isTape : zcfS y_Model_isTape b_Model_isTape 1 (some .boolean) 1 := ⟨⟨q_1256, q_13, by decide, by decide, by decide +kernel⟩, q_1255⟩
abbrev b_Model_judge : ByteArray := prog_14_method_73_code
def y_Model_judge : MethodName := ⟨"BakedBeforeModel", "judge", "(II)I"⟩
theorem cf_Model_judge : zcfV y_Model_judge b_Model_judge 4 (some .int) 2 := ⟨⟨q_1253, q_13, by decide, by decide, by decide +kernel⟩, q_1251, q_1252⟩
abbrev b_Model_image : ByteArray := prog_14_method_74_code
def y_Model_image : MethodName := ⟨"BakedBeforeModel", "image", "()I"⟩
theorem cf_Model_image : zcfV y_Model_image b_Model_image 1 (some .int) 0 := ⟨⟨q_1260, q_13, by decide, by decide, by decide +kernel⟩, q_1258, q_1259⟩
abbrev b_Model_undo : ByteArray := prog_14_method_75_code
def y_Model_undo : MethodName := ⟨"BakedBeforeModel", "undo", "()I"⟩
theorem cf_Model_undo : zcfV y_Model_undo b_Model_undo 1 (some .int) 0 := ⟨⟨q_1264, q_13, by decide, by decide, by decide +kernel⟩, q_1262, q_1263⟩
abbrev b_Model_runs : ByteArray := prog_14_method_76_code
def y_Model_runs : MethodName := ⟨"BakedBeforeModel", "runs", "(I)V"⟩
theorem cf_Model_runs : zcfV y_Model_runs b_Model_runs 2 none 1 := ⟨⟨q_1276, q_13, by decide, by decide, by decide +kernel⟩, q_1275, qs_62⟩
abbrev b_Model_rises : ByteArray := prog_14_method_77_code
def y_Model_rises : MethodName := ⟨"BakedBeforeModel", "rises", "(II)I"⟩
theorem cf_Model_rises : zcfV y_Model_rises b_Model_rises 3 (some .int) 2 := ⟨⟨q_1272, q_13, by decide, by decide, by decide +kernel⟩, q_1271, qs_61⟩
abbrev b_Model_bakesFrom : ByteArray := prog_14_method_78_code
def y_Model_bakesFrom : MethodName := ⟨"BakedBeforeModel", "bakesFrom", "(II)I"⟩
theorem cf_Model_bakesFrom : zcfV y_Model_bakesFrom b_Model_bakesFrom 4 (some .int) 2 := ⟨⟨q_1280, q_13, by decide, by decide, by decide +kernel⟩, q_1279, qs_63⟩
abbrev b_Model_tells : ByteArray := prog_14_method_79_code
def y_Model_tells : MethodName := ⟨"BakedBeforeModel", "tells", "(II)I"⟩
theorem cf_Model_tells : zcfV y_Model_tells b_Model_tells 4 (some .int) 2 := ⟨⟨q_1284, q_13, by decide, by decide, by decide +kernel⟩, q_1283, qs_64⟩
abbrev b_Model_act : ByteArray := prog_14_method_80_code
def y_Model_act : MethodName := ⟨"BakedBeforeModel", "act", "(III)I"⟩
theorem cf_Model_act : zcfV y_Model_act b_Model_act 5 (some .int) 3 := ⟨⟨q_1268, q_13, by decide, by decide, by decide +kernel⟩, q_1266, q_1267⟩
abbrev b_Model_trace : ByteArray := prog_14_method_81_code
def y_Model_trace : MethodName := ⟨"BakedBeforeModel", "trace", "(I)I"⟩
theorem cf_Model_trace : zcfV y_Model_trace b_Model_trace 2 (some .int) 1 := ⟨⟨q_1288, q_13, by decide, by decide, by decide +kernel⟩, q_1286, q_1287⟩
abbrev b_Model_above : ByteArray := prog_14_method_82_code
def y_Model_above : MethodName := ⟨"BakedBeforeModel", "above", "(I)I"⟩
theorem cf_Model_above : zcfS y_Model_above b_Model_above 1 (some .int) 1 := ⟨⟨q_1295, q_13, by decide, by decide, by decide +kernel⟩, q_1294⟩
abbrev b_Model_taken : ByteArray := prog_14_method_83_code
def y_Model_taken : MethodName := ⟨"BakedBeforeModel", "taken", "(II)I"⟩
theorem cf_Model_taken : zcfV y_Model_taken b_Model_taken 4 (some .int) 2 := ⟨⟨q_1292, q_13, by decide, by decide, by decide +kernel⟩, q_1290, q_1291⟩
abbrev b_Model_count : ByteArray := prog_14_method_84_code
def y_Model_count : MethodName := ⟨"BakedBeforeModel", "count", "(I)I"⟩
theorem cf_Model_count : zcfV y_Model_count b_Model_count 2 (some .int) 1 := ⟨⟨q_1299, q_13, by decide, by decide, by decide +kernel⟩, q_1297, q_1298⟩
abbrev b_Model_tape : ByteArray := prog_14_method_85_code
def y_Model_tape : MethodName := ⟨"BakedBeforeModel", "tape", "(III)I"⟩
theorem cf_Model_tape : zcfV y_Model_tape b_Model_tape 5 (some .int) 3 := ⟨⟨q_1303, q_13, by decide, by decide, by decide +kernel⟩, q_1301, q_1302⟩
abbrev b_Model_kept : ByteArray := prog_14_method_86_code
def y_Model_kept : MethodName := ⟨"BakedBeforeModel", "kept", "(IJ)J"⟩
theorem cf_Model_kept : zcfS y_Model_kept b_Model_kept 3 (some .long) 2 := ⟨⟨q_1310, q_13, by decide, by decide, by decide +kernel⟩, q_1309⟩
abbrev b_Model_item : ByteArray := prog_14_method_87_code
def y_Model_item : MethodName := ⟨"BakedBeforeModel", "item", "(IIJ)I"⟩
theorem cf_Model_item : zcfV y_Model_item b_Model_item 5 (some .int) 3 := ⟨⟨q_1307, q_13, by decide, by decide, by decide +kernel⟩, q_1305, q_1306⟩
abbrev b_Model_read : ByteArray := prog_14_method_88_code
def y_Model_read : MethodName := ⟨"BakedBeforeModel", "read", "(II)J"⟩
theorem cf_Model_read : zcfV y_Model_read b_Model_read 3 (some .long) 2 := ⟨⟨q_1314, q_13, by decide, by decide, by decide +kernel⟩, q_1312, q_1313⟩
abbrev b_Model_shift : ByteArray := prog_14_method_89_code
def y_Model_shift : MethodName := ⟨"BakedBeforeModel", "shift", "(IIIII)I"⟩
theorem cf_Model_shift : zcfV y_Model_shift b_Model_shift 8 (some .int) 5 := ⟨⟨q_1318, q_13, by decide, by decide, by decide +kernel⟩, q_1316, q_1317⟩
abbrev b_Acts_play : ByteArray := prog_2_method_2_code
def y_Acts_play : MethodName := ⟨"BakedBefore$Acts", "play", "(LBakedBefore$Loaf;II)I"⟩
theorem cf_Acts_play : zcfV y_Acts_play b_Acts_play 4 (some .int) 3 := ⟨⟨q_795, q_11, by decide, by decide, by decide +kernel⟩, q_793, q_794⟩
abbrev b_Acts_run : ByteArray := prog_2_method_3_code
def y_Acts_run : MethodName := ⟨"BakedBefore$Acts", "run", "(LBakedBefore$Loaf;IIII)I"⟩
theorem cf_Acts_run : zcfV y_Acts_run b_Acts_run 10 (some .int) 5 := ⟨⟨q_799, q_11, by decide, by decide, by decide +kernel⟩, q_798, qs_20⟩
abbrev b_Acts_bodyOf : ByteArray := prog_2_method_4_code
def y_Acts_bodyOf : MethodName := ⟨"BakedBefore$Acts", "bodyOf", "(II)I"⟩
theorem cf_Acts_bodyOf : zcfS y_Acts_bodyOf b_Acts_bodyOf 4 (some .int) 2 := ⟨⟨q_802, q_11, by decide, by decide, by decide +kernel⟩, q_801⟩
abbrev b_Acts_note : ByteArray := prog_2_method_5_code
def y_Acts_note : MethodName := ⟨"BakedBefore$Acts", "note", "(I)V"⟩
theorem cf_Acts_note : zcfV y_Acts_note b_Acts_note 2 none 1 := ⟨⟨q_810, q_11, by decide, by decide, by decide +kernel⟩, q_809, qs_21⟩
abbrev b_Asker_behind : ByteArray := prog_3_method_2_code
def y_Asker_behind : MethodName := ⟨"BakedBefore$Aske\x72", "behind", "(III)I"⟩
theorem cf_Asker_behind : zcfV y_Asker_behind b_Asker_behind 4 (some .int) 3 := ⟨⟨q_579, q_9, by decide, by decide, by decide +kernel⟩, q_577, q_578⟩
abbrev b_Asker_bestPlace : ByteArray := prog_3_method_3_code
def y_Asker_bestPlace : MethodName := ⟨"BakedBefore$Aske\x72", "bestPlace", "(IZ)I"⟩
theorem cf_Asker_bestPlace : zcfV y_Asker_bestPlace b_Asker_bestPlace 8 (some .int) 2 := ⟨⟨q_640, q_9, by decide, by decide, by decide +kernel⟩, q_638, q_639⟩
abbrev b_Asker_guiltyOf : ByteArray := prog_3_method_4_code
def y_Asker_guiltyOf : MethodName := ⟨"BakedBefore$Aske\x72", "guiltyOf", "(I)I"⟩
theorem cf_Asker_guiltyOf : zcfV y_Asker_guiltyOf b_Asker_guiltyOf 4 (some .int) 1 := ⟨⟨q_652, q_9, by decide, by decide, by decide +kernel⟩, q_650, q_651⟩
abbrev b_Asker_spoilsWithout : ByteArray := prog_3_method_5_code
def y_Asker_spoilsWithout : MethodName := ⟨"BakedBefore$Aske\x72", "spoilsWithout", "(II)Z"⟩
theorem cf_Asker_spoilsWithout : zcfV y_Asker_spoilsWithout b_Asker_spoilsWithout 4 (some .boolean) 2 := ⟨⟨q_656, q_9, by decide, by decide, by decide +kernel⟩, q_655, qs_16⟩
abbrev b_Asker_bestParting : ByteArray := prog_3_method_6_code
def y_Asker_bestParting : MethodName := ⟨"BakedBefore$Aske\x72", "bestParting", "(Z)I"⟩
theorem cf_Asker_bestParting : zcfV y_Asker_bestParting b_Asker_bestParting 7 (some .int) 1 := ⟨⟨q_664, q_9, by decide, by decide, by decide +kernel⟩, q_662, q_663⟩
abbrev b_Asker_spoiledIn : ByteArray := prog_3_method_7_code
def y_Asker_spoiledIn : MethodName := ⟨"BakedBefore$Aske\x72", "spoiledIn", "(I)I"⟩
theorem cf_Asker_spoiledIn : zcfV y_Asker_spoiledIn b_Asker_spoiledIn 4 (some .int) 1 := ⟨⟨q_668, q_9, by decide, by decide, by decide +kernel⟩, q_667, qs_17⟩
abbrev b_Asker_purse : ByteArray := prog_3_method_8_code
def y_Asker_purse : MethodName := ⟨"BakedBefore$Aske\x72", "purse", "(I)I"⟩
theorem cf_Asker_purse : zcfV y_Asker_purse b_Asker_purse 3 (some .int) 1 := ⟨⟨q_677, q_9, by decide, by decide, by decide +kernel⟩, q_675, q_676⟩
abbrev b_Asker_gainOfFirst : ByteArray := prog_3_method_9_code
def y_Asker_gainOfFirst : MethodName := ⟨"BakedBefore$Aske\x72", "gainOfFirst", "(I)I"⟩
theorem cf_Asker_gainOfFirst : zcfV y_Asker_gainOfFirst b_Asker_gainOfFirst 4 (some .int) 1 := ⟨⟨q_681, q_9, by decide, by decide, by decide +kernel⟩, q_680, qs_18⟩
abbrev b_Asker_bothAgree : ByteArray := prog_3_method_10_code
def y_Asker_bothAgree : MethodName := ⟨"BakedBefore$Aske\x72", "bothAgree", "(I)Z"⟩
theorem cf_Asker_bothAgree : zcfV y_Asker_bothAgree b_Asker_bothAgree 8 (some .boolean) 1 := ⟨⟨q_690, q_9, by decide, by decide, by decide +kernel⟩, q_688, q_689⟩
abbrev b_Asker_bakeAhead : ByteArray := prog_3_method_11_code
def y_Asker_bakeAhead : MethodName := ⟨"BakedBefore$Aske\x72", "bakeAhead", "(I)V"⟩
theorem cf_Asker_bakeAhead : zcfV y_Asker_bakeAhead b_Asker_bakeAhead 3 none 1 := ⟨⟨q_694, q_9, by decide, by decide, by decide +kernel⟩, q_693, qs_19⟩
abbrev b_Asker_heldBy : ByteArray := prog_3_method_12_code
def y_Asker_heldBy : MethodName := ⟨"BakedBefore$Aske\x72", "heldBy", "(LBakedBefore$Loaf;IIZ)I"⟩
theorem cf_Asker_heldBy : zcfV y_Asker_heldBy b_Asker_heldBy 11 (some .int) 4 := ⟨⟨q_702, q_9, by decide, by decide, by decide +kernel⟩, q_700, q_701⟩
abbrev b_Asker_reaching : ByteArray := prog_3_method_13_code
def y_Asker_reaching : MethodName := ⟨"BakedBefore$Aske\x72", "reaching", "(LBakedBefore$Loaf;IIIII)I"⟩
theorem cf_Asker_reaching : zcfS y_Asker_reaching b_Asker_reaching 9 (some .int) 6 := ⟨⟨q_706, q_9, by decide, by decide, by decide +kernel⟩, q_705⟩
abbrev b_Asker_afterYear : ByteArray := prog_3_method_14_code
def y_Asker_afterYear : MethodName := ⟨"BakedBefore$Aske\x72", "afterYea\x72", "(III)I"⟩
theorem cf_Asker_afterYear : zcfV y_Asker_afterYear b_Asker_afterYear 7 (some .int) 3 := ⟨⟨q_717, q_9, by decide, by decide, by decide +kernel⟩, q_715, q_716⟩
abbrev b_Asker_spoilers : ByteArray := prog_3_method_15_code
def y_Asker_spoilers : MethodName := ⟨"BakedBefore$Aske\x72", "spoilers", "(I)I"⟩
theorem cf_Asker_spoilers : zcfV y_Asker_spoilers b_Asker_spoilers 4 (some .int) 1 := ⟨⟨q_727, q_9, by decide, by decide, by decide +kernel⟩, q_725, q_726⟩
abbrev b_Asker_takenByAll : ByteArray := prog_3_method_16_code
def y_Asker_takenByAll : MethodName := ⟨"BakedBefore$Aske\x72", "takenByAll", "(I)I"⟩
theorem cf_Asker_takenByAll : zcfV y_Asker_takenByAll b_Asker_takenByAll 4 (some .int) 1 := ⟨⟨q_739, q_9, by decide, by decide, by decide +kernel⟩, q_737, q_738⟩
abbrev b_Asker_firstOtherwise : ByteArray := prog_3_method_17_code
def y_Asker_firstOtherwise : MethodName := ⟨"BakedBefore$Aske\x72", "firstOtherwise", "()I"⟩
theorem cf_Asker_firstOtherwise : zcfV y_Asker_firstOtherwise b_Asker_firstOtherwise 4 (some .int) 0 := ⟨⟨q_755, q_9, by decide, by decide, by decide +kernel⟩, q_753, q_754⟩
abbrev b_Baker_partOf : ByteArray := prog_4_method_2_code
def y_Baker_partOf : MethodName := ⟨"BakedBefore$Bake\x72", "partOf", "(LBakedBefore$Loaf;III)I"⟩
theorem cf_Baker_partOf : zcfV y_Baker_partOf b_Baker_partOf 5 (some .int) 4 := ⟨⟨q_391, q_8, by decide, by decide, by decide +kernel⟩, q_389, q_390⟩
abbrev b_Baker_amount : ByteArray := prog_4_method_3_code
def y_Baker_amount : MethodName := ⟨"BakedBefore$Bake\x72", "amount", "(LBakedBefore$Loaf;III)I"⟩
theorem cf_Baker_amount : zcfS y_Baker_amount b_Baker_amount 6 (some .int) 4 := ⟨⟨q_394, q_8, by decide, by decide, by decide +kernel⟩, q_393⟩
abbrev b_Baker_takes : ByteArray := prog_4_method_4_code
def y_Baker_takes : MethodName := ⟨"BakedBefore$Bake\x72", "takes", "(LBakedBefore$Loaf;ILBakedBefore$Oven;)I"⟩
theorem cf_Baker_takes : zcfV y_Baker_takes b_Baker_takes 5 (some .int) 3 := ⟨⟨q_387, q_8, by decide, by decide, by decide +kernel⟩, q_385, q_386⟩
abbrev b_Baker_takesOfAll : ByteArray := prog_4_method_5_code
def y_Baker_takesOfAll : MethodName := ⟨"BakedBefore$Bake\x72", "takesOfAll", "(LBakedBefore$Loaf;LBakedBefore$Oven;)I"⟩
theorem cf_Baker_takesOfAll : zcfV y_Baker_takesOfAll b_Baker_takesOfAll 5 (some .int) 2 := ⟨⟨q_644, q_8, by decide, by decide, by decide +kernel⟩, q_642, q_643⟩
abbrev b_Baker_leaves : ByteArray := prog_4_method_6_code
def y_Baker_leaves : MethodName := ⟨"BakedBefore$Bake\x72", "leaves", "(LBakedBefore$Loaf;ILBakedBefore$Oven;)I"⟩
theorem cf_Baker_leaves : zcfV y_Baker_leaves b_Baker_leaves 5 (some .int) 3 := ⟨⟨q_412, q_8, by decide, by decide, by decide +kernel⟩, q_410, q_411⟩
abbrev b_Baker_spoils : ByteArray := prog_4_method_7_code
def y_Baker_spoils : MethodName := ⟨"BakedBefore$Bake\x72", "spoils", "(LBakedBefore$Loaf;LBakedBefore$Oven;)Z"⟩
theorem cf_Baker_spoils : zcfV y_Baker_spoils b_Baker_spoils 4 (some .boolean) 2 := ⟨⟨q_383, q_8, by decide, by decide, by decide +kernel⟩, q_381, q_382⟩
abbrev b_Baker_bakeIn : ByteArray := prog_4_method_8_code
def y_Baker_bakeIn : MethodName := ⟨"BakedBefore$Bake\x72", "bakeIn", "(LBakedBefore$Oven;LBakedBefore$Loaf;)Z"⟩
theorem cf_Baker_bakeIn : zcfV y_Baker_bakeIn b_Baker_bakeIn 7 (some .boolean) 2 := ⟨⟨q_557, q_8, by decide, by decide, by decide +kernel⟩, q_555, q_556⟩
abbrev b_Baker_chill : ByteArray := prog_4_method_9_code
def y_Baker_chill : MethodName := ⟨"BakedBefore$Bake\x72", "chill", "(LBakedBefore$Oven;)V"⟩
theorem cf_Baker_chill : zcfV y_Baker_chill b_Baker_chill 3 none 1 := ⟨⟨q_571, q_8, by decide, by decide, by decide +kernel⟩, q_569, q_570⟩
abbrev b_Baker_feeOf : ByteArray := prog_4_method_10_code
def y_Baker_feeOf : MethodName := ⟨"BakedBefore$Bake\x72", "feeOf", "(LBakedBefore$Loaf;I)I"⟩
theorem cf_Baker_feeOf : zcfV y_Baker_feeOf b_Baker_feeOf 3 (some .int) 2 := ⟨⟨q_366, q_8, by decide, by decide, by decide +kernel⟩, q_364, q_365⟩
abbrev b_Book_append : ByteArray := prog_5_method_2_code
def y_Book_append : MethodName := ⟨"BakedBefore$Book", "append", "(IZ)I"⟩
theorem cf_Book_append : zcfV y_Book_append b_Book_append 3 (some .int) 2 := ⟨⟨q_747, q_4, by decide, by decide, by decide +kernel⟩, q_745, q_746⟩
abbrev b_Book_become : ByteArray := prog_5_method_3_code
def y_Book_become : MethodName := ⟨"BakedBefore$Book", "become", "(LBakedBefore$Book;)V"⟩
theorem cf_Book_become : zcfV y_Book_become b_Book_become 3 none 1 := ⟨⟨q_783, q_4, by decide, by decide, by decide +kernel⟩, q_781, q_782⟩
abbrev b_Kiln_empty : ByteArray := prog_6_method_2_code
def y_Kiln_empty : MethodName := ⟨"BakedBefore$Kiln", "empty", "()V"⟩
theorem cf_Kiln_empty : zcfV y_Kiln_empty b_Kiln_empty 1 none 0 := ⟨⟨q_436, q_7, by decide, by decide, by decide +kernel⟩, q_434, q_435⟩
abbrev b_Kiln_begin : ByteArray := prog_6_method_3_code
def y_Kiln_begin : MethodName := ⟨"BakedBefore$Kiln", "begin", "(II)V"⟩
theorem cf_Kiln_begin : zcfV y_Kiln_begin b_Kiln_begin 3 none 2 := ⟨⟨q_521, q_7, by decide, by decide, by decide +kernel⟩, q_519, q_520⟩
abbrev b_Kiln_append : ByteArray := prog_6_method_4_code
def y_Kiln_append : MethodName := ⟨"BakedBefore$Kiln", "append", "(I)V"⟩
theorem cf_Kiln_append : zcfV y_Kiln_append b_Kiln_append 2 none 1 := ⟨⟨q_544, q_7, by decide, by decide, by decide +kernel⟩, q_542, q_543⟩
abbrev b_Kiln_lookAt : ByteArray := prog_6_method_5_code
def y_Kiln_lookAt : MethodName := ⟨"BakedBefore$Kiln", "lookAt", "(LBakedBefore$Loaf;III)V"⟩
theorem cf_Kiln_lookAt : zcfV y_Kiln_lookAt b_Kiln_lookAt 5 none 4 := ⟨⟨q_370, q_7, by decide, by decide, by decide +kernel⟩, q_368, q_369⟩
abbrev b_Kiln_sum : ByteArray := prog_6_method_6_code
def y_Kiln_sum : MethodName := ⟨"BakedBefore$Kiln", "sum", "(I)I"⟩
theorem cf_Kiln_sum : zcfV y_Kiln_sum b_Kiln_sum 5 (some .int) 1 := ⟨⟨q_374, q_7, by decide, by decide, by decide +kernel⟩, q_372, q_373⟩
abbrev b_Kiln_holds : ByteArray := prog_6_method_7_code
def y_Kiln_holds : MethodName := ⟨"BakedBefore$Kiln", "holds", "(II)Z"⟩
theorem cf_Kiln_holds : zcfV y_Kiln_holds b_Kiln_holds 13 (some .boolean) 2 := ⟨⟨q_378, q_7, by decide, by decide, by decide +kernel⟩, q_377, qs_1⟩
abbrev b_Loaf_begin : ByteArray := prog_7_method_2_code
def y_Loaf_begin : MethodName := ⟨"BakedBefore$Loaf", "begin", "(II)V"⟩
theorem cf_Loaf_begin : zcfV y_Loaf_begin b_Loaf_begin 4 none 2 := ⟨⟨q_347, q_5, by decide, by decide, by decide +kernel⟩, q_345, q_346⟩
abbrev b_Loaf_become : ByteArray := prog_7_method_3_code
def y_Loaf_become : MethodName := ⟨"BakedBefore$Loaf", "become", "(LBakedBefore$Loaf;)V"⟩
theorem cf_Loaf_become : zcfV y_Loaf_become b_Loaf_become 3 none 1 := ⟨⟨q_778, q_5, by decide, by decide, by decide +kernel⟩, q_776, q_777⟩
abbrev b_Loaf_isUnder : ByteArray := prog_7_method_4_code
def y_Loaf_isUnder : MethodName := ⟨"BakedBefore$Loaf", "isUnde\x72", "(I)Z"⟩
theorem cf_Loaf_isUnder : zcfV y_Loaf_isUnder b_Loaf_isUnder 4 (some .boolean) 1 := ⟨⟨q_823, q_5, by decide, by decide, by decide +kernel⟩, q_821, q_822⟩
abbrev b_Oven_become : ByteArray := prog_8_method_2_code
def y_Oven_become : MethodName := ⟨"BakedBefore$Oven", "become", "(LBakedBefore$Oven;)V"⟩
theorem cf_Oven_become : zcfV y_Oven_become b_Oven_become 3 none 1 := ⟨⟨q_583, q_3, by decide, by decide, by decide +kernel⟩, q_581, q_582⟩
abbrev b_Oven_strike : ByteArray := prog_8_method_3_code
def y_Oven_strike : MethodName := ⟨"BakedBefore$Oven", "strike", "()V"⟩
theorem cf_Oven_strike : zcfV y_Oven_strike b_Oven_strike 1 none 0 := ⟨⟨q_562, q_3, by decide, by decide, by decide +kernel⟩, q_560, q_561⟩
abbrev b_Reader_append : ByteArray := prog_9_method_2_code
def y_Reader_append : MethodName := ⟨"BakedBefore$Reade\x72", "append", "(I)I"⟩
theorem cf_Reader_append : zcfV y_Reader_append b_Reader_append 2 (some .int) 1 := ⟨⟨q_424, q_6, by decide, by decide, by decide +kernel⟩, q_422, q_423⟩
abbrev b_Reader_readInto : ByteArray := prog_9_method_3_code
def y_Reader_readInto : MethodName := ⟨"BakedBefore$Reade\x72", "readInto", "(LBakedBefore$Kiln;)I"⟩
theorem cf_Reader_readInto : zcfV y_Reader_readInto b_Reader_readInto 4 (some .int) 1 := ⟨⟨q_432, q_6, by decide, by decide, by decide +kernel⟩, q_430, q_431⟩
abbrev b_Reader_readClause : ByteArray := prog_9_method_4_code
def y_Reader_readClause : MethodName := ⟨"BakedBefore$Reade\x72", "readClause", "()Z"⟩
theorem cf_Reader_readClause : zcfV y_Reader_readClause b_Reader_readClause 2 (some .boolean) 0 := ⟨⟨q_440, q_6, by decide, by decide, by decide +kernel⟩, q_439, qs_3⟩
abbrev b_Reader_readWord : ByteArray := prog_9_method_5_code
def y_Reader_readWord : MethodName := ⟨"BakedBefore$Reade\x72", "readWord", "(Ljava/lang/String;)Z"⟩
theorem cf_Reader_readWord : zcfV y_Reader_readWord b_Reader_readWord 3 (some .boolean) 1 := ⟨⟨q_458, q_6, by decide, by decide, by decide +kernel⟩, q_457, qs_5⟩
abbrev b_Reader_readNumber : ByteArray := prog_9_method_6_code
def y_Reader_readNumber : MethodName := ⟨"BakedBefore$Reade\x72", "readNumbe\x72", "()Z"⟩
theorem cf_Reader_readNumber : zcfV y_Reader_readNumber b_Reader_readNumber 1 (some .boolean) 0 := ⟨⟨q_514, q_6, by decide, by decide, by decide +kernel⟩, q_513, qs_7⟩
abbrev b_Reader_readEither : ByteArray := prog_9_method_7_code
def y_Reader_readEither : MethodName := ⟨"BakedBefore$Reade\x72", "readEithe\x72", "(I)Z"⟩
theorem cf_Reader_readEither : zcfV y_Reader_readEither b_Reader_readEither 3 (some .boolean) 1 := ⟨⟨q_525, q_6, by decide, by decide, by decide +kernel⟩, q_524, qs_8⟩
abbrev b_Reader_readBoth : ByteArray := prog_9_method_8_code
def y_Reader_readBoth : MethodName := ⟨"BakedBefore$Reade\x72", "readBoth", "(I)Z"⟩
theorem cf_Reader_readBoth : zcfV y_Reader_readBoth b_Reader_readBoth 3 (some .boolean) 1 := ⟨⟨q_529, q_6, by decide, by decide, by decide +kernel⟩, q_528, qs_9⟩
abbrev b_Reader_readPart : ByteArray := prog_9_method_9_code
def y_Reader_readPart : MethodName := ⟨"BakedBefore$Reade\x72", "readPart", "(I)Z"⟩
theorem cf_Reader_readPart : zcfV y_Reader_readPart b_Reader_readPart 3 (some .boolean) 1 := ⟨⟨q_533, q_6, by decide, by decide, by decide +kernel⟩, q_532, qs_10⟩
abbrev b_Reader_readTest : ByteArray := prog_9_method_10_code
def y_Reader_readTest : MethodName := ⟨"BakedBefore$Reade\x72", "readTest", "()Z"⟩
theorem cf_Reader_readTest : zcfV y_Reader_readTest b_Reader_readTest 3 (some .boolean) 0 := ⟨⟨q_537, q_6, by decide, by decide, by decide +kernel⟩, q_536, qs_11⟩
abbrev b_Reader_here : ByteArray := prog_9_method_11_code
def y_Reader_here : MethodName := ⟨"BakedBefore$Reade\x72", "here", "()I"⟩
theorem cf_Reader_here : zcfV y_Reader_here b_Reader_here 1 (some .int) 0 := ⟨⟨q_444, q_6, by decide, by decide, by decide +kernel⟩, q_443, qs_4⟩
abbrev b_Reader_skip : ByteArray := prog_9_method_12_code
def y_Reader_skip : MethodName := ⟨"BakedBefore$Reade\x72", "skip", "(C)Z"⟩
theorem cf_Reader_skip : zcfV y_Reader_skip b_Reader_skip 2 (some .boolean) 1 := ⟨⟨q_510, q_6, by decide, by decide, by decide +kernel⟩, q_509, qs_6⟩
abbrev b_Reader_isDigit : ByteArray := prog_9_method_13_code
def y_Reader_isDigit : MethodName := ⟨"BakedBefore$Reade\x72", "isDigit", "(I)Z"⟩
theorem cf_Reader_isDigit : zcfS y_Reader_isDigit b_Reader_isDigit 1 (some .boolean) 1 := ⟨⟨q_517, q_6, by decide, by decide, by decide +kernel⟩, q_516⟩
abbrev b_Reader_wordFrom : ByteArray := prog_9_method_14_code
def y_Reader_wordFrom : MethodName := ⟨"BakedBefore$Reade\x72", "wordFrom", "(I)I"⟩
theorem cf_Reader_wordFrom : zcfS y_Reader_wordFrom b_Reader_wordFrom 1 (some .int) 1 := ⟨⟨q_447, q_6, by decide, by decide, by decide +kernel⟩, q_446⟩
abbrev b_Reader_spelling : ByteArray := prog_9_method_15_code
def y_Reader_spelling : MethodName := ⟨"BakedBefore$Reade\x72", "spelling", "(I)Ljava/lang/String;"⟩
theorem cf_Reader_spelling : zcfS y_Reader_spelling b_Reader_spelling 1 (some (.object "java/lang/String")) 1 := ⟨⟨q_450, q_6, by decide, by decide, by decide +kernel⟩, q_449⟩
abbrev b_Reader_letterOf : ByteArray := prog_9_method_16_code
def y_Reader_letterOf : MethodName := ⟨"BakedBefore$Reade\x72", "letterOf", "(I)I"⟩
theorem cf_Reader_letterOf : zcfS y_Reader_letterOf b_Reader_letterOf 1 (some .int) 1 := ⟨⟨q_540, q_6, by decide, by decide, by decide +kernel⟩, q_539⟩
abbrev b_Search_seekOrder : ByteArray := prog_10_method_2_code
def y_Search_seekOrder : MethodName := ⟨"BakedBefore$Search", "seekOrde\x72", "(I)V"⟩
theorem cf_Search_seekOrder : zcfV y_Search_seekOrder b_Search_seekOrder 2 none 1 := ⟨⟨q_605, q_10, by decide, by decide, by decide +kernel⟩, q_603, q_604⟩
abbrev b_Search_goOnOrder : ByteArray := prog_10_method_3_code
def y_Search_goOnOrder : MethodName := ⟨"BakedBefore$Search", "goOnOrde\x72", "(III)V"⟩
theorem cf_Search_goOnOrder : zcfV y_Search_goOnOrder b_Search_goOnOrder 6 none 3 := ⟨⟨q_611, q_10, by decide, by decide, by decide +kernel⟩, q_610, qs_13⟩
abbrev b_Search_seekColds : ByteArray := prog_10_method_4_code
def y_Search_seekColds : MethodName := ⟨"BakedBefore$Search", "seekColds", "(I)Z"⟩
theorem cf_Search_seekColds : zcfV y_Search_seekColds b_Search_seekColds 3 (some .boolean) 1 := ⟨⟨q_624, q_10, by decide, by decide, by decide +kernel⟩, q_622, q_623⟩
abbrev b_Search_goOnColds : ByteArray := prog_10_method_5_code
def y_Search_goOnColds : MethodName := ⟨"BakedBefore$Search", "goOnColds", "(III)V"⟩
theorem cf_Search_goOnColds : zcfV y_Search_goOnColds b_Search_goOnColds 6 none 3 := ⟨⟨q_628, q_10, by decide, by decide, by decide +kernel⟩, q_627, qs_15⟩
abbrev b_Search_lowestOf : ByteArray := prog_10_method_6_code
def y_Search_lowestOf : MethodName := ⟨"BakedBefore$Search", "lowestOf", "(I)I"⟩
theorem cf_Search_lowestOf : zcfS y_Search_lowestOf b_Search_lowestOf 2 (some .int) 1 := ⟨⟨q_631, q_10, by decide, by decide, by decide +kernel⟩, q_630⟩
abbrev b_Search_keep : ByteArray := prog_10_method_7_code
def y_Search_keep : MethodName := ⟨"BakedBefore$Search", "keep", "(I)V"⟩
theorem cf_Search_keep : zcfV y_Search_keep b_Search_keep 3 none 1 := ⟨⟨q_615, q_10, by decide, by decide, by decide +kernel⟩, q_614, qs_14⟩
abbrev b_Stand_become : ByteArray := prog_11_method_2_code
def y_Stand_become : MethodName := ⟨"BakedBefore$Stand", "become", "(LBakedBefore$Stand;)V"⟩
theorem cf_Stand_become : zcfV y_Stand_become b_Stand_become 3 none 1 := ⟨⟨q_774, q_2, by decide, by decide, by decide +kernel⟩, q_772, q_773⟩
abbrev b_Tapes_isTape : ByteArray := prog_12_method_2_code
def y_Tapes_isTape : MethodName := ⟨"BakedBefore$Tapes", "isTape", "(I)Z"⟩
theorem cf_Tapes_isTape : zcfS y_Tapes_isTape b_Tapes_isTape 1 (some .boolean) 1 := ⟨⟨q_762, q_12, by decide, by decide, by decide +kernel⟩, q_761⟩
abbrev b_Tapes_begin : ByteArray := prog_12_method_3_code
def y_Tapes_begin : MethodName := ⟨"BakedBefore$Tapes", "begin", "(III)I"⟩
theorem cf_Tapes_begin : zcfV y_Tapes_begin b_Tapes_begin 5 (some .int) 3 := ⟨⟨q_836, q_12, by decide, by decide, by decide +kernel⟩, q_834, q_835⟩
abbrev b_Tapes_write : ByteArray := prog_12_method_4_code
def y_Tapes_write : MethodName := ⟨"BakedBefore$Tapes", "write", "(IIJ)I"⟩
theorem cf_Tapes_write : zcfV y_Tapes_write b_Tapes_write 5 (some .int) 3 := ⟨⟨q_844, q_12, by decide, by decide, by decide +kernel⟩, q_842, q_843⟩
abbrev b_Tapes_asItem : ByteArray := prog_12_method_5_code
def y_Tapes_asItem : MethodName := ⟨"BakedBefore$Tapes", "asItem", "(IJ)J"⟩
theorem cf_Tapes_asItem : zcfS y_Tapes_asItem b_Tapes_asItem 3 (some .long) 2 := ⟨⟨q_847, q_12, by decide, by decide, by decide +kernel⟩, q_846⟩
abbrev b_Tapes_valueAt : ByteArray := prog_12_method_6_code
def y_Tapes_valueAt : MethodName := ⟨"BakedBefore$Tapes", "valueAt", "(II)J"⟩
theorem cf_Tapes_valueAt : zcfV y_Tapes_valueAt b_Tapes_valueAt 3 (some .long) 2 := ⟨⟨q_855, q_12, by decide, by decide, by decide +kernel⟩, q_853, q_854⟩
abbrev b_Tapes_move : ByteArray := prog_12_method_7_code
def y_Tapes_move : MethodName := ⟨"BakedBefore$Tapes", "move", "(IIIII)I"⟩
theorem cf_Tapes_move : zcfV y_Tapes_move b_Tapes_move 6 (some .int) 5 := ⟨⟨q_864, q_12, by decide, by decide, by decide +kernel⟩, q_862, q_863⟩
abbrev b_Tapes_firstUnlike : ByteArray := prog_12_method_8_code
def y_Tapes_firstUnlike : MethodName := ⟨"BakedBefore$Tapes", "firstUnlike", "(IILBakedBefore$Oven;)I"⟩
theorem cf_Tapes_firstUnlike : zcfV y_Tapes_firstUnlike b_Tapes_firstUnlike 5 (some .int) 3 := ⟨⟨q_766, q_12, by decide, by decide, by decide +kernel⟩, q_764, q_765⟩
abbrev b_Integer_bitCount : ByteArray := prog_15_method_49_code
def y_Integer_bitCount : MethodName := ⟨"java/lang/Intege\x72", "bitCount", "(I)I"⟩
theorem cf_Integer_bitCount : zcfS y_Integer_bitCount b_Integer_bitCount 1 (some .int) 1 := ⟨⟨q_598, q_19, by decide, by decide, by decide +kernel⟩, q_597⟩
end
section
/-! texts: String.length and String.charAt of the constants; System.arraycopy of rows of longs -/
section STRINGS
variable {l : Launch} {cc : ByteArray} {nL : Nat} {ret : Option FieldType} {own : String} {lo n : Nat} {θ : ZT} {R : Room} {Q : Array Value → State → Outcome → State → Prop} {σ : ZM} {lv : List (Nat × Value)} {pc : Nat} {st : List Value}
theorem z_lds0 (ho : own = "BakedBefore$Reade\x72") (d : decode cc pc = .ok (.ldc 96, 2)) (g : WZ l cc nL ret own lo n θ R Q σ lv (pc + 2) (.ref (zf θ (2 + 0)) :: st)) : WZ l cc nL ret own lo n θ R Q σ lv pc st := by
  subst ho
  exact fun _ _ _ _ _ _ _ _ _ _ _ Z hP hS hl => va_ldcS Z.1 Z.2.1 Z.2.2.2.1 Z.2.2.2.2.2.2.2.2.2.1.2.2.2.1.1 d (g _ _ _ _ _ _ _ _ _ _ _ Z hP hS hl)
theorem z_lds1 (ho : own = "BakedBefore$Reade\x72") (d : decode cc pc = .ok (.ldc 98, 2)) (g : WZ l cc nL ret own lo n θ R Q σ lv (pc + 2) (.ref (zf θ (2 + 1)) :: st)) : WZ l cc nL ret own lo n θ R Q σ lv pc st := by
  subst ho
  exact fun _ _ _ _ _ _ _ _ _ _ _ Z hP hS hl => va_ldcS Z.1 Z.2.1 Z.2.2.2.1 Z.2.2.2.2.2.2.2.2.2.1.2.2.2.1.2.1 d (g _ _ _ _ _ _ _ _ _ _ _ Z hP hS hl)
theorem z_lds2 (ho : own = "BakedBefore$Reade\x72") (d : decode cc pc = .ok (.ldc 100, 2)) (g : WZ l cc nL ret own lo n θ R Q σ lv (pc + 2) (.ref (zf θ (2 + 2)) :: st)) : WZ l cc nL ret own lo n θ R Q σ lv pc st := by
  subst ho
  exact fun _ _ _ _ _ _ _ _ _ _ _ Z hP hS hl => va_ldcS Z.1 Z.2.1 Z.2.2.2.1 Z.2.2.2.2.2.2.2.2.2.1.2.2.2.1.2.2.1 d (g _ _ _ _ _ _ _ _ _ _ _ Z hP hS hl)
theorem z_lds3 (ho : own = "BakedBefore$Reade\x72") (d : decode cc pc = .ok (.ldc 102, 2)) (g : WZ l cc nL ret own lo n θ R Q σ lv (pc + 2) (.ref (zf θ (2 + 3)) :: st)) : WZ l cc nL ret own lo n θ R Q σ lv pc st := by
  subst ho
  exact fun _ _ _ _ _ _ _ _ _ _ _ Z hP hS hl => va_ldcS Z.1 Z.2.1 Z.2.2.2.1 Z.2.2.2.2.2.2.2.2.2.1.2.2.2.1.2.2.2.1 d (g _ _ _ _ _ _ _ _ _ _ _ Z hP hS hl)
theorem z_lds4 (ho : own = "BakedBeforeModel") (d : decode cc pc = .ok (.ldc 139, 2)) (g : WZ l cc nL ret own lo n θ R Q σ lv (pc + 2) (.ref (zf θ (2 + 4)) :: st)) : WZ l cc nL ret own lo n θ R Q σ lv pc st := by
  subst ho
  exact fun _ _ _ _ _ _ _ _ _ _ _ Z hP hS hl => va_ldcS Z.1 Z.2.1 Z.2.2.2.1 Z.2.2.2.2.2.2.2.2.2.1.2.2.2.1.2.2.2.2.1 d (g _ _ _ _ _ _ _ _ _ _ _ Z hP hS hl)
theorem z_lds5 (ho : own = "BakedBeforeModel") (d : decode cc pc = .ok (.ldc 141, 2)) (g : WZ l cc nL ret own lo n θ R Q σ lv (pc + 2) (.ref (zf θ (2 + 5)) :: st)) : WZ l cc nL ret own lo n θ R Q σ lv pc st := by
  subst ho
  exact fun _ _ _ _ _ _ _ _ _ _ _ Z hP hS hl => va_ldcS Z.1 Z.2.1 Z.2.2.2.1 Z.2.2.2.2.2.2.2.2.2.1.2.2.2.1.2.2.2.2.2.1 d (g _ _ _ _ _ _ _ _ _ _ _ Z hP hS hl)
theorem z_lds6 (ho : own = "BakedBeforeModel") (d : decode cc pc = .ok (.ldc 143, 2)) (g : WZ l cc nL ret own lo n θ R Q σ lv (pc + 2) (.ref (zf θ (2 + 6)) :: st)) : WZ l cc nL ret own lo n θ R Q σ lv pc st := by
  subst ho
  exact fun _ _ _ _ _ _ _ _ _ _ _ Z hP hS hl => va_ldcS Z.1 Z.2.1 Z.2.2.2.1 Z.2.2.2.2.2.2.2.2.2.1.2.2.2.1.2.2.2.2.2.2.1 d (g _ _ _ _ _ _ _ _ _ _ _ Z hP hS hl)
theorem z_lds7 (ho : own = "BakedBeforeModel") (d : decode cc pc = .ok (.ldc 145, 2)) (g : WZ l cc nL ret own lo n θ R Q σ lv (pc + 2) (.ref (zf θ (2 + 7)) :: st)) : WZ l cc nL ret own lo n θ R Q σ lv pc st := by
  subst ho
  exact fun _ _ _ _ _ _ _ _ _ _ _ Z hP hS hl => va_ldcS Z.1 Z.2.1 Z.2.2.2.1 Z.2.2.2.2.2.2.2.2.2.1.2.2.2.1.2.2.2.2.2.2.2 d (g _ _ _ _ _ _ _ _ _ _ _ Z hP hS hl)
theorem z_sval {i index : Nat} (hi : i < 8) (d : decode cc pc = .ok (.getfield index, 3)) (hw : Cond.fieldLink own index "java/lang/String" "value" "[B" ∈ zW0) (g : WZ l cc nL ret own lo n θ R Q σ lv (pc + 3) (.ref (zf θ (10 + i)) :: st)) : WZ l cc nL ret own lo n θ R Q σ lv pc (.ref (zf θ (2 + i)) :: st) :=
  fun _ _ _ _ _ _ _ _ _ _ _ Z hP hS hl => vk_getf (ref := "java/lang/String") Z.1 Z.2.1 (Z.2.2.2.2.2.2.2.2.2.1.2.2.2.2.1.1 i hi).2.2.1 hS Z.2.2.2.1 (Z.2.2.2.2.1 _ hw) (fun _ h => h) d (g _ _ _ _ _ _ _ _ _ _ _ Z hP hS hl)
theorem z_scod {i index : Nat} (hi : i < 8) (d : decode cc pc = .ok (.getfield index, 3)) (hw : Cond.fieldLink own index "java/lang/String" "code\x72" "B" ∈ zW0) (g : WZ l cc nL ret own lo n θ R Q σ lv (pc + 3) (.int 0 :: st)) : WZ l cc nL ret own lo n θ R Q σ lv pc (.ref (zf θ (2 + i)) :: st) :=
  fun _ _ _ _ _ _ _ _ _ _ _ Z hP hS hl => vk_getf (ref := "java/lang/String") Z.1 Z.2.1 (Z.2.2.2.2.2.2.2.2.2.1.2.2.2.2.1.1 i hi).2.1 hS Z.2.2.2.1 (Z.2.2.2.2.1 _ hw) (fun _ h => h) d (g _ _ _ _ _ _ _ _ _ _ _ Z hP hS hl)
theorem z_sal {i : Nat} (hi : i < 8) (d : decode cc pc = .ok (.arraylength, 1)) (g : WZ l cc nL ret own lo n θ R Q σ lv (pc + 1) (.int (Int32.ofNat (zslen.getD i 0)) :: st)) : WZ l cc nL ret own lo n θ R Q σ lv pc (.ref (zf θ (10 + i)) :: st) :=
  fun _ _ _ _ _ _ _ _ _ _ _ Z hP hS hl => va_tlen Z.1 Z.2.1 (Z.2.2.2.2.2.2.2.2.2.1.2.2.2.2.1.1 i hi).2.2.2 hS rfl d (g _ _ _ _ _ _ _ _ _ _ _ Z hP hS hl)
theorem z_sba {i : Nat} {j : Int32} (hi : i < 8) (hj : zin j (zslen.getD i 0) = true) (d : decode cc pc = .ok (.baload, 1)) (g : WZ l cc nL ret own lo n θ R Q σ lv (pc + 1) (.int (zschar i j) :: st)) : WZ l cc nL ret own lo n θ R Q σ lv pc (.int j :: .ref (zf θ (10 + i)) :: st) :=
  fun _ _ _ _ _ _ _ _ _ _ _ Z hP hS hl => va_tb Z.1 Z.2.1 (Z.2.2.2.2.2.2.2.2.2.1.2.2.2.2.1.1 i hi).2.2.2 hS (zin_i hj) rfl d (g _ _ _ _ _ _ _ _ _ _ _ Z hP hS hl)
theorem z_scmp {index : Nat} (d : decode cc pc = .ok (.getstatic index, 3)) (hw : Cond.fieldLink own index "java/lang/String" "COMPACT_STRINGS" "Z" ∈ zW0) (g : WZ l cc nL ret own lo n θ R Q σ lv (pc + 3) (.int 1 :: st)) : WZ l cc nL ret own lo n θ R Q σ lv pc st :=
  fun _ _ _ _ _ _ _ _ _ _ _ Z hP hS hl => va_gets (ref := "java/lang/String") Z.1 Z.2.1 Z.2.2.2.2.2.2.2.2.2.1.2.2.2.2.2.1 hS Z.2.2.2.1 (Z.2.2.2.2.1 _ hw) (fun _ h => h) d (g _ _ _ _ _ _ _ _ _ _ _ Z hP hS hl)
theorem z_ssio {index : Nat} (d : decode cc pc = .ok (.getstatic index, 3)) (hw : Cond.fieldLink own index "jdk/internal/util/Preconditions" "SIOOBE_FORMATTER" "Ljava/util/function/BiFunction;" ∈ zW0) (g : ∀ v : Value, v.category = 1 → WZ l cc nL ret own lo n θ R Q σ lv (pc + 3) (v :: st)) : WZ l cc nL ret own lo n θ R Q σ lv pc st :=
  fun _ _ _ _ _ _ _ _ _ _ _ Z hP hS hl => by
    rcases Z.2.2.2.2.2.2.2.2.2.1.2.2.2.2.2.2 with h | ⟨t, h⟩
    · exact va_gets (ref := "jdk/internal/util/Preconditions") Z.1 Z.2.1 h hS Z.2.2.2.1 (Z.2.2.2.2.1 _ hw) (fun _ h => h) d (g _ rfl _ _ _ _ _ _ _ _ _ _ _ Z hP hS hl)
    · exact va_gets (ref := "jdk/internal/util/Preconditions") Z.1 Z.2.1 h hS Z.2.2.2.1 (Z.2.2.2.2.1 _ hw) (fun _ h => h) d (g _ rfl _ _ _ _ _ _ _ _ _ _ _ Z hP hS hl)
theorem z_i2c {x v : Int32} (d : decode cc pc = .ok (.i2c, 1)) (hv : x.toUInt32.toUInt16.toUInt32.toInt32 = v) (g : WZ l cc nL ret own lo n θ R Q σ lv (pc + 1) (.int v :: st)) : WZ l cc nL ret own lo n θ R Q σ lv pc (.int x :: st) :=
  fun _ _ _ _ _ _ _ _ _ _ _ Z hP hS hl => lv_i2c Z.1 Z.2.1 d hv (g _ _ _ _ _ _ _ _ _ _ _ Z hP hS hl)
theorem z_tret {v : Int32} {ty : FieldType} {res : Int32 × ZM} (d : decode cc pc = .ok (.ireturn, 1)) (hb : narrow ty (.int v) = .int v) (h : some (v, σ) = some res) : WZ l cc nL (some ty) own lo n θ R (zQ mkI lo n θ res) σ lv pc [.int v] :=
  fun _ _ _ _ _ _ _ _ _ _ _ Z hP hS hl => W.zret (hlocks := Z.2.2.2.2.2.1) Z.1 Z.2.1 Z.2.2.2.2.2.2.1 hb (fun t ht hW => by
    cases h
    exact ⟨⟨rfl, by rw [ht]; exact hP, va_K.moved hW.alike Z.2.2.2.2.2.2.2.1, Z.2.2.2.2.2.2.2.2.1, zFX.warm hW (by rw [ht]; exact Z.2.2.2.2.2.2.2.2.2.1.kept hS.2.1)⟩, hS.F ht⟩) hS.2.2 d
theorem z_callT {v : Int32} {s1 : ZM} {y : MethodName} {b : ByteArray} {nM k i index : Nat} {rt : Option FieldType} {rm : Room} {st1 As : List Value} (hi : i < 8) (hM : zMet mkI l lo n θ y b nM rt rm (.ref (zf θ (2 + i)) :: As) σ (v, s1)) (F : zcfV y b nM rt k) (hw : Cond.methodLink own index y ∈ zW0) (d : decode cc pc = .ok (.invokevirtual index, 3)) (hq : "java/lang/String" = y.cls)
    (hAs : As.length = k) (hst : st1 = As.reverse ++ .ref (zf θ (2 + i)) :: st) (hcat : (st.map fun v => v.category).sum ≤ 8) (hr0 : rm.cells = 0) (hr1 : rm.slots = 0) (hR : rm.frames + 1 ≤ R.frames ∧ 8 + (nM + 11) + rm.locals ≤ R.locals)
    (g : WZ l cc nL ret own lo n θ R Q s1 lv (pc + 3) (.int v :: st)) : WZ l cc nL ret own lo n θ R Q σ lv pc st1 := by
  intro p e s m args below meth c H locs ls Z hP hS hl
  obtain ⟨⟨f1, f2, f3⟩, f4, f5⟩ := F
  have hts := Z.2.2.2.2.1
  refine z_run Z hS hl (va_runV (S := ⟨Z.1, Z.2.1, Z.2.2.1, Z.2.2.2.1, hts⟩) hM (C := y.cls) ⟨callB_of k hts (zgoodIn f1) rfl hr0 hr1 (hts _ f2) (hts _ hw) f3 hR, hts _ f4, hts _ f5⟩ ⟨zWB.blind, hq ▸ vk_recv (adK := fun i => zf θ (2 + i)) (i := i) Z.2.2.2.2.2.2.2.2.2.1.2.2.2.2.1 hi hS, fun U hU hW => ⟨rfl, z_pre Z hP hS U hU hW⟩⟩ rfl hAs hl.1 hst (lv_room hcat) d ⟨Nat.zero_le _, Nat.zero_le _⟩) g
end STRINGS
abbrev b_S_coder : ByteArray := prog_17_method_152_code
def y_S_coder : MethodName := ⟨"java/lang/String", "code\x72", "()B"⟩
theorem cf_S_coder : zcfV y_S_coder b_S_coder 1 (some .byte) 0 := ⟨⟨(q_in (List.mem_of_getElem? (i := 466) (by decide +kernel)) (by decide +kernel)), (q_in (List.mem_of_getElem? (i := 15) (by decide +kernel)) (by decide +kernel)), by decide, by decide, by decide +kernel⟩, (q_in (List.mem_of_getElem? (i := 464) (by decide +kernel)) (by decide +kernel)), (q_in (List.mem_of_getElem? (i := 465) (by decide +kernel)) (by decide +kernel))⟩
abbrev b_S_len : ByteArray := prog_17_method_54_code
def y_S_len : MethodName := ⟨"java/lang/String", "length", "()I"⟩
theorem cf_S_len : zcfV y_S_len b_S_len 1 (some .int) 0 := ⟨⟨(q_in (List.mem_of_getElem? (i := 462) (by decide +kernel)) (by decide +kernel)), (q_in (List.mem_of_getElem? (i := 15) (by decide +kernel)) (by decide +kernel)), by decide, by decide, by decide +kernel⟩, (q_in (List.mem_of_getElem? (i := 460) (by decide +kernel)) (by decide +kernel)), (q_in (List.mem_of_getElem? (i := 461) (by decide +kernel)) (by decide +kernel))⟩
abbrev b_S_lat : ByteArray := prog_17_method_154_code
def y_S_lat : MethodName := ⟨"java/lang/String", "isLatin1", "()Z"⟩
theorem cf_S_lat : zcfV y_S_lat b_S_lat 1 (some .boolean) 0 := ⟨⟨(q_in (List.mem_of_getElem? (i := 476) (by decide +kernel)) (by decide +kernel)), (q_in (List.mem_of_getElem? (i := 15) (by decide +kernel)) (by decide +kernel)), by decide, by decide, by decide +kernel⟩, (q_in (List.mem_of_getElem? (i := 474) (by decide +kernel)) (by decide +kernel)), (q_in (List.mem_of_getElem? (i := 475) (by decide +kernel)) (by decide +kernel))⟩
abbrev b_P_ck : ByteArray := prog_21_method_11_code
def y_P_ck : MethodName := ⟨"jdk/internal/util/Preconditions", "checkIndex", "(IILjava/util/function/BiFunction;)I"⟩
theorem cf_P_ck : zcfS y_P_ck b_P_ck 3 (some .int) 3 := ⟨⟨(q_in (List.mem_of_getElem? (i := 487) (by decide +kernel)) (by decide +kernel)), (q_in (List.mem_of_getElem? (i := 17) (by decide +kernel)) (by decide +kernel)), by decide, by decide, by decide +kernel⟩, (q_in (List.mem_of_getElem? (i := 486) (by decide +kernel)) (by decide +kernel))⟩
abbrev b_S_ck : ByteArray := prog_17_method_155_code
def y_S_ck : MethodName := ⟨"java/lang/String", "checkIndex", "(II)V"⟩
theorem cf_S_ck : zcfS y_S_ck b_S_ck 2 none 2 := ⟨⟨(q_in (List.mem_of_getElem? (i := 482) (by decide +kernel)) (by decide +kernel)), (q_in (List.mem_of_getElem? (i := 15) (by decide +kernel)) (by decide +kernel)), by decide, by decide, by decide +kernel⟩, (q_in (List.mem_of_getElem? (i := 481) (by decide +kernel)) (by decide +kernel))⟩
abbrev b_L_at : ByteArray := prog_18_method_2_code
def y_L_at : MethodName := ⟨"java/lang/StringLatin1", "charAt", "([BI)C"⟩
theorem cf_L_at : zcfS y_L_at b_L_at 2 (some .char) 2 := ⟨⟨(q_in (List.mem_of_getElem? (i := 479) (by decide +kernel)) (by decide +kernel)), (q_in (List.mem_of_getElem? (i := 16) (by decide +kernel)) (by decide +kernel)), by decide, by decide, by decide +kernel⟩, (q_in (List.mem_of_getElem? (i := 478) (by decide +kernel)) (by decide +kernel))⟩
abbrev b_S_at : ByteArray := prog_17_method_56_code
def y_S_at : MethodName := ⟨"java/lang/String", "charAt", "(I)C"⟩
theorem cf_S_at : zcfV y_S_at b_S_at 2 (some .char) 1 := ⟨⟨(q_in (List.mem_of_getElem? (i := 472) (by decide +kernel)) (by decide +kernel)), (q_in (List.mem_of_getElem? (i := 15) (by decide +kernel)) (by decide +kernel)), by decide, by decide, by decide +kernel⟩, (q_in (List.mem_of_getElem? (i := 470) (by decide +kernel)) (by decide +kernel)), (q_in (List.mem_of_getElem? (i := 471) (by decide +kernel)) (by decide +kernel))⟩
theorem d_S_coder_0 : decode b_S_coder 0 = .ok (.getstatic 38, 3) := by decide +kernel
theorem d_S_coder_3 : decode b_S_coder 3 = .ok (.ifCond .eq 10, 3) := by decide +kernel
theorem d_S_coder_6 : decode b_S_coder 6 = .ok (.aload_n 0, 1) := by decide +kernel
theorem d_S_coder_7 : decode b_S_coder 7 = .ok (.getfield 15, 3) := by decide +kernel
theorem d_S_coder_10 : decode b_S_coder 10 = .ok (.goto 4, 3) := by decide +kernel
theorem d_S_coder_14 : decode b_S_coder 14 = .ok (.ireturn, 1) := by decide +kernel
theorem d_S_len_0 : decode b_S_len 0 = .ok (.aload_n 0, 1) := by decide +kernel
theorem d_S_len_1 : decode b_S_len 1 = .ok (.getfield 9, 3) := by decide +kernel
theorem d_S_len_4 : decode b_S_len 4 = .ok (.arraylength, 1) := by decide +kernel
theorem d_S_len_5 : decode b_S_len 5 = .ok (.aload_n 0, 1) := by decide +kernel
theorem d_S_len_6 : decode b_S_len 6 = .ok (.invokevirtual 335, 3) := by decide +kernel
theorem d_S_len_9 : decode b_S_len 9 = .ok (.ishr, 1) := by decide +kernel
theorem d_S_len_10 : decode b_S_len 10 = .ok (.ireturn, 1) := by decide +kernel
theorem d_S_lat_0 : decode b_S_lat 0 = .ok (.getstatic 38, 3) := by decide +kernel
theorem d_S_lat_3 : decode b_S_lat 3 = .ok (.ifCond .eq 14, 3) := by decide +kernel
theorem d_S_lat_6 : decode b_S_lat 6 = .ok (.aload_n 0, 1) := by decide +kernel
theorem d_S_lat_7 : decode b_S_lat 7 = .ok (.getfield 15, 3) := by decide +kernel
theorem d_S_lat_10 : decode b_S_lat 10 = .ok (.ifCond .ne 7, 3) := by decide +kernel
theorem d_S_lat_13 : decode b_S_lat 13 = .ok (.iconst 1, 1) := by decide +kernel
theorem d_S_lat_14 : decode b_S_lat 14 = .ok (.goto 4, 3) := by decide +kernel
theorem d_S_lat_18 : decode b_S_lat 18 = .ok (.ireturn, 1) := by decide +kernel
theorem d_P_ck_0 : decode b_P_ck 0 = .ok (.iload_n 0, 1) := by decide +kernel
theorem d_P_ck_1 : decode b_P_ck 1 = .ok (.ifCond .lt 8, 3) := by decide +kernel
theorem d_P_ck_4 : decode b_P_ck 4 = .ok (.iload_n 0, 1) := by decide +kernel
theorem d_P_ck_5 : decode b_P_ck 5 = .ok (.iload_n 1, 1) := by decide +kernel
theorem d_P_ck_6 : decode b_P_ck 6 = .ok (.if_icmp .lt 10, 3) := by decide +kernel
theorem d_P_ck_16 : decode b_P_ck 16 = .ok (.iload_n 0, 1) := by decide +kernel
theorem d_P_ck_17 : decode b_P_ck 17 = .ok (.ireturn, 1) := by decide +kernel
theorem d_S_ck_0 : decode b_S_ck 0 = .ok (.iload_n 0, 1) := by decide +kernel
theorem d_S_ck_1 : decode b_S_ck 1 = .ok (.iload_n 1, 1) := by decide +kernel
theorem d_S_ck_2 : decode b_S_ck 2 = .ok (.getstatic 1053, 3) := by decide +kernel
theorem d_S_ck_5 : decode b_S_ck 5 = .ok (.invokestatic 1059, 3) := by decide +kernel
theorem d_S_ck_8 : decode b_S_ck 8 = .ok (.pop, 1) := by decide +kernel
theorem d_S_ck_9 : decode b_S_ck 9 = .ok (.return_, 1) := by decide +kernel
theorem d_L_at_0 : decode b_L_at 0 = .ok (.iload_n 1, 1) := by decide +kernel
theorem d_L_at_1 : decode b_L_at 1 = .ok (.aload_n 0, 1) := by decide +kernel
theorem d_L_at_2 : decode b_L_at 2 = .ok (.arraylength, 1) := by decide +kernel
theorem d_L_at_3 : decode b_L_at 3 = .ok (.invokestatic 9, 3) := by decide +kernel
theorem d_L_at_6 : decode b_L_at 6 = .ok (.aload_n 0, 1) := by decide +kernel
theorem d_L_at_7 : decode b_L_at 7 = .ok (.iload_n 1, 1) := by decide +kernel
theorem d_L_at_8 : decode b_L_at 8 = .ok (.baload, 1) := by decide +kernel
theorem d_L_at_9 : decode b_L_at 9 = .ok (.sipush 255, 3) := by decide +kernel
theorem d_L_at_12 : decode b_L_at 12 = .ok (.iand, 1) := by decide +kernel
theorem d_L_at_13 : decode b_L_at 13 = .ok (.i2c, 1) := by decide +kernel
theorem d_L_at_14 : decode b_L_at 14 = .ok (.ireturn, 1) := by decide +kernel
theorem d_S_at_0 : decode b_S_at 0 = .ok (.aload_n 0, 1) := by decide +kernel
theorem d_S_at_1 : decode b_S_at 1 = .ok (.invokevirtual 492, 3) := by decide +kernel
theorem d_S_at_4 : decode b_S_at 4 = .ok (.ifCond .eq 12, 3) := by decide +kernel
theorem d_S_at_7 : decode b_S_at 7 = .ok (.aload_n 0, 1) := by decide +kernel
theorem d_S_at_8 : decode b_S_at 8 = .ok (.getfield 9, 3) := by decide +kernel
theorem d_S_at_11 : decode b_S_at 11 = .ok (.iload_n 1, 1) := by decide +kernel
theorem d_S_at_12 : decode b_S_at 12 = .ok (.invokestatic 495, 3) := by decide +kernel
theorem d_S_at_15 : decode b_S_at 15 = .ok (.ireturn, 1) := by decide +kernel
theorem c_S_coder (l : Launch) {lo n : Nat} (hn : lo + n ≤ 143) (θ : ZT) {i : Nat} (hi : i < 8) {σ : ZM} : zMet mkI l lo n θ y_S_coder b_S_coder 1 (some .byte) (zrm 1 60) [.ref (zf θ (2 + i))] σ ((0 : Int32), σ) := by
  refine z_met (lv := [(0, .ref (zf θ (2 + i)))]) (by decide +kernel) rfl (Nat.le_of_ble_eq_true rfl) hn ?_
  refine z_scmp d_S_coder_0 (q_in (List.mem_of_getElem? (i := 467) (by decide +kernel)) (by decide +kernel)) ?_
  refine z_if_eq (tgt := 13) d_S_coder_3 (by decide) (fun c => absurd c (by decide)) (fun _ => ?_)
  refine z_aload_n 0 d_S_coder_6 rfl rfl ?_
  refine z_scod hi d_S_coder_7 (q_in (List.mem_of_getElem? (i := 1321) (by decide +kernel)) (by decide +kernel)) ?_
  refine z_goto (tgt := 14) d_S_coder_10 (by decide) ?_
  exact z_tret d_S_coder_14 rfl rfl
theorem c_S_len (l : Launch) {lo n : Nat} (hn : lo + n ≤ 143) (θ : ZT) {i : Nat} (hi : i < 8) {σ : ZM} : zMet mkI l lo n θ y_S_len b_S_len 1 (some .int) (zrm 2 90) [.ref (zf θ (2 + i))] σ (Int32.ofNat (zslen.getD i 0), σ) := by
  refine z_met (lv := [(0, .ref (zf θ (2 + i)))]) (by decide +kernel) rfl (Nat.le_of_ble_eq_true rfl) hn ?_
  refine z_aload_n 0 d_S_len_0 rfl rfl ?_
  refine z_sval hi d_S_len_1 (q_in (List.mem_of_getElem? (i := 1320) (by decide +kernel)) (by decide +kernel)) ?_
  refine z_sal hi d_S_len_4 ?_
  refine z_aload_n 0 d_S_len_5 rfl rfl ?_
  refine z_callT (As := []) hi (c_S_coder l hn θ hi) cf_S_coder (q_in (List.mem_of_getElem? (i := 463) (by decide +kernel)) (by decide +kernel)) d_S_len_6 rfl rfl rfl (Nat.le_of_ble_eq_true rfl) rfl rfl ⟨Nat.le_of_ble_eq_true rfl, Nat.le_of_ble_eq_true rfl⟩ ?_
  refine z_ishr d_S_len_9 ?_
  exact z_iret d_S_len_10 (by have e : ∀ i, i < 8 → Int32.ofNat (zslen.getD i 0) >>> ((0 : Int32) &&& 31) = Int32.ofNat (zslen.getD i 0) := by decide +kernel
                              rw [e i hi])
theorem c_S_lat (l : Launch) {lo n : Nat} (hn : lo + n ≤ 143) (θ : ZT) {i : Nat} (hi : i < 8) {σ : ZM} : zMet mkI l lo n θ y_S_lat b_S_lat 1 (some .boolean) (zrm 1 60) [.ref (zf θ (2 + i))] σ ((1 : Int32), σ) := by
  refine z_met (lv := [(0, .ref (zf θ (2 + i)))]) (by decide +kernel) rfl (Nat.le_of_ble_eq_true rfl) hn ?_
  refine z_scmp d_S_lat_0 (q_in (List.mem_of_getElem? (i := 467) (by decide +kernel)) (by decide +kernel)) ?_
  refine z_if_eq (tgt := 17) d_S_lat_3 (by decide) (fun c => absurd c (by decide)) (fun _ => ?_)
  refine z_aload_n 0 d_S_lat_6 rfl rfl ?_
  refine z_scod hi d_S_lat_7 (q_in (List.mem_of_getElem? (i := 1321) (by decide +kernel)) (by decide +kernel)) ?_
  refine z_if_ne (tgt := 17) d_S_lat_10 (by decide) (fun c => absurd rfl c) (fun _ => ?_)
  refine z_iconst (v := 1) d_S_lat_13 (by decide) ?_
  refine z_goto (tgt := 18) d_S_lat_14 (by decide) ?_
  exact z_tret d_S_lat_18 rfl rfl
theorem c_P_ck (l : Launch) {lo n : Nat} (hn : lo + n ≤ 143) (θ : ZT) {x y : Int32} {v : Value} (hv : v.category = 1) (h0 : ¬ x < 0) (h1 : x < y) {σ : ZM} : zMet mkI l lo n θ y_P_ck b_P_ck 3 (some .int) (zrm 1 60) [.int x, .int y, v] σ (x, σ) := by
  refine z_met (lv := [(0, .int x), (1, .int y), (2, v)]) (by decide +kernel) (by simp [lv_args, Value.category]) (by cases v <;> first | exact Nat.le_of_ble_eq_true rfl | exact absurd hv (by decide)) hn ?_
  refine z_iload_n 0 d_P_ck_0 rfl rfl ?_
  refine z_if_lt (tgt := 9) d_P_ck_1 (by decide) (fun c => absurd c h0) (fun _ => ?_)
  refine z_iload_n 0 d_P_ck_4 rfl rfl ?_
  refine z_iload_n 1 d_P_ck_5 rfl rfl ?_
  refine z_icmp_lt (tgt := 16) d_P_ck_6 (by decide) (fun _ => ?_) (fun c => absurd h1 c)
  refine z_iload_n 0 d_P_ck_16 rfl rfl ?_
  exact z_iret d_P_ck_17 rfl
theorem c_S_ck (l : Launch) {lo n : Nat} (hn : lo + n ≤ 143) (θ : ZT) {x y : Int32} (h0 : ¬ x < 0) (h1 : x < y) {σ : ZM} : zMet mkV l lo n θ y_S_ck b_S_ck 2 none (zrm 2 90) [.int x, .int y] σ ((), σ) := by
  refine z_met (lv := [(0, .int x), (1, .int y)]) (by decide +kernel) rfl (Nat.le_of_ble_eq_true rfl) hn ?_
  refine z_iload_n 0 d_S_ck_0 rfl rfl ?_
  refine z_iload_n 1 d_S_ck_1 rfl rfl ?_
  refine z_ssio d_S_ck_2 (q_in (List.mem_of_getElem? (i := 483) (by decide +kernel)) (by decide +kernel)) (fun v hv => ?_)
  refine w_callS (As := [.int x, .int y, v]) (c_P_ck l hn θ hv h0 h1) cf_P_ck (q_in (List.mem_of_getElem? (i := 485) (by decide +kernel)) (by decide +kernel)) d_S_ck_5 rfl rfl rfl (Nat.le_of_ble_eq_true rfl) rfl rfl ⟨Nat.le_of_ble_eq_true rfl, Nat.le_of_ble_eq_true rfl⟩ ?_
  refine z_pop d_S_ck_8 rfl ?_
  exact z_vret d_S_ck_9 rfl
theorem zschar_ok : ∀ i, i < 8 → ∀ k, k < 5 → (zsraw i k &&& 255).toUInt32.toUInt16.toUInt32.toInt32 = zsraw i k ∧ narrow .char (.int (zsraw i k)) = .int (zsraw i k) := by decide +kernel
theorem zslen_5 : ∀ i, i < 8 → zslen.getD i 0 ≤ 5 := by decide +kernel
theorem zin_len {i : Nat} {j : Int32} (hi : i < 8) (hj : zin j (zslen.getD i 0) = true) : ¬ j < 0 ∧ j < Int32.ofNat (zslen.getD i 0) ∧ j.toNatClampNeg < 5 := by
  simp only [zin, Bool.and_eq_true, decide_eq_true_eq] at hj
  have h5 := zslen_5 i hi
  have h0 : ¬ j < 0 := Int32.not_lt.mpr hj.1
  refine ⟨h0, ?_, by omega⟩
  obtain ⟨k, hk, rfl⟩ := nI_of h0
  rw [nI_clamp hk] at hj
  exact nI_lt hj.2 (by omega)
theorem c_L_at (l : Launch) {lo n : Nat} (hn : lo + n ≤ 143) (θ : ZT) {i : Nat} {j : Int32} (hi : i < 8) (hj : zin j (zslen.getD i 0) = true) {σ : ZM} : zMet mkI l lo n θ y_L_at b_L_at 2 (some .char) (zrm 3 120) [.ref (zf θ (10 + i)), .int j] σ (zschar i j, σ) := by
  obtain ⟨h0, h1, h5⟩ := zin_len hi hj
  refine z_met (lv := [(0, .ref (zf θ (10 + i))), (1, .int j)]) (by decide +kernel) rfl (Nat.le_of_ble_eq_true rfl) hn ?_
  refine z_iload_n 1 d_L_at_0 rfl rfl ?_
  refine z_aload_n 0 d_L_at_1 rfl rfl ?_
  refine z_sal hi d_L_at_2 ?_
  refine w_callS (As := [.int j, .int (Int32.ofNat (zslen.getD i 0))]) (st2 := []) (c_S_ck l hn θ h0 h1) cf_S_ck (q_in (List.mem_of_getElem? (i := 480) (by decide +kernel)) (by decide +kernel)) d_L_at_3 rfl rfl rfl (Nat.le_of_ble_eq_true rfl) rfl rfl ⟨Nat.le_of_ble_eq_true rfl, Nat.le_of_ble_eq_true rfl⟩ ?_
  refine z_aload_n 0 d_L_at_6 rfl rfl ?_
  refine z_iload_n 1 d_L_at_7 rfl rfl ?_
  refine z_sba hi hj d_L_at_8 ?_
  refine z_sipush (v := 255) d_L_at_9 (by decide) ?_
  refine z_iand d_L_at_12 ?_
  refine z_i2c (v := zschar i j) d_L_at_13 (zschar_ok i hi _ h5).1 ?_
  exact z_tret d_L_at_14 (zschar_ok i hi _ h5).2 rfl
theorem c_S_at (l : Launch) {lo n : Nat} (hn : lo + n ≤ 143) (θ : ZT) {i : Nat} {j : Int32} (hi : i < 8) (hj : zin j (zslen.getD i 0) = true) {σ : ZM} : zMet mkI l lo n θ y_S_at b_S_at 2 (some .char) (zrm 4 150) [.ref (zf θ (2 + i)), .int j] σ (zschar i j, σ) := by
  obtain ⟨h0, h1, h5⟩ := zin_len hi hj
  refine z_met (lv := [(0, .ref (zf θ (2 + i))), (1, .int j)]) (by decide +kernel) rfl (Nat.le_of_ble_eq_true rfl) hn ?_
  refine z_aload_n 0 d_S_at_0 rfl rfl ?_
  refine z_callT (As := []) hi (c_S_lat l hn θ hi) cf_S_lat (q_in (List.mem_of_getElem? (i := 473) (by decide +kernel)) (by decide +kernel)) d_S_at_1 rfl rfl rfl (Nat.le_of_ble_eq_true rfl) rfl rfl ⟨Nat.le_of_ble_eq_true rfl, Nat.le_of_ble_eq_true rfl⟩ ?_
  refine z_if_eq (tgt := 16) d_S_at_4 (by decide) (fun c => absurd c (by decide)) (fun _ => ?_)
  refine z_aload_n 0 d_S_at_7 rfl rfl ?_
  refine z_sval hi d_S_at_8 (q_in (List.mem_of_getElem? (i := 1320) (by decide +kernel)) (by decide +kernel)) ?_
  refine z_iload_n 1 d_S_at_11 rfl rfl ?_
  refine w_callS (As := [.ref (zf θ (10 + i)), .int j]) (c_L_at l hn θ hi hj) cf_L_at (q_in (List.mem_of_getElem? (i := 477) (by decide +kernel)) (by decide +kernel)) d_S_at_12 rfl rfl rfl (Nat.le_of_ble_eq_true rfl) rfl rfl ⟨Nat.le_of_ble_eq_true rfl, Nat.le_of_ble_eq_true rfl⟩ ?_
  exact z_tret d_S_at_15 (zschar_ok i hi _ h5).2 rfl
section STRINGS2
variable {l : Launch} {cc : ByteArray} {nL : Nat} {ret : Option FieldType} {own : String} {lo n : Nat} {θ : ZT} {R : Room} {Q : Array Value → State → Outcome → State → Prop} {σ : ZM} {lv : List (Nat × Value)} {pc : Nat} {st : List Value}
theorem w_slen {i index : Nat} (hi : decide (i < 8) = true) (d : decode cc pc = .ok (.invokevirtual index, 3)) (hw : Cond.methodLink own index ⟨"java/lang/String", "length", "()I"⟩ ∈ zW0) (hn : lo + n ≤ 143) (hR : 4 ≤ R.frames ∧ 150 ≤ R.locals) (hcat : (st.map fun v => v.category).sum ≤ 8) (g : WZ l cc nL ret own lo n θ R Q σ lv (pc + 3) (.int (Int32.ofNat (zslen.getD i 0)) :: st)) : WZ l cc nL ret own lo n θ R Q σ lv pc (.ref (zf θ (2 + i)) :: st) :=
  z_callT (As := []) (of_decide_eq_true hi) (c_S_len l hn θ (of_decide_eq_true hi)) cf_S_len hw d rfl rfl rfl hcat rfl rfl ⟨by have := hR.1; show (3 : Nat) ≤ _; omega, by have := hR.2; show (8 + (1 + 11) + 90 : Nat) ≤ _; omega⟩ g
theorem w_schar {i index : Nat} {j : Int32} (hi : decide (i < 8) = true) (hj : zin j (zslen.getD i 0) = true) (d : decode cc pc = .ok (.invokevirtual index, 3)) (hw : Cond.methodLink own index ⟨"java/lang/String", "charAt", "(I)C"⟩ ∈ zW0) (hn : lo + n ≤ 143) (hR : 6 ≤ R.frames ∧ 300 ≤ R.locals) (hcat : (st.map fun v => v.category).sum ≤ 8) (g : WZ l cc nL ret own lo n θ R Q σ lv (pc + 3) (.int (zschar i j) :: st)) : WZ l cc nL ret own lo n θ R Q σ lv pc (.int j :: .ref (zf θ (2 + i)) :: st) :=
  z_callT (As := [.int j]) (of_decide_eq_true hi) (c_S_at l hn θ (of_decide_eq_true hi) hj) cf_S_at hw d rfl rfl rfl hcat rfl rfl ⟨by have := hR.1; show (5 : Nat) ≤ _; omega, by have := hR.2; show (8 + (2 + 11) + 150 : Nat) ≤ _; omega⟩ g
theorem w_copyl {o0 o1 N0 N1 index : Nat} {sp dp k : Int32} (h0 : zR lo n o0 2 N0 = true) (h1 : zR lo n o1 2 N1 = true) (hk : zcpok sp dp k N0 N1 = true) (d : decode cc pc = .ok (.invokestatic index, 3)) (hw : Cond.methodLink own index arraycopyName ∈ zW0) (hf : 1 ≤ R.frames ∧ 100 ≤ R.locals) (hlc : (st.map fun v => v.category).sum ≤ 8)
    (g : WZ l cc nL ret own lo n θ R Q (zcpL σ o0 o1 sp.toNatClampNeg dp.toNatClampNeg k.toNatClampNeg) lv (pc + 3) st) : WZ l cc nL ret own lo n θ R Q σ lv pc (.int k :: .int dp :: .ref (za θ o1) :: .int sp :: .ref (za θ o0) :: st) :=
  fun _ _ _ _ _ _ _ _ _ _ _ Z hP hS hl => by
    simp only [zcpok, Bool.and_eq_true, decide_eq_true_eq] at hk
    have a0 := zR_i h0
    have a1 := zR_i h1
    refine va_copyl (D := zD θ) (cl := zcl) (ty := .long) (c0 := zA θ 2) (c1 := zA θ 2) (f := σ.2.1 o0) (g := σ.2.1 o1) (n0 := N0) (n1 := N1) Z.1 Z.2.1 (Z.2.2.1.trans hl.1.symm) Z.2.2.2.1 (Z.2.2.2.2.1 _ hw) (Z.2.2.2.2.1 _ (q_in (List.mem_of_getElem? (i := 867) (by decide +kernel)) (by decide +kernel))) (Z.2.2.2.2.1 _ (q_in (List.mem_of_getElem? (i := 866) (by decide +kernel)) (by decide +kernel))) (Z.2.2.2.2.1 _ (q_in (List.mem_of_getElem? (i := 20) (by decide +kernel)) (by decide +kernel))) Z.2.2.2.2.2.2.2.1 hP (zwd_D Z.2.2.2.2.2.2.2.2.1 Z.2.2.2.2.2.2.2.2.2.2) hS (o0 - lo) (o1 - lo) 2 2 (by rw [zwd_at a0.2.2.1 a0.2.2.2, zcell_arr a0.1 a0.2.1 rfl]; rfl) (by rw [zwd_at a1.2.2.1 a1.2.2.2, zcell_arr a1.1 a1.2.1 rfl]; rfl) rfl rfl rfl
      (Int32.not_lt.mpr hk.1) (Int32.not_lt.mpr hk.2.1) (Int32.not_lt.mpr hk.2.2.1) hk.2.2.2.1 hk.2.2.2.2 (fun _ _ => rfl) hf.1 ?_ d (fun H1 locs1 hP1 _ hS1 => g _ _ _ _ _ _ _ _ _ _ _ Z ?_ hS1 hl)
    · have e : nativeFrameWords "java/lang/System" "arraycopy" 5 + 11 ≤ 92 := by decide +kernel
      omega
    · have e : (zcpL σ o0 o1 sp.toNatClampNeg dp.toNatClampNeg k.toNatClampNeg).2.1 o1 = va_cpy (σ.2.1 o0) (σ.2.1 o1) sp.toNatClampNeg dp.toNatClampNeg k.toNatClampNeg := if_pos rfl
      rw [← zwd_set (σ' := zcpL σ o0 o1 sp.toNatClampNeg dp.toNatClampNeg k.toNatClampNeg) a1.2.2.1 a1.2.2.2 (zcell_arr a1.1 a1.2.1 (by rw [e])) zcell_cpL]
      exact hP1
end STRINGS2
end
