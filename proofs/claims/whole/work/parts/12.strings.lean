/-! texts: String.length and String.charAt of the constants; System.arraycopy of rows of longs -/
section STRINGS
variable {l : Launch} {cc : ByteArray} {nL : Nat} {ret : Option FieldType} {own : String} {lo n : Nat} {θ : ZT} {R : Room} {Q : Array Value → State → Outcome → State → Prop} {σ : ZM} {lv : List (Nat × Value)} {pc : Nat} {st : List Value}
theorem z_lds0 (ho : own = "BakedBefore$Reade\x72") (d : decode cc pc = .ok (.ldc 96, 2)) (g : WZ l cc nL ret own lo n θ R Q σ lv (pc + 2) (.ref (zf θ (2 + 0)) :: st)) : WZ l cc nL ret own lo n θ R Q σ lv pc st := by
  subst ho
  exact fun _ _ _ _ _ _ _ _ _ _ _ Z hP hS hl => va_ldcS Z.1 Z.2.1 Z.2.2.2.1 Z.2.2.2.2.2.2.2.2.2.1.2.2.2.1.1 d (g _ _ _ _ _ _ _ _ _ _ _ Z hP hS hl)
theorem z_lds1 (ho : own = "BakedBefore$Reade\x72") (d : decode cc pc = .ok (.ldc 98, 2)) (g : WZ l cc nL ret own lo n θ R Q σ lv (pc + 2) (.ref (zf θ (2 + 1)) :: st)) : WZ l cc nL ret own lo n θ R Q σ lv pc st := by
  subst ho
  exact fun _ _ _ _ _ _ _ _ _ _ _ Z hP hS hl => va_ldcS Z.1 Z.2.1 Z.2.2.2.1 Z.2.2.2.2.2.2.2.2.2.1.2.2.2.1.2.1 d (g _ _ _ _ _ _ _ _ _ _ _ Z hP hS hl)
theorem z_lds2 (ho : own = "BakedBefore$Reade\x72") (d : decode cc pc = .ok (.ldc 100, 2)) (g : WZ l cc nL ret own lo n θ R Q σ lv (pc + 2) (.ref (zf θ (2 + 2)) :: st)) : WZ l cc nL ret own lo n θ R Q σ lv pc st := by
  subst ho
  exact fun _ _ _ _ _ _ _ _ _ _ _ Z hP hS hl => va_ldcS Z.1 Z.2.1 Z.2.2.2.1 Z.2.2.2.2.2.2.2.2.2.1.2.2.2.1.2.2.1 d (g _ _ _ _ _ _ _ _ _ _ _ Z hP hS hl)
theorem z_lds3 (ho : own = "BakedBefore$Reade\x72") (d : decode cc pc = .ok (.ldc 102, 2)) (g : WZ l cc nL ret own lo n θ R Q σ lv (pc + 2) (.ref (zf θ (2 + 3)) :: st)) : WZ l cc nL ret own lo n θ R Q σ lv pc st := by
  subst ho
  exact fun _ _ _ _ _ _ _ _ _ _ _ Z hP hS hl => va_ldcS Z.1 Z.2.1 Z.2.2.2.1 Z.2.2.2.2.2.2.2.2.2.1.2.2.2.1.2.2.2.1 d (g _ _ _ _ _ _ _ _ _ _ _ Z hP hS hl)
theorem z_lds4 (ho : own = "BakedBeforeModel") (d : decode cc pc = .ok (.ldc 139, 2)) (g : WZ l cc nL ret own lo n θ R Q σ lv (pc + 2) (.ref (zf θ (2 + 4)) :: st)) : WZ l cc nL ret own lo n θ R Q σ lv pc st := by
  subst ho
  exact fun _ _ _ _ _ _ _ _ _ _ _ Z hP hS hl => va_ldcS Z.1 Z.2.1 Z.2.2.2.1 Z.2.2.2.2.2.2.2.2.2.1.2.2.2.1.2.2.2.2.1 d (g _ _ _ _ _ _ _ _ _ _ _ Z hP hS hl)
theorem z_lds5 (ho : own = "BakedBeforeModel") (d : decode cc pc = .ok (.ldc 141, 2)) (g : WZ l cc nL ret own lo n θ R Q σ lv (pc + 2) (.ref (zf θ (2 + 5)) :: st)) : WZ l cc nL ret own lo n θ R Q σ lv pc st := by
  subst ho
  exact fun _ _ _ _ _ _ _ _ _ _ _ Z hP hS hl => va_ldcS Z.1 Z.2.1 Z.2.2.2.1 Z.2.2.2.2.2.2.2.2.2.1.2.2.2.1.2.2.2.2.2.1 d (g _ _ _ _ _ _ _ _ _ _ _ Z hP hS hl)
theorem z_lds6 (ho : own = "BakedBeforeModel") (d : decode cc pc = .ok (.ldc 143, 2)) (g : WZ l cc nL ret own lo n θ R Q σ lv (pc + 2) (.ref (zf θ (2 + 6)) :: st)) : WZ l cc nL ret own lo n θ R Q σ lv pc st := by
  subst ho
  exact fun _ _ _ _ _ _ _ _ _ _ _ Z hP hS hl => va_ldcS Z.1 Z.2.1 Z.2.2.2.1 Z.2.2.2.2.2.2.2.2.2.1.2.2.2.1.2.2.2.2.2.2.1 d (g _ _ _ _ _ _ _ _ _ _ _ Z hP hS hl)
theorem z_lds7 (ho : own = "BakedBeforeModel") (d : decode cc pc = .ok (.ldc 145, 2)) (g : WZ l cc nL ret own lo n θ R Q σ lv (pc + 2) (.ref (zf θ (2 + 7)) :: st)) : WZ l cc nL ret own lo n θ R Q σ lv pc st := by
  subst ho
  exact fun _ _ _ _ _ _ _ _ _ _ _ Z hP hS hl => va_ldcS Z.1 Z.2.1 Z.2.2.2.1 Z.2.2.2.2.2.2.2.2.2.1.2.2.2.1.2.2.2.2.2.2.2 d (g _ _ _ _ _ _ _ _ _ _ _ Z hP hS hl)
theorem z_sval {i index : Nat} (hi : i < 8) (d : decode cc pc = .ok (.getfield index, 3)) (hw : Cond.fieldLink own index "java/lang/String" "value" "[B" ∈ zW0) (g : WZ l cc nL ret own lo n θ R Q σ lv (pc + 3) (.ref (zf θ (10 + i)) :: st)) : WZ l cc nL ret own lo n θ R Q σ lv pc (.ref (zf θ (2 + i)) :: st) :=
  fun _ _ _ _ _ _ _ _ _ _ _ Z hP hS hl => vk_getf (ref := "java/lang/String") Z.1 Z.2.1 (Z.2.2.2.2.2.2.2.2.2.1.2.2.2.2.1.1 i hi).2.2.1 hS Z.2.2.2.1 (Z.2.2.2.2.1 _ hw) (fun _ h => h) d (g _ _ _ _ _ _ _ _ _ _ _ Z hP hS hl)
theorem z_scod {i index : Nat} (hi : i < 8) (d : decode cc pc = .ok (.getfield index, 3)) (hw : Cond.fieldLink own index "java/lang/String" "code\x72" "B" ∈ zW0) (g : WZ l cc nL ret own lo n θ R Q σ lv (pc + 3) (.int 0 :: st)) : WZ l cc nL ret own lo n θ R Q σ lv pc (.ref (zf θ (2 + i)) :: st) :=
  fun _ _ _ _ _ _ _ _ _ _ _ Z hP hS hl => vk_getf (ref := "java/lang/String") Z.1 Z.2.1 (Z.2.2.2.2.2.2.2.2.2.1.2.2.2.2.1.1 i hi).2.1 hS Z.2.2.2.1 (Z.2.2.2.2.1 _ hw) (fun _ h => h) d (g _ _ _ _ _ _ _ _ _ _ _ Z hP hS hl)
theorem z_sal {i : Nat} (hi : i < 8) (d : decode cc pc = .ok (.arraylength, 1)) (g : WZ l cc nL ret own lo n θ R Q σ lv (pc + 1) (.int (Int32.ofNat (zslen.getD i 0)) :: st)) : WZ l cc nL ret own lo n θ R Q σ lv pc (.ref (zf θ (10 + i)) :: st) :=
  fun _ _ _ _ _ _ _ _ _ _ _ Z hP hS hl => va_tlen Z.1 Z.2.1 (Z.2.2.2.2.2.2.2.2.2.1.2.2.2.2.1.1 i hi).2.2.2 hS rfl d (g _ _ _ _ _ _ _ _ _ _ _ Z hP hS hl)
theorem z_sba {i : Nat} {j : Int32} (hi : i < 8) (hj : zin j (zslen.getD i 0) = true) (d : decode cc pc = .ok (.baload, 1)) (g : WZ l cc nL ret own lo n θ R Q σ lv (pc + 1) (.int (zschar i j) :: st)) : WZ l cc nL ret own lo n θ R Q σ lv pc (.int j :: .ref (zf θ (10 + i)) :: st) :=
  fun _ _ _ _ _ _ _ _ _ _ _ Z hP hS hl => va_tb Z.1 Z.2.1 (Z.2.2.2.2.2.2.2.2.2.1.2.2.2.2.1.1 i hi).2.2.2 hS (zin_i hj) rfl d (g _ _ _ _ _ _ _ _ _ _ _ Z hP hS hl)
theorem z_scmp {index : Nat} (d : decode cc pc = .ok (.getstatic index, 3)) (hw : Cond.fieldLink own index "java/lang/String" "COMPACT_STRINGS" "Z" ∈ zW0) (g : WZ l cc nL ret own lo n θ R Q σ lv (pc + 3) (.int 1 :: st)) : WZ l cc nL ret own lo n θ R Q σ lv pc st :=
  fun _ _ _ _ _ _ _ _ _ _ _ Z hP hS hl => va_gets (ref := "java/lang/String") Z.1 Z.2.1 Z.2.2.2.2.2.2.2.2.2.1.2.2.2.2.2.1 hS Z.2.2.2.1 (Z.2.2.2.2.1 _ hw) (fun _ h => h) d (g _ _ _ _ _ _ _ _ _ _ _ Z hP hS hl)
theorem z_ssio {index : Nat} (d : decode cc pc = .ok (.getstatic index, 3)) (hw : Cond.fieldLink own index "jdk/internal/util/Preconditions" "SIOOBE_FORMATTER" "Ljava/util/function/BiFunction;" ∈ zW0) (g : ∀ v : Value, v.category = 1 → WZ l cc nL ret own lo n θ R Q σ lv (pc + 3) (v :: st)) : WZ l cc nL ret own lo n θ R Q σ lv pc st :=
  fun _ _ _ _ _ _ _ _ _ _ _ Z hP hS hl => by
    rcases Z.2.2.2.2.2.2.2.2.2.1.2.2.2.2.2.2 with h | ⟨t, h⟩
    · exact va_gets (ref := "jdk/internal/util/Preconditions") Z.1 Z.2.1 h hS Z.2.2.2.1 (Z.2.2.2.2.1 _ hw) (fun _ h => h) d (g _ rfl _ _ _ _ _ _ _ _ _ _ _ Z hP hS hl)
    · exact va_gets (ref := "jdk/internal/util/Preconditions") Z.1 Z.2.1 h hS Z.2.2.2.1 (Z.2.2.2.2.1 _ hw) (fun _ h => h) d (g _ rfl _ _ _ _ _ _ _ _ _ _ _ Z hP hS hl)
theorem z_i2c {x v : Int32} (d : decode cc pc = .ok (.i2c, 1)) (hv : x.toUInt32.toUInt16.toUInt32.toInt32 = v) (g : WZ l cc nL ret own lo n θ R Q σ lv (pc + 1) (.int v :: st)) : WZ l cc nL ret own lo n θ R Q σ lv pc (.int x :: st) :=
  fun _ _ _ _ _ _ _ _ _ _ _ Z hP hS hl => lv_i2c Z.1 Z.2.1 d hv (g _ _ _ _ _ _ _ _ _ _ _ Z hP hS hl)
theorem z_tret {v : Int32} {ty : FieldType} {res : Int32 × ZM} (d : decode cc pc = .ok (.ireturn, 1)) (hb : narrow ty (.int v) = .int v) (h : some (v, σ) = some res) : WZ l cc nL (some ty) own lo n θ R (zQ mkI lo n θ res) σ lv pc [.int v] :=
  fun _ _ _ _ _ _ _ _ _ _ _ Z hP hS hl => W.zret (hlocks := Z.2.2.2.2.2.1) Z.1 Z.2.1 Z.2.2.2.2.2.2.1 hb (fun t ht hW => by
    cases h
    exact ⟨⟨rfl, by rw [ht]; exact hP, va_K.moved hW.alike Z.2.2.2.2.2.2.2.1, Z.2.2.2.2.2.2.2.2.1, zFX.warm hW (by rw [ht]; exact Z.2.2.2.2.2.2.2.2.2.1.kept hS.2.1)⟩, hS.F ht⟩) hS.2.2 d
theorem z_callT {v : Int32} {s1 : ZM} {y : MethodName} {b : ByteArray} {nM k i index : Nat} {rt : Option FieldType} {rm : Room} {st1 As : List Value} (hi : i < 8) (hM : zMet mkI l lo n θ y b nM rt rm (.ref (zf θ (2 + i)) :: As) σ (v, s1)) (F : zcfV y b nM rt k) (hw : Cond.methodLink own index y ∈ zW0) (d : decode cc pc = .ok (.invokevirtual index, 3)) (hq : "java/lang/String" = y.cls)
    (hAs : As.length = k) (hst : st1 = As.reverse ++ .ref (zf θ (2 + i)) :: st) (hcat : (st.map fun v => v.category).sum ≤ 8) (hr0 : rm.cells = 0) (hr1 : rm.slots = 0) (hR : rm.frames + 1 ≤ R.frames ∧ 8 + (nM + 11) + rm.locals ≤ R.locals)
    (g : WZ l cc nL ret own lo n θ R Q s1 lv (pc + 3) (.int v :: st)) : WZ l cc nL ret own lo n θ R Q σ lv pc st1 := by
  intro p e s m args below meth c H locs ls Z hP hS hl
  obtain ⟨⟨f1, f2, f3⟩, f4, f5⟩ := F
  have hts := Z.2.2.2.2.1
  refine z_run Z hS hl (va_runV (S := ⟨Z.1, Z.2.1, Z.2.2.1, Z.2.2.2.1, hts⟩) hM (C := y.cls) ⟨callB_of k hts (zgoodIn f1) rfl hr0 hr1 (hts _ f2) (hts _ hw) f3 hR, hts _ f4, hts _ f5⟩ ⟨zWB.blind, hq ▸ vk_recv (adK := fun i => zf θ (2 + i)) (i := i) Z.2.2.2.2.2.2.2.2.2.1.2.2.2.2.1 hi hS, fun U hU hW => ⟨rfl, z_pre Z hP hS U hU hW⟩⟩ rfl hAs hl.1 hst (lv_room hcat) d ⟨Nat.zero_le _, Nat.zero_le _⟩) g
end STRINGS
abbrev b_S_coder : ByteArray := prog_17_method_152_code
def y_S_coder : MethodName := ⟨"java/lang/String", "code\x72", "()B"⟩
theorem cf_S_coder : zcfV y_S_coder b_S_coder 1 (some .byte) 0 := ⟨⟨(q_in (List.mem_of_getElem? (i := 466) (by decide +kernel)) (by decide +kernel)), (q_in (List.mem_of_getElem? (i := 15) (by decide +kernel)) (by decide +kernel)), by decide, by decide, by decide +kernel⟩, (q_in (List.mem_of_getElem? (i := 464) (by decide +kernel)) (by decide +kernel)), (q_in (List.mem_of_getElem? (i := 465) (by decide +kernel)) (by decide +kernel))⟩
abbrev b_S_len : ByteArray := prog_17_method_54_code
def y_S_len : MethodName := ⟨"java/lang/String", "length", "()I"⟩
theorem cf_S_len : zcfV y_S_len b_S_len 1 (some .int) 0 := ⟨⟨(q_in (List.mem_of_getElem? (i := 462) (by decide +kernel)) (by decide +kernel)), (q_in (List.mem_of_getElem? (i := 15) (by decide +kernel)) (by decide +kernel)), by decide, by decide, by decide +kernel⟩, (q_in (List.mem_of_getElem? (i := 460) (by decide +kernel)) (by decide +kernel)), (q_in (List.mem_of_getElem? (i := 461) (by decide +kernel)) (by decide +kernel))⟩
abbrev b_S_lat : ByteArray := prog_17_method_154_code
def y_S_lat : MethodName := ⟨"java/lang/String", "isLatin1", "()Z"⟩
theorem cf_S_lat : zcfV y_S_lat b_S_lat 1 (some .boolean) 0 := ⟨⟨(q_in (List.mem_of_getElem? (i := 476) (by decide +kernel)) (by decide +kernel)), (q_in (List.mem_of_getElem? (i := 15) (by decide +kernel)) (by decide +kernel)), by decide, by decide, by decide +kernel⟩, (q_in (List.mem_of_getElem? (i := 474) (by decide +kernel)) (by decide +kernel)), (q_in (List.mem_of_getElem? (i := 475) (by decide +kernel)) (by decide +kernel))⟩
abbrev b_P_ck : ByteArray := prog_21_method_11_code
def y_P_ck : MethodName := ⟨"jdk/internal/util/Preconditions", "checkIndex", "(IILjava/util/function/BiFunction;)I"⟩
theorem cf_P_ck : zcfS y_P_ck b_P_ck 3 (some .int) 3 := ⟨⟨(q_in (List.mem_of_getElem? (i := 487) (by decide +kernel)) (by decide +kernel)), (q_in (List.mem_of_getElem? (i := 17) (by decide +kernel)) (by decide +kernel)), by decide, by decide, by decide +kernel⟩, (q_in (List.mem_of_getElem? (i := 486) (by decide +kernel)) (by decide +kernel))⟩
abbrev b_S_ck : ByteArray := prog_17_method_155_code
def y_S_ck : MethodName := ⟨"java/lang/String", "checkIndex", "(II)V"⟩
theorem cf_S_ck : zcfS y_S_ck b_S_ck 2 none 2 := ⟨⟨(q_in (List.mem_of_getElem? (i := 482) (by decide +kernel)) (by decide +kernel)), (q_in (List.mem_of_getElem? (i := 15) (by decide +kernel)) (by decide +kernel)), by decide, by decide, by decide +kernel⟩, (q_in (List.mem_of_getElem? (i := 481) (by decide +kernel)) (by decide +kernel))⟩
abbrev b_L_at : ByteArray := prog_18_method_2_code
def y_L_at : MethodName := ⟨"java/lang/StringLatin1", "charAt", "([BI)C"⟩
theorem cf_L_at : zcfS y_L_at b_L_at 2 (some .char) 2 := ⟨⟨(q_in (List.mem_of_getElem? (i := 479) (by decide +kernel)) (by decide +kernel)), (q_in (List.mem_of_getElem? (i := 16) (by decide +kernel)) (by decide +kernel)), by decide, by decide, by decide +kernel⟩, (q_in (List.mem_of_getElem? (i := 478) (by decide +kernel)) (by decide +kernel))⟩
abbrev b_S_at : ByteArray := prog_17_method_56_code
def y_S_at : MethodName := ⟨"java/lang/String", "charAt", "(I)C"⟩
theorem cf_S_at : zcfV y_S_at b_S_at 2 (some .char) 1 := ⟨⟨(q_in (List.mem_of_getElem? (i := 472) (by decide +kernel)) (by decide +kernel)), (q_in (List.mem_of_getElem? (i := 15) (by decide +kernel)) (by decide +kernel)), by decide, by decide, by decide +kernel⟩, (q_in (List.mem_of_getElem? (i := 470) (by decide +kernel)) (by decide +kernel)), (q_in (List.mem_of_getElem? (i := 471) (by decide +kernel)) (by decide +kernel))⟩
theorem d_S_coder_0 : decode b_S_coder 0 = .ok (.getstatic 38, 3) := by decide +kernel
theorem d_S_coder_3 : decode b_S_coder 3 = .ok (.ifCond .eq 10, 3) := by decide +kernel
theorem d_S_coder_6 : decode b_S_coder 6 = .ok (.aload_n 0, 1) := by decide +kernel
theorem d_S_coder_7 : decode b_S_coder 7 = .ok (.getfield 15, 3) := by decide +kernel
theorem d_S_coder_10 : decode b_S_coder 10 = .ok (.goto 4, 3) := by decide +kernel
theorem d_S_coder_14 : decode b_S_coder 14 = .ok (.ireturn, 1) := by decide +kernel
theorem d_S_len_0 : decode b_S_len 0 = .ok (.aload_n 0, 1) := by decide +kernel
theorem d_S_len_1 : decode b_S_len 1 = .ok (.getfield 9, 3) := by decide +kernel
theorem d_S_len_4 : decode b_S_len 4 = .ok (.arraylength, 1) := by decide +kernel
theorem d_S_len_5 : decode b_S_len 5 = .ok (.aload_n 0, 1) := by decide +kernel
theorem d_S_len_6 : decode b_S_len 6 = .ok (.invokevirtual 335, 3) := by decide +kernel
theorem d_S_len_9 : decode b_S_len 9 = .ok (.ishr, 1) := by decide +kernel
theorem d_S_len_10 : decode b_S_len 10 = .ok (.ireturn, 1) := by decide +kernel
theorem d_S_lat_0 : decode b_S_lat 0 = .ok (.getstatic 38, 3) := by decide +kernel
theorem d_S_lat_3 : decode b_S_lat 3 = .ok (.ifCond .eq 14, 3) := by decide +kernel
theorem d_S_lat_6 : decode b_S_lat 6 = .ok (.aload_n 0, 1) := by decide +kernel
theorem d_S_lat_7 : decode b_S_lat 7 = .ok (.getfield 15, 3) := by decide +kernel
theorem d_S_lat_10 : decode b_S_lat 10 = .ok (.ifCond .ne 7, 3) := by decide +kernel
theorem d_S_lat_13 : decode b_S_lat 13 = .ok (.iconst 1, 1) := by decide +kernel
theorem d_S_lat_14 : decode b_S_lat 14 = .ok (.goto 4, 3) := by decide +kernel
theorem d_S_lat_18 : decode b_S_lat 18 = .ok (.ireturn, 1) := by decide +kernel
theorem d_P_ck_0 : decode b_P_ck 0 = .ok (.iload_n 0, 1) := by decide +kernel
theorem d_P_ck_1 : decode b_P_ck 1 = .ok (.ifCond .lt 8, 3) := by decide +kernel
theorem d_P_ck_4 : decode b_P_ck 4 = .ok (.iload_n 0, 1) := by decide +kernel
theorem d_P_ck_5 : decode b_P_ck 5 = .ok (.iload_n 1, 1) := by decide +kernel
theorem d_P_ck_6 : decode b_P_ck 6 = .ok (.if_icmp .lt 10, 3) := by decide +kernel
theorem d_P_ck_16 : decode b_P_ck 16 = .ok (.iload_n 0, 1) := by decide +kernel
theorem d_P_ck_17 : decode b_P_ck 17 = .ok (.ireturn, 1) := by decide +kernel
theorem d_S_ck_0 : decode b_S_ck 0 = .ok (.iload_n 0, 1) := by decide +kernel
theorem d_S_ck_1 : decode b_S_ck 1 = .ok (.iload_n 1, 1) := by decide +kernel
theorem d_S_ck_2 : decode b_S_ck 2 = .ok (.getstatic 1053, 3) := by decide +kernel
theorem d_S_ck_5 : decode b_S_ck 5 = .ok (.invokestatic 1059, 3) := by decide +kernel
theorem d_S_ck_8 : decode b_S_ck 8 = .ok (.pop, 1) := by decide +kernel
theorem d_S_ck_9 : decode b_S_ck 9 = .ok (.return_, 1) := by decide +kernel
theorem d_L_at_0 : decode b_L_at 0 = .ok (.iload_n 1, 1) := by decide +kernel
theorem d_L_at_1 : decode b_L_at 1 = .ok (.aload_n 0, 1) := by decide +kernel
theorem d_L_at_2 : decode b_L_at 2 = .ok (.arraylength, 1) := by decide +kernel
theorem d_L_at_3 : decode b_L_at 3 = .ok (.invokestatic 9, 3) := by decide +kernel
theorem d_L_at_6 : decode b_L_at 6 = .ok (.aload_n 0, 1) := by decide +kernel
theorem d_L_at_7 : decode b_L_at 7 = .ok (.iload_n 1, 1) := by decide +kernel
theorem d_L_at_8 : decode b_L_at 8 = .ok (.baload, 1) := by decide +kernel
theorem d_L_at_9 : decode b_L_at 9 = .ok (.sipush 255, 3) := by decide +kernel
theorem d_L_at_12 : decode b_L_at 12 = .ok (.iand, 1) := by decide +kernel
theorem d_L_at_13 : decode b_L_at 13 = .ok (.i2c, 1) := by decide +kernel
theorem d_L_at_14 : decode b_L_at 14 = .ok (.ireturn, 1) := by decide +kernel
theorem d_S_at_0 : decode b_S_at 0 = .ok (.aload_n 0, 1) := by decide +kernel
theorem d_S_at_1 : decode b_S_at 1 = .ok (.invokevirtual 492, 3) := by decide +kernel
theorem d_S_at_4 : decode b_S_at 4 = .ok (.ifCond .eq 12, 3) := by decide +kernel
theorem d_S_at_7 : decode b_S_at 7 = .ok (.aload_n 0, 1) := by decide +kernel
theorem d_S_at_8 : decode b_S_at 8 = .ok (.getfield 9, 3) := by decide +kernel
theorem d_S_at_11 : decode b_S_at 11 = .ok (.iload_n 1, 1) := by decide +kernel
theorem d_S_at_12 : decode b_S_at 12 = .ok (.invokestatic 495, 3) := by decide +kernel
theorem d_S_at_15 : decode b_S_at 15 = .ok (.ireturn, 1) := by decide +kernel
theorem c_S_coder (l : Launch) {lo n : Nat} (hn : lo + n ≤ 143) (θ : ZT) {i : Nat} (hi : i < 8) {σ : ZM} : zMet mkI l lo n θ y_S_coder b_S_coder 1 (some .byte) (zrm 1 60) [.ref (zf θ (2 + i))] σ ((0 : Int32), σ) := by
  refine z_met (lv := [(0, .ref (zf θ (2 + i)))]) (by decide +kernel) rfl (Nat.le_of_ble_eq_true rfl) hn ?_
  refine z_scmp d_S_coder_0 (q_in (List.mem_of_getElem? (i := 467) (by decide +kernel)) (by decide +kernel)) ?_
  refine z_if_eq (tgt := 13) d_S_coder_3 (by decide) (fun c => absurd c (by decide)) (fun _ => ?_)
  refine z_aload_n 0 d_S_coder_6 rfl rfl ?_
  refine z_scod hi d_S_coder_7 (q_in (List.mem_of_getElem? (i := 1318) (by decide +kernel)) (by decide +kernel)) ?_
  refine z_goto (tgt := 14) d_S_coder_10 (by decide) ?_
  exact z_tret d_S_coder_14 rfl rfl
theorem c_S_len (l : Launch) {lo n : Nat} (hn : lo + n ≤ 143) (θ : ZT) {i : Nat} (hi : i < 8) {σ : ZM} : zMet mkI l lo n θ y_S_len b_S_len 1 (some .int) (zrm 2 90) [.ref (zf θ (2 + i))] σ (Int32.ofNat (zslen.getD i 0), σ) := by
  refine z_met (lv := [(0, .ref (zf θ (2 + i)))]) (by decide +kernel) rfl (Nat.le_of_ble_eq_true rfl) hn ?_
  refine z_aload_n 0 d_S_len_0 rfl rfl ?_
  refine z_sval hi d_S_len_1 (q_in (List.mem_of_getElem? (i := 1317) (by decide +kernel)) (by decide +kernel)) ?_
  refine z_sal hi d_S_len_4 ?_
  refine z_aload_n 0 d_S_len_5 rfl rfl ?_
  refine z_callT (As := []) hi (c_S_coder l hn θ hi) cf_S_coder (q_in (List.mem_of_getElem? (i := 463) (by decide +kernel)) (by decide +kernel)) d_S_len_6 rfl rfl rfl (Nat.le_of_ble_eq_true rfl) rfl rfl ⟨Nat.le_of_ble_eq_true rfl, Nat.le_of_ble_eq_true rfl⟩ ?_
  refine z_ishr d_S_len_9 ?_
  exact z_iret d_S_len_10 (by have e : ∀ i, i < 8 → Int32.ofNat (zslen.getD i 0) >>> ((0 : Int32) &&& 31) = Int32.ofNat (zslen.getD i 0) := by decide +kernel
                              rw [e i hi])
theorem c_S_lat (l : Launch) {lo n : Nat} (hn : lo + n ≤ 143) (θ : ZT) {i : Nat} (hi : i < 8) {σ : ZM} : zMet mkI l lo n θ y_S_lat b_S_lat 1 (some .boolean) (zrm 1 60) [.ref (zf θ (2 + i))] σ ((1 : Int32), σ) := by
  refine z_met (lv := [(0, .ref (zf θ (2 + i)))]) (by decide +kernel) rfl (Nat.le_of_ble_eq_true rfl) hn ?_
  refine z_scmp d_S_lat_0 (q_in (List.mem_of_getElem? (i := 467) (by decide +kernel)) (by decide +kernel)) ?_
  refine z_if_eq (tgt := 17) d_S_lat_3 (by decide) (fun c => absurd c (by decide)) (fun _ => ?_)
  refine z_aload_n 0 d_S_lat_6 rfl rfl ?_
  refine z_scod hi d_S_lat_7 (q_in (List.mem_of_getElem? (i := 1318) (by decide +kernel)) (by decide +kernel)) ?_
  refine z_if_ne (tgt := 17) d_S_lat_10 (by decide) (fun c => absurd rfl c) (fun _ => ?_)
  refine z_iconst (v := 1) d_S_lat_13 (by decide) ?_
  refine z_goto (tgt := 18) d_S_lat_14 (by decide) ?_
  exact z_tret d_S_lat_18 rfl rfl
theorem c_P_ck (l : Launch) {lo n : Nat} (hn : lo + n ≤ 143) (θ : ZT) {x y : Int32} {v : Value} (hv : v.category = 1) (h0 : ¬ x < 0) (h1 : x < y) {σ : ZM} : zMet mkI l lo n θ y_P_ck b_P_ck 3 (some .int) (zrm 1 60) [.int x, .int y, v] σ (x, σ) := by
  refine z_met (lv := [(0, .int x), (1, .int y), (2, v)]) (by decide +kernel) (by simp [lv_args, Value.category]) (by cases v <;> first | exact Nat.le_of_ble_eq_true rfl | exact absurd hv (by simp [Value.category])) hn ?_
  refine z_iload_n 0 d_P_ck_0 rfl rfl ?_
  refine z_if_lt (tgt := 9) d_P_ck_1 (by decide) (fun c => absurd c h0) (fun _ => ?_)
  refine z_iload_n 0 d_P_ck_4 rfl rfl ?_
  refine z_iload_n 1 d_P_ck_5 rfl rfl ?_
  refine z_icmp_lt (tgt := 16) d_P_ck_6 (by decide) (fun _ => ?_) (fun c => absurd h1 c)
  refine z_iload_n 0 d_P_ck_16 rfl rfl ?_
  exact z_iret d_P_ck_17 rfl
theorem c_S_ck (l : Launch) {lo n : Nat} (hn : lo + n ≤ 143) (θ : ZT) {x y : Int32} (h0 : ¬ x < 0) (h1 : x < y) {σ : ZM} : zMet mkV l lo n θ y_S_ck b_S_ck 2 none (zrm 2 90) [.int x, .int y] σ ((), σ) := by
  refine z_met (lv := [(0, .int x), (1, .int y)]) (by decide +kernel) rfl (Nat.le_of_ble_eq_true rfl) hn ?_
  refine z_iload_n 0 d_S_ck_0 rfl rfl ?_
  refine z_iload_n 1 d_S_ck_1 rfl rfl ?_
  refine z_ssio d_S_ck_2 (q_in (List.mem_of_getElem? (i := 483) (by decide +kernel)) (by decide +kernel)) (fun v hv => ?_)
  refine w_callS (As := [.int x, .int y, v]) (c_P_ck l hn θ hv h0 h1) cf_P_ck (q_in (List.mem_of_getElem? (i := 485) (by decide +kernel)) (by decide +kernel)) d_S_ck_5 rfl rfl rfl (Nat.le_of_ble_eq_true rfl) rfl rfl ⟨Nat.le_of_ble_eq_true rfl, Nat.le_of_ble_eq_true rfl⟩ ?_
  refine z_pop d_S_ck_8 rfl ?_
  exact z_vret d_S_ck_9 rfl
theorem zschar_ok : ∀ i, i < 8 → ∀ k, k < 5 → (zsraw i k &&& 255).toUInt32.toUInt16.toUInt32.toInt32 = zsraw i k ∧ narrow .char (.int (zsraw i k)) = .int (zsraw i k) := by decide +kernel
theorem zslen_5 : ∀ i, i < 8 → zslen.getD i 0 ≤ 5 := by decide +kernel
theorem zin_len {i : Nat} {j : Int32} (hi : i < 8) (hj : zin j (zslen.getD i 0) = true) : ¬ j < 0 ∧ j < Int32.ofNat (zslen.getD i 0) ∧ j.toNatClampNeg < 5 := by
  simp only [zin, Bool.and_eq_true, decide_eq_true_eq] at hj
  have h5 := zslen_5 i hi
  have h0 : ¬ j < 0 := Int32.not_lt.mpr hj.1
  refine ⟨h0, ?_, by omega⟩
  obtain ⟨k, hk, rfl⟩ := nI_of h0
  rw [nI_clamp hk] at hj
  exact nI_lt hj.2 (by omega)
theorem c_L_at (l : Launch) {lo n : Nat} (hn : lo + n ≤ 143) (θ : ZT) {i : Nat} {j : Int32} (hi : i < 8) (hj : zin j (zslen.getD i 0) = true) {σ : ZM} : zMet mkI l lo n θ y_L_at b_L_at 2 (some .char) (zrm 3 120) [.ref (zf θ (10 + i)), .int j] σ (zschar i j, σ) := by
  obtain ⟨h0, h1, h5⟩ := zin_len hi hj
  refine z_met (lv := [(0, .ref (zf θ (10 + i))), (1, .int j)]) (by decide +kernel) rfl (Nat.le_of_ble_eq_true rfl) hn ?_
  refine z_iload_n 1 d_L_at_0 rfl rfl ?_
  refine z_aload_n 0 d_L_at_1 rfl rfl ?_
  refine z_sal hi d_L_at_2 ?_
  refine w_callS (As := [.int j, .int (Int32.ofNat (zslen.getD i 0))]) (st2 := []) (c_S_ck l hn θ h0 h1) cf_S_ck (q_in (List.mem_of_getElem? (i := 480) (by decide +kernel)) (by decide +kernel)) d_L_at_3 rfl rfl rfl (Nat.le_of_ble_eq_true rfl) rfl rfl ⟨Nat.le_of_ble_eq_true rfl, Nat.le_of_ble_eq_true rfl⟩ ?_
  refine z_aload_n 0 d_L_at_6 rfl rfl ?_
  refine z_iload_n 1 d_L_at_7 rfl rfl ?_
  refine z_sba hi hj d_L_at_8 ?_
  refine z_sipush (v := 255) d_L_at_9 (by decide) ?_
  refine z_iand d_L_at_12 ?_
  refine z_i2c (v := zschar i j) d_L_at_13 (zschar_ok i hi _ h5).1 ?_
  exact z_tret d_L_at_14 (zschar_ok i hi _ h5).2 rfl
theorem c_S_at (l : Launch) {lo n : Nat} (hn : lo + n ≤ 143) (θ : ZT) {i : Nat} {j : Int32} (hi : i < 8) (hj : zin j (zslen.getD i 0) = true) {σ : ZM} : zMet mkI l lo n θ y_S_at b_S_at 2 (some .char) (zrm 4 150) [.ref (zf θ (2 + i)), .int j] σ (zschar i j, σ) := by
  obtain ⟨h0, h1, h5⟩ := zin_len hi hj
  refine z_met (lv := [(0, .ref (zf θ (2 + i))), (1, .int j)]) (by decide +kernel) rfl (Nat.le_of_ble_eq_true rfl) hn ?_
  refine z_aload_n 0 d_S_at_0 rfl rfl ?_
  refine z_callT (As := []) hi (c_S_lat l hn θ hi) cf_S_lat (q_in (List.mem_of_getElem? (i := 473) (by decide +kernel)) (by decide +kernel)) d_S_at_1 rfl rfl rfl (Nat.le_of_ble_eq_true rfl) rfl rfl ⟨Nat.le_of_ble_eq_true rfl, Nat.le_of_ble_eq_true rfl⟩ ?_
  refine z_if_eq (tgt := 16) d_S_at_4 (by decide) (fun c => absurd c (by decide)) (fun _ => ?_)
  refine z_aload_n 0 d_S_at_7 rfl rfl ?_
  refine z_sval hi d_S_at_8 (q_in (List.mem_of_getElem? (i := 1317) (by decide +kernel)) (by decide +kernel)) ?_
  refine z_iload_n 1 d_S_at_11 rfl rfl ?_
  refine w_callS (As := [.ref (zf θ (10 + i)), .int j]) (c_L_at l hn θ hi hj) cf_L_at (q_in (List.mem_of_getElem? (i := 477) (by decide +kernel)) (by decide +kernel)) d_S_at_12 rfl rfl rfl (Nat.le_of_ble_eq_true rfl) rfl rfl ⟨Nat.le_of_ble_eq_true rfl, Nat.le_of_ble_eq_true rfl⟩ ?_
  exact z_tret d_S_at_15 (zschar_ok i hi _ h5).2 rfl
section STRINGS2
variable {l : Launch} {cc : ByteArray} {nL : Nat} {ret : Option FieldType} {own : String} {lo n : Nat} {θ : ZT} {R : Room} {Q : Array Value → State → Outcome → State → Prop} {σ : ZM} {lv : List (Nat × Value)} {pc : Nat} {st : List Value}
theorem w_slen {i index : Nat} (hi : decide (i < 8) = true) (d : decode cc pc = .ok (.invokevirtual index, 3)) (hw : Cond.methodLink own index ⟨"java/lang/String", "length", "()I"⟩ ∈ zW0) (hn : lo + n ≤ 143) (hR : 4 ≤ R.frames ∧ 150 ≤ R.locals) (hcat : (st.map fun v => v.category).sum ≤ 8) (g : WZ l cc nL ret own lo n θ R Q σ lv (pc + 3) (.int (Int32.ofNat (zslen.getD i 0)) :: st)) : WZ l cc nL ret own lo n θ R Q σ lv pc (.ref (zf θ (2 + i)) :: st) :=
  z_callT (As := []) (of_decide_eq_true hi) (c_S_len l hn θ (of_decide_eq_true hi)) cf_S_len hw d rfl rfl rfl hcat rfl rfl ⟨by have := hR.1; show (3 : Nat) ≤ _; omega, by have := hR.2; show (8 + (1 + 11) + 90 : Nat) ≤ _; omega⟩ g
theorem w_schar {i index : Nat} {j : Int32} (hi : decide (i < 8) = true) (hj : zin j (zslen.getD i 0) = true) (d : decode cc pc = .ok (.invokevirtual index, 3)) (hw : Cond.methodLink own index ⟨"java/lang/String", "charAt", "(I)C"⟩ ∈ zW0) (hn : lo + n ≤ 143) (hR : 6 ≤ R.frames ∧ 300 ≤ R.locals) (hcat : (st.map fun v => v.category).sum ≤ 8) (g : WZ l cc nL ret own lo n θ R Q σ lv (pc + 3) (.int (zschar i j) :: st)) : WZ l cc nL ret own lo n θ R Q σ lv pc (.int j :: .ref (zf θ (2 + i)) :: st) :=
  z_callT (As := [.int j]) (of_decide_eq_true hi) (c_S_at l hn θ (of_decide_eq_true hi) hj) cf_S_at hw d rfl rfl rfl hcat rfl rfl ⟨by have := hR.1; show (5 : Nat) ≤ _; omega, by have := hR.2; show (8 + (2 + 11) + 150 : Nat) ≤ _; omega⟩ g
theorem w_copyl {o0 o1 N0 N1 index : Nat} {sp dp k : Int32} (h0 : zR lo n o0 2 N0 = true) (h1 : zR lo n o1 2 N1 = true) (hk : zcpok sp dp k N0 N1 = true) (d : decode cc pc = .ok (.invokestatic index, 3)) (hw : Cond.methodLink own index arraycopyName ∈ zW0) (hf : 1 ≤ R.frames ∧ 100 ≤ R.locals) (hlc : (st.map fun v => v.category).sum ≤ 8)
    (g : WZ l cc nL ret own lo n θ R Q (zcpL σ o0 o1 sp.toNatClampNeg dp.toNatClampNeg k.toNatClampNeg) lv (pc + 3) st) : WZ l cc nL ret own lo n θ R Q σ lv pc (.int k :: .int dp :: .ref (za θ o1) :: .int sp :: .ref (za θ o0) :: st) :=
  fun _ _ _ _ _ _ _ _ _ _ _ Z hP hS hl => by
    simp only [zcpok, Bool.and_eq_true, decide_eq_true_eq] at hk
    have a0 := zR_i h0
    have a1 := zR_i h1
    refine va_copyl (D := zD θ) (cl := zcl) (ty := .long) (c0 := zA θ 2) (c1 := zA θ 2) (f := σ.2.1 o0) (g := σ.2.1 o1) (n0 := N0) (n1 := N1) Z.1 Z.2.1 (Z.2.2.1.trans hl.1.symm) Z.2.2.2.1 (Z.2.2.2.2.1 _ hw) (Z.2.2.2.2.1 _ (q_in (List.mem_of_getElem? (i := 864) (by decide +kernel)) (by decide +kernel))) (Z.2.2.2.2.1 _ (q_in (List.mem_of_getElem? (i := 863) (by decide +kernel)) (by decide +kernel))) (Z.2.2.2.2.1 _ (q_in (List.mem_of_getElem? (i := 20) (by decide +kernel)) (by decide +kernel))) Z.2.2.2.2.2.2.2.1 hP (zwd_D Z.2.2.2.2.2.2.2.2.1 Z.2.2.2.2.2.2.2.2.2.2) hS (o0 - lo) (o1 - lo) 2 2 (by rw [zwd_at a0.2.2.1 a0.2.2.2, zcell_arr a0.1 a0.2.1 rfl]; rfl) (by rw [zwd_at a1.2.2.1 a1.2.2.2, zcell_arr a1.1 a1.2.1 rfl]; rfl) rfl rfl rfl
      (Int32.not_lt.mpr hk.1) (Int32.not_lt.mpr hk.2.1) (Int32.not_lt.mpr hk.2.2.1) hk.2.2.2.1 hk.2.2.2.2 (fun _ _ => rfl) hf.1 ?_ d (fun H1 locs1 hP1 _ hS1 => g _ _ _ _ _ _ _ _ _ _ _ Z ?_ hS1 hl)
    · have e : nativeFrameWords "java/lang/System" "arraycopy" 5 + 11 ≤ 92 := by decide +kernel
      omega
    · have e : (zcpL σ o0 o1 sp.toNatClampNeg dp.toNatClampNeg k.toNatClampNeg).2.1 o1 = va_cpy (σ.2.1 o0) (σ.2.1 o1) sp.toNatClampNeg dp.toNatClampNeg k.toNatClampNeg := if_pos rfl
      rw [← zwd_set (σ' := zcpL σ o0 o1 sp.toNatClampNeg dp.toNatClampNeg k.toNatClampNeg) a1.2.2.1 a1.2.2.2 (zcell_arr a1.1 a1.2.1 (by rw [e])) zcell_cpL]
      exact hP1
end STRINGS2
