/-! CONSTRUCTORS: the walks, on -/
theorem kq_289 : (Jvm.Cond.methodLink "BakedBefore$Tapes" (3 : Nat) ({ cls := "java/lang/Object", name := "<init>", desc := "()V" } : Jvm.MethodName)) ∈ zW0 := q_in (List.mem_of_getElem? (i := 289) (by decide +kernel)) (by decide +kernel)
theorem kq_290 : (Jvm.Cond.classLink "BakedBefore$Tapes" (11 : Nat) "[[J") ∈ zW0 := q_in (List.mem_of_getElem? (i := 290) (by decide +kernel)) (by decide +kernel)
theorem kq_302 : (Jvm.Cond.arrayClass Jvm.ClassFile.FieldType.long) ∈ zW0 := q_in (List.mem_of_getElem? (i := 302) (by decide +kernel)) (by decide +kernel)
theorem kq_292 : (Jvm.Cond.fieldLink "BakedBefore$Tapes" (13 : Nat) "BakedBefore$Tapes" "rows" "[[J") ∈ zW0 := q_in (List.mem_of_getElem? (i := 292) (by decide +kernel)) (by decide +kernel)
theorem kq_293 : (Jvm.Cond.fieldLink "BakedBefore$Tapes" (16 : Nat) "BakedBefore$Tapes" "sorts" "[I") ∈ zW0 := q_in (List.mem_of_getElem? (i := 293) (by decide +kernel)) (by decide +kernel)
theorem kq_294 : (Jvm.Cond.fieldLink "BakedBefore$Tapes" (20 : Nat) "BakedBefore$Tapes" "lengths" "[I") ∈ zW0 := q_in (List.mem_of_getElem? (i := 294) (by decide +kernel)) (by decide +kernel)
theorem kq_288 : (Jvm.Cond.code ({ cls := "BakedBefore$Tapes", name := "<init>", desc := "()V" } : Jvm.MethodName) prog_12_method_1_code (2 : Nat) (Option.none : Option Jvm.ClassFile.FieldType)) ∈ zW0 := q_in (List.mem_of_getElem? (i := 288) (by decide +kernel)) (by decide +kernel)
theorem kq_12 : (Jvm.Cond.initialized "BakedBefore$Tapes") ∈ zW0 := q_in (List.mem_of_getElem? (i := 12) (by decide +kernel)) (by decide +kernel)
theorem kq_870 : (Jvm.Cond.methodLink "BakedBeforeModel" (3 : Nat) ({ cls := "java/lang/Object", name := "<init>", desc := "()V" } : Jvm.MethodName)) ∈ zW0 := q_in (List.mem_of_getElem? (i := 870) (by decide +kernel)) (by decide +kernel)
theorem kq_871 : (Jvm.Cond.fieldLink "BakedBeforeModel" (11 : Nat) "BakedBeforeModel" "s" "[I") ∈ zW0 := q_in (List.mem_of_getElem? (i := 871) (by decide +kernel)) (by decide +kernel)
theorem kq_872 : (Jvm.Cond.fieldLink "BakedBeforeModel" (15 : Nat) "BakedBeforeModel" "image" "[I") ∈ zW0 := q_in (List.mem_of_getElem? (i := 872) (by decide +kernel)) (by decide +kernel)
theorem kq_873 : (Jvm.Cond.fieldLink "BakedBeforeModel" (18 : Nat) "BakedBeforeModel" "mind" "[I") ∈ zW0 := q_in (List.mem_of_getElem? (i := 873) (by decide +kernel)) (by decide +kernel)
theorem kq_875 : (Jvm.Cond.fieldLink "BakedBeforeModel" (21 : Nat) "BakedBeforeModel" "text" "[I") ∈ zW0 := q_in (List.mem_of_getElem? (i := 875) (by decide +kernel)) (by decide +kernel)
theorem kq_876 : (Jvm.Cond.fieldLink "BakedBeforeModel" (24 : Nat) "BakedBeforeModel" "kilnText" "[I") ∈ zW0 := q_in (List.mem_of_getElem? (i := 876) (by decide +kernel)) (by decide +kernel)
theorem kq_877 : (Jvm.Cond.fieldLink "BakedBeforeModel" (27 : Nat) "BakedBeforeModel" "kilnLong" "[I") ∈ zW0 := q_in (List.mem_of_getElem? (i := 877) (by decide +kernel)) (by decide +kernel)
theorem kq_892 : (Jvm.Cond.fieldLink "BakedBeforeModel" (30 : Nat) "BakedBeforeModel" "held" "[I") ∈ zW0 := q_in (List.mem_of_getElem? (i := 892) (by decide +kernel)) (by decide +kernel)
theorem kq_893 : (Jvm.Cond.fieldLink "BakedBeforeModel" (33 : Nat) "BakedBeforeModel" "line" "[I") ∈ zW0 := q_in (List.mem_of_getElem? (i := 893) (by decide +kernel)) (by decide +kernel)
theorem kq_894 : (Jvm.Cond.fieldLink "BakedBeforeModel" (36 : Nat) "BakedBeforeModel" "best" "[I") ∈ zW0 := q_in (List.mem_of_getElem? (i := 894) (by decide +kernel)) (by decide +kernel)
theorem kq_896 : (Jvm.Cond.fieldLink "BakedBeforeModel" (39 : Nat) "BakedBeforeModel" "tapeSort" "[I") ∈ zW0 := q_in (List.mem_of_getElem? (i := 896) (by decide +kernel)) (by decide +kernel)
theorem kq_897 : (Jvm.Cond.fieldLink "BakedBeforeModel" (42 : Nat) "BakedBeforeModel" "tapeLong" "[I") ∈ zW0 := q_in (List.mem_of_getElem? (i := 897) (by decide +kernel)) (by decide +kernel)
theorem kq_898 : (Jvm.Cond.fieldLink "BakedBeforeModel" (45 : Nat) "BakedBeforeModel" "item" "[J") ∈ zW0 := q_in (List.mem_of_getElem? (i := 898) (by decide +kernel)) (by decide +kernel)
theorem kq_899 : (Jvm.Cond.fieldLink "BakedBeforeModel" (49 : Nat) "BakedBeforeModel" "trace" "[I") ∈ zW0 := q_in (List.mem_of_getElem? (i := 899) (by decide +kernel)) (by decide +kernel)
theorem kq_869 : (Jvm.Cond.code ({ cls := "BakedBeforeModel", name := "<init>", desc := "()V" } : Jvm.MethodName) prog_14_method_1_code (1 : Nat) (Option.none : Option Jvm.ClassFile.FieldType)) ∈ zW0 := q_in (List.mem_of_getElem? (i := 869) (by decide +kernel)) (by decide +kernel)
theorem kq_13 : (Jvm.Cond.initialized "BakedBeforeModel") ∈ zW0 := q_in (List.mem_of_getElem? (i := 13) (by decide +kernel)) (by decide +kernel)
abbrev b_Tapes_init : ByteArray := prog_12_method_1_code
def y_Tapes_init : MethodName := ⟨"BakedBefore$Tapes", "<init>", "()V"⟩
theorem cf_Tapes_init : zcf y_Tapes_init b_Tapes_init 2 none 0 := ⟨kq_288, kq_12, by decide, by decide, by decide +kernel⟩
theorem d_Tapes_init_0 : decode b_Tapes_init 0 = .ok (.aload_n 0, 1) := by decide +kernel
theorem d_Tapes_init_1 : decode b_Tapes_init 1 = .ok (.invokespecial 3, 3) := by decide +kernel
theorem d_Tapes_init_4 : decode b_Tapes_init 4 = .ok (.aload_n 0, 1) := by decide +kernel
theorem d_Tapes_init_5 : decode b_Tapes_init 5 = .ok (.bipush (6), 2) := by decide +kernel
theorem d_Tapes_init_7 : decode b_Tapes_init 7 = .ok (.bipush (60), 2) := by decide +kernel
theorem d_Tapes_init_9 : decode b_Tapes_init 9 = .ok (.multianewarray 11 2, 4) := by decide +kernel
theorem d_Tapes_init_13 : decode b_Tapes_init 13 = .ok (.putfield 13, 3) := by decide +kernel
theorem d_Tapes_init_16 : decode b_Tapes_init 16 = .ok (.aload_n 0, 1) := by decide +kernel
theorem d_Tapes_init_17 : decode b_Tapes_init 17 = .ok (.bipush (6), 2) := by decide +kernel
theorem d_Tapes_init_19 : decode b_Tapes_init 19 = .ok (.newarray .int, 2) := by decide +kernel
theorem d_Tapes_init_21 : decode b_Tapes_init 21 = .ok (.putfield 16, 3) := by decide +kernel
theorem d_Tapes_init_24 : decode b_Tapes_init 24 = .ok (.aload_n 0, 1) := by decide +kernel
theorem d_Tapes_init_25 : decode b_Tapes_init 25 = .ok (.bipush (6), 2) := by decide +kernel
theorem d_Tapes_init_27 : decode b_Tapes_init 27 = .ok (.newarray .int, 2) := by decide +kernel
theorem d_Tapes_init_29 : decode b_Tapes_init 29 = .ok (.putfield 20, 3) := by decide +kernel
theorem d_Tapes_init_32 : decode b_Tapes_init 32 = .ok (.iconst (0), 1) := by decide +kernel
theorem d_Tapes_init_33 : decode b_Tapes_init 33 = .ok (.istore_n 1, 1) := by decide +kernel
theorem d_Tapes_init_34 : decode b_Tapes_init 34 = .ok (.iload_n 1, 1) := by decide +kernel
theorem d_Tapes_init_35 : decode b_Tapes_init 35 = .ok (.bipush (6), 2) := by decide +kernel
theorem d_Tapes_init_37 : decode b_Tapes_init 37 = .ok (.if_icmp .ge (16), 3) := by decide +kernel
theorem d_Tapes_init_40 : decode b_Tapes_init 40 = .ok (.aload_n 0, 1) := by decide +kernel
theorem d_Tapes_init_41 : decode b_Tapes_init 41 = .ok (.getfield 16, 3) := by decide +kernel
theorem d_Tapes_init_44 : decode b_Tapes_init 44 = .ok (.iload_n 1, 1) := by decide +kernel
theorem d_Tapes_init_45 : decode b_Tapes_init 45 = .ok (.iconst (-1), 1) := by decide +kernel
theorem d_Tapes_init_46 : decode b_Tapes_init 46 = .ok (.iastore, 1) := by decide +kernel
theorem d_Tapes_init_47 : decode b_Tapes_init 47 = .ok (.iinc 1 (1), 3) := by decide +kernel
theorem d_Tapes_init_50 : decode b_Tapes_init 50 = .ok (.goto (-16), 3) := by decide +kernel
theorem d_Tapes_init_53 : decode b_Tapes_init 53 = .ok (.return_, 1) := by decide +kernel
def kw_Tapes (θ : ZT) (h0 : Nat) (u : Nat → Nat) : va_W := [(h0, .inr (11, [.ref (u 0), .ref (u 7), .ref (u 8)])), (u 0, .inl (zA θ 6, 6, .inr (.inr (.inr (.inr (kfm [some (u 1), some (u 2), some (u 3), some (u 4), some (u 5), some (u 6)])))))), (u 1, .inl (zA θ 2, 60, .inr (.inl (fun _ => 0)))), (u 2, .inl (zA θ 2, 60, .inr (.inl (fun _ => 0)))), (u 3, .inl (zA θ 2, 60, .inr (.inl (fun _ => 0)))), (u 4, .inl (zA θ 2, 60, .inr (.inl (fun _ => 0)))), (u 5, .inl (zA θ 2, 60, .inr (.inl (fun _ => 0)))), (u 6, .inl (zA θ 2, 60, .inr (.inl (fun _ => 0)))), (u 7, .inl (zA θ 0, 6, .inl (upd (upd (upd (upd (upd (upd (fun _ => 0) 0 (-1)) 1 (-1)) 2 (-1)) 3 (-1)) 4 (-1)) 5 (-1)))), (u 8, .inl (zA θ 0, 6, .inl (fun _ => 0)))]
set_option maxHeartbeats 4000000 in
set_option maxRecDepth 100000 in
theorem c_Tapes_init (l : Launch) (θ : ZT) (sz h0 : Nat) : kMet l θ y_Tapes_init b_Tapes_init 2 { frames := 1, cells := 9, slots := 378, locals := 40 } [] sz h0 (.inr (11, [.null, .null, .null])) 9 378 (kw_Tapes θ h0) := by
  refine k_met (lv := [(0, .ref h0)]) (by decide +kernel) rfl rfl (Nat.le_of_ble_eq_true rfl) ?_
  refine k_aload_n 0 d_Tapes_init_0 rfl rfl ?_
  refine k_objInit d_Tapes_init_1 kq_289 kq_27 kq_28 (Nat.le_of_ble_eq_true rfl) (Nat.le_of_ble_eq_true rfl) ?_
  refine k_aload_n 0 d_Tapes_init_4 rfl rfl ?_
  refine k_bipush (v := 6) d_Tapes_init_5 (by decide) ?_
  refine k_bipush (v := 60) d_Tapes_init_7 (by decide) ?_
  refine k_multi d_Tapes_init_9 kq_290 kq_302 (Nat.le_of_ble_eq_true rfl) (Nat.le_of_ble_eq_true rfl) (fun q0 u1 => ?_)
  refine k_w (ws' := [(h0, .inr (11, [.null, .null, .null])), (q0, .inl (zA θ 6, 6, .inr (.inr (.inr (.inr (kfm [some (u1 0), some (u1 1), some (u1 2), some (u1 3), some (u1 4), some (u1 5)])))))), (u1 0, .inl (zA θ 2, 60, .inr (.inl (fun _ => 0)))), (u1 1, .inl (zA θ 2, 60, .inr (.inl (fun _ => 0)))), (u1 2, .inl (zA θ 2, 60, .inr (.inl (fun _ => 0)))), (u1 3, .inl (zA θ 2, 60, .inr (.inl (fun _ => 0)))), (u1 4, .inl (zA θ 2, 60, .inr (.inl (fun _ => 0)))), (u1 5, .inl (zA θ 2, 60, .inr (.inl (fun _ => 0))))]) (pc' := 13) (cells' := 7) (slots' := 366) rfl rfl rfl rfl ?_
  refine k_putF (C := R_Tapes) (T := F_Tapes) (N := 3) (ci := 11) (k := 0) (ty := (.array (.array .long))) (fs' := [.ref q0, .null, .null]) d_Tapes_init_13 rfl i_Tapes t_Tapes_ok n_Tapes rfl (by decide) kq_292 rfl (by decide +kernel) rfl rfl (Nat.le_of_ble_eq_true rfl) rfl ?_
  refine k_w (ws' := [(h0, .inr (11, [.ref q0, .null, .null])), (q0, .inl (zA θ 6, 6, .inr (.inr (.inr (.inr (kfm [some (u1 0), some (u1 1), some (u1 2), some (u1 3), some (u1 4), some (u1 5)])))))), (u1 0, .inl (zA θ 2, 60, .inr (.inl (fun _ => 0)))), (u1 1, .inl (zA θ 2, 60, .inr (.inl (fun _ => 0)))), (u1 2, .inl (zA θ 2, 60, .inr (.inl (fun _ => 0)))), (u1 3, .inl (zA θ 2, 60, .inr (.inl (fun _ => 0)))), (u1 4, .inl (zA θ 2, 60, .inr (.inl (fun _ => 0)))), (u1 5, .inl (zA θ 2, 60, .inr (.inl (fun _ => 0))))]) (pc' := 16) (cells' := 7) (slots' := 366) rfl rfl rfl rfl ?_
  refine k_aload_n 0 d_Tapes_init_16 rfl rfl ?_
  refine k_bipush (v := 6) d_Tapes_init_17 (by decide) ?_
  refine k_newa (atype := .int) (ty := .int) (t0 := 0) (N' := 6) (a0 := (6, .inl (fun _ => 0))) d_Tapes_init_19 rfl kq_57 ⟨0, rfl, rfl⟩ (fun _ _ h => h) (fun _ => rfl) (by decide) (by decide) (Nat.le_of_ble_eq_true rfl) (Nat.le_of_ble_eq_true rfl) (Nat.le_of_ble_eq_true rfl) (fun q2 => ?_)
  refine k_w (ws' := [(h0, .inr (11, [.ref q0, .null, .null])), (q0, .inl (zA θ 6, 6, .inr (.inr (.inr (.inr (kfm [some (u1 0), some (u1 1), some (u1 2), some (u1 3), some (u1 4), some (u1 5)])))))), (u1 0, .inl (zA θ 2, 60, .inr (.inl (fun _ => 0)))), (u1 1, .inl (zA θ 2, 60, .inr (.inl (fun _ => 0)))), (u1 2, .inl (zA θ 2, 60, .inr (.inl (fun _ => 0)))), (u1 3, .inl (zA θ 2, 60, .inr (.inl (fun _ => 0)))), (u1 4, .inl (zA θ 2, 60, .inr (.inl (fun _ => 0)))), (u1 5, .inl (zA θ 2, 60, .inr (.inl (fun _ => 0)))), (q2, .inl (zA θ 0, 6, .inl (fun _ => 0)))]) (pc' := 21) (cells' := 8) (slots' := 372) rfl rfl rfl rfl ?_
  refine k_putF (C := R_Tapes) (T := F_Tapes) (N := 3) (ci := 11) (k := 1) (ty := (.array .int)) (fs' := [.ref q0, .ref q2, .null]) d_Tapes_init_21 rfl i_Tapes t_Tapes_ok n_Tapes rfl (by decide) kq_293 rfl (by decide +kernel) rfl rfl (Nat.le_of_ble_eq_true rfl) rfl ?_
  refine k_w (ws' := [(h0, .inr (11, [.ref q0, .ref q2, .null])), (q0, .inl (zA θ 6, 6, .inr (.inr (.inr (.inr (kfm [some (u1 0), some (u1 1), some (u1 2), some (u1 3), some (u1 4), some (u1 5)])))))), (u1 0, .inl (zA θ 2, 60, .inr (.inl (fun _ => 0)))), (u1 1, .inl (zA θ 2, 60, .inr (.inl (fun _ => 0)))), (u1 2, .inl (zA θ 2, 60, .inr (.inl (fun _ => 0)))), (u1 3, .inl (zA θ 2, 60, .inr (.inl (fun _ => 0)))), (u1 4, .inl (zA θ 2, 60, .inr (.inl (fun _ => 0)))), (u1 5, .inl (zA θ 2, 60, .inr (.inl (fun _ => 0)))), (q2, .inl (zA θ 0, 6, .inl (fun _ => 0)))]) (pc' := 24) (cells' := 8) (slots' := 372) rfl rfl rfl rfl ?_
  refine k_aload_n 0 d_Tapes_init_24 rfl rfl ?_
  refine k_bipush (v := 6) d_Tapes_init_25 (by decide) ?_
  refine k_newa (atype := .int) (ty := .int) (t0 := 0) (N' := 6) (a0 := (6, .inl (fun _ => 0))) d_Tapes_init_27 rfl kq_57 ⟨0, rfl, rfl⟩ (fun _ _ h => h) (fun _ => rfl) (by decide) (by decide) (Nat.le_of_ble_eq_true rfl) (Nat.le_of_ble_eq_true rfl) (Nat.le_of_ble_eq_true rfl) (fun q3 => ?_)
  refine k_w (ws' := [(h0, .inr (11, [.ref q0, .ref q2, .null])), (q0, .inl (zA θ 6, 6, .inr (.inr (.inr (.inr (kfm [some (u1 0), some (u1 1), some (u1 2), some (u1 3), some (u1 4), some (u1 5)])))))), (u1 0, .inl (zA θ 2, 60, .inr (.inl (fun _ => 0)))), (u1 1, .inl (zA θ 2, 60, .inr (.inl (fun _ => 0)))), (u1 2, .inl (zA θ 2, 60, .inr (.inl (fun _ => 0)))), (u1 3, .inl (zA θ 2, 60, .inr (.inl (fun _ => 0)))), (u1 4, .inl (zA θ 2, 60, .inr (.inl (fun _ => 0)))), (u1 5, .inl (zA θ 2, 60, .inr (.inl (fun _ => 0)))), (q2, .inl (zA θ 0, 6, .inl (fun _ => 0))), (q3, .inl (zA θ 0, 6, .inl (fun _ => 0)))]) (pc' := 29) (cells' := 9) (slots' := 378) rfl rfl rfl rfl ?_
  refine k_putF (C := R_Tapes) (T := F_Tapes) (N := 3) (ci := 11) (k := 2) (ty := (.array .int)) (fs' := [.ref q0, .ref q2, .ref q3]) d_Tapes_init_29 rfl i_Tapes t_Tapes_ok n_Tapes rfl (by decide) kq_294 rfl (by decide +kernel) rfl rfl (Nat.le_of_ble_eq_true rfl) rfl ?_
  refine k_w (ws' := [(h0, .inr (11, [.ref q0, .ref q2, .ref q3])), (q0, .inl (zA θ 6, 6, .inr (.inr (.inr (.inr (kfm [some (u1 0), some (u1 1), some (u1 2), some (u1 3), some (u1 4), some (u1 5)])))))), (u1 0, .inl (zA θ 2, 60, .inr (.inl (fun _ => 0)))), (u1 1, .inl (zA θ 2, 60, .inr (.inl (fun _ => 0)))), (u1 2, .inl (zA θ 2, 60, .inr (.inl (fun _ => 0)))), (u1 3, .inl (zA θ 2, 60, .inr (.inl (fun _ => 0)))), (u1 4, .inl (zA θ 2, 60, .inr (.inl (fun _ => 0)))), (u1 5, .inl (zA θ 2, 60, .inr (.inl (fun _ => 0)))), (q2, .inl (zA θ 0, 6, .inl (fun _ => 0))), (q3, .inl (zA θ 0, 6, .inl (fun _ => 0)))]) (pc' := 32) (cells' := 9) (slots' := 378) rfl rfl rfl rfl ?_
  refine k_iconst (v := 0) d_Tapes_init_32 (by decide) ?_
  refine k_istore_n (lv' := [(1, .int 0), (0, .ref h0)]) d_Tapes_init_33 rfl (by decide) rfl ?_
  refine k_iload_n 0 d_Tapes_init_34 rfl rfl ?_
  refine k_bipush (v := 6) d_Tapes_init_35 (by decide) ?_
  refine k_ge_f (tgt := 53) (by decide) d_Tapes_init_37 (by decide) ?_
  refine k_aload_n 1 d_Tapes_init_40 rfl rfl ?_
  refine k_get (C := R_Tapes) (T := F_Tapes) (N := 3) (ci := 11) (k := 1) d_Tapes_init_41 rfl i_Tapes rfl (by decide) kq_293 rfl ?_
  refine k_iload_n 0 d_Tapes_init_44 rfl rfl ?_
  refine k_iconst (v := -1) d_Tapes_init_45 (by decide) ?_
  refine k_iast (q0 := 8) d_Tapes_init_46 rfl (by decide +kernel) rfl rfl ?_
  refine k_w (ws' := [(h0, .inr (11, [.ref q0, .ref q2, .ref q3])), (q0, .inl (zA θ 6, 6, .inr (.inr (.inr (.inr (kfm [some (u1 0), some (u1 1), some (u1 2), some (u1 3), some (u1 4), some (u1 5)])))))), (u1 0, .inl (zA θ 2, 60, .inr (.inl (fun _ => 0)))), (u1 1, .inl (zA θ 2, 60, .inr (.inl (fun _ => 0)))), (u1 2, .inl (zA θ 2, 60, .inr (.inl (fun _ => 0)))), (u1 3, .inl (zA θ 2, 60, .inr (.inl (fun _ => 0)))), (u1 4, .inl (zA θ 2, 60, .inr (.inl (fun _ => 0)))), (u1 5, .inl (zA θ 2, 60, .inr (.inl (fun _ => 0)))), (q2, .inl (zA θ 0, 6, .inl (upd (fun _ => 0) 0 (-1)))), (q3, .inl (zA θ 0, 6, .inl (fun _ => 0)))]) (pc' := 47) (cells' := 9) (slots' := 378) rfl rfl rfl rfl ?_
  refine k_iinc (v := 1) (lv' := [(1, .int 1), (0, .ref h0)]) 0 d_Tapes_init_47 rfl (by decide) (by decide) rfl ?_
  refine k_goto (tgt := 34) d_Tapes_init_50 (by decide) ?_
  refine k_iload_n 0 d_Tapes_init_34 rfl rfl ?_
  refine k_bipush (v := 6) d_Tapes_init_35 (by decide) ?_
  refine k_ge_f (tgt := 53) (by decide) d_Tapes_init_37 (by decide) ?_
  refine k_aload_n 1 d_Tapes_init_40 rfl rfl ?_
  refine k_get (C := R_Tapes) (T := F_Tapes) (N := 3) (ci := 11) (k := 1) d_Tapes_init_41 rfl i_Tapes rfl (by decide) kq_293 rfl ?_
  refine k_iload_n 0 d_Tapes_init_44 rfl rfl ?_
  refine k_iconst (v := -1) d_Tapes_init_45 (by decide) ?_
  refine k_iast (q0 := 8) d_Tapes_init_46 rfl (by decide +kernel) rfl rfl ?_
  refine k_w (ws' := [(h0, .inr (11, [.ref q0, .ref q2, .ref q3])), (q0, .inl (zA θ 6, 6, .inr (.inr (.inr (.inr (kfm [some (u1 0), some (u1 1), some (u1 2), some (u1 3), some (u1 4), some (u1 5)])))))), (u1 0, .inl (zA θ 2, 60, .inr (.inl (fun _ => 0)))), (u1 1, .inl (zA θ 2, 60, .inr (.inl (fun _ => 0)))), (u1 2, .inl (zA θ 2, 60, .inr (.inl (fun _ => 0)))), (u1 3, .inl (zA θ 2, 60, .inr (.inl (fun _ => 0)))), (u1 4, .inl (zA θ 2, 60, .inr (.inl (fun _ => 0)))), (u1 5, .inl (zA θ 2, 60, .inr (.inl (fun _ => 0)))), (q2, .inl (zA θ 0, 6, .inl (upd (upd (fun _ => 0) 0 (-1)) 1 (-1)))), (q3, .inl (zA θ 0, 6, .inl (fun _ => 0)))]) (pc' := 47) (cells' := 9) (slots' := 378) rfl rfl rfl rfl ?_
  refine k_iinc (v := 2) (lv' := [(1, .int 2), (0, .ref h0)]) 0 d_Tapes_init_47 rfl (by decide) (by decide) rfl ?_
  refine k_goto (tgt := 34) d_Tapes_init_50 (by decide) ?_
  refine k_iload_n 0 d_Tapes_init_34 rfl rfl ?_
  refine k_bipush (v := 6) d_Tapes_init_35 (by decide) ?_
  refine k_ge_f (tgt := 53) (by decide) d_Tapes_init_37 (by decide) ?_
  refine k_aload_n 1 d_Tapes_init_40 rfl rfl ?_
  refine k_get (C := R_Tapes) (T := F_Tapes) (N := 3) (ci := 11) (k := 1) d_Tapes_init_41 rfl i_Tapes rfl (by decide) kq_293 rfl ?_
  refine k_iload_n 0 d_Tapes_init_44 rfl rfl ?_
  refine k_iconst (v := -1) d_Tapes_init_45 (by decide) ?_
  refine k_iast (q0 := 8) d_Tapes_init_46 rfl (by decide +kernel) rfl rfl ?_
  refine k_w (ws' := [(h0, .inr (11, [.ref q0, .ref q2, .ref q3])), (q0, .inl (zA θ 6, 6, .inr (.inr (.inr (.inr (kfm [some (u1 0), some (u1 1), some (u1 2), some (u1 3), some (u1 4), some (u1 5)])))))), (u1 0, .inl (zA θ 2, 60, .inr (.inl (fun _ => 0)))), (u1 1, .inl (zA θ 2, 60, .inr (.inl (fun _ => 0)))), (u1 2, .inl (zA θ 2, 60, .inr (.inl (fun _ => 0)))), (u1 3, .inl (zA θ 2, 60, .inr (.inl (fun _ => 0)))), (u1 4, .inl (zA θ 2, 60, .inr (.inl (fun _ => 0)))), (u1 5, .inl (zA θ 2, 60, .inr (.inl (fun _ => 0)))), (q2, .inl (zA θ 0, 6, .inl (upd (upd (upd (fun _ => 0) 0 (-1)) 1 (-1)) 2 (-1)))), (q3, .inl (zA θ 0, 6, .inl (fun _ => 0)))]) (pc' := 47) (cells' := 9) (slots' := 378) rfl rfl rfl rfl ?_
  refine k_iinc (v := 3) (lv' := [(1, .int 3), (0, .ref h0)]) 0 d_Tapes_init_47 rfl (by decide) (by decide) rfl ?_
  refine k_goto (tgt := 34) d_Tapes_init_50 (by decide) ?_
  refine k_iload_n 0 d_Tapes_init_34 rfl rfl ?_
  refine k_bipush (v := 6) d_Tapes_init_35 (by decide) ?_
  refine k_ge_f (tgt := 53) (by decide) d_Tapes_init_37 (by decide) ?_
  refine k_aload_n 1 d_Tapes_init_40 rfl rfl ?_
  refine k_get (C := R_Tapes) (T := F_Tapes) (N := 3) (ci := 11) (k := 1) d_Tapes_init_41 rfl i_Tapes rfl (by decide) kq_293 rfl ?_
  refine k_iload_n 0 d_Tapes_init_44 rfl rfl ?_
  refine k_iconst (v := -1) d_Tapes_init_45 (by decide) ?_
  refine k_iast (q0 := 8) d_Tapes_init_46 rfl (by decide +kernel) rfl rfl ?_
  refine k_w (ws' := [(h0, .inr (11, [.ref q0, .ref q2, .ref q3])), (q0, .inl (zA θ 6, 6, .inr (.inr (.inr (.inr (kfm [some (u1 0), some (u1 1), some (u1 2), some (u1 3), some (u1 4), some (u1 5)])))))), (u1 0, .inl (zA θ 2, 60, .inr (.inl (fun _ => 0)))), (u1 1, .inl (zA θ 2, 60, .inr (.inl (fun _ => 0)))), (u1 2, .inl (zA θ 2, 60, .inr (.inl (fun _ => 0)))), (u1 3, .inl (zA θ 2, 60, .inr (.inl (fun _ => 0)))), (u1 4, .inl (zA θ 2, 60, .inr (.inl (fun _ => 0)))), (u1 5, .inl (zA θ 2, 60, .inr (.inl (fun _ => 0)))), (q2, .inl (zA θ 0, 6, .inl (upd (upd (upd (upd (fun _ => 0) 0 (-1)) 1 (-1)) 2 (-1)) 3 (-1)))), (q3, .inl (zA θ 0, 6, .inl (fun _ => 0)))]) (pc' := 47) (cells' := 9) (slots' := 378) rfl rfl rfl rfl ?_
  refine k_iinc (v := 4) (lv' := [(1, .int 4), (0, .ref h0)]) 0 d_Tapes_init_47 rfl (by decide) (by decide) rfl ?_
  refine k_goto (tgt := 34) d_Tapes_init_50 (by decide) ?_
  refine k_iload_n 0 d_Tapes_init_34 rfl rfl ?_
  refine k_bipush (v := 6) d_Tapes_init_35 (by decide) ?_
  refine k_ge_f (tgt := 53) (by decide) d_Tapes_init_37 (by decide) ?_
  refine k_aload_n 1 d_Tapes_init_40 rfl rfl ?_
  refine k_get (C := R_Tapes) (T := F_Tapes) (N := 3) (ci := 11) (k := 1) d_Tapes_init_41 rfl i_Tapes rfl (by decide) kq_293 rfl ?_
  refine k_iload_n 0 d_Tapes_init_44 rfl rfl ?_
  refine k_iconst (v := -1) d_Tapes_init_45 (by decide) ?_
  refine k_iast (q0 := 8) d_Tapes_init_46 rfl (by decide +kernel) rfl rfl ?_
  refine k_w (ws' := [(h0, .inr (11, [.ref q0, .ref q2, .ref q3])), (q0, .inl (zA θ 6, 6, .inr (.inr (.inr (.inr (kfm [some (u1 0), some (u1 1), some (u1 2), some (u1 3), some (u1 4), some (u1 5)])))))), (u1 0, .inl (zA θ 2, 60, .inr (.inl (fun _ => 0)))), (u1 1, .inl (zA θ 2, 60, .inr (.inl (fun _ => 0)))), (u1 2, .inl (zA θ 2, 60, .inr (.inl (fun _ => 0)))), (u1 3, .inl (zA θ 2, 60, .inr (.inl (fun _ => 0)))), (u1 4, .inl (zA θ 2, 60, .inr (.inl (fun _ => 0)))), (u1 5, .inl (zA θ 2, 60, .inr (.inl (fun _ => 0)))), (q2, .inl (zA θ 0, 6, .inl (upd (upd (upd (upd (upd (fun _ => 0) 0 (-1)) 1 (-1)) 2 (-1)) 3 (-1)) 4 (-1)))), (q3, .inl (zA θ 0, 6, .inl (fun _ => 0)))]) (pc' := 47) (cells' := 9) (slots' := 378) rfl rfl rfl rfl ?_
  refine k_iinc (v := 5) (lv' := [(1, .int 5), (0, .ref h0)]) 0 d_Tapes_init_47 rfl (by decide) (by decide) rfl ?_
  refine k_goto (tgt := 34) d_Tapes_init_50 (by decide) ?_
  refine k_iload_n 0 d_Tapes_init_34 rfl rfl ?_
  refine k_bipush (v := 6) d_Tapes_init_35 (by decide) ?_
  refine k_ge_f (tgt := 53) (by decide) d_Tapes_init_37 (by decide) ?_
  refine k_aload_n 1 d_Tapes_init_40 rfl rfl ?_
  refine k_get (C := R_Tapes) (T := F_Tapes) (N := 3) (ci := 11) (k := 1) d_Tapes_init_41 rfl i_Tapes rfl (by decide) kq_293 rfl ?_
  refine k_iload_n 0 d_Tapes_init_44 rfl rfl ?_
  refine k_iconst (v := -1) d_Tapes_init_45 (by decide) ?_
  refine k_iast (q0 := 8) d_Tapes_init_46 rfl (by decide +kernel) rfl rfl ?_
  refine k_w (ws' := [(h0, .inr (11, [.ref q0, .ref q2, .ref q3])), (q0, .inl (zA θ 6, 6, .inr (.inr (.inr (.inr (kfm [some (u1 0), some (u1 1), some (u1 2), some (u1 3), some (u1 4), some (u1 5)])))))), (u1 0, .inl (zA θ 2, 60, .inr (.inl (fun _ => 0)))), (u1 1, .inl (zA θ 2, 60, .inr (.inl (fun _ => 0)))), (u1 2, .inl (zA θ 2, 60, .inr (.inl (fun _ => 0)))), (u1 3, .inl (zA θ 2, 60, .inr (.inl (fun _ => 0)))), (u1 4, .inl (zA θ 2, 60, .inr (.inl (fun _ => 0)))), (u1 5, .inl (zA θ 2, 60, .inr (.inl (fun _ => 0)))), (q2, .inl (zA θ 0, 6, .inl (upd (upd (upd (upd (upd (upd (fun _ => 0) 0 (-1)) 1 (-1)) 2 (-1)) 3 (-1)) 4 (-1)) 5 (-1)))), (q3, .inl (zA θ 0, 6, .inl (fun _ => 0)))]) (pc' := 47) (cells' := 9) (slots' := 378) rfl rfl rfl rfl ?_
  refine k_iinc (v := 6) (lv' := [(1, .int 6), (0, .ref h0)]) 0 d_Tapes_init_47 rfl (by decide) (by decide) rfl ?_
  refine k_goto (tgt := 34) d_Tapes_init_50 (by decide) ?_
  refine k_iload_n 0 d_Tapes_init_34 rfl rfl ?_
  refine k_bipush (v := 6) d_Tapes_init_35 (by decide) ?_
  refine k_ge_t (tgt := 53) (by decide) d_Tapes_init_37 (by decide) ?_
  exact k_ret d_Tapes_init_53 (fun k => [q0, u1 0, u1 1, u1 2, u1 3, u1 4, u1 5, q2, q3].getD k 0) rfl
abbrev b_Model_init : ByteArray := prog_14_method_1_code
def y_Model_init : MethodName := ⟨"BakedBeforeModel", "<init>", "()V"⟩
theorem cf_Model_init : zcf y_Model_init b_Model_init 1 none 0 := ⟨kq_869, kq_13, by decide, by decide, by decide +kernel⟩
theorem d_Model_init_0 : decode b_Model_init 0 = .ok (.aload_n 0, 1) := by decide +kernel
theorem d_Model_init_1 : decode b_Model_init 1 = .ok (.invokespecial 3, 3) := by decide +kernel
theorem d_Model_init_4 : decode b_Model_init 4 = .ok (.aload_n 0, 1) := by decide +kernel
theorem d_Model_init_5 : decode b_Model_init 5 = .ok (.bipush (92), 2) := by decide +kernel
theorem d_Model_init_7 : decode b_Model_init 7 = .ok (.newarray .int, 2) := by decide +kernel
theorem d_Model_init_9 : decode b_Model_init 9 = .ok (.putfield 11, 3) := by decide +kernel
theorem d_Model_init_12 : decode b_Model_init 12 = .ok (.aload_n 0, 1) := by decide +kernel
theorem d_Model_init_13 : decode b_Model_init 13 = .ok (.bipush (92), 2) := by decide +kernel
theorem d_Model_init_15 : decode b_Model_init 15 = .ok (.newarray .int, 2) := by decide +kernel
theorem d_Model_init_17 : decode b_Model_init 17 = .ok (.putfield 15, 3) := by decide +kernel
theorem d_Model_init_20 : decode b_Model_init 20 = .ok (.aload_n 0, 1) := by decide +kernel
theorem d_Model_init_21 : decode b_Model_init 21 = .ok (.bipush (92), 2) := by decide +kernel
theorem d_Model_init_23 : decode b_Model_init 23 = .ok (.newarray .int, 2) := by decide +kernel
theorem d_Model_init_25 : decode b_Model_init 25 = .ok (.putfield 18, 3) := by decide +kernel
theorem d_Model_init_28 : decode b_Model_init 28 = .ok (.aload_n 0, 1) := by decide +kernel
theorem d_Model_init_29 : decode b_Model_init 29 = .ok (.bipush (100), 2) := by decide +kernel
theorem d_Model_init_31 : decode b_Model_init 31 = .ok (.newarray .int, 2) := by decide +kernel
theorem d_Model_init_33 : decode b_Model_init 33 = .ok (.putfield 21, 3) := by decide +kernel
theorem d_Model_init_36 : decode b_Model_init 36 = .ok (.aload_n 0, 1) := by decide +kernel
theorem d_Model_init_37 : decode b_Model_init 37 = .ok (.sipush (600), 3) := by decide +kernel
theorem d_Model_init_40 : decode b_Model_init 40 = .ok (.newarray .int, 2) := by decide +kernel
theorem d_Model_init_42 : decode b_Model_init 42 = .ok (.putfield 24, 3) := by decide +kernel
theorem d_Model_init_45 : decode b_Model_init 45 = .ok (.aload_n 0, 1) := by decide +kernel
theorem d_Model_init_46 : decode b_Model_init 46 = .ok (.bipush (6), 2) := by decide +kernel
theorem d_Model_init_48 : decode b_Model_init 48 = .ok (.newarray .int, 2) := by decide +kernel
theorem d_Model_init_50 : decode b_Model_init 50 = .ok (.putfield 27, 3) := by decide +kernel
theorem d_Model_init_53 : decode b_Model_init 53 = .ok (.aload_n 0, 1) := by decide +kernel
theorem d_Model_init_54 : decode b_Model_init 54 = .ok (.iconst (4), 1) := by decide +kernel
theorem d_Model_init_55 : decode b_Model_init 55 = .ok (.newarray .int, 2) := by decide +kernel
theorem d_Model_init_57 : decode b_Model_init 57 = .ok (.putfield 30, 3) := by decide +kernel
theorem d_Model_init_60 : decode b_Model_init 60 = .ok (.aload_n 0, 1) := by decide +kernel
theorem d_Model_init_61 : decode b_Model_init 61 = .ok (.bipush (6), 2) := by decide +kernel
theorem d_Model_init_63 : decode b_Model_init 63 = .ok (.newarray .int, 2) := by decide +kernel
theorem d_Model_init_65 : decode b_Model_init 65 = .ok (.putfield 33, 3) := by decide +kernel
theorem d_Model_init_68 : decode b_Model_init 68 = .ok (.aload_n 0, 1) := by decide +kernel
theorem d_Model_init_69 : decode b_Model_init 69 = .ok (.bipush (6), 2) := by decide +kernel
theorem d_Model_init_71 : decode b_Model_init 71 = .ok (.newarray .int, 2) := by decide +kernel
theorem d_Model_init_73 : decode b_Model_init 73 = .ok (.putfield 36, 3) := by decide +kernel
theorem d_Model_init_76 : decode b_Model_init 76 = .ok (.aload_n 0, 1) := by decide +kernel
theorem d_Model_init_77 : decode b_Model_init 77 = .ok (.bipush (6), 2) := by decide +kernel
theorem d_Model_init_79 : decode b_Model_init 79 = .ok (.newarray .int, 2) := by decide +kernel
theorem d_Model_init_81 : decode b_Model_init 81 = .ok (.dup, 1) := by decide +kernel
theorem d_Model_init_82 : decode b_Model_init 82 = .ok (.iconst (0), 1) := by decide +kernel
theorem d_Model_init_83 : decode b_Model_init 83 = .ok (.iconst (-1), 1) := by decide +kernel
theorem d_Model_init_84 : decode b_Model_init 84 = .ok (.iastore, 1) := by decide +kernel
theorem d_Model_init_85 : decode b_Model_init 85 = .ok (.dup, 1) := by decide +kernel
theorem d_Model_init_86 : decode b_Model_init 86 = .ok (.iconst (1), 1) := by decide +kernel
theorem d_Model_init_87 : decode b_Model_init 87 = .ok (.iconst (-1), 1) := by decide +kernel
theorem d_Model_init_88 : decode b_Model_init 88 = .ok (.iastore, 1) := by decide +kernel
theorem d_Model_init_89 : decode b_Model_init 89 = .ok (.dup, 1) := by decide +kernel
theorem d_Model_init_90 : decode b_Model_init 90 = .ok (.iconst (2), 1) := by decide +kernel
theorem d_Model_init_91 : decode b_Model_init 91 = .ok (.iconst (-1), 1) := by decide +kernel
theorem d_Model_init_92 : decode b_Model_init 92 = .ok (.iastore, 1) := by decide +kernel
theorem d_Model_init_93 : decode b_Model_init 93 = .ok (.dup, 1) := by decide +kernel
theorem d_Model_init_94 : decode b_Model_init 94 = .ok (.iconst (3), 1) := by decide +kernel
theorem d_Model_init_95 : decode b_Model_init 95 = .ok (.iconst (-1), 1) := by decide +kernel
theorem d_Model_init_96 : decode b_Model_init 96 = .ok (.iastore, 1) := by decide +kernel
theorem d_Model_init_97 : decode b_Model_init 97 = .ok (.dup, 1) := by decide +kernel
theorem d_Model_init_98 : decode b_Model_init 98 = .ok (.iconst (4), 1) := by decide +kernel
theorem d_Model_init_99 : decode b_Model_init 99 = .ok (.iconst (-1), 1) := by decide +kernel
theorem d_Model_init_100 : decode b_Model_init 100 = .ok (.iastore, 1) := by decide +kernel
theorem d_Model_init_101 : decode b_Model_init 101 = .ok (.dup, 1) := by decide +kernel
theorem d_Model_init_102 : decode b_Model_init 102 = .ok (.iconst (5), 1) := by decide +kernel
theorem d_Model_init_103 : decode b_Model_init 103 = .ok (.iconst (-1), 1) := by decide +kernel
theorem d_Model_init_104 : decode b_Model_init 104 = .ok (.iastore, 1) := by decide +kernel
theorem d_Model_init_105 : decode b_Model_init 105 = .ok (.putfield 39, 3) := by decide +kernel
theorem d_Model_init_108 : decode b_Model_init 108 = .ok (.aload_n 0, 1) := by decide +kernel
theorem d_Model_init_109 : decode b_Model_init 109 = .ok (.bipush (6), 2) := by decide +kernel
theorem d_Model_init_111 : decode b_Model_init 111 = .ok (.newarray .int, 2) := by decide +kernel
theorem d_Model_init_113 : decode b_Model_init 113 = .ok (.putfield 42, 3) := by decide +kernel
theorem d_Model_init_116 : decode b_Model_init 116 = .ok (.aload_n 0, 1) := by decide +kernel
theorem d_Model_init_117 : decode b_Model_init 117 = .ok (.sipush (360), 3) := by decide +kernel
theorem d_Model_init_120 : decode b_Model_init 120 = .ok (.newarray .long, 2) := by decide +kernel
theorem d_Model_init_122 : decode b_Model_init 122 = .ok (.putfield 45, 3) := by decide +kernel
theorem d_Model_init_125 : decode b_Model_init 125 = .ok (.aload_n 0, 1) := by decide +kernel
theorem d_Model_init_126 : decode b_Model_init 126 = .ok (.bipush (20), 2) := by decide +kernel
theorem d_Model_init_128 : decode b_Model_init 128 = .ok (.newarray .int, 2) := by decide +kernel
theorem d_Model_init_130 : decode b_Model_init 130 = .ok (.putfield 49, 3) := by decide +kernel
theorem d_Model_init_133 : decode b_Model_init 133 = .ok (.return_, 1) := by decide +kernel
def kw_Model (θ : ZT) (h0 : Nat) (u : Nat → Nat) : va_W := [(h0, .inr (12, [.ref (u 0), .ref (u 1), .ref (u 2), .int 0, .ref (u 3), .ref (u 4), .ref (u 5), .int 0, .int 0, .int 0, .int 0, .int 0, .int 0, .int 0, .int 0, .int 0, .int 0, .int 0, .int 0, .int 0, .int 0, .ref (u 6), .ref (u 7), .ref (u 8), .int 0, .ref (u 9), .ref (u 10), .ref (u 11), .ref (u 12), .int 0, .int 0])), (u 0, .inl (zA θ 0, 92, .inl (fun _ => 0))), (u 1, .inl (zA θ 0, 92, .inl (fun _ => 0))), (u 2, .inl (zA θ 0, 92, .inl (fun _ => 0))), (u 3, .inl (zA θ 0, 100, .inl (fun _ => 0))), (u 4, .inl (zA θ 0, 600, .inl (fun _ => 0))), (u 5, .inl (zA θ 0, 6, .inl (fun _ => 0))), (u 6, .inl (zA θ 0, 4, .inl (fun _ => 0))), (u 7, .inl (zA θ 0, 6, .inl (fun _ => 0))), (u 8, .inl (zA θ 0, 6, .inl (fun _ => 0))), (u 9, .inl (zA θ 0, 6, .inl (upd (upd (upd (upd (upd (upd (fun _ => 0) 0 (-1)) 1 (-1)) 2 (-1)) 3 (-1)) 4 (-1)) 5 (-1)))), (u 10, .inl (zA θ 0, 6, .inl (fun _ => 0))), (u 11, .inl (zA θ 2, 360, .inr (.inl (fun _ => 0)))), (u 12, .inl (zA θ 0, 20, .inl (fun _ => 0)))]
set_option maxHeartbeats 4000000 in
set_option maxRecDepth 100000 in
theorem c_Model_init (l : Launch) (θ : ZT) (sz h0 : Nat) : kMet l θ y_Model_init b_Model_init 1 { frames := 1, cells := 13, slots := 1390, locals := 40 } [] sz h0 (.inr (12, [.null, .null, .null, .int 0, .null, .null, .null, .int 0, .int 0, .int 0, .int 0, .int 0, .int 0, .int 0, .int 0, .int 0, .int 0, .int 0, .int 0, .int 0, .int 0, .null, .null, .null, .int 0, .null, .null, .null, .null, .int 0, .int 0])) 13 1390 (kw_Model θ h0) := by
  refine k_met (lv := [(0, .ref h0)]) (by decide +kernel) rfl rfl (Nat.le_of_ble_eq_true rfl) ?_
  refine k_aload_n 0 d_Model_init_0 rfl rfl ?_
  refine k_objInit d_Model_init_1 kq_870 kq_27 kq_28 (Nat.le_of_ble_eq_true rfl) (Nat.le_of_ble_eq_true rfl) ?_
  refine k_aload_n 0 d_Model_init_4 rfl rfl ?_
  refine k_bipush (v := 92) d_Model_init_5 (by decide) ?_
  refine k_newa (atype := .int) (ty := .int) (t0 := 0) (N' := 92) (a0 := (92, .inl (fun _ => 0))) d_Model_init_7 rfl kq_57 ⟨0, rfl, rfl⟩ (fun _ _ h => h) (fun _ => rfl) (by decide) (by decide) (Nat.le_of_ble_eq_true rfl) (Nat.le_of_ble_eq_true rfl) (Nat.le_of_ble_eq_true rfl) (fun q0 => ?_)
  refine k_w (ws' := [(h0, .inr (12, [.null, .null, .null, .int 0, .null, .null, .null, .int 0, .int 0, .int 0, .int 0, .int 0, .int 0, .int 0, .int 0, .int 0, .int 0, .int 0, .int 0, .int 0, .int 0, .null, .null, .null, .int 0, .null, .null, .null, .null, .int 0, .int 0])), (q0, .inl (zA θ 0, 92, .inl (fun _ => 0)))]) (pc' := 9) (cells' := 1) (slots' := 92) rfl rfl rfl rfl ?_
  refine k_putF (C := R_Model) (T := F_Model) (N := 31) (ci := 12) (k := 0) (ty := (.array .int)) (fs' := [.ref q0, .null, .null, .int 0, .null, .null, .null, .int 0, .int 0, .int 0, .int 0, .int 0, .int 0, .int 0, .int 0, .int 0, .int 0, .int 0, .int 0, .int 0, .int 0, .null, .null, .null, .int 0, .null, .null, .null, .null, .int 0, .int 0]) d_Model_init_9 rfl i_Model t_Model_ok n_Model rfl (by decide) kq_871 rfl (by decide +kernel) rfl rfl (Nat.le_of_ble_eq_true rfl) rfl ?_
  refine k_w (ws' := [(h0, .inr (12, [.ref q0, .null, .null, .int 0, .null, .null, .null, .int 0, .int 0, .int 0, .int 0, .int 0, .int 0, .int 0, .int 0, .int 0, .int 0, .int 0, .int 0, .int 0, .int 0, .null, .null, .null, .int 0, .null, .null, .null, .null, .int 0, .int 0])), (q0, .inl (zA θ 0, 92, .inl (fun _ => 0)))]) (pc' := 12) (cells' := 1) (slots' := 92) rfl rfl rfl rfl ?_
  refine k_aload_n 0 d_Model_init_12 rfl rfl ?_
  refine k_bipush (v := 92) d_Model_init_13 (by decide) ?_
  refine k_newa (atype := .int) (ty := .int) (t0 := 0) (N' := 92) (a0 := (92, .inl (fun _ => 0))) d_Model_init_15 rfl kq_57 ⟨0, rfl, rfl⟩ (fun _ _ h => h) (fun _ => rfl) (by decide) (by decide) (Nat.le_of_ble_eq_true rfl) (Nat.le_of_ble_eq_true rfl) (Nat.le_of_ble_eq_true rfl) (fun q1 => ?_)
  refine k_w (ws' := [(h0, .inr (12, [.ref q0, .null, .null, .int 0, .null, .null, .null, .int 0, .int 0, .int 0, .int 0, .int 0, .int 0, .int 0, .int 0, .int 0, .int 0, .int 0, .int 0, .int 0, .int 0, .null, .null, .null, .int 0, .null, .null, .null, .null, .int 0, .int 0])), (q0, .inl (zA θ 0, 92, .inl (fun _ => 0))), (q1, .inl (zA θ 0, 92, .inl (fun _ => 0)))]) (pc' := 17) (cells' := 2) (slots' := 184) rfl rfl rfl rfl ?_
  refine k_putF (C := R_Model) (T := F_Model) (N := 31) (ci := 12) (k := 1) (ty := (.array .int)) (fs' := [.ref q0, .ref q1, .null, .int 0, .null, .null, .null, .int 0, .int 0, .int 0, .int 0, .int 0, .int 0, .int 0, .int 0, .int 0, .int 0, .int 0, .int 0, .int 0, .int 0, .null, .null, .null, .int 0, .null, .null, .null, .null, .int 0, .int 0]) d_Model_init_17 rfl i_Model t_Model_ok n_Model rfl (by decide) kq_872 rfl (by decide +kernel) rfl rfl (Nat.le_of_ble_eq_true rfl) rfl ?_
  refine k_w (ws' := [(h0, .inr (12, [.ref q0, .ref q1, .null, .int 0, .null, .null, .null, .int 0, .int 0, .int 0, .int 0, .int 0, .int 0, .int 0, .int 0, .int 0, .int 0, .int 0, .int 0, .int 0, .int 0, .null, .null, .null, .int 0, .null, .null, .null, .null, .int 0, .int 0])), (q0, .inl (zA θ 0, 92, .inl (fun _ => 0))), (q1, .inl (zA θ 0, 92, .inl (fun _ => 0)))]) (pc' := 20) (cells' := 2) (slots' := 184) rfl rfl rfl rfl ?_
  refine k_aload_n 0 d_Model_init_20 rfl rfl ?_
  refine k_bipush (v := 92) d_Model_init_21 (by decide) ?_
  refine k_newa (atype := .int) (ty := .int) (t0 := 0) (N' := 92) (a0 := (92, .inl (fun _ => 0))) d_Model_init_23 rfl kq_57 ⟨0, rfl, rfl⟩ (fun _ _ h => h) (fun _ => rfl) (by decide) (by decide) (Nat.le_of_ble_eq_true rfl) (Nat.le_of_ble_eq_true rfl) (Nat.le_of_ble_eq_true rfl) (fun q2 => ?_)
  refine k_w (ws' := [(h0, .inr (12, [.ref q0, .ref q1, .null, .int 0, .null, .null, .null, .int 0, .int 0, .int 0, .int 0, .int 0, .int 0, .int 0, .int 0, .int 0, .int 0, .int 0, .int 0, .int 0, .int 0, .null, .null, .null, .int 0, .null, .null, .null, .null, .int 0, .int 0])), (q0, .inl (zA θ 0, 92, .inl (fun _ => 0))), (q1, .inl (zA θ 0, 92, .inl (fun _ => 0))), (q2, .inl (zA θ 0, 92, .inl (fun _ => 0)))]) (pc' := 25) (cells' := 3) (slots' := 276) rfl rfl rfl rfl ?_
  refine k_putF (C := R_Model) (T := F_Model) (N := 31) (ci := 12) (k := 2) (ty := (.array .int)) (fs' := [.ref q0, .ref q1, .ref q2, .int 0, .null, .null, .null, .int 0, .int 0, .int 0, .int 0, .int 0, .int 0, .int 0, .int 0, .int 0, .int 0, .int 0, .int 0, .int 0, .int 0, .null, .null, .null, .int 0, .null, .null, .null, .null, .int 0, .int 0]) d_Model_init_25 rfl i_Model t_Model_ok n_Model rfl (by decide) kq_873 rfl (by decide +kernel) rfl rfl (Nat.le_of_ble_eq_true rfl) rfl ?_
  refine k_w (ws' := [(h0, .inr (12, [.ref q0, .ref q1, .ref q2, .int 0, .null, .null, .null, .int 0, .int 0, .int 0, .int 0, .int 0, .int 0, .int 0, .int 0, .int 0, .int 0, .int 0, .int 0, .int 0, .int 0, .null, .null, .null, .int 0, .null, .null, .null, .null, .int 0, .int 0])), (q0, .inl (zA θ 0, 92, .inl (fun _ => 0))), (q1, .inl (zA θ 0, 92, .inl (fun _ => 0))), (q2, .inl (zA θ 0, 92, .inl (fun _ => 0)))]) (pc' := 28) (cells' := 3) (slots' := 276) rfl rfl rfl rfl ?_
  refine k_aload_n 0 d_Model_init_28 rfl rfl ?_
  refine k_bipush (v := 100) d_Model_init_29 (by decide) ?_
  refine k_newa (atype := .int) (ty := .int) (t0 := 0) (N' := 100) (a0 := (100, .inl (fun _ => 0))) d_Model_init_31 rfl kq_57 ⟨0, rfl, rfl⟩ (fun _ _ h => h) (fun _ => rfl) (by decide) (by decide) (Nat.le_of_ble_eq_true rfl) (Nat.le_of_ble_eq_true rfl) (Nat.le_of_ble_eq_true rfl) (fun q3 => ?_)
  refine k_w (ws' := [(h0, .inr (12, [.ref q0, .ref q1, .ref q2, .int 0, .null, .null, .null, .int 0, .int 0, .int 0, .int 0, .int 0, .int 0, .int 0, .int 0, .int 0, .int 0, .int 0, .int 0, .int 0, .int 0, .null, .null, .null, .int 0, .null, .null, .null, .null, .int 0, .int 0])), (q0, .inl (zA θ 0, 92, .inl (fun _ => 0))), (q1, .inl (zA θ 0, 92, .inl (fun _ => 0))), (q2, .inl (zA θ 0, 92, .inl (fun _ => 0))), (q3, .inl (zA θ 0, 100, .inl (fun _ => 0)))]) (pc' := 33) (cells' := 4) (slots' := 376) rfl rfl rfl rfl ?_
  refine k_putF (C := R_Model) (T := F_Model) (N := 31) (ci := 12) (k := 4) (ty := (.array .int)) (fs' := [.ref q0, .ref q1, .ref q2, .int 0, .ref q3, .null, .null, .int 0, .int 0, .int 0, .int 0, .int 0, .int 0, .int 0, .int 0, .int 0, .int 0, .int 0, .int 0, .int 0, .int 0, .null, .null, .null, .int 0, .null, .null, .null, .null, .int 0, .int 0]) d_Model_init_33 rfl i_Model t_Model_ok n_Model rfl (by decide) kq_875 rfl (by decide +kernel) rfl rfl (Nat.le_of_ble_eq_true rfl) rfl ?_
  refine k_w (ws' := [(h0, .inr (12, [.ref q0, .ref q1, .ref q2, .int 0, .ref q3, .null, .null, .int 0, .int 0, .int 0, .int 0, .int 0, .int 0, .int 0, .int 0, .int 0, .int 0, .int 0, .int 0, .int 0, .int 0, .null, .null, .null, .int 0, .null, .null, .null, .null, .int 0, .int 0])), (q0, .inl (zA θ 0, 92, .inl (fun _ => 0))), (q1, .inl (zA θ 0, 92, .inl (fun _ => 0))), (q2, .inl (zA θ 0, 92, .inl (fun _ => 0))), (q3, .inl (zA θ 0, 100, .inl (fun _ => 0)))]) (pc' := 36) (cells' := 4) (slots' := 376) rfl rfl rfl rfl ?_
  refine k_aload_n 0 d_Model_init_36 rfl rfl ?_
  refine k_sipush (v := 600) d_Model_init_37 (by decide) ?_
  refine k_newa (atype := .int) (ty := .int) (t0 := 0) (N' := 600) (a0 := (600, .inl (fun _ => 0))) d_Model_init_40 rfl kq_57 ⟨0, rfl, rfl⟩ (fun _ _ h => h) (fun _ => rfl) (by decide) (by decide) (Nat.le_of_ble_eq_true rfl) (Nat.le_of_ble_eq_true rfl) (Nat.le_of_ble_eq_true rfl) (fun q4 => ?_)
  refine k_w (ws' := [(h0, .inr (12, [.ref q0, .ref q1, .ref q2, .int 0, .ref q3, .null, .null, .int 0, .int 0, .int 0, .int 0, .int 0, .int 0, .int 0, .int 0, .int 0, .int 0, .int 0, .int 0, .int 0, .int 0, .null, .null, .null, .int 0, .null, .null, .null, .null, .int 0, .int 0])), (q0, .inl (zA θ 0, 92, .inl (fun _ => 0))), (q1, .inl (zA θ 0, 92, .inl (fun _ => 0))), (q2, .inl (zA θ 0, 92, .inl (fun _ => 0))), (q3, .inl (zA θ 0, 100, .inl (fun _ => 0))), (q4, .inl (zA θ 0, 600, .inl (fun _ => 0)))]) (pc' := 42) (cells' := 5) (slots' := 976) rfl rfl rfl rfl ?_
  refine k_putF (C := R_Model) (T := F_Model) (N := 31) (ci := 12) (k := 5) (ty := (.array .int)) (fs' := [.ref q0, .ref q1, .ref q2, .int 0, .ref q3, .ref q4, .null, .int 0, .int 0, .int 0, .int 0, .int 0, .int 0, .int 0, .int 0, .int 0, .int 0, .int 0, .int 0, .int 0, .int 0, .null, .null, .null, .int 0, .null, .null, .null, .null, .int 0, .int 0]) d_Model_init_42 rfl i_Model t_Model_ok n_Model rfl (by decide) kq_876 rfl (by decide +kernel) rfl rfl (Nat.le_of_ble_eq_true rfl) rfl ?_
  refine k_w (ws' := [(h0, .inr (12, [.ref q0, .ref q1, .ref q2, .int 0, .ref q3, .ref q4, .null, .int 0, .int 0, .int 0, .int 0, .int 0, .int 0, .int 0, .int 0, .int 0, .int 0, .int 0, .int 0, .int 0, .int 0, .null, .null, .null, .int 0, .null, .null, .null, .null, .int 0, .int 0])), (q0, .inl (zA θ 0, 92, .inl (fun _ => 0))), (q1, .inl (zA θ 0, 92, .inl (fun _ => 0))), (q2, .inl (zA θ 0, 92, .inl (fun _ => 0))), (q3, .inl (zA θ 0, 100, .inl (fun _ => 0))), (q4, .inl (zA θ 0, 600, .inl (fun _ => 0)))]) (pc' := 45) (cells' := 5) (slots' := 976) rfl rfl rfl rfl ?_
  refine k_aload_n 0 d_Model_init_45 rfl rfl ?_
  refine k_bipush (v := 6) d_Model_init_46 (by decide) ?_
  refine k_newa (atype := .int) (ty := .int) (t0 := 0) (N' := 6) (a0 := (6, .inl (fun _ => 0))) d_Model_init_48 rfl kq_57 ⟨0, rfl, rfl⟩ (fun _ _ h => h) (fun _ => rfl) (by decide) (by decide) (Nat.le_of_ble_eq_true rfl) (Nat.le_of_ble_eq_true rfl) (Nat.le_of_ble_eq_true rfl) (fun q5 => ?_)
  refine k_w (ws' := [(h0, .inr (12, [.ref q0, .ref q1, .ref q2, .int 0, .ref q3, .ref q4, .null, .int 0, .int 0, .int 0, .int 0, .int 0, .int 0, .int 0, .int 0, .int 0, .int 0, .int 0, .int 0, .int 0, .int 0, .null, .null, .null, .int 0, .null, .null, .null, .null, .int 0, .int 0])), (q0, .inl (zA θ 0, 92, .inl (fun _ => 0))), (q1, .inl (zA θ 0, 92, .inl (fun _ => 0))), (q2, .inl (zA θ 0, 92, .inl (fun _ => 0))), (q3, .inl (zA θ 0, 100, .inl (fun _ => 0))), (q4, .inl (zA θ 0, 600, .inl (fun _ => 0))), (q5, .inl (zA θ 0, 6, .inl (fun _ => 0)))]) (pc' := 50) (cells' := 6) (slots' := 982) rfl rfl rfl rfl ?_
  refine k_putF (C := R_Model) (T := F_Model) (N := 31) (ci := 12) (k := 6) (ty := (.array .int)) (fs' := [.ref q0, .ref q1, .ref q2, .int 0, .ref q3, .ref q4, .ref q5, .int 0, .int 0, .int 0, .int 0, .int 0, .int 0, .int 0, .int 0, .int 0, .int 0, .int 0, .int 0, .int 0, .int 0, .null, .null, .null, .int 0, .null, .null, .null, .null, .int 0, .int 0]) d_Model_init_50 rfl i_Model t_Model_ok n_Model rfl (by decide) kq_877 rfl (by decide +kernel) rfl rfl (Nat.le_of_ble_eq_true rfl) rfl ?_
  refine k_w (ws' := [(h0, .inr (12, [.ref q0, .ref q1, .ref q2, .int 0, .ref q3, .ref q4, .ref q5, .int 0, .int 0, .int 0, .int 0, .int 0, .int 0, .int 0, .int 0, .int 0, .int 0, .int 0, .int 0, .int 0, .int 0, .null, .null, .null, .int 0, .null, .null, .null, .null, .int 0, .int 0])), (q0, .inl (zA θ 0, 92, .inl (fun _ => 0))), (q1, .inl (zA θ 0, 92, .inl (fun _ => 0))), (q2, .inl (zA θ 0, 92, .inl (fun _ => 0))), (q3, .inl (zA θ 0, 100, .inl (fun _ => 0))), (q4, .inl (zA θ 0, 600, .inl (fun _ => 0))), (q5, .inl (zA θ 0, 6, .inl (fun _ => 0)))]) (pc' := 53) (cells' := 6) (slots' := 982) rfl rfl rfl rfl ?_
  refine k_aload_n 0 d_Model_init_53 rfl rfl ?_
  refine k_iconst (v := 4) d_Model_init_54 (by decide) ?_
  refine k_newa (atype := .int) (ty := .int) (t0 := 0) (N' := 4) (a0 := (4, .inl (fun _ => 0))) d_Model_init_55 rfl kq_57 ⟨0, rfl, rfl⟩ (fun _ _ h => h) (fun _ => rfl) (by decide) (by decide) (Nat.le_of_ble_eq_true rfl) (Nat.le_of_ble_eq_true rfl) (Nat.le_of_ble_eq_true rfl) (fun q6 => ?_)
  refine k_w (ws' := [(h0, .inr (12, [.ref q0, .ref q1, .ref q2, .int 0, .ref q3, .ref q4, .ref q5, .int 0, .int 0, .int 0, .int 0, .int 0, .int 0, .int 0, .int 0, .int 0, .int 0, .int 0, .int 0, .int 0, .int 0, .null, .null, .null, .int 0, .null, .null, .null, .null, .int 0, .int 0])), (q0, .inl (zA θ 0, 92, .inl (fun _ => 0))), (q1, .inl (zA θ 0, 92, .inl (fun _ => 0))), (q2, .inl (zA θ 0, 92, .inl (fun _ => 0))), (q3, .inl (zA θ 0, 100, .inl (fun _ => 0))), (q4, .inl (zA θ 0, 600, .inl (fun _ => 0))), (q5, .inl (zA θ 0, 6, .inl (fun _ => 0))), (q6, .inl (zA θ 0, 4, .inl (fun _ => 0)))]) (pc' := 57) (cells' := 7) (slots' := 986) rfl rfl rfl rfl ?_
  refine k_putF (C := R_Model) (T := F_Model) (N := 31) (ci := 12) (k := 21) (ty := (.array .int)) (fs' := [.ref q0, .ref q1, .ref q2, .int 0, .ref q3, .ref q4, .ref q5, .int 0, .int 0, .int 0, .int 0, .int 0, .int 0, .int 0, .int 0, .int 0, .int 0, .int 0, .int 0, .int 0, .int 0, .ref q6, .null, .null, .int 0, .null, .null, .null, .null, .int 0, .int 0]) d_Model_init_57 rfl i_Model t_Model_ok n_Model rfl (by decide) kq_892 rfl (by decide +kernel) rfl rfl (Nat.le_of_ble_eq_true rfl) rfl ?_
  refine k_w (ws' := [(h0, .inr (12, [.ref q0, .ref q1, .ref q2, .int 0, .ref q3, .ref q4, .ref q5, .int 0, .int 0, .int 0, .int 0, .int 0, .int 0, .int 0, .int 0, .int 0, .int 0, .int 0, .int 0, .int 0, .int 0, .ref q6, .null, .null, .int 0, .null, .null, .null, .null, .int 0, .int 0])), (q0, .inl (zA θ 0, 92, .inl (fun _ => 0))), (q1, .inl (zA θ 0, 92, .inl (fun _ => 0))), (q2, .inl (zA θ 0, 92, .inl (fun _ => 0))), (q3, .inl (zA θ 0, 100, .inl (fun _ => 0))), (q4, .inl (zA θ 0, 600, .inl (fun _ => 0))), (q5, .inl (zA θ 0, 6, .inl (fun _ => 0))), (q6, .inl (zA θ 0, 4, .inl (fun _ => 0)))]) (pc' := 60) (cells' := 7) (slots' := 986) rfl rfl rfl rfl ?_
  refine k_aload_n 0 d_Model_init_60 rfl rfl ?_
  refine k_bipush (v := 6) d_Model_init_61 (by decide) ?_
  refine k_newa (atype := .int) (ty := .int) (t0 := 0) (N' := 6) (a0 := (6, .inl (fun _ => 0))) d_Model_init_63 rfl kq_57 ⟨0, rfl, rfl⟩ (fun _ _ h => h) (fun _ => rfl) (by decide) (by decide) (Nat.le_of_ble_eq_true rfl) (Nat.le_of_ble_eq_true rfl) (Nat.le_of_ble_eq_true rfl) (fun q7 => ?_)
  refine k_w (ws' := [(h0, .inr (12, [.ref q0, .ref q1, .ref q2, .int 0, .ref q3, .ref q4, .ref q5, .int 0, .int 0, .int 0, .int 0, .int 0, .int 0, .int 0, .int 0, .int 0, .int 0, .int 0, .int 0, .int 0, .int 0, .ref q6, .null, .null, .int 0, .null, .null, .null, .null, .int 0, .int 0])), (q0, .inl (zA θ 0, 92, .inl (fun _ => 0))), (q1, .inl (zA θ 0, 92, .inl (fun _ => 0))), (q2, .inl (zA θ 0, 92, .inl (fun _ => 0))), (q3, .inl (zA θ 0, 100, .inl (fun _ => 0))), (q4, .inl (zA θ 0, 600, .inl (fun _ => 0))), (q5, .inl (zA θ 0, 6, .inl (fun _ => 0))), (q6, .inl (zA θ 0, 4, .inl (fun _ => 0))), (q7, .inl (zA θ 0, 6, .inl (fun _ => 0)))]) (pc' := 65) (cells' := 8) (slots' := 992) rfl rfl rfl rfl ?_
  refine k_putF (C := R_Model) (T := F_Model) (N := 31) (ci := 12) (k := 22) (ty := (.array .int)) (fs' := [.ref q0, .ref q1, .ref q2, .int 0, .ref q3, .ref q4, .ref q5, .int 0, .int 0, .int 0, .int 0, .int 0, .int 0, .int 0, .int 0, .int 0, .int 0, .int 0, .int 0, .int 0, .int 0, .ref q6, .ref q7, .null, .int 0, .null, .null, .null, .null, .int 0, .int 0]) d_Model_init_65 rfl i_Model t_Model_ok n_Model rfl (by decide) kq_893 rfl (by decide +kernel) rfl rfl (Nat.le_of_ble_eq_true rfl) rfl ?_
  refine k_w (ws' := [(h0, .inr (12, [.ref q0, .ref q1, .ref q2, .int 0, .ref q3, .ref q4, .ref q5, .int 0, .int 0, .int 0, .int 0, .int 0, .int 0, .int 0, .int 0, .int 0, .int 0, .int 0, .int 0, .int 0, .int 0, .ref q6, .ref q7, .null, .int 0, .null, .null, .null, .null, .int 0, .int 0])), (q0, .inl (zA θ 0, 92, .inl (fun _ => 0))), (q1, .inl (zA θ 0, 92, .inl (fun _ => 0))), (q2, .inl (zA θ 0, 92, .inl (fun _ => 0))), (q3, .inl (zA θ 0, 100, .inl (fun _ => 0))), (q4, .inl (zA θ 0, 600, .inl (fun _ => 0))), (q5, .inl (zA θ 0, 6, .inl (fun _ => 0))), (q6, .inl (zA θ 0, 4, .inl (fun _ => 0))), (q7, .inl (zA θ 0, 6, .inl (fun _ => 0)))]) (pc' := 68) (cells' := 8) (slots' := 992) rfl rfl rfl rfl ?_
  refine k_aload_n 0 d_Model_init_68 rfl rfl ?_
  refine k_bipush (v := 6) d_Model_init_69 (by decide) ?_
  refine k_newa (atype := .int) (ty := .int) (t0 := 0) (N' := 6) (a0 := (6, .inl (fun _ => 0))) d_Model_init_71 rfl kq_57 ⟨0, rfl, rfl⟩ (fun _ _ h => h) (fun _ => rfl) (by decide) (by decide) (Nat.le_of_ble_eq_true rfl) (Nat.le_of_ble_eq_true rfl) (Nat.le_of_ble_eq_true rfl) (fun q8 => ?_)
  refine k_w (ws' := [(h0, .inr (12, [.ref q0, .ref q1, .ref q2, .int 0, .ref q3, .ref q4, .ref q5, .int 0, .int 0, .int 0, .int 0, .int 0, .int 0, .int 0, .int 0, .int 0, .int 0, .int 0, .int 0, .int 0, .int 0, .ref q6, .ref q7, .null, .int 0, .null, .null, .null, .null, .int 0, .int 0])), (q0, .inl (zA θ 0, 92, .inl (fun _ => 0))), (q1, .inl (zA θ 0, 92, .inl (fun _ => 0))), (q2, .inl (zA θ 0, 92, .inl (fun _ => 0))), (q3, .inl (zA θ 0, 100, .inl (fun _ => 0))), (q4, .inl (zA θ 0, 600, .inl (fun _ => 0))), (q5, .inl (zA θ 0, 6, .inl (fun _ => 0))), (q6, .inl (zA θ 0, 4, .inl (fun _ => 0))), (q7, .inl (zA θ 0, 6, .inl (fun _ => 0))), (q8, .inl (zA θ 0, 6, .inl (fun _ => 0)))]) (pc' := 73) (cells' := 9) (slots' := 998) rfl rfl rfl rfl ?_
  refine k_putF (C := R_Model) (T := F_Model) (N := 31) (ci := 12) (k := 23) (ty := (.array .int)) (fs' := [.ref q0, .ref q1, .ref q2, .int 0, .ref q3, .ref q4, .ref q5, .int 0, .int 0, .int 0, .int 0, .int 0, .int 0, .int 0, .int 0, .int 0, .int 0, .int 0, .int 0, .int 0, .int 0, .ref q6, .ref q7, .ref q8, .int 0, .null, .null, .null, .null, .int 0, .int 0]) d_Model_init_73 rfl i_Model t_Model_ok n_Model rfl (by decide) kq_894 rfl (by decide +kernel) rfl rfl (Nat.le_of_ble_eq_true rfl) rfl ?_
  refine k_w (ws' := [(h0, .inr (12, [.ref q0, .ref q1, .ref q2, .int 0, .ref q3, .ref q4, .ref q5, .int 0, .int 0, .int 0, .int 0, .int 0, .int 0, .int 0, .int 0, .int 0, .int 0, .int 0, .int 0, .int 0, .int 0, .ref q6, .ref q7, .ref q8, .int 0, .null, .null, .null, .null, .int 0, .int 0])), (q0, .inl (zA θ 0, 92, .inl (fun _ => 0))), (q1, .inl (zA θ 0, 92, .inl (fun _ => 0))), (q2, .inl (zA θ 0, 92, .inl (fun _ => 0))), (q3, .inl (zA θ 0, 100, .inl (fun _ => 0))), (q4, .inl (zA θ 0, 600, .inl (fun _ => 0))), (q5, .inl (zA θ 0, 6, .inl (fun _ => 0))), (q6, .inl (zA θ 0, 4, .inl (fun _ => 0))), (q7, .inl (zA θ 0, 6, .inl (fun _ => 0))), (q8, .inl (zA θ 0, 6, .inl (fun _ => 0)))]) (pc' := 76) (cells' := 9) (slots' := 998) rfl rfl rfl rfl ?_
  refine k_aload_n 0 d_Model_init_76 rfl rfl ?_
  refine k_bipush (v := 6) d_Model_init_77 (by decide) ?_
  refine k_newa (atype := .int) (ty := .int) (t0 := 0) (N' := 6) (a0 := (6, .inl (fun _ => 0))) d_Model_init_79 rfl kq_57 ⟨0, rfl, rfl⟩ (fun _ _ h => h) (fun _ => rfl) (by decide) (by decide) (Nat.le_of_ble_eq_true rfl) (Nat.le_of_ble_eq_true rfl) (Nat.le_of_ble_eq_true rfl) (fun q9 => ?_)
  refine k_w (ws' := [(h0, .inr (12, [.ref q0, .ref q1, .ref q2, .int 0, .ref q3, .ref q4, .ref q5, .int 0, .int 0, .int 0, .int 0, .int 0, .int 0, .int 0, .int 0, .int 0, .int 0, .int 0, .int 0, .int 0, .int 0, .ref q6, .ref q7, .ref q8, .int 0, .null, .null, .null, .null, .int 0, .int 0])), (q0, .inl (zA θ 0, 92, .inl (fun _ => 0))), (q1, .inl (zA θ 0, 92, .inl (fun _ => 0))), (q2, .inl (zA θ 0, 92, .inl (fun _ => 0))), (q3, .inl (zA θ 0, 100, .inl (fun _ => 0))), (q4, .inl (zA θ 0, 600, .inl (fun _ => 0))), (q5, .inl (zA θ 0, 6, .inl (fun _ => 0))), (q6, .inl (zA θ 0, 4, .inl (fun _ => 0))), (q7, .inl (zA θ 0, 6, .inl (fun _ => 0))), (q8, .inl (zA θ 0, 6, .inl (fun _ => 0))), (q9, .inl (zA θ 0, 6, .inl (fun _ => 0)))]) (pc' := 81) (cells' := 10) (slots' := 1004) rfl rfl rfl rfl ?_
  refine k_dup d_Model_init_81 rfl ?_
  refine k_iconst (v := 0) d_Model_init_82 (by decide) ?_
  refine k_iconst (v := -1) d_Model_init_83 (by decide) ?_
  refine k_iast (q0 := 10) d_Model_init_84 rfl (by decide +kernel) rfl rfl ?_
  refine k_w (ws' := [(h0, .inr (12, [.ref q0, .ref q1, .ref q2, .int 0, .ref q3, .ref q4, .ref q5, .int 0, .int 0, .int 0, .int 0, .int 0, .int 0, .int 0, .int 0, .int 0, .int 0, .int 0, .int 0, .int 0, .int 0, .ref q6, .ref q7, .ref q8, .int 0, .null, .null, .null, .null, .int 0, .int 0])), (q0, .inl (zA θ 0, 92, .inl (fun _ => 0))), (q1, .inl (zA θ 0, 92, .inl (fun _ => 0))), (q2, .inl (zA θ 0, 92, .inl (fun _ => 0))), (q3, .inl (zA θ 0, 100, .inl (fun _ => 0))), (q4, .inl (zA θ 0, 600, .inl (fun _ => 0))), (q5, .inl (zA θ 0, 6, .inl (fun _ => 0))), (q6, .inl (zA θ 0, 4, .inl (fun _ => 0))), (q7, .inl (zA θ 0, 6, .inl (fun _ => 0))), (q8, .inl (zA θ 0, 6, .inl (fun _ => 0))), (q9, .inl (zA θ 0, 6, .inl (upd (fun _ => 0) 0 (-1))))]) (pc' := 85) (cells' := 10) (slots' := 1004) rfl rfl rfl rfl ?_
  refine k_dup d_Model_init_85 rfl ?_
  refine k_iconst (v := 1) d_Model_init_86 (by decide) ?_
  refine k_iconst (v := -1) d_Model_init_87 (by decide) ?_
  refine k_iast (q0 := 10) d_Model_init_88 rfl (by decide +kernel) rfl rfl ?_
  refine k_w (ws' := [(h0, .inr (12, [.ref q0, .ref q1, .ref q2, .int 0, .ref q3, .ref q4, .ref q5, .int 0, .int 0, .int 0, .int 0, .int 0, .int 0, .int 0, .int 0, .int 0, .int 0, .int 0, .int 0, .int 0, .int 0, .ref q6, .ref q7, .ref q8, .int 0, .null, .null, .null, .null, .int 0, .int 0])), (q0, .inl (zA θ 0, 92, .inl (fun _ => 0))), (q1, .inl (zA θ 0, 92, .inl (fun _ => 0))), (q2, .inl (zA θ 0, 92, .inl (fun _ => 0))), (q3, .inl (zA θ 0, 100, .inl (fun _ => 0))), (q4, .inl (zA θ 0, 600, .inl (fun _ => 0))), (q5, .inl (zA θ 0, 6, .inl (fun _ => 0))), (q6, .inl (zA θ 0, 4, .inl (fun _ => 0))), (q7, .inl (zA θ 0, 6, .inl (fun _ => 0))), (q8, .inl (zA θ 0, 6, .inl (fun _ => 0))), (q9, .inl (zA θ 0, 6, .inl (upd (upd (fun _ => 0) 0 (-1)) 1 (-1))))]) (pc' := 89) (cells' := 10) (slots' := 1004) rfl rfl rfl rfl ?_
  refine k_dup d_Model_init_89 rfl ?_
  refine k_iconst (v := 2) d_Model_init_90 (by decide) ?_
  refine k_iconst (v := -1) d_Model_init_91 (by decide) ?_
  refine k_iast (q0 := 10) d_Model_init_92 rfl (by decide +kernel) rfl rfl ?_
  refine k_w (ws' := [(h0, .inr (12, [.ref q0, .ref q1, .ref q2, .int 0, .ref q3, .ref q4, .ref q5, .int 0, .int 0, .int 0, .int 0, .int 0, .int 0, .int 0, .int 0, .int 0, .int 0, .int 0, .int 0, .int 0, .int 0, .ref q6, .ref q7, .ref q8, .int 0, .null, .null, .null, .null, .int 0, .int 0])), (q0, .inl (zA θ 0, 92, .inl (fun _ => 0))), (q1, .inl (zA θ 0, 92, .inl (fun _ => 0))), (q2, .inl (zA θ 0, 92, .inl (fun _ => 0))), (q3, .inl (zA θ 0, 100, .inl (fun _ => 0))), (q4, .inl (zA θ 0, 600, .inl (fun _ => 0))), (q5, .inl (zA θ 0, 6, .inl (fun _ => 0))), (q6, .inl (zA θ 0, 4, .inl (fun _ => 0))), (q7, .inl (zA θ 0, 6, .inl (fun _ => 0))), (q8, .inl (zA θ 0, 6, .inl (fun _ => 0))), (q9, .inl (zA θ 0, 6, .inl (upd (upd (upd (fun _ => 0) 0 (-1)) 1 (-1)) 2 (-1))))]) (pc' := 93) (cells' := 10) (slots' := 1004) rfl rfl rfl rfl ?_
  refine k_dup d_Model_init_93 rfl ?_
  refine k_iconst (v := 3) d_Model_init_94 (by decide) ?_
  refine k_iconst (v := -1) d_Model_init_95 (by decide) ?_
  refine k_iast (q0 := 10) d_Model_init_96 rfl (by decide +kernel) rfl rfl ?_
  refine k_w (ws' := [(h0, .inr (12, [.ref q0, .ref q1, .ref q2, .int 0, .ref q3, .ref q4, .ref q5, .int 0, .int 0, .int 0, .int 0, .int 0, .int 0, .int 0, .int 0, .int 0, .int 0, .int 0, .int 0, .int 0, .int 0, .ref q6, .ref q7, .ref q8, .int 0, .null, .null, .null, .null, .int 0, .int 0])), (q0, .inl (zA θ 0, 92, .inl (fun _ => 0))), (q1, .inl (zA θ 0, 92, .inl (fun _ => 0))), (q2, .inl (zA θ 0, 92, .inl (fun _ => 0))), (q3, .inl (zA θ 0, 100, .inl (fun _ => 0))), (q4, .inl (zA θ 0, 600, .inl (fun _ => 0))), (q5, .inl (zA θ 0, 6, .inl (fun _ => 0))), (q6, .inl (zA θ 0, 4, .inl (fun _ => 0))), (q7, .inl (zA θ 0, 6, .inl (fun _ => 0))), (q8, .inl (zA θ 0, 6, .inl (fun _ => 0))), (q9, .inl (zA θ 0, 6, .inl (upd (upd (upd (upd (fun _ => 0) 0 (-1)) 1 (-1)) 2 (-1)) 3 (-1))))]) (pc' := 97) (cells' := 10) (slots' := 1004) rfl rfl rfl rfl ?_
  refine k_dup d_Model_init_97 rfl ?_
  refine k_iconst (v := 4) d_Model_init_98 (by decide) ?_
  refine k_iconst (v := -1) d_Model_init_99 (by decide) ?_
  refine k_iast (q0 := 10) d_Model_init_100 rfl (by decide +kernel) rfl rfl ?_
  refine k_w (ws' := [(h0, .inr (12, [.ref q0, .ref q1, .ref q2, .int 0, .ref q3, .ref q4, .ref q5, .int 0, .int 0, .int 0, .int 0, .int 0, .int 0, .int 0, .int 0, .int 0, .int 0, .int 0, .int 0, .int 0, .int 0, .ref q6, .ref q7, .ref q8, .int 0, .null, .null, .null, .null, .int 0, .int 0])), (q0, .inl (zA θ 0, 92, .inl (fun _ => 0))), (q1, .inl (zA θ 0, 92, .inl (fun _ => 0))), (q2, .inl (zA θ 0, 92, .inl (fun _ => 0))), (q3, .inl (zA θ 0, 100, .inl (fun _ => 0))), (q4, .inl (zA θ 0, 600, .inl (fun _ => 0))), (q5, .inl (zA θ 0, 6, .inl (fun _ => 0))), (q6, .inl (zA θ 0, 4, .inl (fun _ => 0))), (q7, .inl (zA θ 0, 6, .inl (fun _ => 0))), (q8, .inl (zA θ 0, 6, .inl (fun _ => 0))), (q9, .inl (zA θ 0, 6, .inl (upd (upd (upd (upd (upd (fun _ => 0) 0 (-1)) 1 (-1)) 2 (-1)) 3 (-1)) 4 (-1))))]) (pc' := 101) (cells' := 10) (slots' := 1004) rfl rfl rfl rfl ?_
  refine k_dup d_Model_init_101 rfl ?_
  refine k_iconst (v := 5) d_Model_init_102 (by decide) ?_
  refine k_iconst (v := -1) d_Model_init_103 (by decide) ?_
  refine k_iast (q0 := 10) d_Model_init_104 rfl (by decide +kernel) rfl rfl ?_
  refine k_w (ws' := [(h0, .inr (12, [.ref q0, .ref q1, .ref q2, .int 0, .ref q3, .ref q4, .ref q5, .int 0, .int 0, .int 0, .int 0, .int 0, .int 0, .int 0, .int 0, .int 0, .int 0, .int 0, .int 0, .int 0, .int 0, .ref q6, .ref q7, .ref q8, .int 0, .null, .null, .null, .null, .int 0, .int 0])), (q0, .inl (zA θ 0, 92, .inl (fun _ => 0))), (q1, .inl (zA θ 0, 92, .inl (fun _ => 0))), (q2, .inl (zA θ 0, 92, .inl (fun _ => 0))), (q3, .inl (zA θ 0, 100, .inl (fun _ => 0))), (q4, .inl (zA θ 0, 600, .inl (fun _ => 0))), (q5, .inl (zA θ 0, 6, .inl (fun _ => 0))), (q6, .inl (zA θ 0, 4, .inl (fun _ => 0))), (q7, .inl (zA θ 0, 6, .inl (fun _ => 0))), (q8, .inl (zA θ 0, 6, .inl (fun _ => 0))), (q9, .inl (zA θ 0, 6, .inl (upd (upd (upd (upd (upd (upd (fun _ => 0) 0 (-1)) 1 (-1)) 2 (-1)) 3 (-1)) 4 (-1)) 5 (-1))))]) (pc' := 105) (cells' := 10) (slots' := 1004) rfl rfl rfl rfl ?_
  refine k_putF (C := R_Model) (T := F_Model) (N := 31) (ci := 12) (k := 25) (ty := (.array .int)) (fs' := [.ref q0, .ref q1, .ref q2, .int 0, .ref q3, .ref q4, .ref q5, .int 0, .int 0, .int 0, .int 0, .int 0, .int 0, .int 0, .int 0, .int 0, .int 0, .int 0, .int 0, .int 0, .int 0, .ref q6, .ref q7, .ref q8, .int 0, .ref q9, .null, .null, .null, .int 0, .int 0]) d_Model_init_105 rfl i_Model t_Model_ok n_Model rfl (by decide) kq_896 rfl (by decide +kernel) rfl rfl (Nat.le_of_ble_eq_true rfl) rfl ?_
  refine k_w (ws' := [(h0, .inr (12, [.ref q0, .ref q1, .ref q2, .int 0, .ref q3, .ref q4, .ref q5, .int 0, .int 0, .int 0, .int 0, .int 0, .int 0, .int 0, .int 0, .int 0, .int 0, .int 0, .int 0, .int 0, .int 0, .ref q6, .ref q7, .ref q8, .int 0, .ref q9, .null, .null, .null, .int 0, .int 0])), (q0, .inl (zA θ 0, 92, .inl (fun _ => 0))), (q1, .inl (zA θ 0, 92, .inl (fun _ => 0))), (q2, .inl (zA θ 0, 92, .inl (fun _ => 0))), (q3, .inl (zA θ 0, 100, .inl (fun _ => 0))), (q4, .inl (zA θ 0, 600, .inl (fun _ => 0))), (q5, .inl (zA θ 0, 6, .inl (fun _ => 0))), (q6, .inl (zA θ 0, 4, .inl (fun _ => 0))), (q7, .inl (zA θ 0, 6, .inl (fun _ => 0))), (q8, .inl (zA θ 0, 6, .inl (fun _ => 0))), (q9, .inl (zA θ 0, 6, .inl (upd (upd (upd (upd (upd (upd (fun _ => 0) 0 (-1)) 1 (-1)) 2 (-1)) 3 (-1)) 4 (-1)) 5 (-1))))]) (pc' := 108) (cells' := 10) (slots' := 1004) rfl rfl rfl rfl ?_
  refine k_aload_n 0 d_Model_init_108 rfl rfl ?_
  refine k_bipush (v := 6) d_Model_init_109 (by decide) ?_
  refine k_newa (atype := .int) (ty := .int) (t0 := 0) (N' := 6) (a0 := (6, .inl (fun _ => 0))) d_Model_init_111 rfl kq_57 ⟨0, rfl, rfl⟩ (fun _ _ h => h) (fun _ => rfl) (by decide) (by decide) (Nat.le_of_ble_eq_true rfl) (Nat.le_of_ble_eq_true rfl) (Nat.le_of_ble_eq_true rfl) (fun q10 => ?_)
  refine k_w (ws' := [(h0, .inr (12, [.ref q0, .ref q1, .ref q2, .int 0, .ref q3, .ref q4, .ref q5, .int 0, .int 0, .int 0, .int 0, .int 0, .int 0, .int 0, .int 0, .int 0, .int 0, .int 0, .int 0, .int 0, .int 0, .ref q6, .ref q7, .ref q8, .int 0, .ref q9, .null, .null, .null, .int 0, .int 0])), (q0, .inl (zA θ 0, 92, .inl (fun _ => 0))), (q1, .inl (zA θ 0, 92, .inl (fun _ => 0))), (q2, .inl (zA θ 0, 92, .inl (fun _ => 0))), (q3, .inl (zA θ 0, 100, .inl (fun _ => 0))), (q4, .inl (zA θ 0, 600, .inl (fun _ => 0))), (q5, .inl (zA θ 0, 6, .inl (fun _ => 0))), (q6, .inl (zA θ 0, 4, .inl (fun _ => 0))), (q7, .inl (zA θ 0, 6, .inl (fun _ => 0))), (q8, .inl (zA θ 0, 6, .inl (fun _ => 0))), (q9, .inl (zA θ 0, 6, .inl (upd (upd (upd (upd (upd (upd (fun _ => 0) 0 (-1)) 1 (-1)) 2 (-1)) 3 (-1)) 4 (-1)) 5 (-1)))), (q10, .inl (zA θ 0, 6, .inl (fun _ => 0)))]) (pc' := 113) (cells' := 11) (slots' := 1010) rfl rfl rfl rfl ?_
  refine k_putF (C := R_Model) (T := F_Model) (N := 31) (ci := 12) (k := 26) (ty := (.array .int)) (fs' := [.ref q0, .ref q1, .ref q2, .int 0, .ref q3, .ref q4, .ref q5, .int 0, .int 0, .int 0, .int 0, .int 0, .int 0, .int 0, .int 0, .int 0, .int 0, .int 0, .int 0, .int 0, .int 0, .ref q6, .ref q7, .ref q8, .int 0, .ref q9, .ref q10, .null, .null, .int 0, .int 0]) d_Model_init_113 rfl i_Model t_Model_ok n_Model rfl (by decide) kq_897 rfl (by decide +kernel) rfl rfl (Nat.le_of_ble_eq_true rfl) rfl ?_
  refine k_w (ws' := [(h0, .inr (12, [.ref q0, .ref q1, .ref q2, .int 0, .ref q3, .ref q4, .ref q5, .int 0, .int 0, .int 0, .int 0, .int 0, .int 0, .int 0, .int 0, .int 0, .int 0, .int 0, .int 0, .int 0, .int 0, .ref q6, .ref q7, .ref q8, .int 0, .ref q9, .ref q10, .null, .null, .int 0, .int 0])), (q0, .inl (zA θ 0, 92, .inl (fun _ => 0))), (q1, .inl (zA θ 0, 92, .inl (fun _ => 0))), (q2, .inl (zA θ 0, 92, .inl (fun _ => 0))), (q3, .inl (zA θ 0, 100, .inl (fun _ => 0))), (q4, .inl (zA θ 0, 600, .inl (fun _ => 0))), (q5, .inl (zA θ 0, 6, .inl (fun _ => 0))), (q6, .inl (zA θ 0, 4, .inl (fun _ => 0))), (q7, .inl (zA θ 0, 6, .inl (fun _ => 0))), (q8, .inl (zA θ 0, 6, .inl (fun _ => 0))), (q9, .inl (zA θ 0, 6, .inl (upd (upd (upd (upd (upd (upd (fun _ => 0) 0 (-1)) 1 (-1)) 2 (-1)) 3 (-1)) 4 (-1)) 5 (-1)))), (q10, .inl (zA θ 0, 6, .inl (fun _ => 0)))]) (pc' := 116) (cells' := 11) (slots' := 1010) rfl rfl rfl rfl ?_
  refine k_aload_n 0 d_Model_init_116 rfl rfl ?_
  refine k_sipush (v := 360) d_Model_init_117 (by decide) ?_
  refine k_newa (atype := .long) (ty := .long) (t0 := 2) (N' := 360) (a0 := (360, .inr (.inl (fun _ => 0)))) d_Model_init_120 rfl kq_302 ⟨2, rfl, rfl⟩ (fun _ _ h => h) (fun _ => rfl) (by decide) (by decide) (Nat.le_of_ble_eq_true rfl) (Nat.le_of_ble_eq_true rfl) (Nat.le_of_ble_eq_true rfl) (fun q11 => ?_)
  refine k_w (ws' := [(h0, .inr (12, [.ref q0, .ref q1, .ref q2, .int 0, .ref q3, .ref q4, .ref q5, .int 0, .int 0, .int 0, .int 0, .int 0, .int 0, .int 0, .int 0, .int 0, .int 0, .int 0, .int 0, .int 0, .int 0, .ref q6, .ref q7, .ref q8, .int 0, .ref q9, .ref q10, .null, .null, .int 0, .int 0])), (q0, .inl (zA θ 0, 92, .inl (fun _ => 0))), (q1, .inl (zA θ 0, 92, .inl (fun _ => 0))), (q2, .inl (zA θ 0, 92, .inl (fun _ => 0))), (q3, .inl (zA θ 0, 100, .inl (fun _ => 0))), (q4, .inl (zA θ 0, 600, .inl (fun _ => 0))), (q5, .inl (zA θ 0, 6, .inl (fun _ => 0))), (q6, .inl (zA θ 0, 4, .inl (fun _ => 0))), (q7, .inl (zA θ 0, 6, .inl (fun _ => 0))), (q8, .inl (zA θ 0, 6, .inl (fun _ => 0))), (q9, .inl (zA θ 0, 6, .inl (upd (upd (upd (upd (upd (upd (fun _ => 0) 0 (-1)) 1 (-1)) 2 (-1)) 3 (-1)) 4 (-1)) 5 (-1)))), (q10, .inl (zA θ 0, 6, .inl (fun _ => 0))), (q11, .inl (zA θ 2, 360, .inr (.inl (fun _ => 0))))]) (pc' := 122) (cells' := 12) (slots' := 1370) rfl rfl rfl rfl ?_
  refine k_putF (C := R_Model) (T := F_Model) (N := 31) (ci := 12) (k := 27) (ty := (.array .long)) (fs' := [.ref q0, .ref q1, .ref q2, .int 0, .ref q3, .ref q4, .ref q5, .int 0, .int 0, .int 0, .int 0, .int 0, .int 0, .int 0, .int 0, .int 0, .int 0, .int 0, .int 0, .int 0, .int 0, .ref q6, .ref q7, .ref q8, .int 0, .ref q9, .ref q10, .ref q11, .null, .int 0, .int 0]) d_Model_init_122 rfl i_Model t_Model_ok n_Model rfl (by decide) kq_898 rfl (by decide +kernel) rfl rfl (Nat.le_of_ble_eq_true rfl) rfl ?_
  refine k_w (ws' := [(h0, .inr (12, [.ref q0, .ref q1, .ref q2, .int 0, .ref q3, .ref q4, .ref q5, .int 0, .int 0, .int 0, .int 0, .int 0, .int 0, .int 0, .int 0, .int 0, .int 0, .int 0, .int 0, .int 0, .int 0, .ref q6, .ref q7, .ref q8, .int 0, .ref q9, .ref q10, .ref q11, .null, .int 0, .int 0])), (q0, .inl (zA θ 0, 92, .inl (fun _ => 0))), (q1, .inl (zA θ 0, 92, .inl (fun _ => 0))), (q2, .inl (zA θ 0, 92, .inl (fun _ => 0))), (q3, .inl (zA θ 0, 100, .inl (fun _ => 0))), (q4, .inl (zA θ 0, 600, .inl (fun _ => 0))), (q5, .inl (zA θ 0, 6, .inl (fun _ => 0))), (q6, .inl (zA θ 0, 4, .inl (fun _ => 0))), (q7, .inl (zA θ 0, 6, .inl (fun _ => 0))), (q8, .inl (zA θ 0, 6, .inl (fun _ => 0))), (q9, .inl (zA θ 0, 6, .inl (upd (upd (upd (upd (upd (upd (fun _ => 0) 0 (-1)) 1 (-1)) 2 (-1)) 3 (-1)) 4 (-1)) 5 (-1)))), (q10, .inl (zA θ 0, 6, .inl (fun _ => 0))), (q11, .inl (zA θ 2, 360, .inr (.inl (fun _ => 0))))]) (pc' := 125) (cells' := 12) (slots' := 1370) rfl rfl rfl rfl ?_
  refine k_aload_n 0 d_Model_init_125 rfl rfl ?_
  refine k_bipush (v := 20) d_Model_init_126 (by decide) ?_
  refine k_newa (atype := .int) (ty := .int) (t0 := 0) (N' := 20) (a0 := (20, .inl (fun _ => 0))) d_Model_init_128 rfl kq_57 ⟨0, rfl, rfl⟩ (fun _ _ h => h) (fun _ => rfl) (by decide) (by decide) (Nat.le_of_ble_eq_true rfl) (Nat.le_of_ble_eq_true rfl) (Nat.le_of_ble_eq_true rfl) (fun q12 => ?_)
  refine k_w (ws' := [(h0, .inr (12, [.ref q0, .ref q1, .ref q2, .int 0, .ref q3, .ref q4, .ref q5, .int 0, .int 0, .int 0, .int 0, .int 0, .int 0, .int 0, .int 0, .int 0, .int 0, .int 0, .int 0, .int 0, .int 0, .ref q6, .ref q7, .ref q8, .int 0, .ref q9, .ref q10, .ref q11, .null, .int 0, .int 0])), (q0, .inl (zA θ 0, 92, .inl (fun _ => 0))), (q1, .inl (zA θ 0, 92, .inl (fun _ => 0))), (q2, .inl (zA θ 0, 92, .inl (fun _ => 0))), (q3, .inl (zA θ 0, 100, .inl (fun _ => 0))), (q4, .inl (zA θ 0, 600, .inl (fun _ => 0))), (q5, .inl (zA θ 0, 6, .inl (fun _ => 0))), (q6, .inl (zA θ 0, 4, .inl (fun _ => 0))), (q7, .inl (zA θ 0, 6, .inl (fun _ => 0))), (q8, .inl (zA θ 0, 6, .inl (fun _ => 0))), (q9, .inl (zA θ 0, 6, .inl (upd (upd (upd (upd (upd (upd (fun _ => 0) 0 (-1)) 1 (-1)) 2 (-1)) 3 (-1)) 4 (-1)) 5 (-1)))), (q10, .inl (zA θ 0, 6, .inl (fun _ => 0))), (q11, .inl (zA θ 2, 360, .inr (.inl (fun _ => 0)))), (q12, .inl (zA θ 0, 20, .inl (fun _ => 0)))]) (pc' := 130) (cells' := 13) (slots' := 1390) rfl rfl rfl rfl ?_
  refine k_putF (C := R_Model) (T := F_Model) (N := 31) (ci := 12) (k := 28) (ty := (.array .int)) (fs' := [.ref q0, .ref q1, .ref q2, .int 0, .ref q3, .ref q4, .ref q5, .int 0, .int 0, .int 0, .int 0, .int 0, .int 0, .int 0, .int 0, .int 0, .int 0, .int 0, .int 0, .int 0, .int 0, .ref q6, .ref q7, .ref q8, .int 0, .ref q9, .ref q10, .ref q11, .ref q12, .int 0, .int 0]) d_Model_init_130 rfl i_Model t_Model_ok n_Model rfl (by decide) kq_899 rfl (by decide +kernel) rfl rfl (Nat.le_of_ble_eq_true rfl) rfl ?_
  refine k_w (ws' := [(h0, .inr (12, [.ref q0, .ref q1, .ref q2, .int 0, .ref q3, .ref q4, .ref q5, .int 0, .int 0, .int 0, .int 0, .int 0, .int 0, .int 0, .int 0, .int 0, .int 0, .int 0, .int 0, .int 0, .int 0, .ref q6, .ref q7, .ref q8, .int 0, .ref q9, .ref q10, .ref q11, .ref q12, .int 0, .int 0])), (q0, .inl (zA θ 0, 92, .inl (fun _ => 0))), (q1, .inl (zA θ 0, 92, .inl (fun _ => 0))), (q2, .inl (zA θ 0, 92, .inl (fun _ => 0))), (q3, .inl (zA θ 0, 100, .inl (fun _ => 0))), (q4, .inl (zA θ 0, 600, .inl (fun _ => 0))), (q5, .inl (zA θ 0, 6, .inl (fun _ => 0))), (q6, .inl (zA θ 0, 4, .inl (fun _ => 0))), (q7, .inl (zA θ 0, 6, .inl (fun _ => 0))), (q8, .inl (zA θ 0, 6, .inl (fun _ => 0))), (q9, .inl (zA θ 0, 6, .inl (upd (upd (upd (upd (upd (upd (fun _ => 0) 0 (-1)) 1 (-1)) 2 (-1)) 3 (-1)) 4 (-1)) 5 (-1)))), (q10, .inl (zA θ 0, 6, .inl (fun _ => 0))), (q11, .inl (zA θ 2, 360, .inr (.inl (fun _ => 0)))), (q12, .inl (zA θ 0, 20, .inl (fun _ => 0)))]) (pc' := 133) (cells' := 13) (slots' := 1390) rfl rfl rfl rfl ?_
  exact k_ret d_Model_init_133 (fun k => [q0, q1, q2, q3, q4, q5, q6, q7, q8, q9, q10, q11, q12].getD k 0) rfl
