/-! CONSTRUCTORS: the walks, on -/
theorem kq_34 : (Jvm.Cond.methodLink "BakedBefore$Stand" (3 : Nat) ({ cls := "java/lang/Object", name := "<init>", desc := "()V" } : Jvm.MethodName)) ∈ zW0 := q_in (List.mem_of_getElem? (i := 34) (by decide +kernel)) (by decide +kernel)
theorem kq_35 : (Jvm.Cond.classLink "BakedBefore$Stand" (9 : Nat) "BakedBefore$Loaf") ∈ zW0 := q_in (List.mem_of_getElem? (i := 35) (by decide +kernel)) (by decide +kernel)
theorem kq_114 : (Jvm.Cond.fieldLink "BakedBefore$Stand" (11 : Nat) "BakedBefore$Stand" "loaves" "[LBakedBefore$Loaf;") ∈ zW0 := q_in (List.mem_of_getElem? (i := 114) (by decide +kernel)) (by decide +kernel)
theorem kq_37 : (Jvm.Cond.classLink "BakedBefore$Stand" (17 : Nat) "BakedBefore$Oven") ∈ zW0 := q_in (List.mem_of_getElem? (i := 37) (by decide +kernel)) (by decide +kernel)
theorem kq_38 : (Jvm.Cond.instantiable "BakedBefore$Oven" (2 : Nat)) ∈ zW0 := q_in (List.mem_of_getElem? (i := 38) (by decide +kernel)) (by decide +kernel)
theorem kq_40 : (Jvm.Cond.instanceMethod ({ cls := "BakedBefore$Oven", name := "<init>", desc := "()V" } : Jvm.MethodName)) ∈ zW0 := q_in (List.mem_of_getElem? (i := 40) (by decide +kernel)) (by decide +kernel)
theorem kq_118 : (Jvm.Cond.fieldLink "BakedBefore$Stand" (20 : Nat) "BakedBefore$Stand" "oven" "LBakedBefore$Oven;") ∈ zW0 := q_in (List.mem_of_getElem? (i := 118) (by decide +kernel)) (by decide +kernel)
theorem kq_58 : (Jvm.Cond.classLink "BakedBefore$Stand" (24 : Nat) "BakedBefore$Book") ∈ zW0 := q_in (List.mem_of_getElem? (i := 58) (by decide +kernel)) (by decide +kernel)
theorem kq_59 : (Jvm.Cond.instantiable "BakedBefore$Book" (3 : Nat)) ∈ zW0 := q_in (List.mem_of_getElem? (i := 59) (by decide +kernel)) (by decide +kernel)
theorem kq_61 : (Jvm.Cond.instanceMethod ({ cls := "BakedBefore$Book", name := "<init>", desc := "()V" } : Jvm.MethodName)) ∈ zW0 := q_in (List.mem_of_getElem? (i := 61) (by decide +kernel)) (by decide +kernel)
theorem kq_122 : (Jvm.Cond.fieldLink "BakedBefore$Stand" (27 : Nat) "BakedBefore$Stand" "book" "LBakedBefore$Book;") ∈ zW0 := q_in (List.mem_of_getElem? (i := 122) (by decide +kernel)) (by decide +kernel)
theorem kq_129 : (Jvm.Cond.fieldLink "BakedBefore$Stand" (31 : Nat) "BakedBefore$Stand" "holding" "I") ∈ zW0 := q_in (List.mem_of_getElem? (i := 129) (by decide +kernel)) (by decide +kernel)
theorem kq_79 : (Jvm.Cond.instantiable "BakedBefore$Loaf" (5 : Nat)) ∈ zW0 := q_in (List.mem_of_getElem? (i := 79) (by decide +kernel)) (by decide +kernel)
theorem kq_80 : (Jvm.Cond.methodLink "BakedBefore$Stand" (35 : Nat) ({ cls := "BakedBefore$Loaf", name := "<init>", desc := "(I)V" } : Jvm.MethodName)) ∈ zW0 := q_in (List.mem_of_getElem? (i := 80) (by decide +kernel)) (by decide +kernel)
theorem kq_81 : (Jvm.Cond.instanceMethod ({ cls := "BakedBefore$Loaf", name := "<init>", desc := "(I)V" } : Jvm.MethodName)) ∈ zW0 := q_in (List.mem_of_getElem? (i := 81) (by decide +kernel)) (by decide +kernel)
theorem kq_33 : (Jvm.Cond.code ({ cls := "BakedBefore$Stand", name := "<init>", desc := "()V" } : Jvm.MethodName) prog_11_method_1_code (2 : Nat) (Option.none : Option Jvm.ClassFile.FieldType)) ∈ zW0 := q_in (List.mem_of_getElem? (i := 33) (by decide +kernel)) (by decide +kernel)
theorem kq_2 : (Jvm.Cond.initialized "BakedBefore$Stand") ∈ zW0 := q_in (List.mem_of_getElem? (i := 2) (by decide +kernel)) (by decide +kernel)
theorem kq_219 : (Jvm.Cond.methodLink "BakedBefore$Aske\x72" (3 : Nat) ({ cls := "java/lang/Object", name := "<init>", desc := "()V" } : Jvm.MethodName)) ∈ zW0 := q_in (List.mem_of_getElem? (i := 219) (by decide +kernel)) (by decide +kernel)
theorem kq_220 : (Jvm.Cond.classLink "BakedBefore$Aske\x72" (9 : Nat) "BakedBefore$Oven") ∈ zW0 := q_in (List.mem_of_getElem? (i := 220) (by decide +kernel)) (by decide +kernel)
theorem kq_224 : (Jvm.Cond.fieldLink "BakedBefore$Aske\x72" (12 : Nat) "BakedBefore$Aske\x72" "trial" "LBakedBefore$Oven;") ∈ zW0 := q_in (List.mem_of_getElem? (i := 224) (by decide +kernel)) (by decide +kernel)
theorem kq_225 : (Jvm.Cond.fieldLink "BakedBefore$Aske\x72" (18 : Nat) "BakedBefore$Aske\x72" "spoiledOf" "[I") ∈ zW0 := q_in (List.mem_of_getElem? (i := 225) (by decide +kernel)) (by decide +kernel)
theorem kq_222 : (Jvm.Cond.fieldLink "BakedBefore$Aske\x72" (22 : Nat) "BakedBefore$Aske\x72" "now" "LBakedBefore$Stand;") ∈ zW0 := q_in (List.mem_of_getElem? (i := 222) (by decide +kernel)) (by decide +kernel)
theorem kq_223 : (Jvm.Cond.fieldLink "BakedBefore$Aske\x72" (26 : Nat) "BakedBefore$Aske\x72" "bake\x72" "LBakedBefore$Baker;") ∈ zW0 := q_in (List.mem_of_getElem? (i := 223) (by decide +kernel)) (by decide +kernel)
theorem kq_218 : (Jvm.Cond.code ({ cls := "BakedBefore$Aske\x72", name := "<init>", desc := "(LBakedBefore$Stand;LBakedBefore$Baker;)V" } : Jvm.MethodName) prog_3_method_1_code (3 : Nat) (Option.none : Option Jvm.ClassFile.FieldType)) ∈ zW0 := q_in (List.mem_of_getElem? (i := 218) (by decide +kernel)) (by decide +kernel)
theorem kq_9 : (Jvm.Cond.initialized "BakedBefore$Aske\x72") ∈ zW0 := q_in (List.mem_of_getElem? (i := 9) (by decide +kernel)) (by decide +kernel)
theorem kq_240 : (Jvm.Cond.methodLink "BakedBefore$Search" (3 : Nat) ({ cls := "java/lang/Object", name := "<init>", desc := "()V" } : Jvm.MethodName)) ∈ zW0 := q_in (List.mem_of_getElem? (i := 240) (by decide +kernel)) (by decide +kernel)
theorem kq_241 : (Jvm.Cond.classLink "BakedBefore$Search" (11 : Nat) "BakedBefore$Oven") ∈ zW0 := q_in (List.mem_of_getElem? (i := 241) (by decide +kernel)) (by decide +kernel)
theorem kq_246 : (Jvm.Cond.fieldLink "BakedBefore$Search" (13 : Nat) "BakedBefore$Search" "ovens" "[LBakedBefore$Oven;") ∈ zW0 := q_in (List.mem_of_getElem? (i := 246) (by decide +kernel)) (by decide +kernel)
theorem kq_247 : (Jvm.Cond.fieldLink "BakedBefore$Search" (17 : Nat) "BakedBefore$Search" "row" "[I") ∈ zW0 := q_in (List.mem_of_getElem? (i := 247) (by decide +kernel)) (by decide +kernel)
theorem kq_248 : (Jvm.Cond.fieldLink "BakedBefore$Search" (21 : Nat) "BakedBefore$Search" "best" "[I") ∈ zW0 := q_in (List.mem_of_getElem? (i := 248) (by decide +kernel)) (by decide +kernel)
theorem kq_244 : (Jvm.Cond.fieldLink "BakedBefore$Search" (24 : Nat) "BakedBefore$Search" "now" "LBakedBefore$Stand;") ∈ zW0 := q_in (List.mem_of_getElem? (i := 244) (by decide +kernel)) (by decide +kernel)
theorem kq_245 : (Jvm.Cond.fieldLink "BakedBefore$Search" (28 : Nat) "BakedBefore$Search" "bake\x72" "LBakedBefore$Baker;") ∈ zW0 := q_in (List.mem_of_getElem? (i := 245) (by decide +kernel)) (by decide +kernel)
theorem kq_239 : (Jvm.Cond.code ({ cls := "BakedBefore$Search", name := "<init>", desc := "(LBakedBefore$Stand;LBakedBefore$Baker;)V" } : Jvm.MethodName) prog_10_method_1_code (4 : Nat) (Option.none : Option Jvm.ClassFile.FieldType)) ∈ zW0 := q_in (List.mem_of_getElem? (i := 239) (by decide +kernel)) (by decide +kernel)
theorem kq_10 : (Jvm.Cond.initialized "BakedBefore$Search") ∈ zW0 := q_in (List.mem_of_getElem? (i := 10) (by decide +kernel)) (by decide +kernel)
abbrev b_Stand_init : ByteArray := prog_11_method_1_code
def y_Stand_init : MethodName := ⟨"BakedBefore$Stand", "<init>", "()V"⟩
theorem cf_Stand_init : zcf y_Stand_init b_Stand_init 2 none 0 := ⟨kq_33, kq_2, by decide, by decide, by decide +kernel⟩
theorem d_Stand_init_0 : decode b_Stand_init 0 = .ok (.aload_n 0, 1) := by decide +kernel
theorem d_Stand_init_1 : decode b_Stand_init 1 = .ok (.invokespecial 3, 3) := by decide +kernel
theorem d_Stand_init_4 : decode b_Stand_init 4 = .ok (.aload_n 0, 1) := by decide +kernel
theorem d_Stand_init_5 : decode b_Stand_init 5 = .ok (.bipush (6), 2) := by decide +kernel
theorem d_Stand_init_7 : decode b_Stand_init 7 = .ok (.anewarray 9, 3) := by decide +kernel
theorem d_Stand_init_10 : decode b_Stand_init 10 = .ok (.putfield 11, 3) := by decide +kernel
theorem d_Stand_init_13 : decode b_Stand_init 13 = .ok (.aload_n 0, 1) := by decide +kernel
theorem d_Stand_init_14 : decode b_Stand_init 14 = .ok (.new 17, 3) := by decide +kernel
theorem d_Stand_init_17 : decode b_Stand_init 17 = .ok (.dup, 1) := by decide +kernel
theorem d_Stand_init_18 : decode b_Stand_init 18 = .ok (.invokespecial 19, 3) := by decide +kernel
theorem d_Stand_init_21 : decode b_Stand_init 21 = .ok (.putfield 20, 3) := by decide +kernel
theorem d_Stand_init_24 : decode b_Stand_init 24 = .ok (.aload_n 0, 1) := by decide +kernel
theorem d_Stand_init_25 : decode b_Stand_init 25 = .ok (.new 24, 3) := by decide +kernel
theorem d_Stand_init_28 : decode b_Stand_init 28 = .ok (.dup, 1) := by decide +kernel
theorem d_Stand_init_29 : decode b_Stand_init 29 = .ok (.invokespecial 26, 3) := by decide +kernel
theorem d_Stand_init_32 : decode b_Stand_init 32 = .ok (.putfield 27, 3) := by decide +kernel
theorem d_Stand_init_35 : decode b_Stand_init 35 = .ok (.aload_n 0, 1) := by decide +kernel
theorem d_Stand_init_36 : decode b_Stand_init 36 = .ok (.iconst (-1), 1) := by decide +kernel
theorem d_Stand_init_37 : decode b_Stand_init 37 = .ok (.putfield 31, 3) := by decide +kernel
theorem d_Stand_init_40 : decode b_Stand_init 40 = .ok (.iconst (0), 1) := by decide +kernel
theorem d_Stand_init_41 : decode b_Stand_init 41 = .ok (.istore_n 1, 1) := by decide +kernel
theorem d_Stand_init_42 : decode b_Stand_init 42 = .ok (.iload_n 1, 1) := by decide +kernel
theorem d_Stand_init_43 : decode b_Stand_init 43 = .ok (.bipush (6), 2) := by decide +kernel
theorem d_Stand_init_45 : decode b_Stand_init 45 = .ok (.if_icmp .ge (23), 3) := by decide +kernel
theorem d_Stand_init_48 : decode b_Stand_init 48 = .ok (.aload_n 0, 1) := by decide +kernel
theorem d_Stand_init_49 : decode b_Stand_init 49 = .ok (.getfield 11, 3) := by decide +kernel
theorem d_Stand_init_52 : decode b_Stand_init 52 = .ok (.iload_n 1, 1) := by decide +kernel
theorem d_Stand_init_53 : decode b_Stand_init 53 = .ok (.new 9, 3) := by decide +kernel
theorem d_Stand_init_56 : decode b_Stand_init 56 = .ok (.dup, 1) := by decide +kernel
theorem d_Stand_init_57 : decode b_Stand_init 57 = .ok (.iload_n 1, 1) := by decide +kernel
theorem d_Stand_init_58 : decode b_Stand_init 58 = .ok (.invokespecial 35, 3) := by decide +kernel
theorem d_Stand_init_61 : decode b_Stand_init 61 = .ok (.aastore, 1) := by decide +kernel
theorem d_Stand_init_62 : decode b_Stand_init 62 = .ok (.iinc 1 (1), 3) := by decide +kernel
theorem d_Stand_init_65 : decode b_Stand_init 65 = .ok (.goto (-23), 3) := by decide +kernel
theorem d_Stand_init_68 : decode b_Stand_init 68 = .ok (.return_, 1) := by decide +kernel
def kw_Stand (θ : ZT) (h0 : Nat) (u : Nat → Nat) : va_W := [(h0, .inr (10, [.ref (u 0), .ref (u 1), .ref (u 3), .int 0, .int (-1)])), (u 0, .inl (zA θ 3, 6, .inr (.inr (.inr (.inr (kfm [some (u 6), some (u 9), some (u 12), some (u 15), some (u 18), some (u 21)])))))), (u 1, .inr (7, [.ref (u 2), .int 0])), (u 2, .inl (zA θ 0, 4, .inl (fun _ => 0))), (u 3, .inr (4, [.ref (u 4), .ref (u 5), .int 0])), (u 4, .inl (zA θ 0, 12, .inl (fun _ => 0))), (u 5, .inl (zA θ 1, 12, .inl (fun _ => 0))), (u 6, .inr (6, [.int 0, .ref (u 7), .ref (u 8), .int 0, .int 0])), (u 7, .inl (zA θ 0, 4, .inl (fun _ => 0))), (u 8, .inl (zA θ 0, 4, .inl (fun _ => 0))), (u 9, .inr (6, [.int 1, .ref (u 10), .ref (u 11), .int 0, .int 0])), (u 10, .inl (zA θ 0, 4, .inl (fun _ => 0))), (u 11, .inl (zA θ 0, 4, .inl (fun _ => 0))), (u 12, .inr (6, [.int 2, .ref (u 13), .ref (u 14), .int 0, .int 0])), (u 13, .inl (zA θ 0, 4, .inl (fun _ => 0))), (u 14, .inl (zA θ 0, 4, .inl (fun _ => 0))), (u 15, .inr (6, [.int 3, .ref (u 16), .ref (u 17), .int 0, .int 0])), (u 16, .inl (zA θ 0, 4, .inl (fun _ => 0))), (u 17, .inl (zA θ 0, 4, .inl (fun _ => 0))), (u 18, .inr (6, [.int 4, .ref (u 19), .ref (u 20), .int 0, .int 0])), (u 19, .inl (zA θ 0, 4, .inl (fun _ => 0))), (u 20, .inl (zA θ 0, 4, .inl (fun _ => 0))), (u 21, .inr (6, [.int 5, .ref (u 22), .ref (u 23), .int 0, .int 0])), (u 22, .inl (zA θ 0, 4, .inl (fun _ => 0))), (u 23, .inl (zA θ 0, 4, .inl (fun _ => 0)))]
set_option maxHeartbeats 4000000 in
set_option maxRecDepth 100000 in
theorem c_Stand_init (l : Launch) (θ : ZT) (sz h0 : Nat) : kMet l θ y_Stand_init b_Stand_init 2 { frames := 2, cells := 24, slots := 117, locals := 61 } [] sz h0 (.inr (10, [.null, .null, .null, .int 0, .int 0])) 24 117 (kw_Stand θ h0) := by
  refine k_met (lv := [(0, .ref h0)]) (by decide +kernel) rfl rfl (Nat.le_of_ble_eq_true rfl) ?_
  refine k_aload_n 0 d_Stand_init_0 rfl rfl ?_
  refine k_objInit d_Stand_init_1 kq_34 kq_27 kq_28 (Nat.le_of_ble_eq_true rfl) (Nat.le_of_ble_eq_true rfl) ?_
  refine k_aload_n 0 d_Stand_init_4 rfl rfl ?_
  refine k_bipush (v := 6) d_Stand_init_5 (by decide) ?_
  refine k_newr (C := "BakedBefore$Loaf") (t0 := 3) (N' := 6) d_Stand_init_7 kq_35 (fun _ h => h.2.1.1) ⟨3, rfl, rfl⟩ (by decide) (by decide) (Nat.le_of_ble_eq_true rfl) (Nat.le_of_ble_eq_true rfl) (Nat.le_of_ble_eq_true rfl) (fun q0 => ?_)
  refine k_w (ws' := [(h0, .inr (10, [.null, .null, .null, .int 0, .int 0])), (q0, .inl (zA θ 3, 6, .inr (.inr (.inr (.inr (kfm [none, none, none, none, none, none]))))))]) (pc' := 10) (cells' := 1) (slots' := 6) rfl rfl rfl rfl ?_
  refine k_putF (C := R_Stand) (T := F_Stand) (N := 5) (ci := 10) (k := 0) (ty := (.array (.object "BakedBefore$Loaf"))) (fs' := [.ref q0, .null, .null, .int 0, .int 0]) d_Stand_init_10 rfl i_Stand t_Stand_ok n_Stand rfl (by decide) kq_114 rfl (by decide +kernel) rfl rfl (Nat.le_of_ble_eq_true rfl) rfl ?_
  refine k_w (ws' := [(h0, .inr (10, [.ref q0, .null, .null, .int 0, .int 0])), (q0, .inl (zA θ 3, 6, .inr (.inr (.inr (.inr (kfm [none, none, none, none, none, none]))))))]) (pc' := 13) (cells' := 1) (slots' := 6) rfl rfl rfl rfl ?_
  refine k_aload_n 0 d_Stand_init_13 rfl rfl ?_
  refine k_new (ci := 7) (fs := [.null, .int 0]) (C := R_Oven) (T := F_Oven) (N := 2) d_Stand_init_14 i_Oven t_Oven_ok kq_37 kq_38 kq_3 rfl (fun j hj => by rcases (show j = 0 ∨ j = 1 by omega) with rfl | rfl <;> rfl) (Nat.le_of_ble_eq_true rfl) (Nat.le_of_ble_eq_true rfl) (fun q1 => ?_)
  refine k_dup d_Stand_init_17 rfl ?_
  refine k_ctor (As := []) (fun sz => c_Oven_init l θ sz q1) cf_Oven_init kq_40 rfl (Or.inr (fun _ h => h.1.1)) d_Stand_init_18 rfl rfl (Nat.le_of_ble_eq_true rfl) rfl rfl ⟨Nat.le_of_ble_eq_true rfl, Nat.le_of_ble_eq_true rfl⟩ (Nat.le_of_ble_eq_true rfl) (Nat.le_of_ble_eq_true rfl) (fun u2 => ?_)
  refine k_w (ws' := [(h0, .inr (10, [.ref q0, .null, .null, .int 0, .int 0])), (q0, .inl (zA θ 3, 6, .inr (.inr (.inr (.inr (kfm [none, none, none, none, none, none])))))), (q1, .inr (7, [.ref (u2 0), .int 0])), (u2 0, .inl (zA θ 0, 4, .inl (fun _ => 0)))]) (pc' := 21) (cells' := 3) (slots' := 12) rfl rfl rfl rfl ?_
  refine k_putF (C := R_Stand) (T := F_Stand) (N := 5) (ci := 10) (k := 1) (ty := (.object "BakedBefore$Oven")) (fs' := [.ref q0, .ref q1, .null, .int 0, .int 0]) d_Stand_init_21 rfl i_Stand t_Stand_ok n_Stand rfl (by decide) kq_118 rfl (by decide +kernel) rfl rfl (Nat.le_of_ble_eq_true rfl) rfl ?_
  refine k_w (ws' := [(h0, .inr (10, [.ref q0, .ref q1, .null, .int 0, .int 0])), (q0, .inl (zA θ 3, 6, .inr (.inr (.inr (.inr (kfm [none, none, none, none, none, none])))))), (q1, .inr (7, [.ref (u2 0), .int 0])), (u2 0, .inl (zA θ 0, 4, .inl (fun _ => 0)))]) (pc' := 24) (cells' := 3) (slots' := 12) rfl rfl rfl rfl ?_
  refine k_aload_n 0 d_Stand_init_24 rfl rfl ?_
  refine k_new (ci := 4) (fs := [.null, .null, .int 0]) (C := R_Book) (T := F_Book) (N := 3) d_Stand_init_25 i_Book t_Book_ok kq_58 kq_59 kq_4 rfl (fun j hj => by rcases (show j = 0 ∨ j = 1 ∨ j = 2 by omega) with rfl | rfl | rfl <;> rfl) (Nat.le_of_ble_eq_true rfl) (Nat.le_of_ble_eq_true rfl) (fun q3 => ?_)
  refine k_dup d_Stand_init_28 rfl ?_
  refine k_ctor (As := []) (fun sz => c_Book_init l θ sz q3) cf_Book_init kq_61 rfl (Or.inr (fun _ h => h.1.2.1)) d_Stand_init_29 rfl rfl (Nat.le_of_ble_eq_true rfl) rfl rfl ⟨Nat.le_of_ble_eq_true rfl, Nat.le_of_ble_eq_true rfl⟩ (Nat.le_of_ble_eq_true rfl) (Nat.le_of_ble_eq_true rfl) (fun u4 => ?_)
  refine k_w (ws' := [(h0, .inr (10, [.ref q0, .ref q1, .null, .int 0, .int 0])), (q0, .inl (zA θ 3, 6, .inr (.inr (.inr (.inr (kfm [none, none, none, none, none, none])))))), (q1, .inr (7, [.ref (u2 0), .int 0])), (u2 0, .inl (zA θ 0, 4, .inl (fun _ => 0))), (q3, .inr (4, [.ref (u4 0), .ref (u4 1), .int 0])), (u4 0, .inl (zA θ 0, 12, .inl (fun _ => 0))), (u4 1, .inl (zA θ 1, 12, .inl (fun _ => 0)))]) (pc' := 32) (cells' := 6) (slots' := 39) rfl rfl rfl rfl ?_
  refine k_putF (C := R_Stand) (T := F_Stand) (N := 5) (ci := 10) (k := 2) (ty := (.object "BakedBefore$Book")) (fs' := [.ref q0, .ref q1, .ref q3, .int 0, .int 0]) d_Stand_init_32 rfl i_Stand t_Stand_ok n_Stand rfl (by decide) kq_122 rfl (by decide +kernel) rfl rfl (Nat.le_of_ble_eq_true rfl) rfl ?_
  refine k_w (ws' := [(h0, .inr (10, [.ref q0, .ref q1, .ref q3, .int 0, .int 0])), (q0, .inl (zA θ 3, 6, .inr (.inr (.inr (.inr (kfm [none, none, none, none, none, none])))))), (q1, .inr (7, [.ref (u2 0), .int 0])), (u2 0, .inl (zA θ 0, 4, .inl (fun _ => 0))), (q3, .inr (4, [.ref (u4 0), .ref (u4 1), .int 0])), (u4 0, .inl (zA θ 0, 12, .inl (fun _ => 0))), (u4 1, .inl (zA θ 1, 12, .inl (fun _ => 0)))]) (pc' := 35) (cells' := 6) (slots' := 39) rfl rfl rfl rfl ?_
  refine k_aload_n 0 d_Stand_init_35 rfl rfl ?_
  refine k_iconst (v := -1) d_Stand_init_36 (by decide) ?_
  refine k_putF (C := R_Stand) (T := F_Stand) (N := 5) (ci := 10) (k := 4) (ty := .int) (fs' := [.ref q0, .ref q1, .ref q3, .int 0, .int (-1)]) d_Stand_init_37 rfl i_Stand t_Stand_ok n_Stand rfl (by decide) kq_129 rfl (by decide +kernel) rfl rfl (Nat.le_of_ble_eq_true rfl) rfl ?_
  refine k_w (ws' := [(h0, .inr (10, [.ref q0, .ref q1, .ref q3, .int 0, .int (-1)])), (q0, .inl (zA θ 3, 6, .inr (.inr (.inr (.inr (kfm [none, none, none, none, none, none])))))), (q1, .inr (7, [.ref (u2 0), .int 0])), (u2 0, .inl (zA θ 0, 4, .inl (fun _ => 0))), (q3, .inr (4, [.ref (u4 0), .ref (u4 1), .int 0])), (u4 0, .inl (zA θ 0, 12, .inl (fun _ => 0))), (u4 1, .inl (zA θ 1, 12, .inl (fun _ => 0)))]) (pc' := 40) (cells' := 6) (slots' := 39) rfl rfl rfl rfl ?_
  refine k_iconst (v := 0) d_Stand_init_40 (by decide) ?_
  refine k_istore_n (lv' := [(1, .int 0), (0, .ref h0)]) d_Stand_init_41 rfl (by decide) rfl ?_
  refine k_iload_n 0 d_Stand_init_42 rfl rfl ?_
  refine k_bipush (v := 6) d_Stand_init_43 (by decide) ?_
  refine k_ge_f (tgt := 68) (by decide) d_Stand_init_45 (by decide) ?_
  refine k_aload_n 1 d_Stand_init_48 rfl rfl ?_
  refine k_get (C := R_Stand) (T := F_Stand) (N := 5) (ci := 10) (k := 0) d_Stand_init_49 rfl i_Stand rfl (by decide) kq_114 rfl ?_
  refine k_iload_n 0 d_Stand_init_52 rfl rfl ?_
  refine k_new (ci := 6) (fs := [.int 0, .null, .null, .int 0, .int 0]) (C := R_Loaf) (T := F_Loaf) (N := 5) d_Stand_init_53 i_Loaf t_Loaf_ok kq_35 kq_79 kq_5 rfl (fun j hj => by rcases (show j = 0 ∨ j = 1 ∨ j = 2 ∨ j = 3 ∨ j = 4 by omega) with rfl | rfl | rfl | rfl | rfl <;> rfl) (Nat.le_of_ble_eq_true rfl) (Nat.le_of_ble_eq_true rfl) (fun q5 => ?_)
  refine k_dup d_Stand_init_56 rfl ?_
  refine k_iload_n 0 d_Stand_init_57 rfl rfl ?_
  refine k_ctor (As := [.int 0]) (fun sz => c_Loaf_init l θ sz q5 0) cf_Loaf_init kq_81 rfl (Or.inl kq_80) d_Stand_init_58 rfl rfl (Nat.le_of_ble_eq_true rfl) rfl rfl ⟨Nat.le_of_ble_eq_true rfl, Nat.le_of_ble_eq_true rfl⟩ (Nat.le_of_ble_eq_true rfl) (Nat.le_of_ble_eq_true rfl) (fun u6 => ?_)
  refine k_w (ws' := [(h0, .inr (10, [.ref q0, .ref q1, .ref q3, .int 0, .int (-1)])), (q0, .inl (zA θ 3, 6, .inr (.inr (.inr (.inr (kfm [none, none, none, none, none, none])))))), (q1, .inr (7, [.ref (u2 0), .int 0])), (u2 0, .inl (zA θ 0, 4, .inl (fun _ => 0))), (q3, .inr (4, [.ref (u4 0), .ref (u4 1), .int 0])), (u4 0, .inl (zA θ 0, 12, .inl (fun _ => 0))), (u4 1, .inl (zA θ 1, 12, .inl (fun _ => 0))), (q5, .inr (6, [.int 0, .ref (u6 0), .ref (u6 1), .int 0, .int 0])), (u6 0, .inl (zA θ 0, 4, .inl (fun _ => 0))), (u6 1, .inl (zA θ 0, 4, .inl (fun _ => 0)))]) (pc' := 61) (cells' := 9) (slots' := 52) rfl rfl rfl rfl ?_
  refine k_astr (q0 := 1) (qk := 7) (t0 := 3) (ci := 6) d_Stand_init_61 rfl rfl rfl rfl (by decide +kernel) (Nat.le_of_ble_eq_true rfl) ?_
  refine k_w (ws' := [(h0, .inr (10, [.ref q0, .ref q1, .ref q3, .int 0, .int (-1)])), (q0, .inl (zA θ 3, 6, .inr (.inr (.inr (.inr (kfm [some (q5), none, none, none, none, none])))))), (q1, .inr (7, [.ref (u2 0), .int 0])), (u2 0, .inl (zA θ 0, 4, .inl (fun _ => 0))), (q3, .inr (4, [.ref (u4 0), .ref (u4 1), .int 0])), (u4 0, .inl (zA θ 0, 12, .inl (fun _ => 0))), (u4 1, .inl (zA θ 1, 12, .inl (fun _ => 0))), (q5, .inr (6, [.int 0, .ref (u6 0), .ref (u6 1), .int 0, .int 0])), (u6 0, .inl (zA θ 0, 4, .inl (fun _ => 0))), (u6 1, .inl (zA θ 0, 4, .inl (fun _ => 0)))]) (pc' := 62) (cells' := 9) (slots' := 52) rfl rfl rfl rfl ?_
  refine k_iinc (v := 1) (lv' := [(1, .int 1), (0, .ref h0)]) 0 d_Stand_init_62 rfl (by decide) (by decide) rfl ?_
  refine k_goto (tgt := 42) d_Stand_init_65 (by decide) ?_
  refine k_iload_n 0 d_Stand_init_42 rfl rfl ?_
  refine k_bipush (v := 6) d_Stand_init_43 (by decide) ?_
  refine k_ge_f (tgt := 68) (by decide) d_Stand_init_45 (by decide) ?_
  refine k_aload_n 1 d_Stand_init_48 rfl rfl ?_
  refine k_get (C := R_Stand) (T := F_Stand) (N := 5) (ci := 10) (k := 0) d_Stand_init_49 rfl i_Stand rfl (by decide) kq_114 rfl ?_
  refine k_iload_n 0 d_Stand_init_52 rfl rfl ?_
  refine k_new (ci := 6) (fs := [.int 0, .null, .null, .int 0, .int 0]) (C := R_Loaf) (T := F_Loaf) (N := 5) d_Stand_init_53 i_Loaf t_Loaf_ok kq_35 kq_79 kq_5 rfl (fun j hj => by rcases (show j = 0 ∨ j = 1 ∨ j = 2 ∨ j = 3 ∨ j = 4 by omega) with rfl | rfl | rfl | rfl | rfl <;> rfl) (Nat.le_of_ble_eq_true rfl) (Nat.le_of_ble_eq_true rfl) (fun q7 => ?_)
  refine k_dup d_Stand_init_56 rfl ?_
  refine k_iload_n 0 d_Stand_init_57 rfl rfl ?_
  refine k_ctor (As := [.int 1]) (fun sz => c_Loaf_init l θ sz q7 1) cf_Loaf_init kq_81 rfl (Or.inl kq_80) d_Stand_init_58 rfl rfl (Nat.le_of_ble_eq_true rfl) rfl rfl ⟨Nat.le_of_ble_eq_true rfl, Nat.le_of_ble_eq_true rfl⟩ (Nat.le_of_ble_eq_true rfl) (Nat.le_of_ble_eq_true rfl) (fun u8 => ?_)
  refine k_w (ws' := [(h0, .inr (10, [.ref q0, .ref q1, .ref q3, .int 0, .int (-1)])), (q0, .inl (zA θ 3, 6, .inr (.inr (.inr (.inr (kfm [some (q5), none, none, none, none, none])))))), (q1, .inr (7, [.ref (u2 0), .int 0])), (u2 0, .inl (zA θ 0, 4, .inl (fun _ => 0))), (q3, .inr (4, [.ref (u4 0), .ref (u4 1), .int 0])), (u4 0, .inl (zA θ 0, 12, .inl (fun _ => 0))), (u4 1, .inl (zA θ 1, 12, .inl (fun _ => 0))), (q5, .inr (6, [.int 0, .ref (u6 0), .ref (u6 1), .int 0, .int 0])), (u6 0, .inl (zA θ 0, 4, .inl (fun _ => 0))), (u6 1, .inl (zA θ 0, 4, .inl (fun _ => 0))), (q7, .inr (6, [.int 1, .ref (u8 0), .ref (u8 1), .int 0, .int 0])), (u8 0, .inl (zA θ 0, 4, .inl (fun _ => 0))), (u8 1, .inl (zA θ 0, 4, .inl (fun _ => 0)))]) (pc' := 61) (cells' := 12) (slots' := 65) rfl rfl rfl rfl ?_
  refine k_astr (q0 := 1) (qk := 10) (t0 := 3) (ci := 6) d_Stand_init_61 rfl rfl rfl rfl (by decide +kernel) (Nat.le_of_ble_eq_true rfl) ?_
  refine k_w (ws' := [(h0, .inr (10, [.ref q0, .ref q1, .ref q3, .int 0, .int (-1)])), (q0, .inl (zA θ 3, 6, .inr (.inr (.inr (.inr (kfm [some (q5), some (q7), none, none, none, none])))))), (q1, .inr (7, [.ref (u2 0), .int 0])), (u2 0, .inl (zA θ 0, 4, .inl (fun _ => 0))), (q3, .inr (4, [.ref (u4 0), .ref (u4 1), .int 0])), (u4 0, .inl (zA θ 0, 12, .inl (fun _ => 0))), (u4 1, .inl (zA θ 1, 12, .inl (fun _ => 0))), (q5, .inr (6, [.int 0, .ref (u6 0), .ref (u6 1), .int 0, .int 0])), (u6 0, .inl (zA θ 0, 4, .inl (fun _ => 0))), (u6 1, .inl (zA θ 0, 4, .inl (fun _ => 0))), (q7, .inr (6, [.int 1, .ref (u8 0), .ref (u8 1), .int 0, .int 0])), (u8 0, .inl (zA θ 0, 4, .inl (fun _ => 0))), (u8 1, .inl (zA θ 0, 4, .inl (fun _ => 0)))]) (pc' := 62) (cells' := 12) (slots' := 65) rfl rfl rfl rfl ?_
  refine k_iinc (v := 2) (lv' := [(1, .int 2), (0, .ref h0)]) 0 d_Stand_init_62 rfl (by decide) (by decide) rfl ?_
  refine k_goto (tgt := 42) d_Stand_init_65 (by decide) ?_
  refine k_iload_n 0 d_Stand_init_42 rfl rfl ?_
  refine k_bipush (v := 6) d_Stand_init_43 (by decide) ?_
  refine k_ge_f (tgt := 68) (by decide) d_Stand_init_45 (by decide) ?_
  refine k_aload_n 1 d_Stand_init_48 rfl rfl ?_
  refine k_get (C := R_Stand) (T := F_Stand) (N := 5) (ci := 10) (k := 0) d_Stand_init_49 rfl i_Stand rfl (by decide) kq_114 rfl ?_
  refine k_iload_n 0 d_Stand_init_52 rfl rfl ?_
  refine k_new (ci := 6) (fs := [.int 0, .null, .null, .int 0, .int 0]) (C := R_Loaf) (T := F_Loaf) (N := 5) d_Stand_init_53 i_Loaf t_Loaf_ok kq_35 kq_79 kq_5 rfl (fun j hj => by rcases (show j = 0 ∨ j = 1 ∨ j = 2 ∨ j = 3 ∨ j = 4 by omega) with rfl | rfl | rfl | rfl | rfl <;> rfl) (Nat.le_of_ble_eq_true rfl) (Nat.le_of_ble_eq_true rfl) (fun q9 => ?_)
  refine k_dup d_Stand_init_56 rfl ?_
  refine k_iload_n 0 d_Stand_init_57 rfl rfl ?_
  refine k_ctor (As := [.int 2]) (fun sz => c_Loaf_init l θ sz q9 2) cf_Loaf_init kq_81 rfl (Or.inl kq_80) d_Stand_init_58 rfl rfl (Nat.le_of_ble_eq_true rfl) rfl rfl ⟨Nat.le_of_ble_eq_true rfl, Nat.le_of_ble_eq_true rfl⟩ (Nat.le_of_ble_eq_true rfl) (Nat.le_of_ble_eq_true rfl) (fun u10 => ?_)
  refine k_w (ws' := [(h0, .inr (10, [.ref q0, .ref q1, .ref q3, .int 0, .int (-1)])), (q0, .inl (zA θ 3, 6, .inr (.inr (.inr (.inr (kfm [some (q5), some (q7), none, none, none, none])))))), (q1, .inr (7, [.ref (u2 0), .int 0])), (u2 0, .inl (zA θ 0, 4, .inl (fun _ => 0))), (q3, .inr (4, [.ref (u4 0), .ref (u4 1), .int 0])), (u4 0, .inl (zA θ 0, 12, .inl (fun _ => 0))), (u4 1, .inl (zA θ 1, 12, .inl (fun _ => 0))), (q5, .inr (6, [.int 0, .ref (u6 0), .ref (u6 1), .int 0, .int 0])), (u6 0, .inl (zA θ 0, 4, .inl (fun _ => 0))), (u6 1, .inl (zA θ 0, 4, .inl (fun _ => 0))), (q7, .inr (6, [.int 1, .ref (u8 0), .ref (u8 1), .int 0, .int 0])), (u8 0, .inl (zA θ 0, 4, .inl (fun _ => 0))), (u8 1, .inl (zA θ 0, 4, .inl (fun _ => 0))), (q9, .inr (6, [.int 2, .ref (u10 0), .ref (u10 1), .int 0, .int 0])), (u10 0, .inl (zA θ 0, 4, .inl (fun _ => 0))), (u10 1, .inl (zA θ 0, 4, .inl (fun _ => 0)))]) (pc' := 61) (cells' := 15) (slots' := 78) rfl rfl rfl rfl ?_
  refine k_astr (q0 := 1) (qk := 13) (t0 := 3) (ci := 6) d_Stand_init_61 rfl rfl rfl rfl (by decide +kernel) (Nat.le_of_ble_eq_true rfl) ?_
  refine k_w (ws' := [(h0, .inr (10, [.ref q0, .ref q1, .ref q3, .int 0, .int (-1)])), (q0, .inl (zA θ 3, 6, .inr (.inr (.inr (.inr (kfm [some (q5), some (q7), some (q9), none, none, none])))))), (q1, .inr (7, [.ref (u2 0), .int 0])), (u2 0, .inl (zA θ 0, 4, .inl (fun _ => 0))), (q3, .inr (4, [.ref (u4 0), .ref (u4 1), .int 0])), (u4 0, .inl (zA θ 0, 12, .inl (fun _ => 0))), (u4 1, .inl (zA θ 1, 12, .inl (fun _ => 0))), (q5, .inr (6, [.int 0, .ref (u6 0), .ref (u6 1), .int 0, .int 0])), (u6 0, .inl (zA θ 0, 4, .inl (fun _ => 0))), (u6 1, .inl (zA θ 0, 4, .inl (fun _ => 0))), (q7, .inr (6, [.int 1, .ref (u8 0), .ref (u8 1), .int 0, .int 0])), (u8 0, .inl (zA θ 0, 4, .inl (fun _ => 0))), (u8 1, .inl (zA θ 0, 4, .inl (fun _ => 0))), (q9, .inr (6, [.int 2, .ref (u10 0), .ref (u10 1), .int 0, .int 0])), (u10 0, .inl (zA θ 0, 4, .inl (fun _ => 0))), (u10 1, .inl (zA θ 0, 4, .inl (fun _ => 0)))]) (pc' := 62) (cells' := 15) (slots' := 78) rfl rfl rfl rfl ?_
  refine k_iinc (v := 3) (lv' := [(1, .int 3), (0, .ref h0)]) 0 d_Stand_init_62 rfl (by decide) (by decide) rfl ?_
  refine k_goto (tgt := 42) d_Stand_init_65 (by decide) ?_
  refine k_iload_n 0 d_Stand_init_42 rfl rfl ?_
  refine k_bipush (v := 6) d_Stand_init_43 (by decide) ?_
  refine k_ge_f (tgt := 68) (by decide) d_Stand_init_45 (by decide) ?_
  refine k_aload_n 1 d_Stand_init_48 rfl rfl ?_
  refine k_get (C := R_Stand) (T := F_Stand) (N := 5) (ci := 10) (k := 0) d_Stand_init_49 rfl i_Stand rfl (by decide) kq_114 rfl ?_
  refine k_iload_n 0 d_Stand_init_52 rfl rfl ?_
  refine k_new (ci := 6) (fs := [.int 0, .null, .null, .int 0, .int 0]) (C := R_Loaf) (T := F_Loaf) (N := 5) d_Stand_init_53 i_Loaf t_Loaf_ok kq_35 kq_79 kq_5 rfl (fun j hj => by rcases (show j = 0 ∨ j = 1 ∨ j = 2 ∨ j = 3 ∨ j = 4 by omega) with rfl | rfl | rfl | rfl | rfl <;> rfl) (Nat.le_of_ble_eq_true rfl) (Nat.le_of_ble_eq_true rfl) (fun q11 => ?_)
  refine k_dup d_Stand_init_56 rfl ?_
  refine k_iload_n 0 d_Stand_init_57 rfl rfl ?_
  refine k_ctor (As := [.int 3]) (fun sz => c_Loaf_init l θ sz q11 3) cf_Loaf_init kq_81 rfl (Or.inl kq_80) d_Stand_init_58 rfl rfl (Nat.le_of_ble_eq_true rfl) rfl rfl ⟨Nat.le_of_ble_eq_true rfl, Nat.le_of_ble_eq_true rfl⟩ (Nat.le_of_ble_eq_true rfl) (Nat.le_of_ble_eq_true rfl) (fun u12 => ?_)
  refine k_w (ws' := [(h0, .inr (10, [.ref q0, .ref q1, .ref q3, .int 0, .int (-1)])), (q0, .inl (zA θ 3, 6, .inr (.inr (.inr (.inr (kfm [some (q5), some (q7), some (q9), none, none, none])))))), (q1, .inr (7, [.ref (u2 0), .int 0])), (u2 0, .inl (zA θ 0, 4, .inl (fun _ => 0))), (q3, .inr (4, [.ref (u4 0), .ref (u4 1), .int 0])), (u4 0, .inl (zA θ 0, 12, .inl (fun _ => 0))), (u4 1, .inl (zA θ 1, 12, .inl (fun _ => 0))), (q5, .inr (6, [.int 0, .ref (u6 0), .ref (u6 1), .int 0, .int 0])), (u6 0, .inl (zA θ 0, 4, .inl (fun _ => 0))), (u6 1, .inl (zA θ 0, 4, .inl (fun _ => 0))), (q7, .inr (6, [.int 1, .ref (u8 0), .ref (u8 1), .int 0, .int 0])), (u8 0, .inl (zA θ 0, 4, .inl (fun _ => 0))), (u8 1, .inl (zA θ 0, 4, .inl (fun _ => 0))), (q9, .inr (6, [.int 2, .ref (u10 0), .ref (u10 1), .int 0, .int 0])), (u10 0, .inl (zA θ 0, 4, .inl (fun _ => 0))), (u10 1, .inl (zA θ 0, 4, .inl (fun _ => 0))), (q11, .inr (6, [.int 3, .ref (u12 0), .ref (u12 1), .int 0, .int 0])), (u12 0, .inl (zA θ 0, 4, .inl (fun _ => 0))), (u12 1, .inl (zA θ 0, 4, .inl (fun _ => 0)))]) (pc' := 61) (cells' := 18) (slots' := 91) rfl rfl rfl rfl ?_
  refine k_astr (q0 := 1) (qk := 16) (t0 := 3) (ci := 6) d_Stand_init_61 rfl rfl rfl rfl (by decide +kernel) (Nat.le_of_ble_eq_true rfl) ?_
  refine k_w (ws' := [(h0, .inr (10, [.ref q0, .ref q1, .ref q3, .int 0, .int (-1)])), (q0, .inl (zA θ 3, 6, .inr (.inr (.inr (.inr (kfm [some (q5), some (q7), some (q9), some (q11), none, none])))))), (q1, .inr (7, [.ref (u2 0), .int 0])), (u2 0, .inl (zA θ 0, 4, .inl (fun _ => 0))), (q3, .inr (4, [.ref (u4 0), .ref (u4 1), .int 0])), (u4 0, .inl (zA θ 0, 12, .inl (fun _ => 0))), (u4 1, .inl (zA θ 1, 12, .inl (fun _ => 0))), (q5, .inr (6, [.int 0, .ref (u6 0), .ref (u6 1), .int 0, .int 0])), (u6 0, .inl (zA θ 0, 4, .inl (fun _ => 0))), (u6 1, .inl (zA θ 0, 4, .inl (fun _ => 0))), (q7, .inr (6, [.int 1, .ref (u8 0), .ref (u8 1), .int 0, .int 0])), (u8 0, .inl (zA θ 0, 4, .inl (fun _ => 0))), (u8 1, .inl (zA θ 0, 4, .inl (fun _ => 0))), (q9, .inr (6, [.int 2, .ref (u10 0), .ref (u10 1), .int 0, .int 0])), (u10 0, .inl (zA θ 0, 4, .inl (fun _ => 0))), (u10 1, .inl (zA θ 0, 4, .inl (fun _ => 0))), (q11, .inr (6, [.int 3, .ref (u12 0), .ref (u12 1), .int 0, .int 0])), (u12 0, .inl (zA θ 0, 4, .inl (fun _ => 0))), (u12 1, .inl (zA θ 0, 4, .inl (fun _ => 0)))]) (pc' := 62) (cells' := 18) (slots' := 91) rfl rfl rfl rfl ?_
  refine k_iinc (v := 4) (lv' := [(1, .int 4), (0, .ref h0)]) 0 d_Stand_init_62 rfl (by decide) (by decide) rfl ?_
  refine k_goto (tgt := 42) d_Stand_init_65 (by decide) ?_
  refine k_iload_n 0 d_Stand_init_42 rfl rfl ?_
  refine k_bipush (v := 6) d_Stand_init_43 (by decide) ?_
  refine k_ge_f (tgt := 68) (by decide) d_Stand_init_45 (by decide) ?_
  refine k_aload_n 1 d_Stand_init_48 rfl rfl ?_
  refine k_get (C := R_Stand) (T := F_Stand) (N := 5) (ci := 10) (k := 0) d_Stand_init_49 rfl i_Stand rfl (by decide) kq_114 rfl ?_
  refine k_iload_n 0 d_Stand_init_52 rfl rfl ?_
  refine k_new (ci := 6) (fs := [.int 0, .null, .null, .int 0, .int 0]) (C := R_Loaf) (T := F_Loaf) (N := 5) d_Stand_init_53 i_Loaf t_Loaf_ok kq_35 kq_79 kq_5 rfl (fun j hj => by rcases (show j = 0 ∨ j = 1 ∨ j = 2 ∨ j = 3 ∨ j = 4 by omega) with rfl | rfl | rfl | rfl | rfl <;> rfl) (Nat.le_of_ble_eq_true rfl) (Nat.le_of_ble_eq_true rfl) (fun q13 => ?_)
  refine k_dup d_Stand_init_56 rfl ?_
  refine k_iload_n 0 d_Stand_init_57 rfl rfl ?_
  refine k_ctor (As := [.int 4]) (fun sz => c_Loaf_init l θ sz q13 4) cf_Loaf_init kq_81 rfl (Or.inl kq_80) d_Stand_init_58 rfl rfl (Nat.le_of_ble_eq_true rfl) rfl rfl ⟨Nat.le_of_ble_eq_true rfl, Nat.le_of_ble_eq_true rfl⟩ (Nat.le_of_ble_eq_true rfl) (Nat.le_of_ble_eq_true rfl) (fun u14 => ?_)
  refine k_w (ws' := [(h0, .inr (10, [.ref q0, .ref q1, .ref q3, .int 0, .int (-1)])), (q0, .inl (zA θ 3, 6, .inr (.inr (.inr (.inr (kfm [some (q5), some (q7), some (q9), some (q11), none, none])))))), (q1, .inr (7, [.ref (u2 0), .int 0])), (u2 0, .inl (zA θ 0, 4, .inl (fun _ => 0))), (q3, .inr (4, [.ref (u4 0), .ref (u4 1), .int 0])), (u4 0, .inl (zA θ 0, 12, .inl (fun _ => 0))), (u4 1, .inl (zA θ 1, 12, .inl (fun _ => 0))), (q5, .inr (6, [.int 0, .ref (u6 0), .ref (u6 1), .int 0, .int 0])), (u6 0, .inl (zA θ 0, 4, .inl (fun _ => 0))), (u6 1, .inl (zA θ 0, 4, .inl (fun _ => 0))), (q7, .inr (6, [.int 1, .ref (u8 0), .ref (u8 1), .int 0, .int 0])), (u8 0, .inl (zA θ 0, 4, .inl (fun _ => 0))), (u8 1, .inl (zA θ 0, 4, .inl (fun _ => 0))), (q9, .inr (6, [.int 2, .ref (u10 0), .ref (u10 1), .int 0, .int 0])), (u10 0, .inl (zA θ 0, 4, .inl (fun _ => 0))), (u10 1, .inl (zA θ 0, 4, .inl (fun _ => 0))), (q11, .inr (6, [.int 3, .ref (u12 0), .ref (u12 1), .int 0, .int 0])), (u12 0, .inl (zA θ 0, 4, .inl (fun _ => 0))), (u12 1, .inl (zA θ 0, 4, .inl (fun _ => 0))), (q13, .inr (6, [.int 4, .ref (u14 0), .ref (u14 1), .int 0, .int 0])), (u14 0, .inl (zA θ 0, 4, .inl (fun _ => 0))), (u14 1, .inl (zA θ 0, 4, .inl (fun _ => 0)))]) (pc' := 61) (cells' := 21) (slots' := 104) rfl rfl rfl rfl ?_
  refine k_astr (q0 := 1) (qk := 19) (t0 := 3) (ci := 6) d_Stand_init_61 rfl rfl rfl rfl (by decide +kernel) (Nat.le_of_ble_eq_true rfl) ?_
  refine k_w (ws' := [(h0, .inr (10, [.ref q0, .ref q1, .ref q3, .int 0, .int (-1)])), (q0, .inl (zA θ 3, 6, .inr (.inr (.inr (.inr (kfm [some (q5), some (q7), some (q9), some (q11), some (q13), none])))))), (q1, .inr (7, [.ref (u2 0), .int 0])), (u2 0, .inl (zA θ 0, 4, .inl (fun _ => 0))), (q3, .inr (4, [.ref (u4 0), .ref (u4 1), .int 0])), (u4 0, .inl (zA θ 0, 12, .inl (fun _ => 0))), (u4 1, .inl (zA θ 1, 12, .inl (fun _ => 0))), (q5, .inr (6, [.int 0, .ref (u6 0), .ref (u6 1), .int 0, .int 0])), (u6 0, .inl (zA θ 0, 4, .inl (fun _ => 0))), (u6 1, .inl (zA θ 0, 4, .inl (fun _ => 0))), (q7, .inr (6, [.int 1, .ref (u8 0), .ref (u8 1), .int 0, .int 0])), (u8 0, .inl (zA θ 0, 4, .inl (fun _ => 0))), (u8 1, .inl (zA θ 0, 4, .inl (fun _ => 0))), (q9, .inr (6, [.int 2, .ref (u10 0), .ref (u10 1), .int 0, .int 0])), (u10 0, .inl (zA θ 0, 4, .inl (fun _ => 0))), (u10 1, .inl (zA θ 0, 4, .inl (fun _ => 0))), (q11, .inr (6, [.int 3, .ref (u12 0), .ref (u12 1), .int 0, .int 0])), (u12 0, .inl (zA θ 0, 4, .inl (fun _ => 0))), (u12 1, .inl (zA θ 0, 4, .inl (fun _ => 0))), (q13, .inr (6, [.int 4, .ref (u14 0), .ref (u14 1), .int 0, .int 0])), (u14 0, .inl (zA θ 0, 4, .inl (fun _ => 0))), (u14 1, .inl (zA θ 0, 4, .inl (fun _ => 0)))]) (pc' := 62) (cells' := 21) (slots' := 104) rfl rfl rfl rfl ?_
  refine k_iinc (v := 5) (lv' := [(1, .int 5), (0, .ref h0)]) 0 d_Stand_init_62 rfl (by decide) (by decide) rfl ?_
  refine k_goto (tgt := 42) d_Stand_init_65 (by decide) ?_
  refine k_iload_n 0 d_Stand_init_42 rfl rfl ?_
  refine k_bipush (v := 6) d_Stand_init_43 (by decide) ?_
  refine k_ge_f (tgt := 68) (by decide) d_Stand_init_45 (by decide) ?_
  refine k_aload_n 1 d_Stand_init_48 rfl rfl ?_
  refine k_get (C := R_Stand) (T := F_Stand) (N := 5) (ci := 10) (k := 0) d_Stand_init_49 rfl i_Stand rfl (by decide) kq_114 rfl ?_
  refine k_iload_n 0 d_Stand_init_52 rfl rfl ?_
  refine k_new (ci := 6) (fs := [.int 0, .null, .null, .int 0, .int 0]) (C := R_Loaf) (T := F_Loaf) (N := 5) d_Stand_init_53 i_Loaf t_Loaf_ok kq_35 kq_79 kq_5 rfl (fun j hj => by rcases (show j = 0 ∨ j = 1 ∨ j = 2 ∨ j = 3 ∨ j = 4 by omega) with rfl | rfl | rfl | rfl | rfl <;> rfl) (Nat.le_of_ble_eq_true rfl) (Nat.le_of_ble_eq_true rfl) (fun q15 => ?_)
  refine k_dup d_Stand_init_56 rfl ?_
  refine k_iload_n 0 d_Stand_init_57 rfl rfl ?_
  refine k_ctor (As := [.int 5]) (fun sz => c_Loaf_init l θ sz q15 5) cf_Loaf_init kq_81 rfl (Or.inl kq_80) d_Stand_init_58 rfl rfl (Nat.le_of_ble_eq_true rfl) rfl rfl ⟨Nat.le_of_ble_eq_true rfl, Nat.le_of_ble_eq_true rfl⟩ (Nat.le_of_ble_eq_true rfl) (Nat.le_of_ble_eq_true rfl) (fun u16 => ?_)
  refine k_w (ws' := [(h0, .inr (10, [.ref q0, .ref q1, .ref q3, .int 0, .int (-1)])), (q0, .inl (zA θ 3, 6, .inr (.inr (.inr (.inr (kfm [some (q5), some (q7), some (q9), some (q11), some (q13), none])))))), (q1, .inr (7, [.ref (u2 0), .int 0])), (u2 0, .inl (zA θ 0, 4, .inl (fun _ => 0))), (q3, .inr (4, [.ref (u4 0), .ref (u4 1), .int 0])), (u4 0, .inl (zA θ 0, 12, .inl (fun _ => 0))), (u4 1, .inl (zA θ 1, 12, .inl (fun _ => 0))), (q5, .inr (6, [.int 0, .ref (u6 0), .ref (u6 1), .int 0, .int 0])), (u6 0, .inl (zA θ 0, 4, .inl (fun _ => 0))), (u6 1, .inl (zA θ 0, 4, .inl (fun _ => 0))), (q7, .inr (6, [.int 1, .ref (u8 0), .ref (u8 1), .int 0, .int 0])), (u8 0, .inl (zA θ 0, 4, .inl (fun _ => 0))), (u8 1, .inl (zA θ 0, 4, .inl (fun _ => 0))), (q9, .inr (6, [.int 2, .ref (u10 0), .ref (u10 1), .int 0, .int 0])), (u10 0, .inl (zA θ 0, 4, .inl (fun _ => 0))), (u10 1, .inl (zA θ 0, 4, .inl (fun _ => 0))), (q11, .inr (6, [.int 3, .ref (u12 0), .ref (u12 1), .int 0, .int 0])), (u12 0, .inl (zA θ 0, 4, .inl (fun _ => 0))), (u12 1, .inl (zA θ 0, 4, .inl (fun _ => 0))), (q13, .inr (6, [.int 4, .ref (u14 0), .ref (u14 1), .int 0, .int 0])), (u14 0, .inl (zA θ 0, 4, .inl (fun _ => 0))), (u14 1, .inl (zA θ 0, 4, .inl (fun _ => 0))), (q15, .inr (6, [.int 5, .ref (u16 0), .ref (u16 1), .int 0, .int 0])), (u16 0, .inl (zA θ 0, 4, .inl (fun _ => 0))), (u16 1, .inl (zA θ 0, 4, .inl (fun _ => 0)))]) (pc' := 61) (cells' := 24) (slots' := 117) rfl rfl rfl rfl ?_
  refine k_astr (q0 := 1) (qk := 22) (t0 := 3) (ci := 6) d_Stand_init_61 rfl rfl rfl rfl (by decide +kernel) (Nat.le_of_ble_eq_true rfl) ?_
  refine k_w (ws' := [(h0, .inr (10, [.ref q0, .ref q1, .ref q3, .int 0, .int (-1)])), (q0, .inl (zA θ 3, 6, .inr (.inr (.inr (.inr (kfm [some (q5), some (q7), some (q9), some (q11), some (q13), some (q15)])))))), (q1, .inr (7, [.ref (u2 0), .int 0])), (u2 0, .inl (zA θ 0, 4, .inl (fun _ => 0))), (q3, .inr (4, [.ref (u4 0), .ref (u4 1), .int 0])), (u4 0, .inl (zA θ 0, 12, .inl (fun _ => 0))), (u4 1, .inl (zA θ 1, 12, .inl (fun _ => 0))), (q5, .inr (6, [.int 0, .ref (u6 0), .ref (u6 1), .int 0, .int 0])), (u6 0, .inl (zA θ 0, 4, .inl (fun _ => 0))), (u6 1, .inl (zA θ 0, 4, .inl (fun _ => 0))), (q7, .inr (6, [.int 1, .ref (u8 0), .ref (u8 1), .int 0, .int 0])), (u8 0, .inl (zA θ 0, 4, .inl (fun _ => 0))), (u8 1, .inl (zA θ 0, 4, .inl (fun _ => 0))), (q9, .inr (6, [.int 2, .ref (u10 0), .ref (u10 1), .int 0, .int 0])), (u10 0, .inl (zA θ 0, 4, .inl (fun _ => 0))), (u10 1, .inl (zA θ 0, 4, .inl (fun _ => 0))), (q11, .inr (6, [.int 3, .ref (u12 0), .ref (u12 1), .int 0, .int 0])), (u12 0, .inl (zA θ 0, 4, .inl (fun _ => 0))), (u12 1, .inl (zA θ 0, 4, .inl (fun _ => 0))), (q13, .inr (6, [.int 4, .ref (u14 0), .ref (u14 1), .int 0, .int 0])), (u14 0, .inl (zA θ 0, 4, .inl (fun _ => 0))), (u14 1, .inl (zA θ 0, 4, .inl (fun _ => 0))), (q15, .inr (6, [.int 5, .ref (u16 0), .ref (u16 1), .int 0, .int 0])), (u16 0, .inl (zA θ 0, 4, .inl (fun _ => 0))), (u16 1, .inl (zA θ 0, 4, .inl (fun _ => 0)))]) (pc' := 62) (cells' := 24) (slots' := 117) rfl rfl rfl rfl ?_
  refine k_iinc (v := 6) (lv' := [(1, .int 6), (0, .ref h0)]) 0 d_Stand_init_62 rfl (by decide) (by decide) rfl ?_
  refine k_goto (tgt := 42) d_Stand_init_65 (by decide) ?_
  refine k_iload_n 0 d_Stand_init_42 rfl rfl ?_
  refine k_bipush (v := 6) d_Stand_init_43 (by decide) ?_
  refine k_ge_t (tgt := 68) (by decide) d_Stand_init_45 (by decide) ?_
  exact k_ret d_Stand_init_68 (fun k => [q0, q1, u2 0, q3, u4 0, u4 1, q5, u6 0, u6 1, q7, u8 0, u8 1, q9, u10 0, u10 1, q11, u12 0, u12 1, q13, u14 0, u14 1, q15, u16 0, u16 1].getD k 0) rfl
abbrev b_Asker_init : ByteArray := prog_3_method_1_code
def y_Asker_init : MethodName := ⟨"BakedBefore$Aske\x72", "<init>", "(LBakedBefore$Stand;LBakedBefore$Baker;)V"⟩
theorem cf_Asker_init : zcf y_Asker_init b_Asker_init 3 none 2 := ⟨kq_218, kq_9, by decide, by decide, by decide +kernel⟩
theorem d_Asker_init_0 : decode b_Asker_init 0 = .ok (.aload_n 0, 1) := by decide +kernel
theorem d_Asker_init_1 : decode b_Asker_init 1 = .ok (.invokespecial 3, 3) := by decide +kernel
theorem d_Asker_init_4 : decode b_Asker_init 4 = .ok (.aload_n 0, 1) := by decide +kernel
theorem d_Asker_init_5 : decode b_Asker_init 5 = .ok (.new 9, 3) := by decide +kernel
theorem d_Asker_init_8 : decode b_Asker_init 8 = .ok (.dup, 1) := by decide +kernel
theorem d_Asker_init_9 : decode b_Asker_init 9 = .ok (.invokespecial 11, 3) := by decide +kernel
theorem d_Asker_init_12 : decode b_Asker_init 12 = .ok (.putfield 12, 3) := by decide +kernel
theorem d_Asker_init_15 : decode b_Asker_init 15 = .ok (.aload_n 0, 1) := by decide +kernel
theorem d_Asker_init_16 : decode b_Asker_init 16 = .ok (.bipush (64), 2) := by decide +kernel
theorem d_Asker_init_18 : decode b_Asker_init 18 = .ok (.newarray .int, 2) := by decide +kernel
theorem d_Asker_init_20 : decode b_Asker_init 20 = .ok (.putfield 18, 3) := by decide +kernel
theorem d_Asker_init_23 : decode b_Asker_init 23 = .ok (.aload_n 0, 1) := by decide +kernel
theorem d_Asker_init_24 : decode b_Asker_init 24 = .ok (.aload_n 1, 1) := by decide +kernel
theorem d_Asker_init_25 : decode b_Asker_init 25 = .ok (.putfield 22, 3) := by decide +kernel
theorem d_Asker_init_28 : decode b_Asker_init 28 = .ok (.aload_n 0, 1) := by decide +kernel
theorem d_Asker_init_29 : decode b_Asker_init 29 = .ok (.aload_n 2, 1) := by decide +kernel
theorem d_Asker_init_30 : decode b_Asker_init 30 = .ok (.putfield 26, 3) := by decide +kernel
theorem d_Asker_init_33 : decode b_Asker_init 33 = .ok (.return_, 1) := by decide +kernel
def kw_Asker (θ : ZT) (h0 : Nat) (a1 : Nat) (a2 : Nat) (u : Nat → Nat) : va_W := [(h0, .inr (2, [.ref a1, .ref a2, .ref (u 0), .ref (u 2)])), (u 0, .inr (7, [.ref (u 1), .int 0])), (u 1, .inl (zA θ 0, 4, .inl (fun _ => 0))), (u 2, .inl (zA θ 0, 64, .inl (fun _ => 0)))]
set_option maxHeartbeats 4000000 in
set_option maxRecDepth 100000 in
theorem c_Asker_init (l : Launch) (θ : ZT) (sz h0 : Nat) (a1 : Nat) (a2 : Nat) : kMet l θ y_Asker_init b_Asker_init 3 { frames := 2, cells := 3, slots := 70, locals := 60 } [.ref a1, .ref a2] sz h0 (.inr (2, [.null, .null, .null, .null])) 3 70 (kw_Asker θ h0 a1 a2) := by
  refine k_met (lv := [(0, .ref h0), (1, .ref a1), (2, .ref a2)]) (by decide +kernel) rfl rfl (Nat.le_of_ble_eq_true rfl) ?_
  refine k_aload_n 0 d_Asker_init_0 rfl rfl ?_
  refine k_objInit d_Asker_init_1 kq_219 kq_27 kq_28 (Nat.le_of_ble_eq_true rfl) (Nat.le_of_ble_eq_true rfl) ?_
  refine k_aload_n 0 d_Asker_init_4 rfl rfl ?_
  refine k_new (ci := 7) (fs := [.null, .int 0]) (C := R_Oven) (T := F_Oven) (N := 2) d_Asker_init_5 i_Oven t_Oven_ok kq_220 kq_38 kq_3 rfl (fun j hj => by rcases (show j = 0 ∨ j = 1 by omega) with rfl | rfl <;> rfl) (Nat.le_of_ble_eq_true rfl) (Nat.le_of_ble_eq_true rfl) (fun q0 => ?_)
  refine k_dup d_Asker_init_8 rfl ?_
  refine k_ctor (As := []) (fun sz => c_Oven_init l θ sz q0) cf_Oven_init kq_40 rfl (Or.inr (fun _ h => h.1.2.2.2.2.1)) d_Asker_init_9 rfl rfl (Nat.le_of_ble_eq_true rfl) rfl rfl ⟨Nat.le_of_ble_eq_true rfl, Nat.le_of_ble_eq_true rfl⟩ (Nat.le_of_ble_eq_true rfl) (Nat.le_of_ble_eq_true rfl) (fun u1 => ?_)
  refine k_w (ws' := [(h0, .inr (2, [.null, .null, .null, .null])), (q0, .inr (7, [.ref (u1 0), .int 0])), (u1 0, .inl (zA θ 0, 4, .inl (fun _ => 0)))]) (pc' := 12) (cells' := 2) (slots' := 6) rfl rfl rfl rfl ?_
  refine k_putF (C := R_Asker) (T := F_Asker) (N := 4) (ci := 2) (k := 2) (ty := (.object "BakedBefore$Oven")) (fs' := [.null, .null, .ref q0, .null]) d_Asker_init_12 rfl i_Asker t_Asker_ok n_Asker rfl (by decide) kq_224 rfl (by decide +kernel) rfl rfl (Nat.le_of_ble_eq_true rfl) rfl ?_
  refine k_w (ws' := [(h0, .inr (2, [.null, .null, .ref q0, .null])), (q0, .inr (7, [.ref (u1 0), .int 0])), (u1 0, .inl (zA θ 0, 4, .inl (fun _ => 0)))]) (pc' := 15) (cells' := 2) (slots' := 6) rfl rfl rfl rfl ?_
  refine k_aload_n 0 d_Asker_init_15 rfl rfl ?_
  refine k_bipush (v := 64) d_Asker_init_16 (by decide) ?_
  refine k_newa (atype := .int) (ty := .int) (t0 := 0) (N' := 64) (a0 := (64, .inl (fun _ => 0))) d_Asker_init_18 rfl kq_57 ⟨0, rfl, rfl⟩ (fun _ _ h => h) (fun _ => rfl) (by decide) (by decide) (Nat.le_of_ble_eq_true rfl) (Nat.le_of_ble_eq_true rfl) (Nat.le_of_ble_eq_true rfl) (fun q2 => ?_)
  refine k_w (ws' := [(h0, .inr (2, [.null, .null, .ref q0, .null])), (q0, .inr (7, [.ref (u1 0), .int 0])), (u1 0, .inl (zA θ 0, 4, .inl (fun _ => 0))), (q2, .inl (zA θ 0, 64, .inl (fun _ => 0)))]) (pc' := 20) (cells' := 3) (slots' := 70) rfl rfl rfl rfl ?_
  refine k_putF (C := R_Asker) (T := F_Asker) (N := 4) (ci := 2) (k := 3) (ty := (.array .int)) (fs' := [.null, .null, .ref q0, .ref q2]) d_Asker_init_20 rfl i_Asker t_Asker_ok n_Asker rfl (by decide) kq_225 rfl (by decide +kernel) rfl rfl (Nat.le_of_ble_eq_true rfl) rfl ?_
  refine k_w (ws' := [(h0, .inr (2, [.null, .null, .ref q0, .ref q2])), (q0, .inr (7, [.ref (u1 0), .int 0])), (u1 0, .inl (zA θ 0, 4, .inl (fun _ => 0))), (q2, .inl (zA θ 0, 64, .inl (fun _ => 0)))]) (pc' := 23) (cells' := 3) (slots' := 70) rfl rfl rfl rfl ?_
  refine k_aload_n 0 d_Asker_init_23 rfl rfl ?_
  refine k_aload_n 1 d_Asker_init_24 rfl rfl ?_
  refine k_putF (C := R_Asker) (T := F_Asker) (N := 4) (ci := 2) (k := 0) (ty := (.object "BakedBefore$Stand")) (fs' := [.ref a1, .null, .ref q0, .ref q2]) d_Asker_init_25 rfl i_Asker t_Asker_ok n_Asker rfl (by decide) kq_222 rfl (by decide +kernel) rfl rfl (Nat.le_of_ble_eq_true rfl) rfl ?_
  refine k_w (ws' := [(h0, .inr (2, [.ref a1, .null, .ref q0, .ref q2])), (q0, .inr (7, [.ref (u1 0), .int 0])), (u1 0, .inl (zA θ 0, 4, .inl (fun _ => 0))), (q2, .inl (zA θ 0, 64, .inl (fun _ => 0)))]) (pc' := 28) (cells' := 3) (slots' := 70) rfl rfl rfl rfl ?_
  refine k_aload_n 0 d_Asker_init_28 rfl rfl ?_
  refine k_aload_n 2 d_Asker_init_29 rfl rfl ?_
  refine k_putF (C := R_Asker) (T := F_Asker) (N := 4) (ci := 2) (k := 1) (ty := (.object "BakedBefore$Bake\x72")) (fs' := [.ref a1, .ref a2, .ref q0, .ref q2]) d_Asker_init_30 rfl i_Asker t_Asker_ok n_Asker rfl (by decide) kq_223 rfl (by decide +kernel) rfl rfl (Nat.le_of_ble_eq_true rfl) rfl ?_
  refine k_w (ws' := [(h0, .inr (2, [.ref a1, .ref a2, .ref q0, .ref q2])), (q0, .inr (7, [.ref (u1 0), .int 0])), (u1 0, .inl (zA θ 0, 4, .inl (fun _ => 0))), (q2, .inl (zA θ 0, 64, .inl (fun _ => 0)))]) (pc' := 33) (cells' := 3) (slots' := 70) rfl rfl rfl rfl ?_
  exact k_ret d_Asker_init_33 (fun k => [q0, u1 0, q2].getD k 0) rfl
abbrev b_Search_init : ByteArray := prog_10_method_1_code
def y_Search_init : MethodName := ⟨"BakedBefore$Search", "<init>", "(LBakedBefore$Stand;LBakedBefore$Baker;)V"⟩
theorem cf_Search_init : zcf y_Search_init b_Search_init 4 none 2 := ⟨kq_239, kq_10, by decide, by decide, by decide +kernel⟩
theorem d_Search_init_0 : decode b_Search_init 0 = .ok (.aload_n 0, 1) := by decide +kernel
theorem d_Search_init_1 : decode b_Search_init 1 = .ok (.invokespecial 3, 3) := by decide +kernel
theorem d_Search_init_4 : decode b_Search_init 4 = .ok (.aload_n 0, 1) := by decide +kernel
theorem d_Search_init_5 : decode b_Search_init 5 = .ok (.bipush (6), 2) := by decide +kernel
theorem d_Search_init_7 : decode b_Search_init 7 = .ok (.anewarray 11, 3) := by decide +kernel
theorem d_Search_init_10 : decode b_Search_init 10 = .ok (.putfield 13, 3) := by decide +kernel
theorem d_Search_init_13 : decode b_Search_init 13 = .ok (.aload_n 0, 1) := by decide +kernel
theorem d_Search_init_14 : decode b_Search_init 14 = .ok (.iconst (5), 1) := by decide +kernel
theorem d_Search_init_15 : decode b_Search_init 15 = .ok (.newarray .int, 2) := by decide +kernel
theorem d_Search_init_17 : decode b_Search_init 17 = .ok (.putfield 17, 3) := by decide +kernel
theorem d_Search_init_20 : decode b_Search_init 20 = .ok (.aload_n 0, 1) := by decide +kernel
theorem d_Search_init_21 : decode b_Search_init 21 = .ok (.iconst (5), 1) := by decide +kernel
theorem d_Search_init_22 : decode b_Search_init 22 = .ok (.newarray .int, 2) := by decide +kernel
theorem d_Search_init_24 : decode b_Search_init 24 = .ok (.putfield 21, 3) := by decide +kernel
theorem d_Search_init_27 : decode b_Search_init 27 = .ok (.aload_n 0, 1) := by decide +kernel
theorem d_Search_init_28 : decode b_Search_init 28 = .ok (.aload_n 1, 1) := by decide +kernel
theorem d_Search_init_29 : decode b_Search_init 29 = .ok (.putfield 24, 3) := by decide +kernel
theorem d_Search_init_32 : decode b_Search_init 32 = .ok (.aload_n 0, 1) := by decide +kernel
theorem d_Search_init_33 : decode b_Search_init 33 = .ok (.aload_n 2, 1) := by decide +kernel
theorem d_Search_init_34 : decode b_Search_init 34 = .ok (.putfield 28, 3) := by decide +kernel
theorem d_Search_init_37 : decode b_Search_init 37 = .ok (.iconst (0), 1) := by decide +kernel
theorem d_Search_init_38 : decode b_Search_init 38 = .ok (.istore_n 3, 1) := by decide +kernel
theorem d_Search_init_39 : decode b_Search_init 39 = .ok (.iload_n 3, 1) := by decide +kernel
theorem d_Search_init_40 : decode b_Search_init 40 = .ok (.aload_n 0, 1) := by decide +kernel
theorem d_Search_init_41 : decode b_Search_init 41 = .ok (.getfield 13, 3) := by decide +kernel
theorem d_Search_init_44 : decode b_Search_init 44 = .ok (.arraylength, 1) := by decide +kernel
theorem d_Search_init_45 : decode b_Search_init 45 = .ok (.if_icmp .ge (22), 3) := by decide +kernel
theorem d_Search_init_48 : decode b_Search_init 48 = .ok (.aload_n 0, 1) := by decide +kernel
theorem d_Search_init_49 : decode b_Search_init 49 = .ok (.getfield 13, 3) := by decide +kernel
theorem d_Search_init_52 : decode b_Search_init 52 = .ok (.iload_n 3, 1) := by decide +kernel
theorem d_Search_init_53 : decode b_Search_init 53 = .ok (.new 11, 3) := by decide +kernel
theorem d_Search_init_56 : decode b_Search_init 56 = .ok (.dup, 1) := by decide +kernel
theorem d_Search_init_57 : decode b_Search_init 57 = .ok (.invokespecial 32, 3) := by decide +kernel
theorem d_Search_init_60 : decode b_Search_init 60 = .ok (.aastore, 1) := by decide +kernel
theorem d_Search_init_61 : decode b_Search_init 61 = .ok (.iinc 3 (1), 3) := by decide +kernel
theorem d_Search_init_64 : decode b_Search_init 64 = .ok (.goto (-25), 3) := by decide +kernel
theorem d_Search_init_67 : decode b_Search_init 67 = .ok (.return_, 1) := by decide +kernel
def kw_Search (θ : ZT) (h0 : Nat) (a1 : Nat) (a2 : Nat) (u : Nat → Nat) : va_W := [(h0, .inr (9, [.ref a1, .ref a2, .ref (u 0), .ref (u 1), .ref (u 2), .int 0, .int 0])), (u 0, .inl (zA θ 4, 6, .inr (.inr (.inr (.inr (kfm [some (u 3), some (u 5), some (u 7), some (u 9), some (u 11), some (u 13)])))))), (u 1, .inl (zA θ 0, 5, .inl (fun _ => 0))), (u 2, .inl (zA θ 0, 5, .inl (fun _ => 0))), (u 3, .inr (7, [.ref (u 4), .int 0])), (u 4, .inl (zA θ 0, 4, .inl (fun _ => 0))), (u 5, .inr (7, [.ref (u 6), .int 0])), (u 6, .inl (zA θ 0, 4, .inl (fun _ => 0))), (u 7, .inr (7, [.ref (u 8), .int 0])), (u 8, .inl (zA θ 0, 4, .inl (fun _ => 0))), (u 9, .inr (7, [.ref (u 10), .int 0])), (u 10, .inl (zA θ 0, 4, .inl (fun _ => 0))), (u 11, .inr (7, [.ref (u 12), .int 0])), (u 12, .inl (zA θ 0, 4, .inl (fun _ => 0))), (u 13, .inr (7, [.ref (u 14), .int 0])), (u 14, .inl (zA θ 0, 4, .inl (fun _ => 0)))]
set_option maxHeartbeats 4000000 in
set_option maxRecDepth 100000 in
theorem c_Search_init (l : Launch) (θ : ZT) (sz h0 : Nat) (a1 : Nat) (a2 : Nat) : kMet l θ y_Search_init b_Search_init 4 { frames := 2, cells := 15, slots := 52, locals := 60 } [.ref a1, .ref a2] sz h0 (.inr (9, [.null, .null, .null, .null, .null, .int 0, .int 0])) 15 52 (kw_Search θ h0 a1 a2) := by
  refine k_met (lv := [(0, .ref h0), (1, .ref a1), (2, .ref a2)]) (by decide +kernel) rfl rfl (Nat.le_of_ble_eq_true rfl) ?_
  refine k_aload_n 0 d_Search_init_0 rfl rfl ?_
  refine k_objInit d_Search_init_1 kq_240 kq_27 kq_28 (Nat.le_of_ble_eq_true rfl) (Nat.le_of_ble_eq_true rfl) ?_
  refine k_aload_n 0 d_Search_init_4 rfl rfl ?_
  refine k_bipush (v := 6) d_Search_init_5 (by decide) ?_
  refine k_newr (C := "BakedBefore$Oven") (t0 := 4) (N' := 6) d_Search_init_7 kq_241 (fun _ h => h.2.1.2.2) ⟨4, rfl, rfl⟩ (by decide) (by decide) (Nat.le_of_ble_eq_true rfl) (Nat.le_of_ble_eq_true rfl) (Nat.le_of_ble_eq_true rfl) (fun q0 => ?_)
  refine k_w (ws' := [(h0, .inr (9, [.null, .null, .null, .null, .null, .int 0, .int 0])), (q0, .inl (zA θ 4, 6, .inr (.inr (.inr (.inr (kfm [none, none, none, none, none, none]))))))]) (pc' := 10) (cells' := 1) (slots' := 6) rfl rfl rfl rfl ?_
  refine k_putF (C := R_Search) (T := F_Search) (N := 7) (ci := 9) (k := 2) (ty := (.array (.object "BakedBefore$Oven"))) (fs' := [.null, .null, .ref q0, .null, .null, .int 0, .int 0]) d_Search_init_10 rfl i_Search t_Search_ok n_Search rfl (by decide) kq_246 rfl (by decide +kernel) rfl rfl (Nat.le_of_ble_eq_true rfl) rfl ?_
  refine k_w (ws' := [(h0, .inr (9, [.null, .null, .ref q0, .null, .null, .int 0, .int 0])), (q0, .inl (zA θ 4, 6, .inr (.inr (.inr (.inr (kfm [none, none, none, none, none, none]))))))]) (pc' := 13) (cells' := 1) (slots' := 6) rfl rfl rfl rfl ?_
  refine k_aload_n 0 d_Search_init_13 rfl rfl ?_
  refine k_iconst (v := 5) d_Search_init_14 (by decide) ?_
  refine k_newa (atype := .int) (ty := .int) (t0 := 0) (N' := 5) (a0 := (5, .inl (fun _ => 0))) d_Search_init_15 rfl kq_57 ⟨0, rfl, rfl⟩ (fun _ _ h => h) (fun _ => rfl) (by decide) (by decide) (Nat.le_of_ble_eq_true rfl) (Nat.le_of_ble_eq_true rfl) (Nat.le_of_ble_eq_true rfl) (fun q1 => ?_)
  refine k_w (ws' := [(h0, .inr (9, [.null, .null, .ref q0, .null, .null, .int 0, .int 0])), (q0, .inl (zA θ 4, 6, .inr (.inr (.inr (.inr (kfm [none, none, none, none, none, none])))))), (q1, .inl (zA θ 0, 5, .inl (fun _ => 0)))]) (pc' := 17) (cells' := 2) (slots' := 11) rfl rfl rfl rfl ?_
  refine k_putF (C := R_Search) (T := F_Search) (N := 7) (ci := 9) (k := 3) (ty := (.array .int)) (fs' := [.null, .null, .ref q0, .ref q1, .null, .int 0, .int 0]) d_Search_init_17 rfl i_Search t_Search_ok n_Search rfl (by decide) kq_247 rfl (by decide +kernel) rfl rfl (Nat.le_of_ble_eq_true rfl) rfl ?_
  refine k_w (ws' := [(h0, .inr (9, [.null, .null, .ref q0, .ref q1, .null, .int 0, .int 0])), (q0, .inl (zA θ 4, 6, .inr (.inr (.inr (.inr (kfm [none, none, none, none, none, none])))))), (q1, .inl (zA θ 0, 5, .inl (fun _ => 0)))]) (pc' := 20) (cells' := 2) (slots' := 11) rfl rfl rfl rfl ?_
  refine k_aload_n 0 d_Search_init_20 rfl rfl ?_
  refine k_iconst (v := 5) d_Search_init_21 (by decide) ?_
  refine k_newa (atype := .int) (ty := .int) (t0 := 0) (N' := 5) (a0 := (5, .inl (fun _ => 0))) d_Search_init_22 rfl kq_57 ⟨0, rfl, rfl⟩ (fun _ _ h => h) (fun _ => rfl) (by decide) (by decide) (Nat.le_of_ble_eq_true rfl) (Nat.le_of_ble_eq_true rfl) (Nat.le_of_ble_eq_true rfl) (fun q2 => ?_)
  refine k_w (ws' := [(h0, .inr (9, [.null, .null, .ref q0, .ref q1, .null, .int 0, .int 0])), (q0, .inl (zA θ 4, 6, .inr (.inr (.inr (.inr (kfm [none, none, none, none, none, none])))))), (q1, .inl (zA θ 0, 5, .inl (fun _ => 0))), (q2, .inl (zA θ 0, 5, .inl (fun _ => 0)))]) (pc' := 24) (cells' := 3) (slots' := 16) rfl rfl rfl rfl ?_
  refine k_putF (C := R_Search) (T := F_Search) (N := 7) (ci := 9) (k := 4) (ty := (.array .int)) (fs' := [.null, .null, .ref q0, .ref q1, .ref q2, .int 0, .int 0]) d_Search_init_24 rfl i_Search t_Search_ok n_Search rfl (by decide) kq_248 rfl (by decide +kernel) rfl rfl (Nat.le_of_ble_eq_true rfl) rfl ?_
  refine k_w (ws' := [(h0, .inr (9, [.null, .null, .ref q0, .ref q1, .ref q2, .int 0, .int 0])), (q0, .inl (zA θ 4, 6, .inr (.inr (.inr (.inr (kfm [none, none, none, none, none, none])))))), (q1, .inl (zA θ 0, 5, .inl (fun _ => 0))), (q2, .inl (zA θ 0, 5, .inl (fun _ => 0)))]) (pc' := 27) (cells' := 3) (slots' := 16) rfl rfl rfl rfl ?_
  refine k_aload_n 0 d_Search_init_27 rfl rfl ?_
  refine k_aload_n 1 d_Search_init_28 rfl rfl ?_
  refine k_putF (C := R_Search) (T := F_Search) (N := 7) (ci := 9) (k := 0) (ty := (.object "BakedBefore$Stand")) (fs' := [.ref a1, .null, .ref q0, .ref q1, .ref q2, .int 0, .int 0]) d_Search_init_29 rfl i_Search t_Search_ok n_Search rfl (by decide) kq_244 rfl (by decide +kernel) rfl rfl (Nat.le_of_ble_eq_true rfl) rfl ?_
  refine k_w (ws' := [(h0, .inr (9, [.ref a1, .null, .ref q0, .ref q1, .ref q2, .int 0, .int 0])), (q0, .inl (zA θ 4, 6, .inr (.inr (.inr (.inr (kfm [none, none, none, none, none, none])))))), (q1, .inl (zA θ 0, 5, .inl (fun _ => 0))), (q2, .inl (zA θ 0, 5, .inl (fun _ => 0)))]) (pc' := 32) (cells' := 3) (slots' := 16) rfl rfl rfl rfl ?_
  refine k_aload_n 0 d_Search_init_32 rfl rfl ?_
  refine k_aload_n 2 d_Search_init_33 rfl rfl ?_
  refine k_putF (C := R_Search) (T := F_Search) (N := 7) (ci := 9) (k := 1) (ty := (.object "BakedBefore$Bake\x72")) (fs' := [.ref a1, .ref a2, .ref q0, .ref q1, .ref q2, .int 0, .int 0]) d_Search_init_34 rfl i_Search t_Search_ok n_Search rfl (by decide) kq_245 rfl (by decide +kernel) rfl rfl (Nat.le_of_ble_eq_true rfl) rfl ?_
  refine k_w (ws' := [(h0, .inr (9, [.ref a1, .ref a2, .ref q0, .ref q1, .ref q2, .int 0, .int 0])), (q0, .inl (zA θ 4, 6, .inr (.inr (.inr (.inr (kfm [none, none, none, none, none, none])))))), (q1, .inl (zA θ 0, 5, .inl (fun _ => 0))), (q2, .inl (zA θ 0, 5, .inl (fun _ => 0)))]) (pc' := 37) (cells' := 3) (slots' := 16) rfl rfl rfl rfl ?_
  refine k_iconst (v := 0) d_Search_init_37 (by decide) ?_
  refine k_istore_n (lv' := [(3, .int 0), (0, .ref h0), (1, .ref a1), (2, .ref a2)]) d_Search_init_38 rfl (by decide) rfl ?_
  refine k_iload_n 0 d_Search_init_39 rfl rfl ?_
  refine k_aload_n 1 d_Search_init_40 rfl rfl ?_
  refine k_get (C := R_Search) (T := F_Search) (N := 7) (ci := 9) (k := 2) d_Search_init_41 rfl i_Search rfl (by decide) kq_246 rfl ?_
  refine k_alen (q0 := 1) (t0 := 4) (v := 6) d_Search_init_44 rfl rfl rfl ?_
  refine k_ge_f (tgt := 67) (by decide) d_Search_init_45 (by decide) ?_
  refine k_aload_n 1 d_Search_init_48 rfl rfl ?_
  refine k_get (C := R_Search) (T := F_Search) (N := 7) (ci := 9) (k := 2) d_Search_init_49 rfl i_Search rfl (by decide) kq_246 rfl ?_
  refine k_iload_n 0 d_Search_init_52 rfl rfl ?_
  refine k_new (ci := 7) (fs := [.null, .int 0]) (C := R_Oven) (T := F_Oven) (N := 2) d_Search_init_53 i_Oven t_Oven_ok kq_241 kq_38 kq_3 rfl (fun j hj => by rcases (show j = 0 ∨ j = 1 by omega) with rfl | rfl <;> rfl) (Nat.le_of_ble_eq_true rfl) (Nat.le_of_ble_eq_true rfl) (fun q3 => ?_)
  refine k_dup d_Search_init_56 rfl ?_
  refine k_ctor (As := []) (fun sz => c_Oven_init l θ sz q3) cf_Oven_init kq_40 rfl (Or.inr (fun _ h => h.1.2.2.2.2.2.1)) d_Search_init_57 rfl rfl (Nat.le_of_ble_eq_true rfl) rfl rfl ⟨Nat.le_of_ble_eq_true rfl, Nat.le_of_ble_eq_true rfl⟩ (Nat.le_of_ble_eq_true rfl) (Nat.le_of_ble_eq_true rfl) (fun u4 => ?_)
  refine k_w (ws' := [(h0, .inr (9, [.ref a1, .ref a2, .ref q0, .ref q1, .ref q2, .int 0, .int 0])), (q0, .inl (zA θ 4, 6, .inr (.inr (.inr (.inr (kfm [none, none, none, none, none, none])))))), (q1, .inl (zA θ 0, 5, .inl (fun _ => 0))), (q2, .inl (zA θ 0, 5, .inl (fun _ => 0))), (q3, .inr (7, [.ref (u4 0), .int 0])), (u4 0, .inl (zA θ 0, 4, .inl (fun _ => 0)))]) (pc' := 60) (cells' := 5) (slots' := 22) rfl rfl rfl rfl ?_
  refine k_astr (q0 := 1) (qk := 4) (t0 := 4) (ci := 7) d_Search_init_60 rfl rfl rfl rfl (by decide +kernel) (Nat.le_of_ble_eq_true rfl) ?_
  refine k_w (ws' := [(h0, .inr (9, [.ref a1, .ref a2, .ref q0, .ref q1, .ref q2, .int 0, .int 0])), (q0, .inl (zA θ 4, 6, .inr (.inr (.inr (.inr (kfm [some (q3), none, none, none, none, none])))))), (q1, .inl (zA θ 0, 5, .inl (fun _ => 0))), (q2, .inl (zA θ 0, 5, .inl (fun _ => 0))), (q3, .inr (7, [.ref (u4 0), .int 0])), (u4 0, .inl (zA θ 0, 4, .inl (fun _ => 0)))]) (pc' := 61) (cells' := 5) (slots' := 22) rfl rfl rfl rfl ?_
  refine k_iinc (v := 1) (lv' := [(3, .int 1), (0, .ref h0), (1, .ref a1), (2, .ref a2)]) 0 d_Search_init_61 rfl (by decide) (by decide) rfl ?_
  refine k_goto (tgt := 39) d_Search_init_64 (by decide) ?_
  refine k_iload_n 0 d_Search_init_39 rfl rfl ?_
  refine k_aload_n 1 d_Search_init_40 rfl rfl ?_
  refine k_get (C := R_Search) (T := F_Search) (N := 7) (ci := 9) (k := 2) d_Search_init_41 rfl i_Search rfl (by decide) kq_246 rfl ?_
  refine k_alen (q0 := 1) (t0 := 4) (v := 6) d_Search_init_44 rfl rfl rfl ?_
  refine k_ge_f (tgt := 67) (by decide) d_Search_init_45 (by decide) ?_
  refine k_aload_n 1 d_Search_init_48 rfl rfl ?_
  refine k_get (C := R_Search) (T := F_Search) (N := 7) (ci := 9) (k := 2) d_Search_init_49 rfl i_Search rfl (by decide) kq_246 rfl ?_
  refine k_iload_n 0 d_Search_init_52 rfl rfl ?_
  refine k_new (ci := 7) (fs := [.null, .int 0]) (C := R_Oven) (T := F_Oven) (N := 2) d_Search_init_53 i_Oven t_Oven_ok kq_241 kq_38 kq_3 rfl (fun j hj => by rcases (show j = 0 ∨ j = 1 by omega) with rfl | rfl <;> rfl) (Nat.le_of_ble_eq_true rfl) (Nat.le_of_ble_eq_true rfl) (fun q5 => ?_)
  refine k_dup d_Search_init_56 rfl ?_
  refine k_ctor (As := []) (fun sz => c_Oven_init l θ sz q5) cf_Oven_init kq_40 rfl (Or.inr (fun _ h => h.1.2.2.2.2.2.1)) d_Search_init_57 rfl rfl (Nat.le_of_ble_eq_true rfl) rfl rfl ⟨Nat.le_of_ble_eq_true rfl, Nat.le_of_ble_eq_true rfl⟩ (Nat.le_of_ble_eq_true rfl) (Nat.le_of_ble_eq_true rfl) (fun u6 => ?_)
  refine k_w (ws' := [(h0, .inr (9, [.ref a1, .ref a2, .ref q0, .ref q1, .ref q2, .int 0, .int 0])), (q0, .inl (zA θ 4, 6, .inr (.inr (.inr (.inr (kfm [some (q3), none, none, none, none, none])))))), (q1, .inl (zA θ 0, 5, .inl (fun _ => 0))), (q2, .inl (zA θ 0, 5, .inl (fun _ => 0))), (q3, .inr (7, [.ref (u4 0), .int 0])), (u4 0, .inl (zA θ 0, 4, .inl (fun _ => 0))), (q5, .inr (7, [.ref (u6 0), .int 0])), (u6 0, .inl (zA θ 0, 4, .inl (fun _ => 0)))]) (pc' := 60) (cells' := 7) (slots' := 28) rfl rfl rfl rfl ?_
  refine k_astr (q0 := 1) (qk := 6) (t0 := 4) (ci := 7) d_Search_init_60 rfl rfl rfl rfl (by decide +kernel) (Nat.le_of_ble_eq_true rfl) ?_
  refine k_w (ws' := [(h0, .inr (9, [.ref a1, .ref a2, .ref q0, .ref q1, .ref q2, .int 0, .int 0])), (q0, .inl (zA θ 4, 6, .inr (.inr (.inr (.inr (kfm [some (q3), some (q5), none, none, none, none])))))), (q1, .inl (zA θ 0, 5, .inl (fun _ => 0))), (q2, .inl (zA θ 0, 5, .inl (fun _ => 0))), (q3, .inr (7, [.ref (u4 0), .int 0])), (u4 0, .inl (zA θ 0, 4, .inl (fun _ => 0))), (q5, .inr (7, [.ref (u6 0), .int 0])), (u6 0, .inl (zA θ 0, 4, .inl (fun _ => 0)))]) (pc' := 61) (cells' := 7) (slots' := 28) rfl rfl rfl rfl ?_
  refine k_iinc (v := 2) (lv' := [(3, .int 2), (0, .ref h0), (1, .ref a1), (2, .ref a2)]) 0 d_Search_init_61 rfl (by decide) (by decide) rfl ?_
  refine k_goto (tgt := 39) d_Search_init_64 (by decide) ?_
  refine k_iload_n 0 d_Search_init_39 rfl rfl ?_
  refine k_aload_n 1 d_Search_init_40 rfl rfl ?_
  refine k_get (C := R_Search) (T := F_Search) (N := 7) (ci := 9) (k := 2) d_Search_init_41 rfl i_Search rfl (by decide) kq_246 rfl ?_
  refine k_alen (q0 := 1) (t0 := 4) (v := 6) d_Search_init_44 rfl rfl rfl ?_
  refine k_ge_f (tgt := 67) (by decide) d_Search_init_45 (by decide) ?_
  refine k_aload_n 1 d_Search_init_48 rfl rfl ?_
  refine k_get (C := R_Search) (T := F_Search) (N := 7) (ci := 9) (k := 2) d_Search_init_49 rfl i_Search rfl (by decide) kq_246 rfl ?_
  refine k_iload_n 0 d_Search_init_52 rfl rfl ?_
  refine k_new (ci := 7) (fs := [.null, .int 0]) (C := R_Oven) (T := F_Oven) (N := 2) d_Search_init_53 i_Oven t_Oven_ok kq_241 kq_38 kq_3 rfl (fun j hj => by rcases (show j = 0 ∨ j = 1 by omega) with rfl | rfl <;> rfl) (Nat.le_of_ble_eq_true rfl) (Nat.le_of_ble_eq_true rfl) (fun q7 => ?_)
  refine k_dup d_Search_init_56 rfl ?_
  refine k_ctor (As := []) (fun sz => c_Oven_init l θ sz q7) cf_Oven_init kq_40 rfl (Or.inr (fun _ h => h.1.2.2.2.2.2.1)) d_Search_init_57 rfl rfl (Nat.le_of_ble_eq_true rfl) rfl rfl ⟨Nat.le_of_ble_eq_true rfl, Nat.le_of_ble_eq_true rfl⟩ (Nat.le_of_ble_eq_true rfl) (Nat.le_of_ble_eq_true rfl) (fun u8 => ?_)
  refine k_w (ws' := [(h0, .inr (9, [.ref a1, .ref a2, .ref q0, .ref q1, .ref q2, .int 0, .int 0])), (q0, .inl (zA θ 4, 6, .inr (.inr (.inr (.inr (kfm [some (q3), some (q5), none, none, none, none])))))), (q1, .inl (zA θ 0, 5, .inl (fun _ => 0))), (q2, .inl (zA θ 0, 5, .inl (fun _ => 0))), (q3, .inr (7, [.ref (u4 0), .int 0])), (u4 0, .inl (zA θ 0, 4, .inl (fun _ => 0))), (q5, .inr (7, [.ref (u6 0), .int 0])), (u6 0, .inl (zA θ 0, 4, .inl (fun _ => 0))), (q7, .inr (7, [.ref (u8 0), .int 0])), (u8 0, .inl (zA θ 0, 4, .inl (fun _ => 0)))]) (pc' := 60) (cells' := 9) (slots' := 34) rfl rfl rfl rfl ?_
  refine k_astr (q0 := 1) (qk := 8) (t0 := 4) (ci := 7) d_Search_init_60 rfl rfl rfl rfl (by decide +kernel) (Nat.le_of_ble_eq_true rfl) ?_
  refine k_w (ws' := [(h0, .inr (9, [.ref a1, .ref a2, .ref q0, .ref q1, .ref q2, .int 0, .int 0])), (q0, .inl (zA θ 4, 6, .inr (.inr (.inr (.inr (kfm [some (q3), some (q5), some (q7), none, none, none])))))), (q1, .inl (zA θ 0, 5, .inl (fun _ => 0))), (q2, .inl (zA θ 0, 5, .inl (fun _ => 0))), (q3, .inr (7, [.ref (u4 0), .int 0])), (u4 0, .inl (zA θ 0, 4, .inl (fun _ => 0))), (q5, .inr (7, [.ref (u6 0), .int 0])), (u6 0, .inl (zA θ 0, 4, .inl (fun _ => 0))), (q7, .inr (7, [.ref (u8 0), .int 0])), (u8 0, .inl (zA θ 0, 4, .inl (fun _ => 0)))]) (pc' := 61) (cells' := 9) (slots' := 34) rfl rfl rfl rfl ?_
  refine k_iinc (v := 3) (lv' := [(3, .int 3), (0, .ref h0), (1, .ref a1), (2, .ref a2)]) 0 d_Search_init_61 rfl (by decide) (by decide) rfl ?_
  refine k_goto (tgt := 39) d_Search_init_64 (by decide) ?_
  refine k_iload_n 0 d_Search_init_39 rfl rfl ?_
  refine k_aload_n 1 d_Search_init_40 rfl rfl ?_
  refine k_get (C := R_Search) (T := F_Search) (N := 7) (ci := 9) (k := 2) d_Search_init_41 rfl i_Search rfl (by decide) kq_246 rfl ?_
  refine k_alen (q0 := 1) (t0 := 4) (v := 6) d_Search_init_44 rfl rfl rfl ?_
  refine k_ge_f (tgt := 67) (by decide) d_Search_init_45 (by decide) ?_
  refine k_aload_n 1 d_Search_init_48 rfl rfl ?_
  refine k_get (C := R_Search) (T := F_Search) (N := 7) (ci := 9) (k := 2) d_Search_init_49 rfl i_Search rfl (by decide) kq_246 rfl ?_
  refine k_iload_n 0 d_Search_init_52 rfl rfl ?_
  refine k_new (ci := 7) (fs := [.null, .int 0]) (C := R_Oven) (T := F_Oven) (N := 2) d_Search_init_53 i_Oven t_Oven_ok kq_241 kq_38 kq_3 rfl (fun j hj => by rcases (show j = 0 ∨ j = 1 by omega) with rfl | rfl <;> rfl) (Nat.le_of_ble_eq_true rfl) (Nat.le_of_ble_eq_true rfl) (fun q9 => ?_)
  refine k_dup d_Search_init_56 rfl ?_
  refine k_ctor (As := []) (fun sz => c_Oven_init l θ sz q9) cf_Oven_init kq_40 rfl (Or.inr (fun _ h => h.1.2.2.2.2.2.1)) d_Search_init_57 rfl rfl (Nat.le_of_ble_eq_true rfl) rfl rfl ⟨Nat.le_of_ble_eq_true rfl, Nat.le_of_ble_eq_true rfl⟩ (Nat.le_of_ble_eq_true rfl) (Nat.le_of_ble_eq_true rfl) (fun u10 => ?_)
  refine k_w (ws' := [(h0, .inr (9, [.ref a1, .ref a2, .ref q0, .ref q1, .ref q2, .int 0, .int 0])), (q0, .inl (zA θ 4, 6, .inr (.inr (.inr (.inr (kfm [some (q3), some (q5), some (q7), none, none, none])))))), (q1, .inl (zA θ 0, 5, .inl (fun _ => 0))), (q2, .inl (zA θ 0, 5, .inl (fun _ => 0))), (q3, .inr (7, [.ref (u4 0), .int 0])), (u4 0, .inl (zA θ 0, 4, .inl (fun _ => 0))), (q5, .inr (7, [.ref (u6 0), .int 0])), (u6 0, .inl (zA θ 0, 4, .inl (fun _ => 0))), (q7, .inr (7, [.ref (u8 0), .int 0])), (u8 0, .inl (zA θ 0, 4, .inl (fun _ => 0))), (q9, .inr (7, [.ref (u10 0), .int 0])), (u10 0, .inl (zA θ 0, 4, .inl (fun _ => 0)))]) (pc' := 60) (cells' := 11) (slots' := 40) rfl rfl rfl rfl ?_
  refine k_astr (q0 := 1) (qk := 10) (t0 := 4) (ci := 7) d_Search_init_60 rfl rfl rfl rfl (by decide +kernel) (Nat.le_of_ble_eq_true rfl) ?_
  refine k_w (ws' := [(h0, .inr (9, [.ref a1, .ref a2, .ref q0, .ref q1, .ref q2, .int 0, .int 0])), (q0, .inl (zA θ 4, 6, .inr (.inr (.inr (.inr (kfm [some (q3), some (q5), some (q7), some (q9), none, none])))))), (q1, .inl (zA θ 0, 5, .inl (fun _ => 0))), (q2, .inl (zA θ 0, 5, .inl (fun _ => 0))), (q3, .inr (7, [.ref (u4 0), .int 0])), (u4 0, .inl (zA θ 0, 4, .inl (fun _ => 0))), (q5, .inr (7, [.ref (u6 0), .int 0])), (u6 0, .inl (zA θ 0, 4, .inl (fun _ => 0))), (q7, .inr (7, [.ref (u8 0), .int 0])), (u8 0, .inl (zA θ 0, 4, .inl (fun _ => 0))), (q9, .inr (7, [.ref (u10 0), .int 0])), (u10 0, .inl (zA θ 0, 4, .inl (fun _ => 0)))]) (pc' := 61) (cells' := 11) (slots' := 40) rfl rfl rfl rfl ?_
  refine k_iinc (v := 4) (lv' := [(3, .int 4), (0, .ref h0), (1, .ref a1), (2, .ref a2)]) 0 d_Search_init_61 rfl (by decide) (by decide) rfl ?_
  refine k_goto (tgt := 39) d_Search_init_64 (by decide) ?_
  refine k_iload_n 0 d_Search_init_39 rfl rfl ?_
  refine k_aload_n 1 d_Search_init_40 rfl rfl ?_
  refine k_get (C := R_Search) (T := F_Search) (N := 7) (ci := 9) (k := 2) d_Search_init_41 rfl i_Search rfl (by decide) kq_246 rfl ?_
  refine k_alen (q0 := 1) (t0 := 4) (v := 6) d_Search_init_44 rfl rfl rfl ?_
  refine k_ge_f (tgt := 67) (by decide) d_Search_init_45 (by decide) ?_
  refine k_aload_n 1 d_Search_init_48 rfl rfl ?_
  refine k_get (C := R_Search) (T := F_Search) (N := 7) (ci := 9) (k := 2) d_Search_init_49 rfl i_Search rfl (by decide) kq_246 rfl ?_
  refine k_iload_n 0 d_Search_init_52 rfl rfl ?_
  refine k_new (ci := 7) (fs := [.null, .int 0]) (C := R_Oven) (T := F_Oven) (N := 2) d_Search_init_53 i_Oven t_Oven_ok kq_241 kq_38 kq_3 rfl (fun j hj => by rcases (show j = 0 ∨ j = 1 by omega) with rfl | rfl <;> rfl) (Nat.le_of_ble_eq_true rfl) (Nat.le_of_ble_eq_true rfl) (fun q11 => ?_)
  refine k_dup d_Search_init_56 rfl ?_
  refine k_ctor (As := []) (fun sz => c_Oven_init l θ sz q11) cf_Oven_init kq_40 rfl (Or.inr (fun _ h => h.1.2.2.2.2.2.1)) d_Search_init_57 rfl rfl (Nat.le_of_ble_eq_true rfl) rfl rfl ⟨Nat.le_of_ble_eq_true rfl, Nat.le_of_ble_eq_true rfl⟩ (Nat.le_of_ble_eq_true rfl) (Nat.le_of_ble_eq_true rfl) (fun u12 => ?_)
  refine k_w (ws' := [(h0, .inr (9, [.ref a1, .ref a2, .ref q0, .ref q1, .ref q2, .int 0, .int 0])), (q0, .inl (zA θ 4, 6, .inr (.inr (.inr (.inr (kfm [some (q3), some (q5), some (q7), some (q9), none, none])))))), (q1, .inl (zA θ 0, 5, .inl (fun _ => 0))), (q2, .inl (zA θ 0, 5, .inl (fun _ => 0))), (q3, .inr (7, [.ref (u4 0), .int 0])), (u4 0, .inl (zA θ 0, 4, .inl (fun _ => 0))), (q5, .inr (7, [.ref (u6 0), .int 0])), (u6 0, .inl (zA θ 0, 4, .inl (fun _ => 0))), (q7, .inr (7, [.ref (u8 0), .int 0])), (u8 0, .inl (zA θ 0, 4, .inl (fun _ => 0))), (q9, .inr (7, [.ref (u10 0), .int 0])), (u10 0, .inl (zA θ 0, 4, .inl (fun _ => 0))), (q11, .inr (7, [.ref (u12 0), .int 0])), (u12 0, .inl (zA θ 0, 4, .inl (fun _ => 0)))]) (pc' := 60) (cells' := 13) (slots' := 46) rfl rfl rfl rfl ?_
  refine k_astr (q0 := 1) (qk := 12) (t0 := 4) (ci := 7) d_Search_init_60 rfl rfl rfl rfl (by decide +kernel) (Nat.le_of_ble_eq_true rfl) ?_
  refine k_w (ws' := [(h0, .inr (9, [.ref a1, .ref a2, .ref q0, .ref q1, .ref q2, .int 0, .int 0])), (q0, .inl (zA θ 4, 6, .inr (.inr (.inr (.inr (kfm [some (q3), some (q5), some (q7), some (q9), some (q11), none])))))), (q1, .inl (zA θ 0, 5, .inl (fun _ => 0))), (q2, .inl (zA θ 0, 5, .inl (fun _ => 0))), (q3, .inr (7, [.ref (u4 0), .int 0])), (u4 0, .inl (zA θ 0, 4, .inl (fun _ => 0))), (q5, .inr (7, [.ref (u6 0), .int 0])), (u6 0, .inl (zA θ 0, 4, .inl (fun _ => 0))), (q7, .inr (7, [.ref (u8 0), .int 0])), (u8 0, .inl (zA θ 0, 4, .inl (fun _ => 0))), (q9, .inr (7, [.ref (u10 0), .int 0])), (u10 0, .inl (zA θ 0, 4, .inl (fun _ => 0))), (q11, .inr (7, [.ref (u12 0), .int 0])), (u12 0, .inl (zA θ 0, 4, .inl (fun _ => 0)))]) (pc' := 61) (cells' := 13) (slots' := 46) rfl rfl rfl rfl ?_
  refine k_iinc (v := 5) (lv' := [(3, .int 5), (0, .ref h0), (1, .ref a1), (2, .ref a2)]) 0 d_Search_init_61 rfl (by decide) (by decide) rfl ?_
  refine k_goto (tgt := 39) d_Search_init_64 (by decide) ?_
  refine k_iload_n 0 d_Search_init_39 rfl rfl ?_
  refine k_aload_n 1 d_Search_init_40 rfl rfl ?_
  refine k_get (C := R_Search) (T := F_Search) (N := 7) (ci := 9) (k := 2) d_Search_init_41 rfl i_Search rfl (by decide) kq_246 rfl ?_
  refine k_alen (q0 := 1) (t0 := 4) (v := 6) d_Search_init_44 rfl rfl rfl ?_
  refine k_ge_f (tgt := 67) (by decide) d_Search_init_45 (by decide) ?_
  refine k_aload_n 1 d_Search_init_48 rfl rfl ?_
  refine k_get (C := R_Search) (T := F_Search) (N := 7) (ci := 9) (k := 2) d_Search_init_49 rfl i_Search rfl (by decide) kq_246 rfl ?_
  refine k_iload_n 0 d_Search_init_52 rfl rfl ?_
  refine k_new (ci := 7) (fs := [.null, .int 0]) (C := R_Oven) (T := F_Oven) (N := 2) d_Search_init_53 i_Oven t_Oven_ok kq_241 kq_38 kq_3 rfl (fun j hj => by rcases (show j = 0 ∨ j = 1 by omega) with rfl | rfl <;> rfl) (Nat.le_of_ble_eq_true rfl) (Nat.le_of_ble_eq_true rfl) (fun q13 => ?_)
  refine k_dup d_Search_init_56 rfl ?_
  refine k_ctor (As := []) (fun sz => c_Oven_init l θ sz q13) cf_Oven_init kq_40 rfl (Or.inr (fun _ h => h.1.2.2.2.2.2.1)) d_Search_init_57 rfl rfl (Nat.le_of_ble_eq_true rfl) rfl rfl ⟨Nat.le_of_ble_eq_true rfl, Nat.le_of_ble_eq_true rfl⟩ (Nat.le_of_ble_eq_true rfl) (Nat.le_of_ble_eq_true rfl) (fun u14 => ?_)
  refine k_w (ws' := [(h0, .inr (9, [.ref a1, .ref a2, .ref q0, .ref q1, .ref q2, .int 0, .int 0])), (q0, .inl (zA θ 4, 6, .inr (.inr (.inr (.inr (kfm [some (q3), some (q5), some (q7), some (q9), some (q11), none])))))), (q1, .inl (zA θ 0, 5, .inl (fun _ => 0))), (q2, .inl (zA θ 0, 5, .inl (fun _ => 0))), (q3, .inr (7, [.ref (u4 0), .int 0])), (u4 0, .inl (zA θ 0, 4, .inl (fun _ => 0))), (q5, .inr (7, [.ref (u6 0), .int 0])), (u6 0, .inl (zA θ 0, 4, .inl (fun _ => 0))), (q7, .inr (7, [.ref (u8 0), .int 0])), (u8 0, .inl (zA θ 0, 4, .inl (fun _ => 0))), (q9, .inr (7, [.ref (u10 0), .int 0])), (u10 0, .inl (zA θ 0, 4, .inl (fun _ => 0))), (q11, .inr (7, [.ref (u12 0), .int 0])), (u12 0, .inl (zA θ 0, 4, .inl (fun _ => 0))), (q13, .inr (7, [.ref (u14 0), .int 0])), (u14 0, .inl (zA θ 0, 4, .inl (fun _ => 0)))]) (pc' := 60) (cells' := 15) (slots' := 52) rfl rfl rfl rfl ?_
  refine k_astr (q0 := 1) (qk := 14) (t0 := 4) (ci := 7) d_Search_init_60 rfl rfl rfl rfl (by decide +kernel) (Nat.le_of_ble_eq_true rfl) ?_
  refine k_w (ws' := [(h0, .inr (9, [.ref a1, .ref a2, .ref q0, .ref q1, .ref q2, .int 0, .int 0])), (q0, .inl (zA θ 4, 6, .inr (.inr (.inr (.inr (kfm [some (q3), some (q5), some (q7), some (q9), some (q11), some (q13)])))))), (q1, .inl (zA θ 0, 5, .inl (fun _ => 0))), (q2, .inl (zA θ 0, 5, .inl (fun _ => 0))), (q3, .inr (7, [.ref (u4 0), .int 0])), (u4 0, .inl (zA θ 0, 4, .inl (fun _ => 0))), (q5, .inr (7, [.ref (u6 0), .int 0])), (u6 0, .inl (zA θ 0, 4, .inl (fun _ => 0))), (q7, .inr (7, [.ref (u8 0), .int 0])), (u8 0, .inl (zA θ 0, 4, .inl (fun _ => 0))), (q9, .inr (7, [.ref (u10 0), .int 0])), (u10 0, .inl (zA θ 0, 4, .inl (fun _ => 0))), (q11, .inr (7, [.ref (u12 0), .int 0])), (u12 0, .inl (zA θ 0, 4, .inl (fun _ => 0))), (q13, .inr (7, [.ref (u14 0), .int 0])), (u14 0, .inl (zA θ 0, 4, .inl (fun _ => 0)))]) (pc' := 61) (cells' := 15) (slots' := 52) rfl rfl rfl rfl ?_
  refine k_iinc (v := 6) (lv' := [(3, .int 6), (0, .ref h0), (1, .ref a1), (2, .ref a2)]) 0 d_Search_init_61 rfl (by decide) (by decide) rfl ?_
  refine k_goto (tgt := 39) d_Search_init_64 (by decide) ?_
  refine k_iload_n 0 d_Search_init_39 rfl rfl ?_
  refine k_aload_n 1 d_Search_init_40 rfl rfl ?_
  refine k_get (C := R_Search) (T := F_Search) (N := 7) (ci := 9) (k := 2) d_Search_init_41 rfl i_Search rfl (by decide) kq_246 rfl ?_
  refine k_alen (q0 := 1) (t0 := 4) (v := 6) d_Search_init_44 rfl rfl rfl ?_
  refine k_ge_t (tgt := 67) (by decide) d_Search_init_45 (by decide) ?_
  exact k_ret d_Search_init_67 (fun k => [q0, q1, q2, q3, u4 0, q5, u6 0, q7, u8 0, q9, u10 0, q11, u12 0, q13, u14 0].getD k 0) rfl
