/-! CONSTRUCTORS: the walks (printed by program out of the listing of the class files) -/
theorem kq_42 : (Jvm.Cond.methodLink "BakedBefore$Oven" (3 : Nat) ({ cls := "java/lang/Object", name := "<init>", desc := "()V" } : Jvm.MethodName)) ∈ zW0 := q_in (List.mem_of_getElem? (i := 42) (by decide +kernel)) (by decide +kernel)
theorem kq_27 : (Jvm.Cond.instanceMethod ({ cls := "java/lang/Object", name := "<init>", desc := "()V" } : Jvm.MethodName)) ∈ zW0 := q_in (List.mem_of_getElem? (i := 27) (by decide +kernel)) (by decide +kernel)
theorem kq_28 : (Jvm.Cond.code ({ cls := "java/lang/Object", name := "<init>", desc := "()V" } : Jvm.MethodName) object_method_1_code (1 : Nat) (Option.none : Option Jvm.ClassFile.FieldType)) ∈ zW0 := q_in (List.mem_of_getElem? (i := 28) (by decide +kernel)) (by decide +kernel)
theorem kq_57 : (Jvm.Cond.arrayClass Jvm.ClassFile.FieldType.int) ∈ zW0 := q_in (List.mem_of_getElem? (i := 57) (by decide +kernel)) (by decide +kernel)
theorem kq_43 : (Jvm.Cond.fieldLink "BakedBefore$Oven" (9 : Nat) "BakedBefore$Oven" "held" "[I") ∈ zW0 := q_in (List.mem_of_getElem? (i := 43) (by decide +kernel)) (by decide +kernel)
theorem kq_41 : (Jvm.Cond.code ({ cls := "BakedBefore$Oven", name := "<init>", desc := "()V" } : Jvm.MethodName) prog_8_method_1_code (1 : Nat) (Option.none : Option Jvm.ClassFile.FieldType)) ∈ zW0 := q_in (List.mem_of_getElem? (i := 41) (by decide +kernel)) (by decide +kernel)
theorem kq_3 : (Jvm.Cond.initialized "BakedBefore$Oven") ∈ zW0 := q_in (List.mem_of_getElem? (i := 3) (by decide +kernel)) (by decide +kernel)
theorem kq_63 : (Jvm.Cond.methodLink "BakedBefore$Book" (3 : Nat) ({ cls := "java/lang/Object", name := "<init>", desc := "()V" } : Jvm.MethodName)) ∈ zW0 := q_in (List.mem_of_getElem? (i := 63) (by decide +kernel)) (by decide +kernel)
theorem kq_64 : (Jvm.Cond.fieldLink "BakedBefore$Book" (11 : Nat) "BakedBefore$Book" "loaves" "[I") ∈ zW0 := q_in (List.mem_of_getElem? (i := 64) (by decide +kernel)) (by decide +kernel)
theorem kq_78 : (Jvm.Cond.arrayClass Jvm.ClassFile.FieldType.boolean) ∈ zW0 := q_in (List.mem_of_getElem? (i := 78) (by decide +kernel)) (by decide +kernel)
theorem kq_66 : (Jvm.Cond.fieldLink "BakedBefore$Book" (15 : Nat) "BakedBefore$Book" "spoiled" "[Z") ∈ zW0 := q_in (List.mem_of_getElem? (i := 66) (by decide +kernel)) (by decide +kernel)
theorem kq_62 : (Jvm.Cond.code ({ cls := "BakedBefore$Book", name := "<init>", desc := "()V" } : Jvm.MethodName) prog_5_method_1_code (1 : Nat) (Option.none : Option Jvm.ClassFile.FieldType)) ∈ zW0 := q_in (List.mem_of_getElem? (i := 62) (by decide +kernel)) (by decide +kernel)
theorem kq_4 : (Jvm.Cond.initialized "BakedBefore$Book") ∈ zW0 := q_in (List.mem_of_getElem? (i := 4) (by decide +kernel)) (by decide +kernel)
theorem kq_83 : (Jvm.Cond.methodLink "BakedBefore$Loaf" (3 : Nat) ({ cls := "java/lang/Object", name := "<init>", desc := "()V" } : Jvm.MethodName)) ∈ zW0 := q_in (List.mem_of_getElem? (i := 83) (by decide +kernel)) (by decide +kernel)
theorem kq_87 : (Jvm.Cond.fieldLink "BakedBefore$Loaf" (9 : Nat) "BakedBefore$Loaf" "gives" "[I") ∈ zW0 := q_in (List.mem_of_getElem? (i := 87) (by decide +kernel)) (by decide +kernel)
theorem kq_90 : (Jvm.Cond.fieldLink "BakedBefore$Loaf" (15 : Nat) "BakedBefore$Loaf" "bears" "[I") ∈ zW0 := q_in (List.mem_of_getElem? (i := 90) (by decide +kernel)) (by decide +kernel)
theorem kq_84 : (Jvm.Cond.fieldLink "BakedBefore$Loaf" (18 : Nat) "BakedBefore$Loaf" "numbe\x72" "I") ∈ zW0 := q_in (List.mem_of_getElem? (i := 84) (by decide +kernel)) (by decide +kernel)
theorem kq_82 : (Jvm.Cond.code ({ cls := "BakedBefore$Loaf", name := "<init>", desc := "(I)V" } : Jvm.MethodName) prog_7_method_1_code (2 : Nat) (Option.none : Option Jvm.ClassFile.FieldType)) ∈ zW0 := q_in (List.mem_of_getElem? (i := 82) (by decide +kernel)) (by decide +kernel)
theorem kq_5 : (Jvm.Cond.initialized "BakedBefore$Loaf") ∈ zW0 := q_in (List.mem_of_getElem? (i := 5) (by decide +kernel)) (by decide +kernel)
theorem kq_171 : (Jvm.Cond.methodLink "BakedBefore$Kiln" (3 : Nat) ({ cls := "java/lang/Object", name := "<init>", desc := "()V" } : Jvm.MethodName)) ∈ zW0 := q_in (List.mem_of_getElem? (i := 171) (by decide +kernel)) (by decide +kernel)
theorem kq_172 : (Jvm.Cond.fieldLink "BakedBefore$Kiln" (11 : Nat) "BakedBefore$Kiln" "words" "[I") ∈ zW0 := q_in (List.mem_of_getElem? (i := 172) (by decide +kernel)) (by decide +kernel)
theorem kq_173 : (Jvm.Cond.fieldLink "BakedBefore$Kiln" (15 : Nat) "BakedBefore$Kiln" "numbers" "[I") ∈ zW0 := q_in (List.mem_of_getElem? (i := 173) (by decide +kernel)) (by decide +kernel)
theorem kq_174 : (Jvm.Cond.fieldLink "BakedBefore$Kiln" (18 : Nat) "BakedBefore$Kiln" "ends" "[I") ∈ zW0 := q_in (List.mem_of_getElem? (i := 174) (by decide +kernel)) (by decide +kernel)
theorem kq_175 : (Jvm.Cond.fieldLink "BakedBefore$Kiln" (23 : Nat) "BakedBefore$Kiln" "steps" "[I") ∈ zW0 := q_in (List.mem_of_getElem? (i := 175) (by decide +kernel)) (by decide +kernel)
theorem kq_176 : (Jvm.Cond.fieldLink "BakedBefore$Kiln" (26 : Nat) "BakedBefore$Kiln" "letters" "[I") ∈ zW0 := q_in (List.mem_of_getElem? (i := 176) (by decide +kernel)) (by decide +kernel)
theorem kq_181 : (Jvm.Cond.fieldLink "BakedBefore$Kiln" (29 : Nat) "BakedBefore$Kiln" "coldPart" "I") ∈ zW0 := q_in (List.mem_of_getElem? (i := 181) (by decide +kernel)) (by decide +kernel)
theorem kq_170 : (Jvm.Cond.code ({ cls := "BakedBefore$Kiln", name := "<init>", desc := "()V" } : Jvm.MethodName) prog_6_method_1_code (1 : Nat) (Option.none : Option Jvm.ClassFile.FieldType)) ∈ zW0 := q_in (List.mem_of_getElem? (i := 170) (by decide +kernel)) (by decide +kernel)
theorem kq_7 : (Jvm.Cond.initialized "BakedBefore$Kiln") ∈ zW0 := q_in (List.mem_of_getElem? (i := 7) (by decide +kernel)) (by decide +kernel)
theorem kq_147 : (Jvm.Cond.methodLink "BakedBefore$Reade\x72" (3 : Nat) ({ cls := "java/lang/Object", name := "<init>", desc := "()V" } : Jvm.MethodName)) ∈ zW0 := q_in (List.mem_of_getElem? (i := 147) (by decide +kernel)) (by decide +kernel)
theorem kq_148 : (Jvm.Cond.fieldLink "BakedBefore$Reade\x72" (11 : Nat) "BakedBefore$Reade\x72" "text" "[I") ∈ zW0 := q_in (List.mem_of_getElem? (i := 148) (by decide +kernel)) (by decide +kernel)
theorem kq_146 : (Jvm.Cond.code ({ cls := "BakedBefore$Reade\x72", name := "<init>", desc := "()V" } : Jvm.MethodName) prog_9_method_1_code (1 : Nat) (Option.none : Option Jvm.ClassFile.FieldType)) ∈ zW0 := q_in (List.mem_of_getElem? (i := 146) (by decide +kernel)) (by decide +kernel)
theorem kq_6 : (Jvm.Cond.initialized "BakedBefore$Reade\x72") ∈ zW0 := q_in (List.mem_of_getElem? (i := 6) (by decide +kernel)) (by decide +kernel)
theorem kq_274 : (Jvm.Cond.methodLink "BakedBefore$Acts" (3 : Nat) ({ cls := "java/lang/Object", name := "<init>", desc := "()V" } : Jvm.MethodName)) ∈ zW0 := q_in (List.mem_of_getElem? (i := 274) (by decide +kernel)) (by decide +kernel)
theorem kq_275 : (Jvm.Cond.fieldLink "BakedBefore$Acts" (11 : Nat) "BakedBefore$Acts" "bodies" "[I") ∈ zW0 := q_in (List.mem_of_getElem? (i := 275) (by decide +kernel)) (by decide +kernel)
theorem kq_273 : (Jvm.Cond.code ({ cls := "BakedBefore$Acts", name := "<init>", desc := "()V" } : Jvm.MethodName) prog_2_method_1_code (1 : Nat) (Option.none : Option Jvm.ClassFile.FieldType)) ∈ zW0 := q_in (List.mem_of_getElem? (i := 273) (by decide +kernel)) (by decide +kernel)
theorem kq_11 : (Jvm.Cond.initialized "BakedBefore$Acts") ∈ zW0 := q_in (List.mem_of_getElem? (i := 11) (by decide +kernel)) (by decide +kernel)
theorem kq_208 : (Jvm.Cond.methodLink "BakedBefore$Bake\x72" (3 : Nat) ({ cls := "java/lang/Object", name := "<init>", desc := "()V" } : Jvm.MethodName)) ∈ zW0 := q_in (List.mem_of_getElem? (i := 208) (by decide +kernel)) (by decide +kernel)
theorem kq_209 : (Jvm.Cond.fieldLink "BakedBefore$Bake\x72" (9 : Nat) "BakedBefore$Bake\x72" "kiln" "LBakedBefore$Kiln;") ∈ zW0 := q_in (List.mem_of_getElem? (i := 209) (by decide +kernel)) (by decide +kernel)
theorem kq_207 : (Jvm.Cond.code ({ cls := "BakedBefore$Bake\x72", name := "<init>", desc := "(LBakedBefore$Kiln;)V" } : Jvm.MethodName) prog_4_method_1_code (2 : Nat) (Option.none : Option Jvm.ClassFile.FieldType)) ∈ zW0 := q_in (List.mem_of_getElem? (i := 207) (by decide +kernel)) (by decide +kernel)
theorem kq_8 : (Jvm.Cond.initialized "BakedBefore$Bake\x72") ∈ zW0 := q_in (List.mem_of_getElem? (i := 8) (by decide +kernel)) (by decide +kernel)
abbrev b_Oven_init : ByteArray := prog_8_method_1_code
def y_Oven_init : MethodName := ⟨"BakedBefore$Oven", "<init>", "()V"⟩
theorem cf_Oven_init : zcf y_Oven_init b_Oven_init 1 none 0 := ⟨kq_41, kq_3, by decide, by decide, by decide +kernel⟩
theorem d_Oven_init_0 : decode b_Oven_init 0 = .ok (.aload_n 0, 1) := by decide +kernel
theorem d_Oven_init_1 : decode b_Oven_init 1 = .ok (.invokespecial 3, 3) := by decide +kernel
theorem d_Oven_init_4 : decode b_Oven_init 4 = .ok (.aload_n 0, 1) := by decide +kernel
theorem d_Oven_init_5 : decode b_Oven_init 5 = .ok (.iconst (4), 1) := by decide +kernel
theorem d_Oven_init_6 : decode b_Oven_init 6 = .ok (.newarray .int, 2) := by decide +kernel
theorem d_Oven_init_8 : decode b_Oven_init 8 = .ok (.putfield 9, 3) := by decide +kernel
theorem d_Oven_init_11 : decode b_Oven_init 11 = .ok (.return_, 1) := by decide +kernel
def kw_Oven (θ : ZT) (h0 : Nat) (u : Nat → Nat) : va_W := [(h0, .inr (7, [.ref (u 0), .int 0])), (u 0, .inl (zA θ 0, 4, .inl (fun _ => 0)))]
set_option maxHeartbeats 4000000 in
set_option maxRecDepth 100000 in
theorem c_Oven_init (l : Launch) (θ : ZT) (sz h0 : Nat) : kMet l θ y_Oven_init b_Oven_init 1 { frames := 1, cells := 1, slots := 4, locals := 40 } [] sz h0 (.inr (7, [.null, .int 0])) 1 4 (kw_Oven θ h0) := by
  refine k_met (lv := [(0, .ref h0)]) (by decide +kernel) rfl rfl (Nat.le_of_ble_eq_true rfl) ?_
  refine k_aload_n 0 d_Oven_init_0 rfl rfl ?_
  refine k_objInit d_Oven_init_1 kq_42 kq_27 kq_28 (Nat.le_of_ble_eq_true rfl) (Nat.le_of_ble_eq_true rfl) ?_
  refine k_aload_n 0 d_Oven_init_4 rfl rfl ?_
  refine k_iconst (v := 4) d_Oven_init_5 (by decide) ?_
  refine k_newa (atype := .int) (ty := .int) (t0 := 0) (N' := 4) (a0 := (4, .inl (fun _ => 0))) d_Oven_init_6 rfl kq_57 ⟨0, rfl, rfl⟩ (fun _ _ h => h) (fun _ => rfl) (by decide) (by decide) (Nat.le_of_ble_eq_true rfl) (Nat.le_of_ble_eq_true rfl) (Nat.le_of_ble_eq_true rfl) (fun q0 => ?_)
  refine k_putF (C := R_Oven) (T := F_Oven) (N := 2) (ci := 7) (k := 0) (ty := (.array .int)) (fs' := [.ref q0, .int 0]) d_Oven_init_8 rfl i_Oven t_Oven_ok n_Oven rfl (by decide) kq_43 rfl (by decide +kernel) rfl rfl (Nat.le_of_ble_eq_true rfl) rfl ?_
  exact k_ret d_Oven_init_11 (fun k => [q0].getD k 0) rfl
abbrev b_Book_init : ByteArray := prog_5_method_1_code
def y_Book_init : MethodName := ⟨"BakedBefore$Book", "<init>", "()V"⟩
theorem cf_Book_init : zcf y_Book_init b_Book_init 1 none 0 := ⟨kq_62, kq_4, by decide, by decide, by decide +kernel⟩
theorem d_Book_init_0 : decode b_Book_init 0 = .ok (.aload_n 0, 1) := by decide +kernel
theorem d_Book_init_1 : decode b_Book_init 1 = .ok (.invokespecial 3, 3) := by decide +kernel
theorem d_Book_init_4 : decode b_Book_init 4 = .ok (.aload_n 0, 1) := by decide +kernel
theorem d_Book_init_5 : decode b_Book_init 5 = .ok (.bipush (12), 2) := by decide +kernel
theorem d_Book_init_7 : decode b_Book_init 7 = .ok (.newarray .int, 2) := by decide +kernel
theorem d_Book_init_9 : decode b_Book_init 9 = .ok (.putfield 11, 3) := by decide +kernel
theorem d_Book_init_12 : decode b_Book_init 12 = .ok (.aload_n 0, 1) := by decide +kernel
theorem d_Book_init_13 : decode b_Book_init 13 = .ok (.bipush (12), 2) := by decide +kernel
theorem d_Book_init_15 : decode b_Book_init 15 = .ok (.newarray .boolean, 2) := by decide +kernel
theorem d_Book_init_17 : decode b_Book_init 17 = .ok (.putfield 15, 3) := by decide +kernel
theorem d_Book_init_20 : decode b_Book_init 20 = .ok (.return_, 1) := by decide +kernel
def kw_Book (θ : ZT) (h0 : Nat) (u : Nat → Nat) : va_W := [(h0, .inr (4, [.ref (u 0), .ref (u 1), .int 0])), (u 0, .inl (zA θ 0, 12, .inl (fun _ => 0))), (u 1, .inl (zA θ 1, 12, .inl (fun _ => 0)))]
set_option maxHeartbeats 4000000 in
set_option maxRecDepth 100000 in
theorem c_Book_init (l : Launch) (θ : ZT) (sz h0 : Nat) : kMet l θ y_Book_init b_Book_init 1 { frames := 1, cells := 2, slots := 24, locals := 40 } [] sz h0 (.inr (4, [.null, .null, .int 0])) 2 24 (kw_Book θ h0) := by
  refine k_met (lv := [(0, .ref h0)]) (by decide +kernel) rfl rfl (Nat.le_of_ble_eq_true rfl) ?_
  refine k_aload_n 0 d_Book_init_0 rfl rfl ?_
  refine k_objInit d_Book_init_1 kq_63 kq_27 kq_28 (Nat.le_of_ble_eq_true rfl) (Nat.le_of_ble_eq_true rfl) ?_
  refine k_aload_n 0 d_Book_init_4 rfl rfl ?_
  refine k_bipush (v := 12) d_Book_init_5 (by decide) ?_
  refine k_newa (atype := .int) (ty := .int) (t0 := 0) (N' := 12) (a0 := (12, .inl (fun _ => 0))) d_Book_init_7 rfl kq_57 ⟨0, rfl, rfl⟩ (fun _ _ h => h) (fun _ => rfl) (by decide) (by decide) (Nat.le_of_ble_eq_true rfl) (Nat.le_of_ble_eq_true rfl) (Nat.le_of_ble_eq_true rfl) (fun q0 => ?_)
  refine k_putF (C := R_Book) (T := F_Book) (N := 3) (ci := 4) (k := 0) (ty := (.array .int)) (fs' := [.ref q0, .null, .int 0]) d_Book_init_9 rfl i_Book t_Book_ok n_Book rfl (by decide) kq_64 rfl (by decide +kernel) rfl rfl (Nat.le_of_ble_eq_true rfl) rfl ?_
  refine k_aload_n 0 d_Book_init_12 rfl rfl ?_
  refine k_bipush (v := 12) d_Book_init_13 (by decide) ?_
  refine k_newa (atype := .boolean) (ty := .boolean) (t0 := 1) (N' := 12) (a0 := (12, .inl (fun _ => 0))) d_Book_init_15 rfl kq_78 ⟨1, rfl, rfl⟩ (fun _ _ h => h) (fun _ => rfl) (by decide) (by decide) (Nat.le_of_ble_eq_true rfl) (Nat.le_of_ble_eq_true rfl) (Nat.le_of_ble_eq_true rfl) (fun q1 => ?_)
  refine k_putF (C := R_Book) (T := F_Book) (N := 3) (ci := 4) (k := 1) (ty := (.array .boolean)) (fs' := [.ref q0, .ref q1, .int 0]) d_Book_init_17 rfl i_Book t_Book_ok n_Book rfl (by decide) kq_66 rfl (by decide +kernel) rfl rfl (Nat.le_of_ble_eq_true rfl) rfl ?_
  exact k_ret d_Book_init_20 (fun k => [q0, q1].getD k 0) rfl
abbrev b_Loaf_init : ByteArray := prog_7_method_1_code
def y_Loaf_init : MethodName := ⟨"BakedBefore$Loaf", "<init>", "(I)V"⟩
theorem cf_Loaf_init : zcf y_Loaf_init b_Loaf_init 2 none 1 := ⟨kq_82, kq_5, by decide, by decide, by decide +kernel⟩
theorem d_Loaf_init_0 : decode b_Loaf_init 0 = .ok (.aload_n 0, 1) := by decide +kernel
theorem d_Loaf_init_1 : decode b_Loaf_init 1 = .ok (.invokespecial 3, 3) := by decide +kernel
theorem d_Loaf_init_4 : decode b_Loaf_init 4 = .ok (.aload_n 0, 1) := by decide +kernel
theorem d_Loaf_init_5 : decode b_Loaf_init 5 = .ok (.iconst (4), 1) := by decide +kernel
theorem d_Loaf_init_6 : decode b_Loaf_init 6 = .ok (.newarray .int, 2) := by decide +kernel
theorem d_Loaf_init_8 : decode b_Loaf_init 8 = .ok (.putfield 9, 3) := by decide +kernel
theorem d_Loaf_init_11 : decode b_Loaf_init 11 = .ok (.aload_n 0, 1) := by decide +kernel
theorem d_Loaf_init_12 : decode b_Loaf_init 12 = .ok (.iconst (4), 1) := by decide +kernel
theorem d_Loaf_init_13 : decode b_Loaf_init 13 = .ok (.newarray .int, 2) := by decide +kernel
theorem d_Loaf_init_15 : decode b_Loaf_init 15 = .ok (.putfield 15, 3) := by decide +kernel
theorem d_Loaf_init_18 : decode b_Loaf_init 18 = .ok (.aload_n 0, 1) := by decide +kernel
theorem d_Loaf_init_19 : decode b_Loaf_init 19 = .ok (.iload_n 1, 1) := by decide +kernel
theorem d_Loaf_init_20 : decode b_Loaf_init 20 = .ok (.putfield 18, 3) := by decide +kernel
theorem d_Loaf_init_23 : decode b_Loaf_init 23 = .ok (.return_, 1) := by decide +kernel
def kw_Loaf (θ : ZT) (h0 : Nat) (x1 : Int32) (u : Nat → Nat) : va_W := [(h0, .inr (6, [.int x1, .ref (u 0), .ref (u 1), .int 0, .int 0])), (u 0, .inl (zA θ 0, 4, .inl (fun _ => 0))), (u 1, .inl (zA θ 0, 4, .inl (fun _ => 0)))]
set_option maxHeartbeats 4000000 in
set_option maxRecDepth 100000 in
theorem c_Loaf_init (l : Launch) (θ : ZT) (sz h0 : Nat) (x1 : Int32) : kMet l θ y_Loaf_init b_Loaf_init 2 { frames := 1, cells := 2, slots := 8, locals := 40 } [.int x1] sz h0 (.inr (6, [.int 0, .null, .null, .int 0, .int 0])) 2 8 (kw_Loaf θ h0 x1) := by
  refine k_met (lv := [(0, .ref h0), (1, .int x1)]) (by decide +kernel) rfl rfl (Nat.le_of_ble_eq_true rfl) ?_
  refine k_aload_n 0 d_Loaf_init_0 rfl rfl ?_
  refine k_objInit d_Loaf_init_1 kq_83 kq_27 kq_28 (Nat.le_of_ble_eq_true rfl) (Nat.le_of_ble_eq_true rfl) ?_
  refine k_aload_n 0 d_Loaf_init_4 rfl rfl ?_
  refine k_iconst (v := 4) d_Loaf_init_5 (by decide) ?_
  refine k_newa (atype := .int) (ty := .int) (t0 := 0) (N' := 4) (a0 := (4, .inl (fun _ => 0))) d_Loaf_init_6 rfl kq_57 ⟨0, rfl, rfl⟩ (fun _ _ h => h) (fun _ => rfl) (by decide) (by decide) (Nat.le_of_ble_eq_true rfl) (Nat.le_of_ble_eq_true rfl) (Nat.le_of_ble_eq_true rfl) (fun q0 => ?_)
  refine k_putF (C := R_Loaf) (T := F_Loaf) (N := 5) (ci := 6) (k := 1) (ty := (.array .int)) (fs' := [.int 0, .ref q0, .null, .int 0, .int 0]) d_Loaf_init_8 rfl i_Loaf t_Loaf_ok n_Loaf rfl (by decide) kq_87 rfl (by decide +kernel) rfl rfl (Nat.le_of_ble_eq_true rfl) rfl ?_
  refine k_aload_n 0 d_Loaf_init_11 rfl rfl ?_
  refine k_iconst (v := 4) d_Loaf_init_12 (by decide) ?_
  refine k_newa (atype := .int) (ty := .int) (t0 := 0) (N' := 4) (a0 := (4, .inl (fun _ => 0))) d_Loaf_init_13 rfl kq_57 ⟨0, rfl, rfl⟩ (fun _ _ h => h) (fun _ => rfl) (by decide) (by decide) (Nat.le_of_ble_eq_true rfl) (Nat.le_of_ble_eq_true rfl) (Nat.le_of_ble_eq_true rfl) (fun q1 => ?_)
  refine k_putF (C := R_Loaf) (T := F_Loaf) (N := 5) (ci := 6) (k := 2) (ty := (.array .int)) (fs' := [.int 0, .ref q0, .ref q1, .int 0, .int 0]) d_Loaf_init_15 rfl i_Loaf t_Loaf_ok n_Loaf rfl (by decide) kq_90 rfl (by decide +kernel) rfl rfl (Nat.le_of_ble_eq_true rfl) rfl ?_
  refine k_aload_n 0 d_Loaf_init_18 rfl rfl ?_
  refine k_iload_n 1 d_Loaf_init_19 rfl rfl ?_
  refine k_putF (C := R_Loaf) (T := F_Loaf) (N := 5) (ci := 6) (k := 0) (ty := .int) (fs' := [.int x1, .ref q0, .ref q1, .int 0, .int 0]) d_Loaf_init_20 rfl i_Loaf t_Loaf_ok n_Loaf rfl (by decide) kq_84 rfl (by decide +kernel) rfl rfl (Nat.le_of_ble_eq_true rfl) rfl ?_
  exact k_ret d_Loaf_init_23 (fun k => [q0, q1].getD k 0) rfl
abbrev b_Kiln_init : ByteArray := prog_6_method_1_code
def y_Kiln_init : MethodName := ⟨"BakedBefore$Kiln", "<init>", "()V"⟩
theorem cf_Kiln_init : zcf y_Kiln_init b_Kiln_init 1 none 0 := ⟨kq_170, kq_7, by decide, by decide, by decide +kernel⟩
theorem d_Kiln_init_0 : decode b_Kiln_init 0 = .ok (.aload_n 0, 1) := by decide +kernel
theorem d_Kiln_init_1 : decode b_Kiln_init 1 = .ok (.invokespecial 3, 3) := by decide +kernel
theorem d_Kiln_init_4 : decode b_Kiln_init 4 = .ok (.aload_n 0, 1) := by decide +kernel
theorem d_Kiln_init_5 : decode b_Kiln_init 5 = .ok (.bipush (10), 2) := by decide +kernel
theorem d_Kiln_init_7 : decode b_Kiln_init 7 = .ok (.newarray .int, 2) := by decide +kernel
theorem d_Kiln_init_9 : decode b_Kiln_init 9 = .ok (.putfield 11, 3) := by decide +kernel
theorem d_Kiln_init_12 : decode b_Kiln_init 12 = .ok (.aload_n 0, 1) := by decide +kernel
theorem d_Kiln_init_13 : decode b_Kiln_init 13 = .ok (.bipush (10), 2) := by decide +kernel
theorem d_Kiln_init_15 : decode b_Kiln_init 15 = .ok (.newarray .int, 2) := by decide +kernel
theorem d_Kiln_init_17 : decode b_Kiln_init 17 = .ok (.putfield 15, 3) := by decide +kernel
theorem d_Kiln_init_20 : decode b_Kiln_init 20 = .ok (.aload_n 0, 1) := by decide +kernel
theorem d_Kiln_init_21 : decode b_Kiln_init 21 = .ok (.bipush (10), 2) := by decide +kernel
theorem d_Kiln_init_23 : decode b_Kiln_init 23 = .ok (.newarray .int, 2) := by decide +kernel
theorem d_Kiln_init_25 : decode b_Kiln_init 25 = .ok (.putfield 18, 3) := by decide +kernel
theorem d_Kiln_init_28 : decode b_Kiln_init 28 = .ok (.aload_n 0, 1) := by decide +kernel
theorem d_Kiln_init_29 : decode b_Kiln_init 29 = .ok (.bipush (100), 2) := by decide +kernel
theorem d_Kiln_init_31 : decode b_Kiln_init 31 = .ok (.newarray .int, 2) := by decide +kernel
theorem d_Kiln_init_33 : decode b_Kiln_init 33 = .ok (.putfield 23, 3) := by decide +kernel
theorem d_Kiln_init_36 : decode b_Kiln_init 36 = .ok (.aload_n 0, 1) := by decide +kernel
theorem d_Kiln_init_37 : decode b_Kiln_init 37 = .ok (.bipush (6), 2) := by decide +kernel
theorem d_Kiln_init_39 : decode b_Kiln_init 39 = .ok (.newarray .int, 2) := by decide +kernel
theorem d_Kiln_init_41 : decode b_Kiln_init 41 = .ok (.putfield 26, 3) := by decide +kernel
theorem d_Kiln_init_44 : decode b_Kiln_init 44 = .ok (.aload_n 0, 1) := by decide +kernel
theorem d_Kiln_init_45 : decode b_Kiln_init 45 = .ok (.bipush (50), 2) := by decide +kernel
theorem d_Kiln_init_47 : decode b_Kiln_init 47 = .ok (.putfield 29, 3) := by decide +kernel
theorem d_Kiln_init_50 : decode b_Kiln_init 50 = .ok (.return_, 1) := by decide +kernel
def kw_Kiln (θ : ZT) (h0 : Nat) (u : Nat → Nat) : va_W := [(h0, .inr (5, [.ref (u 0), .ref (u 1), .ref (u 2), .ref (u 3), .ref (u 4), .int 0, .int 0, .int 0, .int 50])), (u 0, .inl (zA θ 0, 10, .inl (fun _ => 0))), (u 1, .inl (zA θ 0, 10, .inl (fun _ => 0))), (u 2, .inl (zA θ 0, 10, .inl (fun _ => 0))), (u 3, .inl (zA θ 0, 100, .inl (fun _ => 0))), (u 4, .inl (zA θ 0, 6, .inl (fun _ => 0)))]
set_option maxHeartbeats 4000000 in
set_option maxRecDepth 100000 in
theorem c_Kiln_init (l : Launch) (θ : ZT) (sz h0 : Nat) : kMet l θ y_Kiln_init b_Kiln_init 1 { frames := 1, cells := 5, slots := 136, locals := 40 } [] sz h0 (.inr (5, [.null, .null, .null, .null, .null, .int 0, .int 0, .int 0, .int 0])) 5 136 (kw_Kiln θ h0) := by
  refine k_met (lv := [(0, .ref h0)]) (by decide +kernel) rfl rfl (Nat.le_of_ble_eq_true rfl) ?_
  refine k_aload_n 0 d_Kiln_init_0 rfl rfl ?_
  refine k_objInit d_Kiln_init_1 kq_171 kq_27 kq_28 (Nat.le_of_ble_eq_true rfl) (Nat.le_of_ble_eq_true rfl) ?_
  refine k_aload_n 0 d_Kiln_init_4 rfl rfl ?_
  refine k_bipush (v := 10) d_Kiln_init_5 (by decide) ?_
  refine k_newa (atype := .int) (ty := .int) (t0 := 0) (N' := 10) (a0 := (10, .inl (fun _ => 0))) d_Kiln_init_7 rfl kq_57 ⟨0, rfl, rfl⟩ (fun _ _ h => h) (fun _ => rfl) (by decide) (by decide) (Nat.le_of_ble_eq_true rfl) (Nat.le_of_ble_eq_true rfl) (Nat.le_of_ble_eq_true rfl) (fun q0 => ?_)
  refine k_putF (C := R_Kiln) (T := F_Kiln) (N := 9) (ci := 5) (k := 0) (ty := (.array .int)) (fs' := [.ref q0, .null, .null, .null, .null, .int 0, .int 0, .int 0, .int 0]) d_Kiln_init_9 rfl i_Kiln t_Kiln_ok n_Kiln rfl (by decide) kq_172 rfl (by decide +kernel) rfl rfl (Nat.le_of_ble_eq_true rfl) rfl ?_
  refine k_aload_n 0 d_Kiln_init_12 rfl rfl ?_
  refine k_bipush (v := 10) d_Kiln_init_13 (by decide) ?_
  refine k_newa (atype := .int) (ty := .int) (t0 := 0) (N' := 10) (a0 := (10, .inl (fun _ => 0))) d_Kiln_init_15 rfl kq_57 ⟨0, rfl, rfl⟩ (fun _ _ h => h) (fun _ => rfl) (by decide) (by decide) (Nat.le_of_ble_eq_true rfl) (Nat.le_of_ble_eq_true rfl) (Nat.le_of_ble_eq_true rfl) (fun q1 => ?_)
  refine k_putF (C := R_Kiln) (T := F_Kiln) (N := 9) (ci := 5) (k := 1) (ty := (.array .int)) (fs' := [.ref q0, .ref q1, .null, .null, .null, .int 0, .int 0, .int 0, .int 0]) d_Kiln_init_17 rfl i_Kiln t_Kiln_ok n_Kiln rfl (by decide) kq_173 rfl (by decide +kernel) rfl rfl (Nat.le_of_ble_eq_true rfl) rfl ?_
  refine k_aload_n 0 d_Kiln_init_20 rfl rfl ?_
  refine k_bipush (v := 10) d_Kiln_init_21 (by decide) ?_
  refine k_newa (atype := .int) (ty := .int) (t0 := 0) (N' := 10) (a0 := (10, .inl (fun _ => 0))) d_Kiln_init_23 rfl kq_57 ⟨0, rfl, rfl⟩ (fun _ _ h => h) (fun _ => rfl) (by decide) (by decide) (Nat.le_of_ble_eq_true rfl) (Nat.le_of_ble_eq_true rfl) (Nat.le_of_ble_eq_true rfl) (fun q2 => ?_)
  refine k_putF (C := R_Kiln) (T := F_Kiln) (N := 9) (ci := 5) (k := 2) (ty := (.array .int)) (fs' := [.ref q0, .ref q1, .ref q2, .null, .null, .int 0, .int 0, .int 0, .int 0]) d_Kiln_init_25 rfl i_Kiln t_Kiln_ok n_Kiln rfl (by decide) kq_174 rfl (by decide +kernel) rfl rfl (Nat.le_of_ble_eq_true rfl) rfl ?_
  refine k_aload_n 0 d_Kiln_init_28 rfl rfl ?_
  refine k_bipush (v := 100) d_Kiln_init_29 (by decide) ?_
  refine k_newa (atype := .int) (ty := .int) (t0 := 0) (N' := 100) (a0 := (100, .inl (fun _ => 0))) d_Kiln_init_31 rfl kq_57 ⟨0, rfl, rfl⟩ (fun _ _ h => h) (fun _ => rfl) (by decide) (by decide) (Nat.le_of_ble_eq_true rfl) (Nat.le_of_ble_eq_true rfl) (Nat.le_of_ble_eq_true rfl) (fun q3 => ?_)
  refine k_putF (C := R_Kiln) (T := F_Kiln) (N := 9) (ci := 5) (k := 3) (ty := (.array .int)) (fs' := [.ref q0, .ref q1, .ref q2, .ref q3, .null, .int 0, .int 0, .int 0, .int 0]) d_Kiln_init_33 rfl i_Kiln t_Kiln_ok n_Kiln rfl (by decide) kq_175 rfl (by decide +kernel) rfl rfl (Nat.le_of_ble_eq_true rfl) rfl ?_
  refine k_aload_n 0 d_Kiln_init_36 rfl rfl ?_
  refine k_bipush (v := 6) d_Kiln_init_37 (by decide) ?_
  refine k_newa (atype := .int) (ty := .int) (t0 := 0) (N' := 6) (a0 := (6, .inl (fun _ => 0))) d_Kiln_init_39 rfl kq_57 ⟨0, rfl, rfl⟩ (fun _ _ h => h) (fun _ => rfl) (by decide) (by decide) (Nat.le_of_ble_eq_true rfl) (Nat.le_of_ble_eq_true rfl) (Nat.le_of_ble_eq_true rfl) (fun q4 => ?_)
  refine k_putF (C := R_Kiln) (T := F_Kiln) (N := 9) (ci := 5) (k := 4) (ty := (.array .int)) (fs' := [.ref q0, .ref q1, .ref q2, .ref q3, .ref q4, .int 0, .int 0, .int 0, .int 0]) d_Kiln_init_41 rfl i_Kiln t_Kiln_ok n_Kiln rfl (by decide) kq_176 rfl (by decide +kernel) rfl rfl (Nat.le_of_ble_eq_true rfl) rfl ?_
  refine k_aload_n 0 d_Kiln_init_44 rfl rfl ?_
  refine k_bipush (v := 50) d_Kiln_init_45 (by decide) ?_
  refine k_putF (C := R_Kiln) (T := F_Kiln) (N := 9) (ci := 5) (k := 8) (ty := .int) (fs' := [.ref q0, .ref q1, .ref q2, .ref q3, .ref q4, .int 0, .int 0, .int 0, .int 50]) d_Kiln_init_47 rfl i_Kiln t_Kiln_ok n_Kiln rfl (by decide) kq_181 rfl (by decide +kernel) rfl rfl (Nat.le_of_ble_eq_true rfl) rfl ?_
  exact k_ret d_Kiln_init_50 (fun k => [q0, q1, q2, q3, q4].getD k 0) rfl
abbrev b_Reader_init : ByteArray := prog_9_method_1_code
def y_Reader_init : MethodName := ⟨"BakedBefore$Reade\x72", "<init>", "()V"⟩
theorem cf_Reader_init : zcf y_Reader_init b_Reader_init 1 none 0 := ⟨kq_146, kq_6, by decide, by decide, by decide +kernel⟩
theorem d_Reader_init_0 : decode b_Reader_init 0 = .ok (.aload_n 0, 1) := by decide +kernel
theorem d_Reader_init_1 : decode b_Reader_init 1 = .ok (.invokespecial 3, 3) := by decide +kernel
theorem d_Reader_init_4 : decode b_Reader_init 4 = .ok (.aload_n 0, 1) := by decide +kernel
theorem d_Reader_init_5 : decode b_Reader_init 5 = .ok (.bipush (100), 2) := by decide +kernel
theorem d_Reader_init_7 : decode b_Reader_init 7 = .ok (.newarray .int, 2) := by decide +kernel
theorem d_Reader_init_9 : decode b_Reader_init 9 = .ok (.putfield 11, 3) := by decide +kernel
theorem d_Reader_init_12 : decode b_Reader_init 12 = .ok (.return_, 1) := by decide +kernel
def kw_Reader (θ : ZT) (h0 : Nat) (u : Nat → Nat) : va_W := [(h0, .inr (8, [.ref (u 0), .int 0, .int 0, .int 0, .null])), (u 0, .inl (zA θ 0, 100, .inl (fun _ => 0)))]
set_option maxHeartbeats 4000000 in
set_option maxRecDepth 100000 in
theorem c_Reader_init (l : Launch) (θ : ZT) (sz h0 : Nat) : kMet l θ y_Reader_init b_Reader_init 1 { frames := 1, cells := 1, slots := 100, locals := 40 } [] sz h0 (.inr (8, [.null, .int 0, .int 0, .int 0, .null])) 1 100 (kw_Reader θ h0) := by
  refine k_met (lv := [(0, .ref h0)]) (by decide +kernel) rfl rfl (Nat.le_of_ble_eq_true rfl) ?_
  refine k_aload_n 0 d_Reader_init_0 rfl rfl ?_
  refine k_objInit d_Reader_init_1 kq_147 kq_27 kq_28 (Nat.le_of_ble_eq_true rfl) (Nat.le_of_ble_eq_true rfl) ?_
  refine k_aload_n 0 d_Reader_init_4 rfl rfl ?_
  refine k_bipush (v := 100) d_Reader_init_5 (by decide) ?_
  refine k_newa (atype := .int) (ty := .int) (t0 := 0) (N' := 100) (a0 := (100, .inl (fun _ => 0))) d_Reader_init_7 rfl kq_57 ⟨0, rfl, rfl⟩ (fun _ _ h => h) (fun _ => rfl) (by decide) (by decide) (Nat.le_of_ble_eq_true rfl) (Nat.le_of_ble_eq_true rfl) (Nat.le_of_ble_eq_true rfl) (fun q0 => ?_)
  refine k_putF (C := R_Reader) (T := F_Reader) (N := 5) (ci := 8) (k := 0) (ty := (.array .int)) (fs' := [.ref q0, .int 0, .int 0, .int 0, .null]) d_Reader_init_9 rfl i_Reader t_Reader_ok n_Reader rfl (by decide) kq_148 rfl (by decide +kernel) rfl rfl (Nat.le_of_ble_eq_true rfl) rfl ?_
  exact k_ret d_Reader_init_12 (fun k => [q0].getD k 0) rfl
abbrev b_Acts_init : ByteArray := prog_2_method_1_code
def y_Acts_init : MethodName := ⟨"BakedBefore$Acts", "<init>", "()V"⟩
theorem cf_Acts_init : zcf y_Acts_init b_Acts_init 1 none 0 := ⟨kq_273, kq_11, by decide, by decide, by decide +kernel⟩
theorem d_Acts_init_0 : decode b_Acts_init 0 = .ok (.aload_n 0, 1) := by decide +kernel
theorem d_Acts_init_1 : decode b_Acts_init 1 = .ok (.invokespecial 3, 3) := by decide +kernel
theorem d_Acts_init_4 : decode b_Acts_init 4 = .ok (.aload_n 0, 1) := by decide +kernel
theorem d_Acts_init_5 : decode b_Acts_init 5 = .ok (.bipush (20), 2) := by decide +kernel
theorem d_Acts_init_7 : decode b_Acts_init 7 = .ok (.newarray .int, 2) := by decide +kernel
theorem d_Acts_init_9 : decode b_Acts_init 9 = .ok (.putfield 11, 3) := by decide +kernel
theorem d_Acts_init_12 : decode b_Acts_init 12 = .ok (.return_, 1) := by decide +kernel
def kw_Acts (θ : ZT) (h0 : Nat) (u : Nat → Nat) : va_W := [(h0, .inr (1, [.ref (u 0), .int 0])), (u 0, .inl (zA θ 0, 20, .inl (fun _ => 0)))]
set_option maxHeartbeats 4000000 in
set_option maxRecDepth 100000 in
theorem c_Acts_init (l : Launch) (θ : ZT) (sz h0 : Nat) : kMet l θ y_Acts_init b_Acts_init 1 { frames := 1, cells := 1, slots := 20, locals := 40 } [] sz h0 (.inr (1, [.null, .int 0])) 1 20 (kw_Acts θ h0) := by
  refine k_met (lv := [(0, .ref h0)]) (by decide +kernel) rfl rfl (Nat.le_of_ble_eq_true rfl) ?_
  refine k_aload_n 0 d_Acts_init_0 rfl rfl ?_
  refine k_objInit d_Acts_init_1 kq_274 kq_27 kq_28 (Nat.le_of_ble_eq_true rfl) (Nat.le_of_ble_eq_true rfl) ?_
  refine k_aload_n 0 d_Acts_init_4 rfl rfl ?_
  refine k_bipush (v := 20) d_Acts_init_5 (by decide) ?_
  refine k_newa (atype := .int) (ty := .int) (t0 := 0) (N' := 20) (a0 := (20, .inl (fun _ => 0))) d_Acts_init_7 rfl kq_57 ⟨0, rfl, rfl⟩ (fun _ _ h => h) (fun _ => rfl) (by decide) (by decide) (Nat.le_of_ble_eq_true rfl) (Nat.le_of_ble_eq_true rfl) (Nat.le_of_ble_eq_true rfl) (fun q0 => ?_)
  refine k_putF (C := R_Acts) (T := F_Acts) (N := 2) (ci := 1) (k := 0) (ty := (.array .int)) (fs' := [.ref q0, .int 0]) d_Acts_init_9 rfl i_Acts t_Acts_ok n_Acts rfl (by decide) kq_275 rfl (by decide +kernel) rfl rfl (Nat.le_of_ble_eq_true rfl) rfl ?_
  exact k_ret d_Acts_init_12 (fun k => [q0].getD k 0) rfl
abbrev b_Baker_init : ByteArray := prog_4_method_1_code
def y_Baker_init : MethodName := ⟨"BakedBefore$Bake\x72", "<init>", "(LBakedBefore$Kiln;)V"⟩
theorem cf_Baker_init : zcf y_Baker_init b_Baker_init 2 none 1 := ⟨kq_207, kq_8, by decide, by decide, by decide +kernel⟩
theorem d_Baker_init_0 : decode b_Baker_init 0 = .ok (.aload_n 0, 1) := by decide +kernel
theorem d_Baker_init_1 : decode b_Baker_init 1 = .ok (.invokespecial 3, 3) := by decide +kernel
theorem d_Baker_init_4 : decode b_Baker_init 4 = .ok (.aload_n 0, 1) := by decide +kernel
theorem d_Baker_init_5 : decode b_Baker_init 5 = .ok (.aload_n 1, 1) := by decide +kernel
theorem d_Baker_init_6 : decode b_Baker_init 6 = .ok (.putfield 9, 3) := by decide +kernel
theorem d_Baker_init_9 : decode b_Baker_init 9 = .ok (.return_, 1) := by decide +kernel
def kw_Baker (θ : ZT) (h0 : Nat) (a1 : Nat) (u : Nat → Nat) : va_W := [(h0, .inr (3, [.ref a1]))]
set_option maxHeartbeats 4000000 in
set_option maxRecDepth 100000 in
theorem c_Baker_init (l : Launch) (θ : ZT) (sz h0 : Nat) (a1 : Nat) : kMet l θ y_Baker_init b_Baker_init 2 { frames := 1, cells := 0, slots := 0, locals := 40 } [.ref a1] sz h0 (.inr (3, [.null])) 0 0 (kw_Baker θ h0 a1) := by
  refine k_met (lv := [(0, .ref h0), (1, .ref a1)]) (by decide +kernel) rfl rfl (Nat.le_of_ble_eq_true rfl) ?_
  refine k_aload_n 0 d_Baker_init_0 rfl rfl ?_
  refine k_objInit d_Baker_init_1 kq_208 kq_27 kq_28 (Nat.le_of_ble_eq_true rfl) (Nat.le_of_ble_eq_true rfl) ?_
  refine k_aload_n 0 d_Baker_init_4 rfl rfl ?_
  refine k_aload_n 1 d_Baker_init_5 rfl rfl ?_
  refine k_putF (C := R_Baker) (T := F_Baker) (N := 1) (ci := 3) (k := 0) (ty := (.object "BakedBefore$Kiln")) (fs' := [.ref a1]) d_Baker_init_6 rfl i_Baker t_Baker_ok n_Baker rfl (by decide) kq_209 rfl (by decide +kernel) rfl rfl (Nat.le_of_ble_eq_true rfl) rfl ?_
  exact k_ret d_Baker_init_9 (fun k => [].getD k 0) rfl
