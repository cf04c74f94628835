/-! THE RULES: facts that never change, the world, the judgement WZ, a rule an instruction -/
def zabove (j : Nat) : Int32 := ([-1, 0, 0, 0, 1, 2, 3] : List Int32).getD j 0
def zbodies (j : Nat) : Int32 := ([10, 11, 12, 0, 20, 0, 30, 0, 0, 0, 0, 40, 50, 51, 0, 0, 0, 60, 71, 70, 0] : List Int32).getD j 0
def zslen : List Nat := [4, 4, 4, 3, 5, 5, 5, 4]
def zsbyt : List (List Int32) := [[116, 97, 107, 101], [109, 111, 114, 101], [99, 111, 108, 100], [102, 101, 101], [116, 97, 107, 101, 32], [109, 111, 114, 101, 32], [99, 111, 108, 100, 32], [102, 101, 101, 32]]
def zn_acts : Cond := .fieldLinkNest "BakedBefore$Acts" 36 "BakedBefore" "ABOVE" "[I" "BakedBefore"
def zn_loaf : Cond := .fieldLinkNest "BakedBefore$Loaf" 28 "BakedBefore" "ABOVE" "[I" "BakedBefore"
def zn_flag : Cond := .methodLinkNest "BakedBefore$Aske\x72" 57 ⟨"BakedBefore", "flag", "(Z)I"⟩ "BakedBefore"
/-- what the machine's constants are: static tables, links to nest mates, texts -/
def zFX (A : Nat → Prop) (θ : ZT) (U : State) (H : Heap) : Prop :=
  (va_Z "BakedBefore" "ABOVE" "[I" (.ref (zf θ 0)) A U H ∧ va_T .int (zf θ 0) 7 (fun j => .int (zabove j)) A U H) ∧
  (va_Z "BakedBefore$Acts" "BODIES" "[I" (.ref (zf θ 1)) A U H ∧ va_T .int (zf θ 1) 21 (fun j => .int (zbodies j)) A U H) ∧
  (va_Nw zn_acts U ∧ va_Nw zn_loaf U ∧ va_Nw zn_flag U) ∧
  (vk_R "BakedBefore$Reade\x72" 96 "take" (zf θ 2) U ∧ vk_R "BakedBefore$Reade\x72" 98 "more" (zf θ 3) U ∧ vk_R "BakedBefore$Reade\x72" 100 "cold" (zf θ 4) U ∧ vk_R "BakedBefore$Reade\x72" 102 "fee" (zf θ 5) U ∧
   vk_R "BakedBeforeModel" 139 "take " (zf θ 6) U ∧ vk_R "BakedBeforeModel" 141 "more " (zf θ 7) U ∧ vk_R "BakedBeforeModel" 143 "cold " (zf θ 8) U ∧ vk_R "BakedBeforeModel" 145 "fee " (zf θ 9) U) ∧
  vk_S 8 zslen zsbyt (fun i => zf θ (2 + i)) (fun i => zf θ (10 + i)) A U H ∧
  va_Z "java/lang/String" "COMPACT_STRINGS" "Z" (.int 1) A U H ∧ va_Zq "jdk/internal/util/Preconditions" "SIOOBE_FORMATTER" "Ljava/util/function/BiFunction;" A U H
theorem zFX.kept {A : Nat → Prop} {θ : ZT} {U : State} {H H1 : Heap} (h : zFX A θ U H) (hq : ∀ a : Nat, a < H.size → ¬ A a → H1[a]? = H[a]?) : zFX A θ U H1 := by
  obtain ⟨⟨a1, a2⟩, ⟨b1, b2⟩, c, d, e, f, g⟩ := h
  exact ⟨⟨a1.kept hq, a2.kept hq⟩, ⟨b1.kept hq, b2.kept hq⟩, c, d, e.kept hq, f.kept hq, g.kept hq⟩
theorem zFX.warm {A : Nat → Prop} {θ : ZT} {s U : State} {H : Heap} (hW : s.WarmedH U.vm) (h : zFX A θ s H) : zFX A θ U H := by
  obtain ⟨⟨a1, a2⟩, ⟨b1, b2⟩, ⟨c1, c2, c3⟩, ⟨d1, d2, d3, d4, d5, d6, d7, d8⟩, e, f, g⟩ := h
  have hv := hW.alike
  exact ⟨⟨a1.moved hv, a2.moved hv⟩, ⟨b1.moved hv, b2.moved hv⟩, ⟨va_Nw.warmF hW c1, va_Nw.warmF hW c2, va_Nw.warmM hW c3⟩, ⟨d1.warm hW, d2.warm hW, d3.warm hW, d4.warm hW, d5.warm hW, d6.warm hW, d7.warm hW, d8.warm hW⟩, e.moved hv, f.moved hv, g.moved hv⟩
theorem zFX.calling {A : Nat → Prop} {θ : ZT} {U : State} {H : Heap} (g : JFrame) (mk : MethodId) (a : Array Value) (h : zFX A θ U H) : zFX A θ (U.calling g mk a) H := by
  obtain ⟨⟨a1, a2⟩, ⟨b1, b2⟩, ⟨c1, c2, c3⟩, ⟨d1, d2, d3, d4, d5, d6, d7, d8⟩, e, f, g1⟩ := h
  have hv : U.vm.Alike (U.calling g mk a).vm := Vm.Alike.refl U.vm
  have hu : U.vm = (U.calling g mk a).vm := rfl
  exact ⟨⟨a1.moved hv, a2.moved hv⟩, ⟨b1.moved hv, b2.moved hv⟩, ⟨va_Nw.same rfl hu c1, va_Nw.same rfl hu c2, va_Nw.same rfl hu c3⟩, ⟨d1.same hu.symm, d2.same hu.symm, d3.same hu.symm, d4.same hu.symm, d5.same hu.symm, d6.same hu.symm, d7.same hu.symm, d8.same hu.symm⟩, e.moved hv, f.moved hv, g1.moved hv⟩
/-- the world of a memory, in a state -/
def zWB (lo n : Nat) (θ : ZT) (σ : ZM) (U : State) : Prop := va_P (zD θ) zcl (zwd lo n θ σ) U.heap ∧ va_K (zD θ) zcl (zty θ) U ∧ zJ θ ∧ zFX (zAA lo n θ) θ U U.heap
theorem zWB.blind {lo n : Nat} {θ : ZT} {σ : ZM} {av : List Value} : FrameBlind (va_Pc av (zWB lo n θ σ)) := by
  intro a U g mk h
  obtain ⟨h0, h1, h2, h3, h4⟩ := h
  exact ⟨h0, h1, va_K.moved (u := U) (U := U.calling g mk a) (Vm.Alike.refl U.vm) h2, h3, h4.calling g mk a⟩
/-- what a method answers: its result and the memory behind it -/
def zQ {α : Type} (mk : ZT → α → Option Value) (lo n : Nat) (θ : ZT) (res : α × ZM) : Array Value → State → Outcome → State → Prop := fun _ st oc t =>
  (oc = .returned (mk θ res.1) ∧ zWB lo n θ res.2 t) ∧ va_F (zAA lo n θ) st t
def mkI (_ : ZT) (r : Int32) : Option Value := some (.int r)
def mkL (_ : ZT) (r : Int64) : Option Value := some (.long r)
def mkV (_ : ZT) (_ : Unit) : Option Value := none
def mkS (θ : ZT) (i : Nat) : Option Value := some (.ref (zf θ (2 + i)))
/-- what is fixed in a method's body -/
def zC (p : Program) (s : State) (m : MethodId) (args : Array Value) (meth : Method) (c : Code) (cc : ByteArray) (nL : Nat) (ret : Option FieldType) (own : String) (lo n : Nat) (θ : ZT) : Prop :=
  p.tables.exec = Jvm.exec ∧ c.code = cc ∧ c.maxLocals = nL ∧ s.vm.findClass own = some m.cls ∧ (∀ w ∈ zW0, w.before args s = true) ∧ meth.locks = false ∧ meth.sig.returnType = ret ∧ va_K (zD θ) zcl (zty θ) s ∧ zJ θ ∧ zFX (zAA lo n θ) θ s s.heap ∧ lo + n ≤ 143
def WZ (l : Launch) (cc : ByteArray) (nL : Nat) (ret : Option FieldType) (own : String) (lo n : Nat) (θ : ZT) (R : Room) (Q : Array Value → State → Outcome → State → Prop) (σ : ZM) (lv : List (Nat × Value)) (pc : Nat) (st : List Value) : Prop :=
  ∀ (p : Program) (e : Env) (s : State) (m : MethodId) (args : Array Value) (below : List Frame) (meth : Method) (c : Code) (H : Heap) (locs : List Loc) (ls : Array Slot), zC p s m args meth c cc nL ret own lo n θ → va_P (zD θ) zcl (zwd lo n θ σ) H → va_S (zAA lo n θ) s.heap H locs → lv_has ls nL lv →
    W p l e R s m args below meth c H locs 0 0 (MQ below Q args s 0 0 (zAA lo n θ)) (F0 m pc ls st)
def zck {α : Type} (b : Bool) (k : Option α) : Option α := if b = true then k else none
def zbd {α β : Type} (o : Option (α × ZM)) (k : α → ZM → Option β) : Option β := match o with
  | none => none
  | some r => k r.1 r.2
def zlp {α β : Type} (body : (α → Option β) → α → Option β) : Nat → α → Option β
  | 0, _ => none
  | n + 1, a => body (zlp body n) a
theorem zck_i {α : Type} {b : Bool} {k : Option α} {r : α} (h : zck b k = some r) : b = true ∧ k = some r := by
  unfold zck at h
  split at h
  · exact ⟨‹_›, h⟩
  · cases h
theorem zbd_i {α β : Type} {o : Option (α × ZM)} {k : α → ZM → Option β} {r : β} (h : zbd o k = some r) : ∃ x : α × ZM, o = some x ∧ k x.1 x.2 = some r := by
  cases o with
  | none => cases h
  | some x => exact ⟨x, rfl, h⟩
def zin (i : Int32) (n : Nat) : Bool := decide (0 ≤ i) && decide (i.toNatClampNeg < n)
theorem zin_i {i : Int32} {n : Nat} (h : zin i n = true) : vp_in i n := by
  simp only [zin, Bool.and_eq_true, decide_eq_true_eq] at h
  intro q
  rcases q with q | q
  · exact absurd h.1 (Int32.not_le.mpr q)
  · omega
def zbl (v : Int32) : Bool := v == 0 || v == 1
theorem zbl_i {v : Int32} (h : zbl v = true) : narrow .boolean (.int v) = .int v := by
  simp only [zbl, Bool.or_eq_true, beq_iff_eq] at h
  rcases h with rfl | rfl <;> rfl
section RULES
variable {l : Launch} {cc : ByteArray} {nL : Nat} {ret : Option FieldType} {own : String} {lo n : Nat} {θ : ZT} {R : Room} {Q : Array Value → State → Outcome → State → Prop} {σ : ZM} {lv : List (Nat × Value)} {pc : Nat} {st : List Value}
theorem z_iconst {k : Int} {v : Int32} (d : decode cc pc = .ok (.iconst k, 1)) (hv : Int32.ofInt k = v) (g : WZ l cc nL ret own lo n θ R Q σ lv (pc + 1) (.int v :: st)) : WZ l cc nL ret own lo n θ R Q σ lv pc st :=
  fun _ _ _ _ _ _ _ _ _ _ _ C hP hS hl => lv_iconst C.1 C.2.1 d hv (g _ _ _ _ _ _ _ _ _ _ _ C hP hS hl)
theorem z_bipush {k : Int} {v : Int32} (d : decode cc pc = .ok (.bipush k, 2)) (hv : (Int8.ofInt k).toInt32 = v) (g : WZ l cc nL ret own lo n θ R Q σ lv (pc + 2) (.int v :: st)) : WZ l cc nL ret own lo n θ R Q σ lv pc st :=
  fun _ _ _ _ _ _ _ _ _ _ _ C hP hS hl => lv_bipush C.1 C.2.1 d hv (g _ _ _ _ _ _ _ _ _ _ _ C hP hS hl)
theorem z_sipush {k : Int} {v : Int32} (d : decode cc pc = .ok (.sipush k, 3)) (hv : (Int16.ofInt k).toInt32 = v) (g : WZ l cc nL ret own lo n θ R Q σ lv (pc + 3) (.int v :: st)) : WZ l cc nL ret own lo n θ R Q σ lv pc st :=
  fun _ _ _ _ _ _ _ _ _ _ _ C hP hS hl => lv_sipush C.1 C.2.1 d hv (g _ _ _ _ _ _ _ _ _ _ _ C hP hS hl)
theorem z_lconst {k : Fin 2} {v : Int64} (d : decode cc pc = .ok (.lconst k, 1)) (hv : Int64.ofNat (k : Nat) = v) (g : WZ l cc nL ret own lo n θ R Q σ lv (pc + 1) (.long v :: st)) : WZ l cc nL ret own lo n θ R Q σ lv pc st :=
  fun _ _ _ _ _ _ _ _ _ _ _ C hP hS hl => lv_lconst C.1 C.2.1 d hv (g _ _ _ _ _ _ _ _ _ _ _ C hP hS hl)
theorem z_ldc {k : Nat} {v : Int32} (d : decode cc pc = .ok (.ldc k, 2)) (hw : Cond.constant own k v ∈ zW0) (g : WZ l cc nL ret own lo n θ R Q σ lv (pc + 2) (.int v :: st)) : WZ l cc nL ret own lo n θ R Q σ lv pc st :=
  fun _ _ _ _ _ _ _ _ _ _ _ C hP hS hl => lv_ldc C.1 C.2.1 C.2.2.2.1 (C.2.2.2.2.1 _ hw) d (g _ _ _ _ _ _ _ _ _ _ _ C hP hS hl)
theorem z_ldcw {k : Nat} {v : Int32} (d : decode cc pc = .ok (.ldc_w k, 3)) (hw : Cond.constant own k v ∈ zW0) (g : WZ l cc nL ret own lo n θ R Q σ lv (pc + 3) (.int v :: st)) : WZ l cc nL ret own lo n θ R Q σ lv pc st :=
  fun _ _ _ _ _ _ _ _ _ _ _ C hP hS hl => lv_ldcw C.1 C.2.1 C.2.2.2.1 (C.2.2.2.2.1 _ hw) d (g _ _ _ _ _ _ _ _ _ _ _ C hP hS hl)
theorem z_ldc2 {k : Nat} {v : Int64} (d : decode cc pc = .ok (.ldc2_w k, 3)) (hw : Cond.constantLong own k v ∈ zW0) (g : WZ l cc nL ret own lo n θ R Q σ lv (pc + 3) (.long v :: st)) : WZ l cc nL ret own lo n θ R Q σ lv pc st :=
  fun _ _ _ _ _ _ _ _ _ _ _ C hP hS hl => lv_ldc2 C.1 C.2.1 C.2.2.2.1 (C.2.2.2.2.1 _ hw) d (g _ _ _ _ _ _ _ _ _ _ _ C hP hS hl)
theorem z_iload_n {k : Fin 4} {i : Nat} (j : Nat) {x : Int32} (d : decode cc pc = .ok (.iload_n k, 1)) (hi : (k : Nat) = i) (hj : lv[j]? = some (i, .int x)) (g : WZ l cc nL ret own lo n θ R Q σ lv (pc + 1) (.int x :: st)) : WZ l cc nL ret own lo n θ R Q σ lv pc st :=
  fun _ _ _ _ _ _ _ _ _ _ _ C hP hS hl => lv_iload_n C.1 C.2.1 d hi (lv_at hl j hj) (g _ _ _ _ _ _ _ _ _ _ _ C hP hS hl)
theorem z_iload {i : Nat} (j : Nat) {x : Int32} (d : decode cc pc = .ok (.iload i, 2)) (hj : lv[j]? = some (i, .int x)) (g : WZ l cc nL ret own lo n θ R Q σ lv (pc + 2) (.int x :: st)) : WZ l cc nL ret own lo n θ R Q σ lv pc st :=
  fun _ _ _ _ _ _ _ _ _ _ _ C hP hS hl => lv_iload C.1 C.2.1 d (lv_at hl j hj) (g _ _ _ _ _ _ _ _ _ _ _ C hP hS hl)
theorem z_lload_n {k : Fin 4} {i : Nat} (j : Nat) {x : Int64} (d : decode cc pc = .ok (.lload_n k, 1)) (hi : (k : Nat) = i) (hj : lv[j]? = some (i, .long x)) (g : WZ l cc nL ret own lo n θ R Q σ lv (pc + 1) (.long x :: st)) : WZ l cc nL ret own lo n θ R Q σ lv pc st :=
  fun _ _ _ _ _ _ _ _ _ _ _ C hP hS hl => lv_lload_n C.1 C.2.1 d hi (lv_at hl j hj) (g _ _ _ _ _ _ _ _ _ _ _ C hP hS hl)
theorem z_lload {i : Nat} (j : Nat) {x : Int64} (d : decode cc pc = .ok (.lload i, 2)) (hj : lv[j]? = some (i, .long x)) (g : WZ l cc nL ret own lo n θ R Q σ lv (pc + 2) (.long x :: st)) : WZ l cc nL ret own lo n θ R Q σ lv pc st :=
  fun _ _ _ _ _ _ _ _ _ _ _ C hP hS hl => lv_lload C.1 C.2.1 d (lv_at hl j hj) (g _ _ _ _ _ _ _ _ _ _ _ C hP hS hl)
theorem z_aload_n {k : Fin 4} {i : Nat} (j : Nat) {x : Nat} (d : decode cc pc = .ok (.aload_n k, 1)) (hi : (k : Nat) = i) (hj : lv[j]? = some (i, .ref x)) (g : WZ l cc nL ret own lo n θ R Q σ lv (pc + 1) (.ref x :: st)) : WZ l cc nL ret own lo n θ R Q σ lv pc st :=
  fun _ _ _ _ _ _ _ _ _ _ _ C hP hS hl => lv_aload_n C.1 C.2.1 d hi (lv_at hl j hj) (g _ _ _ _ _ _ _ _ _ _ _ C hP hS hl)
theorem z_aload {i : Nat} (j : Nat) {x : Nat} (d : decode cc pc = .ok (.aload i, 2)) (hj : lv[j]? = some (i, .ref x)) (g : WZ l cc nL ret own lo n θ R Q σ lv (pc + 2) (.ref x :: st)) : WZ l cc nL ret own lo n θ R Q σ lv pc st :=
  fun _ _ _ _ _ _ _ _ _ _ _ C hP hS hl => lv_aload C.1 C.2.1 d (lv_at hl j hj) (g _ _ _ _ _ _ _ _ _ _ _ C hP hS hl)
theorem z_istore_n {k : Fin 4} {i : Nat} {x : Int32} {lv' : List (Nat × Value)} (d : decode cc pc = .ok (.istore_n k, 1)) (hi : (k : Nat) = i) (hn : i < nL) (hl' : (i, Value.int x) :: lv.filter (fun q => !(q.1 == i) && !(q.1 + 1 == i && q.2.category == 2)) = lv') (g : WZ l cc nL ret own lo n θ R Q σ lv' (pc + 1) st) : WZ l cc nL ret own lo n θ R Q σ lv pc (.int x :: st) :=
  fun _ _ _ _ _ _ _ _ _ _ _ C hP hS hl => lv_istore_n C.1 C.2.1 d hi hl hn hl' (fun _ h => g _ _ _ _ _ _ _ _ _ _ _ C hP hS h)
theorem z_istore {i : Nat} {x : Int32} {lv' : List (Nat × Value)} (d : decode cc pc = .ok (.istore i, 2)) (hn : i < nL) (hl' : (i, Value.int x) :: lv.filter (fun q => !(q.1 == i) && !(q.1 + 1 == i && q.2.category == 2)) = lv') (g : WZ l cc nL ret own lo n θ R Q σ lv' (pc + 2) st) : WZ l cc nL ret own lo n θ R Q σ lv pc (.int x :: st) :=
  fun _ _ _ _ _ _ _ _ _ _ _ C hP hS hl => lv_istore C.1 C.2.1 d hl hn hl' (fun _ h => g _ _ _ _ _ _ _ _ _ _ _ C hP hS h)
theorem z_lstore_n {k : Fin 4} {i : Nat} {x : Int64} {lv' : List (Nat × Value)} (d : decode cc pc = .ok (.lstore_n k, 1)) (hi : (k : Nat) = i) (hn : i + 1 < nL) (hl' : (i, Value.long x) :: lv.filter (fun q => !(q.1 == i) && (!(q.1 == i + 1) && !(q.1 + 1 == i && q.2.category == 2))) = lv') (g : WZ l cc nL ret own lo n θ R Q σ lv' (pc + 1) st) : WZ l cc nL ret own lo n θ R Q σ lv pc (.long x :: st) :=
  fun _ _ _ _ _ _ _ _ _ _ _ C hP hS hl => lv_lstore_n C.1 C.2.1 d hi hl hn hl' (fun _ h => g _ _ _ _ _ _ _ _ _ _ _ C hP hS h)
theorem z_lstore {i : Nat} {x : Int64} {lv' : List (Nat × Value)} (d : decode cc pc = .ok (.lstore i, 2)) (hn : i + 1 < nL) (hl' : (i, Value.long x) :: lv.filter (fun q => !(q.1 == i) && (!(q.1 == i + 1) && !(q.1 + 1 == i && q.2.category == 2))) = lv') (g : WZ l cc nL ret own lo n θ R Q σ lv' (pc + 2) st) : WZ l cc nL ret own lo n θ R Q σ lv pc (.long x :: st) :=
  fun _ _ _ _ _ _ _ _ _ _ _ C hP hS hl => lv_lstore C.1 C.2.1 d hl hn hl' (fun _ h => g _ _ _ _ _ _ _ _ _ _ _ C hP hS h)
theorem z_astore_n {k : Fin 4} {i : Nat} {x : Nat} {lv' : List (Nat × Value)} (d : decode cc pc = .ok (.astore_n k, 1)) (hi : (k : Nat) = i) (hn : i < nL) (hl' : (i, Value.ref x) :: lv.filter (fun q => !(q.1 == i) && !(q.1 + 1 == i && q.2.category == 2)) = lv') (g : WZ l cc nL ret own lo n θ R Q σ lv' (pc + 1) st) : WZ l cc nL ret own lo n θ R Q σ lv pc (.ref x :: st) :=
  fun _ _ _ _ _ _ _ _ _ _ _ C hP hS hl => lv_astore_n C.1 C.2.1 d hi hl hn hl' (fun _ h => g _ _ _ _ _ _ _ _ _ _ _ C hP hS h)
theorem z_astore {i : Nat} {x : Nat} {lv' : List (Nat × Value)} (d : decode cc pc = .ok (.astore i, 2)) (hn : i < nL) (hl' : (i, Value.ref x) :: lv.filter (fun q => !(q.1 == i) && !(q.1 + 1 == i && q.2.category == 2)) = lv') (g : WZ l cc nL ret own lo n θ R Q σ lv' (pc + 2) st) : WZ l cc nL ret own lo n θ R Q σ lv pc (.ref x :: st) :=
  fun _ _ _ _ _ _ _ _ _ _ _ C hP hS hl => lv_astore C.1 C.2.1 d hl hn hl' (fun _ h => g _ _ _ _ _ _ _ _ _ _ _ C hP hS h)
theorem z_iinc {i : Nat} (j : Nat) {k : Int} {x v : Int32} {lv' : List (Nat × Value)} (d : decode cc pc = .ok (.iinc i k, 3)) (hj : lv[j]? = some (i, .int x)) (hv : x + Int32.ofInt k = v) (hn : i < nL) (hl' : (i, Value.int v) :: lv.filter (fun q => !(q.1 == i) && !(q.1 + 1 == i && q.2.category == 2)) = lv') (g : WZ l cc nL ret own lo n θ R Q σ lv' (pc + 3) st) : WZ l cc nL ret own lo n θ R Q σ lv pc st :=
  fun _ _ _ _ _ _ _ _ _ _ _ C hP hS hl => lv_iinc C.1 C.2.1 d hl hj hv hn hl' (fun _ h => g _ _ _ _ _ _ _ _ _ _ _ C hP hS h)
theorem z_sub {lv' : List (Nat × Value)} (ks : List Nat) (hl' : lv_pick lv ks = lv') (g : WZ l cc nL ret own lo n θ R Q σ lv' pc st) : WZ l cc nL ret own lo n θ R Q σ lv pc st :=
  fun _ _ _ _ _ _ _ _ _ _ _ C hP hS hl => g _ _ _ _ _ _ _ _ _ _ _ C hP hS (lv_sub hl ks hl')
theorem z_iadd {x y : Int32} (d : decode cc pc = .ok (.iadd, 1)) (g : WZ l cc nL ret own lo n θ R Q σ lv (pc + 1) (.int (x + y) :: st)) : WZ l cc nL ret own lo n θ R Q σ lv pc (.int y :: .int x :: st) :=
  fun _ _ _ _ _ _ _ _ _ _ _ C hP hS hl => lv_iadd C.1 C.2.1 d (g _ _ _ _ _ _ _ _ _ _ _ C hP hS hl)
theorem z_isub {x y : Int32} (d : decode cc pc = .ok (.isub, 1)) (g : WZ l cc nL ret own lo n θ R Q σ lv (pc + 1) (.int (x - y) :: st)) : WZ l cc nL ret own lo n θ R Q σ lv pc (.int y :: .int x :: st) :=
  fun _ _ _ _ _ _ _ _ _ _ _ C hP hS hl => lv_isub C.1 C.2.1 d (g _ _ _ _ _ _ _ _ _ _ _ C hP hS hl)
theorem z_imul {x y : Int32} (d : decode cc pc = .ok (.imul, 1)) (g : WZ l cc nL ret own lo n θ R Q σ lv (pc + 1) (.int (x * y) :: st)) : WZ l cc nL ret own lo n θ R Q σ lv pc (.int y :: .int x :: st) :=
  fun _ _ _ _ _ _ _ _ _ _ _ C hP hS hl => lv_imul C.1 C.2.1 d (g _ _ _ _ _ _ _ _ _ _ _ C hP hS hl)
theorem z_iand {x y : Int32} (d : decode cc pc = .ok (.iand, 1)) (g : WZ l cc nL ret own lo n θ R Q σ lv (pc + 1) (.int (x &&& y) :: st)) : WZ l cc nL ret own lo n θ R Q σ lv pc (.int y :: .int x :: st) :=
  fun _ _ _ _ _ _ _ _ _ _ _ C hP hS hl => lv_iand C.1 C.2.1 d (g _ _ _ _ _ _ _ _ _ _ _ C hP hS hl)
theorem z_ior {x y : Int32} (d : decode cc pc = .ok (.ior, 1)) (g : WZ l cc nL ret own lo n θ R Q σ lv (pc + 1) (.int (x ||| y) :: st)) : WZ l cc nL ret own lo n θ R Q σ lv pc (.int y :: .int x :: st) :=
  fun _ _ _ _ _ _ _ _ _ _ _ C hP hS hl => lv_ior C.1 C.2.1 d (g _ _ _ _ _ _ _ _ _ _ _ C hP hS hl)
theorem z_ixor {x y : Int32} (d : decode cc pc = .ok (.ixor, 1)) (g : WZ l cc nL ret own lo n θ R Q σ lv (pc + 1) (.int (x ^^^ y) :: st)) : WZ l cc nL ret own lo n θ R Q σ lv pc (.int y :: .int x :: st) :=
  fun _ _ _ _ _ _ _ _ _ _ _ C hP hS hl => lv_ixor C.1 C.2.1 d (g _ _ _ _ _ _ _ _ _ _ _ C hP hS hl)
theorem z_ishl {x y : Int32} (d : decode cc pc = .ok (.ishl, 1)) (g : WZ l cc nL ret own lo n θ R Q σ lv (pc + 1) (.int (x <<< (y &&& 31)) :: st)) : WZ l cc nL ret own lo n θ R Q σ lv pc (.int y :: .int x :: st) :=
  fun _ _ _ _ _ _ _ _ _ _ _ C hP hS hl => lv_ishl C.1 C.2.1 d (g _ _ _ _ _ _ _ _ _ _ _ C hP hS hl)
theorem z_ishr {x y : Int32} (d : decode cc pc = .ok (.ishr, 1)) (g : WZ l cc nL ret own lo n θ R Q σ lv (pc + 1) (.int (x >>> (y &&& 31)) :: st)) : WZ l cc nL ret own lo n θ R Q σ lv pc (.int y :: .int x :: st) :=
  fun _ _ _ _ _ _ _ _ _ _ _ C hP hS hl => lv_ishr C.1 C.2.1 d (g _ _ _ _ _ _ _ _ _ _ _ C hP hS hl)
theorem z_idiv {x y : Int32} (d : decode cc pc = .ok (.idiv, 1)) (hne : (y != 0) = true) (g : WZ l cc nL ret own lo n θ R Q σ lv (pc + 1) (.int (x / y) :: st)) : WZ l cc nL ret own lo n θ R Q σ lv pc (.int y :: .int x :: st) :=
  fun _ _ _ _ _ _ _ _ _ _ _ C hP hS hl => lv_idiv C.1 C.2.1 d (by simpa using hne) (g _ _ _ _ _ _ _ _ _ _ _ C hP hS hl)
theorem z_irem {x y : Int32} (d : decode cc pc = .ok (.irem, 1)) (hne : (y != 0) = true) (g : WZ l cc nL ret own lo n θ R Q σ lv (pc + 1) (.int (x - x / y * y) :: st)) : WZ l cc nL ret own lo n θ R Q σ lv pc (.int y :: .int x :: st) :=
  fun _ _ _ _ _ _ _ _ _ _ _ C hP hS hl => lv_irem C.1 C.2.1 d (by simpa using hne) (g _ _ _ _ _ _ _ _ _ _ _ C hP hS hl)
theorem z_ineg {x : Int32} (d : decode cc pc = .ok (.ineg, 1)) (g : WZ l cc nL ret own lo n θ R Q σ lv (pc + 1) (.int (-x) :: st)) : WZ l cc nL ret own lo n θ R Q σ lv pc (.int x :: st) :=
  fun _ _ _ _ _ _ _ _ _ _ _ C hP hS hl => lv_ineg C.1 C.2.1 d (g _ _ _ _ _ _ _ _ _ _ _ C hP hS hl)
theorem z_land {x y : Int64} (d : decode cc pc = .ok (.land, 1)) (g : WZ l cc nL ret own lo n θ R Q σ lv (pc + 1) (.long (x &&& y) :: st)) : WZ l cc nL ret own lo n θ R Q σ lv pc (.long y :: .long x :: st) :=
  fun _ _ _ _ _ _ _ _ _ _ _ C hP hS hl => lv_land C.1 C.2.1 d (g _ _ _ _ _ _ _ _ _ _ _ C hP hS hl)
theorem z_lor {x y : Int64} (d : decode cc pc = .ok (.lor, 1)) (g : WZ l cc nL ret own lo n θ R Q σ lv (pc + 1) (.long (x ||| y) :: st)) : WZ l cc nL ret own lo n θ R Q σ lv pc (.long y :: .long x :: st) :=
  fun _ _ _ _ _ _ _ _ _ _ _ C hP hS hl => lv_lor C.1 C.2.1 d (g _ _ _ _ _ _ _ _ _ _ _ C hP hS hl)
theorem z_lxor {x y : Int64} (d : decode cc pc = .ok (.lxor, 1)) (g : WZ l cc nL ret own lo n θ R Q σ lv (pc + 1) (.long (x ^^^ y) :: st)) : WZ l cc nL ret own lo n θ R Q σ lv pc (.long y :: .long x :: st) :=
  fun _ _ _ _ _ _ _ _ _ _ _ C hP hS hl => lv_lxor C.1 C.2.1 d (g _ _ _ _ _ _ _ _ _ _ _ C hP hS hl)
theorem z_i2l {x : Int32} (d : decode cc pc = .ok (.i2l, 1)) (g : WZ l cc nL ret own lo n θ R Q σ lv (pc + 1) (.long (x.toInt64) :: st)) : WZ l cc nL ret own lo n θ R Q σ lv pc (.int x :: st) :=
  fun _ _ _ _ _ _ _ _ _ _ _ C hP hS hl => lv_i2l C.1 C.2.1 d rfl (g _ _ _ _ _ _ _ _ _ _ _ C hP hS hl)
theorem z_l2i {x : Int64} (d : decode cc pc = .ok (.l2i, 1)) (g : WZ l cc nL ret own lo n θ R Q σ lv (pc + 1) (.int (x.toInt32) :: st)) : WZ l cc nL ret own lo n θ R Q σ lv pc (.long x :: st) :=
  fun _ _ _ _ _ _ _ _ _ _ _ C hP hS hl => lv_l2i C.1 C.2.1 d rfl (g _ _ _ _ _ _ _ _ _ _ _ C hP hS hl)
theorem z_i2b {x : Int32} (d : decode cc pc = .ok (.i2b, 1)) (g : WZ l cc nL ret own lo n θ R Q σ lv (pc + 1) (.int (x.toInt8.toInt32) :: st)) : WZ l cc nL ret own lo n θ R Q σ lv pc (.int x :: st) :=
  fun _ _ _ _ _ _ _ _ _ _ _ C hP hS hl => lv_i2b C.1 C.2.1 d rfl (g _ _ _ _ _ _ _ _ _ _ _ C hP hS hl)
theorem z_i2s {x : Int32} (d : decode cc pc = .ok (.i2s, 1)) (g : WZ l cc nL ret own lo n θ R Q σ lv (pc + 1) (.int (x.toInt16.toInt32) :: st)) : WZ l cc nL ret own lo n θ R Q σ lv pc (.int x :: st) :=
  fun _ _ _ _ _ _ _ _ _ _ _ C hP hS hl => lv_i2s C.1 C.2.1 d rfl (g _ _ _ _ _ _ _ _ _ _ _ C hP hS hl)
theorem z_lshl {x : Int64} {y : Int32} (d : decode cc pc = .ok (.lshl, 1)) (g : WZ l cc nL ret own lo n θ R Q σ lv (pc + 1) (.long (x <<< (y.toInt64 &&& 63)) :: st)) : WZ l cc nL ret own lo n θ R Q σ lv pc (.int y :: .long x :: st) :=
  fun _ _ _ _ _ _ _ _ _ _ _ C hP hS hl => lv_lshl C.1 C.2.1 d rfl (g _ _ _ _ _ _ _ _ _ _ _ C hP hS hl)
theorem z_lshr {x : Int64} {y : Int32} (d : decode cc pc = .ok (.lshr, 1)) (g : WZ l cc nL ret own lo n θ R Q σ lv (pc + 1) (.long (x >>> (y.toInt64 &&& 63)) :: st)) : WZ l cc nL ret own lo n θ R Q σ lv pc (.int y :: .long x :: st) :=
  fun _ _ _ _ _ _ _ _ _ _ _ C hP hS hl => lv_lshr C.1 C.2.1 d rfl (g _ _ _ _ _ _ _ _ _ _ _ C hP hS hl)
theorem z_lcmp {x y : Int64} (d : decode cc pc = .ok (.lcmp, 1)) (g : WZ l cc nL ret own lo n θ R Q σ lv (pc + 1) (.int (lg_cmp x y) :: st)) : WZ l cc nL ret own lo n θ R Q σ lv pc (.long y :: .long x :: st) :=
  fun _ _ _ _ _ _ _ _ _ _ _ C hP hS hl => W.lcmp C.1 C.2.1 d (g _ _ _ _ _ _ _ _ _ _ _ C hP hS hl)
theorem z_dup {v : Value} (d : decode cc pc = .ok (.dup, 1)) (hv : v.category = 1) (g : WZ l cc nL ret own lo n θ R Q σ lv (pc + 1) (v :: v :: st)) : WZ l cc nL ret own lo n θ R Q σ lv pc (v :: st) :=
  fun _ _ _ _ _ _ _ _ _ _ _ C hP hS hl => lv_dup C.1 C.2.1 d hv (g _ _ _ _ _ _ _ _ _ _ _ C hP hS hl)
theorem z_pop {v : Value} (d : decode cc pc = .ok (.pop, 1)) (hv : v.category = 1) (g : WZ l cc nL ret own lo n θ R Q σ lv (pc + 1) st) : WZ l cc nL ret own lo n θ R Q σ lv pc (v :: st) :=
  fun _ _ _ _ _ _ _ _ _ _ _ C hP hS hl => lv_pop C.1 C.2.1 d hv (g _ _ _ _ _ _ _ _ _ _ _ C hP hS hl)
theorem z_dup2 {v w : Value} (d : decode cc pc = .ok (.dup2, 1)) (hv : v.category = 1) (hw : w.category = 1) (g : WZ l cc nL ret own lo n θ R Q σ lv (pc + 1) (v :: w :: v :: w :: st)) : WZ l cc nL ret own lo n θ R Q σ lv pc (v :: w :: st) :=
  fun _ _ _ _ _ _ _ _ _ _ _ C hP hS hl => lv_dup2_11 C.1 C.2.1 d hv hw (g _ _ _ _ _ _ _ _ _ _ _ C hP hS hl)
theorem z_goto {off : Int} {tgt : Nat} (d : decode cc pc = .ok (.goto off, 3)) (ht : (pc : Int) + off = (tgt : Int)) (g : WZ l cc nL ret own lo n θ R Q σ lv tgt st) : WZ l cc nL ret own lo n θ R Q σ lv pc st :=
  fun _ _ _ _ _ _ _ _ _ _ _ C hP hS hl => lv_goto C.1 C.2.1 d ht (g _ _ _ _ _ _ _ _ _ _ _ C hP hS hl)
theorem z_if_eq {x : Int32} {off : Int} {tgt : Nat} (d : decode cc pc = .ok (.ifCond .eq off, 3)) (ht : (pc : Int) + off = (tgt : Int)) (kt : x = 0 → WZ l cc nL ret own lo n θ R Q σ lv tgt st) (kf : ¬ x = 0 → WZ l cc nL ret own lo n θ R Q σ lv (pc + 3) st) : WZ l cc nL ret own lo n θ R Q σ lv pc (.int x :: st) :=
  fun _ _ _ _ _ _ _ _ _ _ _ C hP hS hl => lv_if_eq C.1 C.2.1 d ht (fun q => kt q _ _ _ _ _ _ _ _ _ _ _ C hP hS hl) (fun q => kf q _ _ _ _ _ _ _ _ _ _ _ C hP hS hl)
theorem z_if_ne {x : Int32} {off : Int} {tgt : Nat} (d : decode cc pc = .ok (.ifCond .ne off, 3)) (ht : (pc : Int) + off = (tgt : Int)) (kt : ¬ x = 0 → WZ l cc nL ret own lo n θ R Q σ lv tgt st) (kf : x = 0 → WZ l cc nL ret own lo n θ R Q σ lv (pc + 3) st) : WZ l cc nL ret own lo n θ R Q σ lv pc (.int x :: st) :=
  fun _ _ _ _ _ _ _ _ _ _ _ C hP hS hl => lv_if_ne C.1 C.2.1 d ht (fun q => kt q _ _ _ _ _ _ _ _ _ _ _ C hP hS hl) (fun q => kf q _ _ _ _ _ _ _ _ _ _ _ C hP hS hl)
theorem z_if_lt {x : Int32} {off : Int} {tgt : Nat} (d : decode cc pc = .ok (.ifCond .lt off, 3)) (ht : (pc : Int) + off = (tgt : Int)) (kt : x < 0 → WZ l cc nL ret own lo n θ R Q σ lv tgt st) (kf : ¬ x < 0 → WZ l cc nL ret own lo n θ R Q σ lv (pc + 3) st) : WZ l cc nL ret own lo n θ R Q σ lv pc (.int x :: st) :=
  fun _ _ _ _ _ _ _ _ _ _ _ C hP hS hl => lv_if_lt C.1 C.2.1 d ht (fun q => kt q _ _ _ _ _ _ _ _ _ _ _ C hP hS hl) (fun q => kf q _ _ _ _ _ _ _ _ _ _ _ C hP hS hl)
theorem z_if_ge {x : Int32} {off : Int} {tgt : Nat} (d : decode cc pc = .ok (.ifCond .ge off, 3)) (ht : (pc : Int) + off = (tgt : Int)) (kt : 0 ≤ x → WZ l cc nL ret own lo n θ R Q σ lv tgt st) (kf : ¬ 0 ≤ x → WZ l cc nL ret own lo n θ R Q σ lv (pc + 3) st) : WZ l cc nL ret own lo n θ R Q σ lv pc (.int x :: st) :=
  fun _ _ _ _ _ _ _ _ _ _ _ C hP hS hl => lv_if_ge C.1 C.2.1 d ht (fun q => kt q _ _ _ _ _ _ _ _ _ _ _ C hP hS hl) (fun q => kf q _ _ _ _ _ _ _ _ _ _ _ C hP hS hl)
theorem z_if_gt {x : Int32} {off : Int} {tgt : Nat} (d : decode cc pc = .ok (.ifCond .gt off, 3)) (ht : (pc : Int) + off = (tgt : Int)) (kt : 0 < x → WZ l cc nL ret own lo n θ R Q σ lv tgt st) (kf : ¬ 0 < x → WZ l cc nL ret own lo n θ R Q σ lv (pc + 3) st) : WZ l cc nL ret own lo n θ R Q σ lv pc (.int x :: st) :=
  fun _ _ _ _ _ _ _ _ _ _ _ C hP hS hl => lv_if_gt C.1 C.2.1 d ht (fun q => kt q _ _ _ _ _ _ _ _ _ _ _ C hP hS hl) (fun q => kf q _ _ _ _ _ _ _ _ _ _ _ C hP hS hl)
theorem z_if_le {x : Int32} {off : Int} {tgt : Nat} (d : decode cc pc = .ok (.ifCond .le off, 3)) (ht : (pc : Int) + off = (tgt : Int)) (kt : x ≤ 0 → WZ l cc nL ret own lo n θ R Q σ lv tgt st) (kf : ¬ x ≤ 0 → WZ l cc nL ret own lo n θ R Q σ lv (pc + 3) st) : WZ l cc nL ret own lo n θ R Q σ lv pc (.int x :: st) :=
  fun _ _ _ _ _ _ _ _ _ _ _ C hP hS hl => lv_if_le C.1 C.2.1 d ht (fun q => kt q _ _ _ _ _ _ _ _ _ _ _ C hP hS hl) (fun q => kf q _ _ _ _ _ _ _ _ _ _ _ C hP hS hl)
theorem z_icmp_eq {x y : Int32} {off : Int} {tgt : Nat} (d : decode cc pc = .ok (.if_icmp .eq off, 3)) (ht : (pc : Int) + off = (tgt : Int)) (kt : x = y → WZ l cc nL ret own lo n θ R Q σ lv tgt st) (kf : ¬ x = y → WZ l cc nL ret own lo n θ R Q σ lv (pc + 3) st) : WZ l cc nL ret own lo n θ R Q σ lv pc (.int y :: .int x :: st) :=
  fun _ _ _ _ _ _ _ _ _ _ _ C hP hS hl => lv_icmp_eq C.1 C.2.1 d ht (fun q => kt q _ _ _ _ _ _ _ _ _ _ _ C hP hS hl) (fun q => kf q _ _ _ _ _ _ _ _ _ _ _ C hP hS hl)
theorem z_icmp_ne {x y : Int32} {off : Int} {tgt : Nat} (d : decode cc pc = .ok (.if_icmp .ne off, 3)) (ht : (pc : Int) + off = (tgt : Int)) (kt : ¬ x = y → WZ l cc nL ret own lo n θ R Q σ lv tgt st) (kf : x = y → WZ l cc nL ret own lo n θ R Q σ lv (pc + 3) st) : WZ l cc nL ret own lo n θ R Q σ lv pc (.int y :: .int x :: st) :=
  fun _ _ _ _ _ _ _ _ _ _ _ C hP hS hl => lv_icmp_ne C.1 C.2.1 d ht (fun q => kt q _ _ _ _ _ _ _ _ _ _ _ C hP hS hl) (fun q => kf q _ _ _ _ _ _ _ _ _ _ _ C hP hS hl)
theorem z_icmp_lt {x y : Int32} {off : Int} {tgt : Nat} (d : decode cc pc = .ok (.if_icmp .lt off, 3)) (ht : (pc : Int) + off = (tgt : Int)) (kt : x < y → WZ l cc nL ret own lo n θ R Q σ lv tgt st) (kf : ¬ x < y → WZ l cc nL ret own lo n θ R Q σ lv (pc + 3) st) : WZ l cc nL ret own lo n θ R Q σ lv pc (.int y :: .int x :: st) :=
  fun _ _ _ _ _ _ _ _ _ _ _ C hP hS hl => lv_icmp_lt C.1 C.2.1 d ht (fun q => kt q _ _ _ _ _ _ _ _ _ _ _ C hP hS hl) (fun q => kf q _ _ _ _ _ _ _ _ _ _ _ C hP hS hl)
theorem z_icmp_ge {x y : Int32} {off : Int} {tgt : Nat} (d : decode cc pc = .ok (.if_icmp .ge off, 3)) (ht : (pc : Int) + off = (tgt : Int)) (kt : y ≤ x → WZ l cc nL ret own lo n θ R Q σ lv tgt st) (kf : ¬ y ≤ x → WZ l cc nL ret own lo n θ R Q σ lv (pc + 3) st) : WZ l cc nL ret own lo n θ R Q σ lv pc (.int y :: .int x :: st) :=
  fun _ _ _ _ _ _ _ _ _ _ _ C hP hS hl => lv_icmp_ge C.1 C.2.1 d ht (fun q => kt q _ _ _ _ _ _ _ _ _ _ _ C hP hS hl) (fun q => kf q _ _ _ _ _ _ _ _ _ _ _ C hP hS hl)
theorem z_icmp_gt {x y : Int32} {off : Int} {tgt : Nat} (d : decode cc pc = .ok (.if_icmp .gt off, 3)) (ht : (pc : Int) + off = (tgt : Int)) (kt : y < x → WZ l cc nL ret own lo n θ R Q σ lv tgt st) (kf : ¬ y < x → WZ l cc nL ret own lo n θ R Q σ lv (pc + 3) st) : WZ l cc nL ret own lo n θ R Q σ lv pc (.int y :: .int x :: st) :=
  fun _ _ _ _ _ _ _ _ _ _ _ C hP hS hl => lv_icmp_gt C.1 C.2.1 d ht (fun q => kt q _ _ _ _ _ _ _ _ _ _ _ C hP hS hl) (fun q => kf q _ _ _ _ _ _ _ _ _ _ _ C hP hS hl)
theorem z_icmp_le {x y : Int32} {off : Int} {tgt : Nat} (d : decode cc pc = .ok (.if_icmp .le off, 3)) (ht : (pc : Int) + off = (tgt : Int)) (kt : x ≤ y → WZ l cc nL ret own lo n θ R Q σ lv tgt st) (kf : ¬ x ≤ y → WZ l cc nL ret own lo n θ R Q σ lv (pc + 3) st) : WZ l cc nL ret own lo n θ R Q σ lv pc (.int y :: .int x :: st) :=
  fun _ _ _ _ _ _ _ _ _ _ _ C hP hS hl => lv_icmp_le C.1 C.2.1 d ht (fun q => kt q _ _ _ _ _ _ _ _ _ _ _ C hP hS hl) (fun q => kf q _ _ _ _ _ _ _ _ _ _ _ C hP hS hl)
end RULES
