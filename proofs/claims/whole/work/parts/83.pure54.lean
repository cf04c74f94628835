/-! CONSTRUCTORS: the rules: a world that grows; its first cell is the object itself -/
def kn1 : Cond := .methodLinkNest "BakedBefore$Stand" 19 ⟨"BakedBefore$Oven", "<init>", "()V"⟩ "BakedBefore"
def kn2 : Cond := .methodLinkNest "BakedBefore$Stand" 26 ⟨"BakedBefore$Book", "<init>", "()V"⟩ "BakedBefore"
def kn3 : Cond := .methodLinkNest "BakedBefore" 23 ⟨"BakedBefore$Reade\x72", "<init>", "()V"⟩ "BakedBefore"
def kn4 : Cond := .methodLinkNest "BakedBefore" 34 ⟨"BakedBefore$Kiln", "<init>", "()V"⟩ "BakedBefore"
def kn5 : Cond := .methodLinkNest "BakedBefore$Aske\x72" 11 ⟨"BakedBefore$Oven", "<init>", "()V"⟩ "BakedBefore"
def kn6 : Cond := .methodLinkNest "BakedBefore$Search" 32 ⟨"BakedBefore$Oven", "<init>", "()V"⟩ "BakedBefore"
def kn7 : Cond := .methodLinkNest "BakedBefore" 66 ⟨"BakedBefore$Acts", "<init>", "()V"⟩ "BakedBefore"
/-- rows of rows of longs are known -/
def kAL (U : State) : Prop := ∃ (comp cA : ClassId) (kA : Class), U.vm.findClass (FieldType.array .long).toString = some comp ∧ U.vm.classes[cA]? = some kA ∧ kA.kind = .array comp (.array .long) ∧ U.vm.findClass ("[" ++ (FieldType.array .long).toString) = some cA
theorem kAL.moved {u U : State} (hvm : u.vm.Alike U.vm) (h : kAL u) : kAL U := by
  obtain ⟨comp, cA, kA, h1, h2, h3, h4⟩ := h
  obtain ⟨k', hk', he⟩ := hvm.2.2 _ _ h2
  exact ⟨comp, cA, k', by rw [hvm.findClass]; exact h1, hk', by rw [he]; exact h3, by rw [hvm.findClass]; exact h4⟩
def kNX (U : State) : Prop := (va_Nw kn1 U ∧ va_Nw kn2 U ∧ va_Nw kn3 U ∧ va_Nw kn4 U ∧ va_Nw kn5 U ∧ va_Nw kn6 U ∧ va_Nw kn7 U) ∧ (va_AO "BakedBefore$Loaf" U ∧ va_AO "BakedBefore$Kiln" U ∧ va_AO "BakedBefore$Oven" U) ∧ kAL U
theorem kNX.warm {s U : State} (hW : s.WarmedH U.vm) (h : kNX s) : kNX U := by
  obtain ⟨⟨a1, a2, a3, a4, a5, a6, a7⟩, ⟨b1, b2, b3⟩, c⟩ := h
  have hv := hW.alike
  exact ⟨⟨va_Nw.warmM hW a1, va_Nw.warmM hW a2, va_Nw.warmM hW a3, va_Nw.warmM hW a4, va_Nw.warmM hW a5, va_Nw.warmM hW a6, va_Nw.warmM hW a7⟩, ⟨b1.moved hv, b2.moved hv, b3.moved hv⟩, c.moved hv⟩
theorem kNX.calling {U : State} (g : JFrame) (mk : MethodId) (a : Array Value) (h : kNX U) : kNX (U.calling g mk a) := by
  obtain ⟨⟨a1, a2, a3, a4, a5, a6, a7⟩, ⟨b1, b2, b3⟩, c⟩ := h
  have hv : U.vm.Alike (U.calling g mk a).vm := Vm.Alike.refl U.vm
  have hu : U.vm = (U.calling g mk a).vm := rfl
  exact ⟨⟨va_Nw.same rfl hu a1, va_Nw.same rfl hu a2, va_Nw.same rfl hu a3, va_Nw.same rfl hu a4, va_Nw.same rfl hu a5, va_Nw.same rfl hu a6, va_Nw.same rfl hu a7⟩, ⟨b1.moved hv, b2.moved hv, b3.moved hv⟩, c.moved hv⟩
def kC (p : Program) (s : State) (m : MethodId) (args : Array Value) (meth : Method) (c : Code) (cc : ByteArray) (nL : Nat) (own : String) (θ : ZT) (A : Nat → Prop) : Prop :=
  p.tables.exec = Jvm.exec ∧ c.code = cc ∧ c.maxLocals = nL ∧ s.vm.findClass own = some m.cls ∧ (∀ w ∈ zW0, w.before args s = true) ∧ meth.locks = false ∧ meth.sig.returnType = none ∧ va_K (zD θ) zcl (zty θ) s ∧ (∀ q : Nat, s.heap.size ≤ q → A q) ∧ kNX s ∧ meth.name = "<init>"
def WK (l : Launch) (cc : ByteArray) (nL : Nat) (own : String) (θ : ZT) (R : Room) (Q : Array Value → State → Outcome → State → Prop) (mc ms : Nat) (A : Nat → Prop) (ws : va_W) (lv : List (Nat × Value)) (pc : Nat) (st : List Value) (cells slots : Nat) : Prop :=
  ∀ (p : Program) (e : Env) (s : State) (m : MethodId) (args : Array Value) (below : List Frame) (meth : Method) (c : Code) (H : Heap) (locs : List Loc) (ls : Array Slot), kC p s m args meth c cc nL own θ A → va_P (zD θ) zcl ws H → va_D A ws → va_S A s.heap H locs → lv_has ls nL lv →
    W p l e R s m args below meth c H locs cells slots (MQ below Q args s mc ms A) (F0 m pc ls st)
def kPre (θ : ZT) (h0 : Nat) (e0 : va_E) (sz : Nat) (U : State) : Prop := U.heap.size = sz ∧ va_P (zD θ) zcl [(h0, e0)] U.heap ∧ va_K (zD θ) zcl (zty θ) U ∧ kNX U
theorem kPre.blind {θ : ZT} {h0 : Nat} {e0 : va_E} {sz : Nat} {av : List Value} : FrameBlind (va_Pc av (kPre θ h0 e0 sz)) := by
  intro a U g mk h
  obtain ⟨h0, h1, h2, h3, h4⟩ := h
  exact ⟨h0, h1, h2, va_K.moved (u := U) (U := U.calling g mk a) (Vm.Alike.refl U.vm) h3, h4.calling g mk a⟩
abbrev kMet (l : Launch) (θ : ZT) (y : MethodName) (b : ByteArray) (nL : Nat) (rm : Room) (av : List Value) (sz h0 : Nat) (e0 : va_E) (mc ms : Nat) (ws1 : (Nat → Nat) → va_W) : Prop :=
  Met l y (Cond.code y b nL none :: zW0) rm (va_Pc (.ref h0 :: av) (kPre θ h0 e0 sz)) (va_Qv (fun _ : Nat → Nat => True) (fun u t => va_P (zD θ) zcl (ws1 u) t.heap ∧ va_D (va_A [(h0, e0)] sz) (ws1 u)) (va_A [(h0, e0)] sz)) mc ms (va_A [(h0, e0)] sz)
abbrev kQ (θ : ZT) (sz h0 : Nat) (e0 : va_E) (ws1 : (Nat → Nat) → va_W) : Array Value → State → Outcome → State → Prop :=
  va_Qv (fun _ : Nat → Nat => True) (fun u t => va_P (zD θ) zcl (ws1 u) t.heap ∧ va_D (va_A [(h0, e0)] sz) (ws1 u)) (va_A [(h0, e0)] sz)
theorem va_D1 {q sz : Nat} {e : va_E} : va_D (va_A [(q, e)] sz) [(q, e)] := by
  refine va_D.self (A := fun _ => True) ⟨fun i j a b ha hb _ => ?_, fun _ _ _ => trivial⟩
  have h1 := (List.getElem?_eq_some_iff.mp ha).1
  have h2 := (List.getElem?_eq_some_iff.mp hb).1
  simp only [List.length_cons, List.length_nil] at h1 h2
  omega
theorem k_met {l : Launch} {θ : ZT} {y : MethodName} {b : ByteArray} {nL : Nat} {rm : Room} {av : List Value} {sz h0 : Nat} {e0 : va_E} {mc ms : Nat} {ws1 : (Nat → Nat) → va_W} {lv : List (Nat × Value)} (hy : plainName y.cls = true) (hn : y.name = "<init>") (hlv : lv_args 0 (.ref h0 :: av) = lv) (hlen : (lg_sl (.ref h0 :: av)).length ≤ nL)
    (g : WK l b nL y.cls θ rm (kQ θ sz h0 e0 ws1) mc ms (va_A [(h0, e0)] sz) [(h0, e0)] lv 0 [] 0 0) : kMet l θ y b nL rm av sz h0 e0 mc ms ws1 := by
  refine Met.ofW (cc := b) (maxL := nL) (ret := none) hy rfl ?_
  intro p e s m args below meth c s₁ B hml hv
  obtain ⟨rfl, hsz, hP, hK, hX⟩ := hv
  have hts := atoms_spec (ws := Cond.code y b nL none :: zW0) B.pre
  have hl := lv_entry (.ref h0 :: av) (n := nL) hlen
  rw [lg_entry_eq]
  rw [hlv] at hl
  exact g p e s m _ below meth c s.heap [] _ ⟨B.exec, B.bytes, hml, findClass_of_methodNamed B.named, fun w hw => hts w (List.mem_cons_of_mem _ hw), B.notSynchronized, B.returns, hK, fun q h => Or.inr (by omega), hX, (name_of_methodNamed B.named B.method).1.trans hn⟩ hP va_D1 va_S.rf hl
section KRULES
variable {l : Launch} {cc : ByteArray} {nL : Nat} {own : String} {θ : ZT} {R : Room} {Q : Array Value → State → Outcome → State → Prop} {mc ms : Nat} {A : Nat → Prop} {ws : va_W} {lv : List (Nat × Value)} {pc : Nat} {st : List Value} {cells slots : Nat}
theorem k_iconst {k : Int} {v : Int32} (d : decode cc pc = .ok (.iconst k, 1)) (hv : Int32.ofInt k = v) (g : WK l cc nL own θ R Q mc ms A ws lv (pc + 1) (.int v :: st) cells slots) : WK l cc nL own θ R Q mc ms A ws lv pc st cells slots :=
  fun _ _ _ _ _ _ _ _ _ _ _ C hP hD hS hl => lv_iconst C.1 C.2.1 d hv (g _ _ _ _ _ _ _ _ _ _ _ C hP hD hS hl)
theorem k_bipush {k : Int} {v : Int32} (d : decode cc pc = .ok (.bipush k, 2)) (hv : (Int8.ofInt k).toInt32 = v) (g : WK l cc nL own θ R Q mc ms A ws lv (pc + 2) (.int v :: st) cells slots) : WK l cc nL own θ R Q mc ms A ws lv pc st cells slots :=
  fun _ _ _ _ _ _ _ _ _ _ _ C hP hD hS hl => lv_bipush C.1 C.2.1 d hv (g _ _ _ _ _ _ _ _ _ _ _ C hP hD hS hl)
theorem k_sipush {k : Int} {v : Int32} (d : decode cc pc = .ok (.sipush k, 3)) (hv : (Int16.ofInt k).toInt32 = v) (g : WK l cc nL own θ R Q mc ms A ws lv (pc + 3) (.int v :: st) cells slots) : WK l cc nL own θ R Q mc ms A ws lv pc st cells slots :=
  fun _ _ _ _ _ _ _ _ _ _ _ C hP hD hS hl => lv_sipush C.1 C.2.1 d hv (g _ _ _ _ _ _ _ _ _ _ _ C hP hD hS hl)
theorem k_iload_n {k : Fin 4} {i : Nat} (j : Nat) {x : Int32} (d : decode cc pc = .ok (.iload_n k, 1)) (hi : (k : Nat) = i) (hj : lv[j]? = some (i, .int x)) (g : WK l cc nL own θ R Q mc ms A ws lv (pc + 1) (.int x :: st) cells slots) : WK l cc nL own θ R Q mc ms A ws lv pc st cells slots :=
  fun _ _ _ _ _ _ _ _ _ _ _ C hP hD hS hl => lv_iload_n C.1 C.2.1 d hi (lv_at hl j hj) (g _ _ _ _ _ _ _ _ _ _ _ C hP hD hS hl)
theorem k_aload_n {k : Fin 4} {i : Nat} (j : Nat) {x : Nat} (d : decode cc pc = .ok (.aload_n k, 1)) (hi : (k : Nat) = i) (hj : lv[j]? = some (i, .ref x)) (g : WK l cc nL own θ R Q mc ms A ws lv (pc + 1) (.ref x :: st) cells slots) : WK l cc nL own θ R Q mc ms A ws lv pc st cells slots :=
  fun _ _ _ _ _ _ _ _ _ _ _ C hP hD hS hl => lv_aload_n C.1 C.2.1 d hi (lv_at hl j hj) (g _ _ _ _ _ _ _ _ _ _ _ C hP hD hS hl)
theorem k_istore_n {k : Fin 4} {i : Nat} {x : Int32} {lv' : List (Nat × Value)} (d : decode cc pc = .ok (.istore_n k, 1)) (hi : (k : Nat) = i) (hn : i < nL) (hl' : (i, Value.int x) :: lv.filter (fun q => !(q.1 == i) && !(q.1 + 1 == i && q.2.category == 2)) = lv') (g : WK l cc nL own θ R Q mc ms A ws lv' (pc + 1) st cells slots) : WK l cc nL own θ R Q mc ms A ws lv pc (.int x :: st) cells slots :=
  fun _ _ _ _ _ _ _ _ _ _ _ C hP hD hS hl => lv_istore_n C.1 C.2.1 d hi hl hn hl' (fun _ h => g _ _ _ _ _ _ _ _ _ _ _ C hP hD hS h)
theorem k_iinc {i : Nat} (j : Nat) {k : Int} {x v : Int32} {lv' : List (Nat × Value)} (d : decode cc pc = .ok (.iinc i k, 3)) (hj : lv[j]? = some (i, .int x)) (hv : x + Int32.ofInt k = v) (hn : i < nL) (hl' : (i, Value.int v) :: lv.filter (fun q => !(q.1 == i) && !(q.1 + 1 == i && q.2.category == 2)) = lv') (g : WK l cc nL own θ R Q mc ms A ws lv' (pc + 3) st cells slots) : WK l cc nL own θ R Q mc ms A ws lv pc st cells slots :=
  fun _ _ _ _ _ _ _ _ _ _ _ C hP hD hS hl => lv_iinc C.1 C.2.1 d hl hj hv hn hl' (fun _ h => g _ _ _ _ _ _ _ _ _ _ _ C hP hD hS h)
theorem k_dup {v : Value} (d : decode cc pc = .ok (.dup, 1)) (hv : v.category = 1) (g : WK l cc nL own θ R Q mc ms A ws lv (pc + 1) (v :: v :: st) cells slots) : WK l cc nL own θ R Q mc ms A ws lv pc (v :: st) cells slots :=
  fun _ _ _ _ _ _ _ _ _ _ _ C hP hD hS hl => lv_dup C.1 C.2.1 d hv (g _ _ _ _ _ _ _ _ _ _ _ C hP hD hS hl)
theorem k_goto {off : Int} {tgt : Nat} (d : decode cc pc = .ok (.goto off, 3)) (ht : (pc : Int) + off = (tgt : Int)) (g : WK l cc nL own θ R Q mc ms A ws lv tgt st cells slots) : WK l cc nL own θ R Q mc ms A ws lv pc st cells slots :=
  fun _ _ _ _ _ _ _ _ _ _ _ C hP hD hS hl => lv_goto C.1 C.2.1 d ht (g _ _ _ _ _ _ _ _ _ _ _ C hP hD hS hl)
theorem k_ge_t {x y : Int32} {off : Int} {tgt : Nat} (h : y ≤ x) (d : decode cc pc = .ok (.if_icmp .ge off, 3)) (ht : (pc : Int) + off = (tgt : Int)) (g : WK l cc nL own θ R Q mc ms A ws lv tgt st cells slots) : WK l cc nL own θ R Q mc ms A ws lv pc (.int y :: .int x :: st) cells slots :=
  fun _ _ _ _ _ _ _ _ _ _ _ C hP hD hS hl => lv_icmp_ge C.1 C.2.1 d ht (fun _ => g _ _ _ _ _ _ _ _ _ _ _ C hP hD hS hl) (fun q => absurd h q)
theorem k_ge_f {x y : Int32} {off : Int} {tgt : Nat} (h : ¬ y ≤ x) (d : decode cc pc = .ok (.if_icmp .ge off, 3)) (ht : (pc : Int) + off = (tgt : Int)) (g : WK l cc nL own θ R Q mc ms A ws lv (pc + 3) st cells slots) : WK l cc nL own θ R Q mc ms A ws lv pc (.int y :: .int x :: st) cells slots :=
  fun _ _ _ _ _ _ _ _ _ _ _ C hP hD hS hl => lv_icmp_ge C.1 C.2.1 d ht (fun q => absurd q h) (fun _ => g _ _ _ _ _ _ _ _ _ _ _ C hP hD hS hl)
theorem k_objInit {index a : Nat} (d : decode cc pc = .ok (.invokespecial index, 3)) (hlink : Cond.methodLink own index Lib.objectInit ∈ zW0) (hinst : Cond.instanceMethod Lib.objectInit ∈ zW0) (hcode : Cond.code Lib.objectInit ⟨#[0xb1]⟩ 1 none ∈ zW0) (hf : 1 ≤ R.frames) (hlo : (st.map fun v => v.category).sum + 12 ≤ R.locals)
    (g : WK l cc nL own θ R Q mc ms A ws lv (pc + 3) st cells slots) : WK l cc nL own θ R Q mc ms A ws lv pc (.ref a :: st) cells slots := by
  intro p e s m args below meth c H locs ls C hP hD hS hl
  refine W.objInit C.1 C.2.1 C.2.2.2.1 (C.2.2.2.2.1 _ hlink) (C.2.2.2.2.1 _ hinst) (C.2.2.2.2.1 _ hcode) rfl (hl.1.trans C.2.2.1.symm) rfl d hf (by show 2 * 0 + _ + 12 ≤ _; omega) ?_
  exact W.eq (g2 := F0 m (pc + 3) ls st) rfl (g _ _ _ _ _ _ _ _ _ _ _ C hP hD hS hl)
theorem k_new {C : String} {T : u_T} {N ci index : Nat} {ty : Nat → FieldType} {fs : List Value} (d : decode cc pc = .ok (.new index, 3)) (hin : ∀ w ∈ u_ws C T N, w ∈ zW0) (hty : ∀ k, k < N → parseFieldDescriptor (T k).2.2.1 = some (ty k)) (hcl : Cond.classLink own index C ∈ zW0) (hinst : Cond.instantiable C N ∈ zW0) (hini : Cond.initialized C ∈ zW0) (hc : zcl[ci]? = some (C, T, N)) (hfs : ∀ j, j < N → defaultValue (ty j) = vp_V fs j)
    (hcells : cells + 1 ≤ R.cells) (hslots : slots + N ≤ R.slots) (g : ∀ q, WK l cc nL own θ R Q mc ms A (ws ++ [(q, .inr (ci, fs))]) lv (pc + 3) (.ref q :: st) (cells + 1) (slots + N)) : WK l cc nL own θ R Q mc ms A ws lv pc st cells slots :=
  fun _ _ _ _ _ _ _ _ _ _ _ Z hP hD hS hl => va_new Z.1 Z.2.1 Z.2.2.2.2.1 hin ty hty Z.2.2.2.1 (Z.2.2.2.2.1 _ hcl) (Z.2.2.2.2.1 _ hinst) (Z.2.2.2.2.1 _ hini) Z.2.2.2.2.2.2.2.1 hP hD hS Z.2.2.2.2.2.2.2.2.1 hc hfs hcells hslots d (fun q _ hP hD hS => g q _ _ _ _ _ _ _ _ _ _ _ Z hP hD hS hl)
theorem va_Pe {D : va_G} {w w' : va_W} {H : Heap} (e : w = w') (h : va_P D zcl w H) : va_P D zcl w' H := e ▸ h
theorem va_De {A : Nat → Prop} {w w' : va_W} (e : w = w') (h : va_D A w) : va_D A w' := e ▸ h
/-- an array of whole numbers: its class is the one that is known -/
theorem k_newa {atype : ArrayType} {ty : FieldType} {t0 N' : Nat} {n : Int32} {a0 : vp_A} (d : decode cc pc = .ok (.newarray atype, 2)) (hty : newarray.typeOf atype = ty) (harr : Cond.arrayClass ty ∈ zW0) (ht : ∃ k, (zty θ)[t0]? = some (zA θ k, ty) ∧ k = t0) (hob : ∀ U cA, va_RA U cA ty → U.vm.findClass ("[" ++ ty.toString) = some cA) (ha : ∀ cA : ClassId, vp_cell cA a0 = arrV cA N' (fun _ => defaultValue ty)) (hn : ¬ n < 0) (hN : n.toNatClampNeg = N') (hbytes : N' * componentBytes ty ≤ 536870912)
    (hcells : cells + 1 ≤ R.cells) (hslots : slots + N' ≤ R.slots) (g : ∀ q, WK l cc nL own θ R Q mc ms A (ws ++ [(q, .inl (zA θ t0, a0))]) lv (pc + 2) (.ref q :: st) (cells + 1) (slots + N')) : WK l cc nL own θ R Q mc ms A ws lv pc (.int n :: st) cells slots := by
  intro p e s m args below meth c H locs ls Z hP hD hS hl
  subst hty
  obtain ⟨k, ht, rfl⟩ := ht
  have hK := Z.2.2.2.2.2.2.2.1
  refine va_newa (atype := atype) Z.1 Z.2.1 (Z.2.2.2.2.1 _ harr) rfl hK hP hD hS Z.2.2.2.2.2.2.2.2.1 ha hn hN hbytes hcells hslots d (fun q cA H1 hK1 hP1 hD1 hS1 => ?_)
  have e1 := hob s _ (hK.2 k _ ht).2
  have e2 := hob s cA (hK1.2 (zty θ).length (cA, newarray.typeOf atype) (by rw [List.getElem?_append_right (Nat.le_refl _), Nat.sub_self]; rfl)).2
  have e3 : cA = zA θ k := Option.some.inj (e2.symm.trans e1)
  subst e3
  exact g q _ _ _ _ _ _ _ _ _ _ _ Z hP1 hD1 hS1 hl
theorem k_newq {C : String} {t0 index N' : Nat} {n : Int32} (d : decode cc pc = .ok (.anewarray index, 3)) (hcl : Cond.classLink own index C ∈ zW0) (hover : ∀ U, kNX U → va_AO C U) (ht : ∃ k, (zty θ)[t0]? = some (zA θ k, .object C) ∧ k = t0) (hn : ¬ n < 0) (hN : n.toNatClampNeg = N') (hbytes : N' * 4 ≤ 536870912)
    (hcells : cells + 1 ≤ R.cells) (hslots : slots + N' ≤ R.slots) (g : ∀ q, WK l cc nL own θ R Q mc ms A (ws ++ [(q, .inl (zA θ t0, N', .inr (.inr (.inr (.inr (fun _ => none))))))]) lv (pc + 3) (.ref q :: st) (cells + 1) (slots + N')) : WK l cc nL own θ R Q mc ms A ws lv pc (.int n :: st) cells slots := by
  intro p e s m args below meth c H locs ls Z hP hD hS hl
  obtain ⟨k, ht, rfl⟩ := ht
  have hK := Z.2.2.2.2.2.2.2.1
  refine va_newq Z.1 Z.2.1 Z.2.2.2.1 (Z.2.2.2.2.1 _ hcl) (hover s Z.2.2.2.2.2.2.2.2.2.1) hK hP hD hS Z.2.2.2.2.2.2.2.2.1 hn hN hbytes hcells hslots d (fun q cA H1 hK1 hP1 hD1 hS1 => ?_)
  obtain ⟨_, _, -, -, -, e1⟩ := (hK.2 k _ ht).2
  obtain ⟨_, _, -, -, -, e2⟩ := (hK1.2 (zty θ).length (cA, .object C) (by rw [List.getElem?_append_right (Nat.le_refl _), Nat.sub_self]; rfl)).2
  have e3 : cA = zA θ k := Option.some.inj (e2.symm.trans e1)
  subst e3
  exact g q _ _ _ _ _ _ _ _ _ _ _ Z hP1 hD1 hS1 hl
theorem k_putF {C : String} {T : u_T} {N ci index k a : Nat} {ty0 : Nat → FieldType} {fs fs' : List Value} {v : Value} {ty : FieldType} (d : decode cc pc = .ok (.putfield index, 3)) (he : ws[0]? = some (a, .inr (ci, fs))) (hin : ∀ w ∈ u_ws C T N, w ∈ zW0) (hty : ∀ k, k < N → parseFieldDescriptor (T k).2.2.1 = some (ty0 k)) (hnm : ∀ a, a < N → ∀ b, b < N → a ≠ b → (T a).2.1 ≠ (T b).2.1) (hc : zcl[ci]? = some (C, T, N)) (hk : k < N) (hlink : Cond.fieldLink own index (T k).1 (T k).2.1 (T k).2.2.1 ∈ zW0) (hdecl : (T k).1 = own) (hd : parseFieldDescriptor (T k).2.2.1 = some ty) (hn : narrow ty v = v) (hfit : fits ty v = true) (hl9 : k < fs.length) (hfs : fs.set k v = fs')
    (g : WK l cc nL own θ R Q mc ms A (ws.set 0 (a, .inr (ci, fs'))) lv (pc + 3) st cells slots) : WK l cc nL own θ R Q mc ms A ws lv pc (v :: .ref a :: st) cells slots := by
  intro p e s m args below meth c H locs ls Z hP hD hS hl
  subst hfs
  by_cases hfin : (T k).2.2.2 = true
  · exact va_putF (ref := (T k).1) Z.1 Z.2.1 Z.2.2.2.2.1 hin ty0 hty hnm Z.2.2.2.1 Z.2.2.2.2.2.2.2.1 hP hD hS 0 he hc k hk (Z.2.2.2.2.1 _ hlink) (fun _ h => h) hfin Z.2.2.2.2.2.2.2.2.2.2 hdecl hd hn hfit hl9 d (fun H1 locs1 hP hD hS => g _ _ _ _ _ _ _ _ _ _ _ Z hP hD hS hl)
  · exact va_put (ref := (T k).1) Z.1 Z.2.1 Z.2.2.2.2.1 hin ty0 hty hnm Z.2.2.2.1 Z.2.2.2.2.2.2.2.1 hP hD hS 0 he hc k hk (Z.2.2.2.2.1 _ hlink) (fun _ h => h) (by simpa using hfin) hd hn hfit hl9 d (fun H1 locs1 hP hD hS => g _ _ _ _ _ _ _ _ _ _ _ Z hP hD hS hl)
theorem k_get {C : String} {T : u_T} {N ci index k a : Nat} {fs : List Value} {v : Value} (d : decode cc pc = .ok (.getfield index, 3)) (he : ws[0]? = some (a, .inr (ci, fs))) (hin : ∀ w ∈ u_ws C T N, w ∈ zW0) (hc : zcl[ci]? = some (C, T, N)) (hk : k < N) (hlink : Cond.fieldLink own index (T k).1 (T k).2.1 (T k).2.2.1 ∈ zW0) (hv : fs[k]? = some v)
    (g : WK l cc nL own θ R Q mc ms A ws lv (pc + 3) (v :: st) cells slots) : WK l cc nL own θ R Q mc ms A ws lv pc (.ref a :: st) cells slots :=
  fun _ _ _ _ _ _ _ _ _ _ _ Z hP hD hS hl => va_get (ref := (T k).1) Z.1 Z.2.1 Z.2.2.2.2.1 hin Z.2.2.2.1 Z.2.2.2.2.2.2.2.1 hP 0 he hc k hk (Z.2.2.2.2.1 _ hlink) (fun _ h => h) hv d (g _ _ _ _ _ _ _ _ _ _ _ Z hP hD hS hl)
theorem k_aast {q0 qk t0 ci n v a : Nat} {r : vw_C} {vs : List Value} {f f' : Nat → Option Nat} {i : Int32} {ws' : va_W} (d : decode cc pc = .ok (.aastore, 1)) (ha : ws[q0]? = some (a, .inl (zA θ t0, n, .inr (.inr (.inr (.inr f)))))) (ht : (zty θ)[t0]? = some (zA θ t0, .object r.1)) (hv : ws[qk]? = some (v, .inr (ci, vs))) (hc : zcl[ci]? = some r) (hi : zin i n = true) (hf : va_up f i.toNatClampNeg (some v) = f') (hw : ws.set q0 (a, .inl (zA θ t0, n, .inr (.inr (.inr (.inr f'))))) = ws')
    (g : WK l cc nL own θ R Q mc ms A ws' lv (pc + 1) st cells slots) : WK l cc nL own θ R Q mc ms A ws lv pc (.ref v :: .int i :: .ref a :: st) cells slots := by
  intro p e s m args below meth c H locs ls Z hP hD hS hl
  subst hf; subst hw
  exact va_astq Z.1 Z.2.1 Z.2.2.2.2.2.2.2.1 hP hD hS q0 t0 qk ci ha ht hv hc (zin_i hi) d (fun H1 locs1 hP hD hS => g _ _ _ _ _ _ _ _ _ _ _ Z hP hD hS hl)
theorem k_iast {q0 n a : Nat} {f f' : Nat → Int32} {i x : Int32} {ws' : va_W} (d : decode cc pc = .ok (.iastore, 1)) (ha : ws[q0]? = some (a, .inl (zA θ 0, n, .inl f))) (hi : zin i n = true) (hf : upd f i.toNatClampNeg x = f') (hw : ws.set q0 (a, .inl (zA θ 0, n, .inl f')) = ws')
    (g : WK l cc nL own θ R Q mc ms A ws' lv (pc + 1) st cells slots) : WK l cc nL own θ R Q mc ms A ws lv pc (.int x :: .int i :: .ref a :: st) cells slots := by
  intro p e s m args below meth c H locs ls Z hP hD hS hl
  subst hf; subst hw
  exact va_iast Z.1 Z.2.1 Z.2.2.2.2.2.2.2.1 hP hD hS q0 0 ha rfl (zin_i hi) d (fun H1 locs1 hP hD hS => g _ _ _ _ _ _ _ _ _ _ _ Z hP hD hS hl)
theorem k_alen {q0 t0 a : Nat} {x : vp_A} {ty : FieldType} {v : Int32} (d : decode cc pc = .ok (.arraylength, 1)) (ha : ws[q0]? = some (a, .inl (zA θ t0, x))) (ht : (zty θ)[t0]? = some (zA θ t0, ty)) (hv : Int32.ofNat x.1 = v)
    (g : WK l cc nL own θ R Q mc ms A ws lv (pc + 1) (.int v :: st) cells slots) : WK l cc nL own θ R Q mc ms A ws lv pc (.ref a :: st) cells slots :=
  fun _ _ _ _ _ _ _ _ _ _ _ Z hP hD hS hl => va_alen Z.1 Z.2.1 Z.2.2.2.2.2.2.2.1 hP q0 t0 ha ht hv d (g _ _ _ _ _ _ _ _ _ _ _ Z hP hD hS hl)
theorem k_ret {sz h0 : Nat} {e0 : va_E} {ws1 : (Nat → Nat) → va_W} (d : decode cc pc = .ok (.return_, 1)) (u : Nat → Nat) (hu : ws1 u = ws) : WK l cc nL own θ R (kQ θ sz h0 e0 ws1) cells slots (va_A [(h0, e0)] sz) ws lv pc [] cells slots :=
  fun _ _ _ _ _ _ _ _ _ _ _ Z hP hD hS hl => W.vret (hlocks := Z.2.2.2.2.2.1) Z.1 Z.2.1 Z.2.2.2.2.2.2.1 (fun t ht hW => ⟨⟨u, rfl, trivial, by rw [ht, hu]; exact hP, by rw [hu]; exact hD⟩, hS.F ht⟩) hS.2.2 d
end KRULES
