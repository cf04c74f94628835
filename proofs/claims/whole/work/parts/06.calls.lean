/-! THE RULES, on: calls -/
def zcf (y : MethodName) (b : ByteArray) (nM : Nat) (rt : Option FieldType) (k : Nat) : Prop :=
  Cond.code y b nM rt ∈ zW0 ∧ Cond.initialized y.cls ∈ zW0 ∧ (y.cls ≠ "java/lang/invoke/MethodHandle" ∧ y.cls ≠ "java/lang/invoke/VarHandle" ∧ (parseMethodDescriptor y.desc).map (fun d => d.parameters.length) = some k)
def zcfV (y : MethodName) (b : ByteArray) (nM : Nat) (rt : Option FieldType) (k : Nat) : Prop := zcf y b nM rt k ∧ Cond.instanceMethod y ∈ zW0 ∧ Cond.selects y.cls y y ∈ zW0
def zcfS (y : MethodName) (b : ByteArray) (nM : Nat) (rt : Option FieldType) (k : Nat) : Prop := zcf y b nM rt k ∧ Cond.static y ∈ zW0
def zrm (f c : Nat) : Room := { frames := f, cells := 0, slots := 0, locals := c }
section CALLS
variable {l : Launch} {cc : ByteArray} {nL : Nat} {ret : Option FieldType} {own : String} {lo n : Nat} {θ : ZT} {R : Room} {Q : Array Value → State → Outcome → State → Prop} {σ : ZM} {lv : List (Nat × Value)} {pc : Nat} {st : List Value}
theorem z_run {α : Type} {mk : ZT → α → Option Value} {res : α × ZM} {st1 : List Value} {p : Program} {e : Env} {s : State} {m : MethodId} {args : Array Value} {below : List Frame} {meth : Method} {c : Code} {H : Heap} {locs : List Loc} {ls : Array Slot} {a : Array Value} (Z : zC p s m args meth c cc nL ret own lo n θ) (hS : va_S (zAA lo n θ) s.heap H locs) (hl : lv_has ls nL lv)
    (hr : va_Run p l e R s m args below meth c H locs 0 0 0 0 (F0 m pc ls st1) st (zQ mk lo n θ res a) (zAA lo n θ)) (g : WZ l cc nL ret own lo n θ R Q res.2 lv (pc + 3) ((mk θ res.1).toList ++ st)) :
    W p l e R s m args below meth c H locs 0 0 (MQ below Q args s 0 0 (zAA lo n θ)) (F0 m pc ls st1) := by
  intro T hT X
  obtain ⟨v, st₀, t, T', L, h0, X', hL, e1, e2, ⟨⟨hv, hb⟩, hz, hk⟩, sx⟩ := hr T hT X
  cases hv
  rw [h0] at hz hk
  obtain ⟨t2, a1, b1⟩ := g p e s m args below meth c T'.heap (locs ++ L) ls Z (by rw [e1]; exact hb.1)
    ⟨Nat.le_trans hS.1 (by rw [e1]; exact hz), fun q h1 h2 => by rw [e1, hk q (Nat.lt_of_lt_of_le h1 hS.1) h2]; exact hS.2.1 q h1 h2, fun q hq => by
      rcases List.mem_append.mp hq with h | h
      · exact hS.2.2 q h
      · exact hL q h⟩ hl T' rfl X'
  exact ⟨t2, sx t2 a1, b1⟩
theorem z_pre {p : Program} {s : State} {m : MethodId} {args : Array Value} {meth : Method} {c : Code} {H : Heap} {locs : List Loc} (Z : zC p s m args meth c cc nL ret own lo n θ) (hP : va_P (zD θ) zcl (zwd lo n θ σ) H) (hS : va_S (zAA lo n θ) s.heap H locs) : ∀ U : State, U.heap = H → s.WarmedH U.vm → zWB lo n θ σ U :=
  fun U hU hW => ⟨by rw [hU]; exact hP, va_K.moved hW.alike Z.2.2.2.2.2.2.2.1, Z.2.2.2.2.2.2.2.2.1, by rw [hU]; exact (Z.2.2.2.2.2.2.2.2.2.1.kept hS.2.1).warm hW⟩
theorem z_callV {α : Type} {mk : ZT → α → Option Value} {res : α × ZM} {y : MethodName} {b : ByteArray} {nM k o index ci kc : Nat} {rt : Option FieldType} {rm : Room} {q : vw_C} {fs : List Value} {st1 As : List Value} (hM : zMet mk l lo n θ y b nM rt rm (.ref (za θ o) :: As) σ res) (F : zcfV y b nM rt k) (hw : Cond.methodLink own index y ∈ zW0) (d : decode cc pc = .ok (.invokevirtual index, 3))
    (hk : zk o kc = true) (he : zce θ kc (zln o) o (σ.1 o) (σ.2.1 o) (σ.2.2 o) = .inr (ci, fs)) (hc : zcl[ci]? = some q) (hq : q.1 = y.cls) (hlo : lo ≤ o) (hhi : o < lo + n) (hAs : As.length = k) (hst : st1 = As.reverse ++ .ref (za θ o) :: st) (hcat : (st.map fun v => v.category).sum ≤ 8) (hr0 : rm.cells = 0) (hr1 : rm.slots = 0) (hR : rm.frames + 1 ≤ R.frames ∧ 8 + (nM + 11) + rm.locals ≤ R.locals)
    (g : WZ l cc nL ret own lo n θ R Q res.2 lv (pc + 3) ((mk θ res.1).toList ++ st)) : WZ l cc nL ret own lo n θ R Q σ lv pc st1 := by
  intro p e s m args below meth c H locs ls Z hP hS hl
  obtain ⟨⟨f1, f2, f3⟩, f4, f5⟩ := F
  have hts := Z.2.2.2.2.1
  have hcell : (zwd lo n θ σ)[o - lo]? = some (za θ o, .inr (ci, fs)) := by rw [zwd_at hlo hhi, zcell_obj hk he]
  refine z_run Z hS hl (va_runV (S := ⟨Z.1, Z.2.1, Z.2.2.1, Z.2.2.2.1, hts⟩) hM (C := y.cls) ⟨callB_of k hts (zgoodIn f1) rfl hr0 hr1 (hts _ f2) (hts _ hw) f3 hR, hts _ f4, hts _ f5⟩ ⟨zWB.blind, hq ▸ va_recv Z.2.2.2.2.2.2.2.1 hP hc hcell, fun U hU hW => ⟨rfl, z_pre Z hP hS U hU hW⟩⟩ rfl hAs hl.1 hst (lv_room hcat) d ⟨Nat.zero_le _, Nat.zero_le _⟩) g
theorem z_callS {α : Type} {mk : ZT → α → Option Value} {res : α × ZM} {y : MethodName} {b : ByteArray} {nM k index : Nat} {rt : Option FieldType} {rm : Room} {st1 As : List Value} (hM : zMet mk l lo n θ y b nM rt rm As σ res) (F : zcfS y b nM rt k) (hw : Cond.methodLink own index y ∈ zW0) (d : decode cc pc = .ok (.invokestatic index, 3))
    (hAs : As.length = k) (hst : st1 = As.reverse ++ st) (hcat : (st.map fun v => v.category).sum ≤ 8) (hr0 : rm.cells = 0) (hr1 : rm.slots = 0) (hR : rm.frames + 1 ≤ R.frames ∧ 8 + (nM + 11) + rm.locals ≤ R.locals)
    (g : WZ l cc nL ret own lo n θ R Q res.2 lv (pc + 3) ((mk θ res.1).toList ++ st)) : WZ l cc nL ret own lo n θ R Q σ lv pc st1 := by
  intro p e s m args below meth c H locs ls Z hP hS hl
  obtain ⟨⟨f1, f2, f3⟩, f4⟩ := F
  have hts := Z.2.2.2.2.1
  exact z_run Z hS hl (va_runS (S := ⟨Z.1, Z.2.1, Z.2.2.1, Z.2.2.2.1, hts⟩) hM ⟨callB_of k hts (zgoodIn f1) rfl hr0 hr1 (hts _ f2) (hts _ hw) f3 hR, hts _ f4⟩ ⟨zWB.blind, fun U hU hW => ⟨rfl, z_pre Z hP hS U hU hW⟩⟩ rfl hAs hl.1 hst (lv_room hcat) d ⟨Nat.zero_le _, Nat.zero_le _⟩) g
/-- BakedBefore.flag from a nest mate -/
theorem z_flag {res : Int32 × ZM} {b : ByteArray} {nM : Nat} {rt : Option FieldType} {rm : Room} {x : Int32} (hM : zMet mkI l lo n θ ⟨"BakedBefore", "flag", "(Z)I"⟩ b nM rt rm [.int x] σ res) (F : zcfS ⟨"BakedBefore", "flag", "(Z)I"⟩ b nM rt 1) (d : decode cc pc = .ok (.invokestatic 57, 3)) (ho : own = "BakedBefore$Aske\x72")
    (hcat : (st.map fun v => v.category).sum ≤ 8) (hr0 : rm.cells = 0) (hr1 : rm.slots = 0) (hR : rm.frames + 1 ≤ R.frames ∧ 8 + (nM + 11) + rm.locals ≤ R.locals)
    (g : WZ l cc nL ret own lo n θ R Q res.2 lv (pc + 3) (.int res.1 :: st)) : WZ l cc nL ret own lo n θ R Q σ lv pc (.int x :: st) := by
  subst ho
  intro p e s m args below meth c H locs ls Z hP hS hl
  obtain ⟨⟨f1, f2, f3⟩, f4⟩ := F
  have hts := Z.2.2.2.2.1
  exact z_run Z hS hl (va_runSN (S := ⟨Z.1, Z.2.1, Z.2.2.1, Z.2.2.2.1, hts⟩) hM ⟨va_cnB 1 hts (zgoodIn f1) rfl hr0 hr1 Z.2.2.2.2.2.2.2.2.2.1.2.2.1.2.2 (hts _ f2) f3 hR, hts _ f4, trivial⟩ ⟨zWB.blind, fun U hU hW => ⟨rfl, z_pre Z hP hS U hU hW⟩⟩ rfl rfl hl.1 rfl (lv_room hcat) d ⟨Nat.zero_le _, Nat.zero_le _⟩) g
theorem z_mmax {x y : Int32} {index : Nat} (d : decode cc pc = .ok (.invokestatic index, 3)) (hw : Cond.methodLink own index Lib.Math.max.name ∈ zW0) (hs : Cond.static Lib.Math.max.name ∈ zW0) (hi : Cond.initialized "java/lang/Math" ∈ zW0) (hc : Cond.code Lib.Math.max.name Lib.Math.max.code 2 (some .int) ∈ zW0) (hf : 1 ≤ R.frames) (hlc : (st.map fun v => v.category).sum + 13 ≤ R.locals)
    (g : WZ l cc nL ret own lo n θ R Q σ lv (pc + 3) (.int (if x < y then y else x) :: st)) : WZ l cc nL ret own lo n θ R Q σ lv pc (.int y :: .int x :: st) :=
  fun _ _ _ _ _ _ _ _ _ _ _ Z hP hS hl => va_mmax Z.1 Z.2.1 (Z.2.2.1.trans hl.1.symm) Z.2.2.2.1 (Z.2.2.2.2.1 _ hw) (Z.2.2.2.2.1 _ hs) (Z.2.2.2.2.1 _ hi) (Z.2.2.2.2.1 _ hc) hf hlc (Nat.zero_le _) (Nat.zero_le _) d (g _ _ _ _ _ _ _ _ _ _ _ Z hP hS hl)
theorem z_mmin {x y : Int32} {index : Nat} (d : decode cc pc = .ok (.invokestatic index, 3)) (hw : Cond.methodLink own index Lib.Math.min.name ∈ zW0) (hs : Cond.static Lib.Math.min.name ∈ zW0) (hi : Cond.initialized "java/lang/Math" ∈ zW0) (hc : Cond.code Lib.Math.min.name Lib.Math.min.code 2 (some .int) ∈ zW0) (hf : 1 ≤ R.frames) (hlc : (st.map fun v => v.category).sum + 13 ≤ R.locals)
    (g : WZ l cc nL ret own lo n θ R Q σ lv (pc + 3) (.int (if y < x then y else x) :: st)) : WZ l cc nL ret own lo n θ R Q σ lv pc (.int y :: .int x :: st) :=
  fun _ _ _ _ _ _ _ _ _ _ _ Z hP hS hl => va_mmin Z.1 Z.2.1 (Z.2.2.1.trans hl.1.symm) Z.2.2.2.1 (Z.2.2.2.2.1 _ hw) (Z.2.2.2.2.1 _ hs) (Z.2.2.2.2.1 _ hi) (Z.2.2.2.2.1 _ hc) hf hlc (Nat.zero_le _) (Nat.zero_le _) d (g _ _ _ _ _ _ _ _ _ _ _ Z hP hS hl)
theorem z_tableIn {dflt lw hi : Int} {offs : Array Int} {len : Nat} {x : Int32} {k : Int32} {off : Int} {tgt : Nat} (d : decode cc pc = .ok (.tableswitch dflt lw hi offs, len)) (hx : x = k) (h : ¬ k.toInt < lw ∧ ¬ hi < k.toInt ∧ offs[(k.toInt - lw).toNat]? = some off ∧ (pc : Int) + off = (tgt : Int))
    (g : WZ l cc nL ret own lo n θ R Q σ lv tgt st) : WZ l cc nL ret own lo n θ R Q σ lv pc (.int x :: st) :=
  fun _ _ _ _ _ _ _ _ _ _ _ Z hP hS hl => by subst hx; exact lv_tableIn Z.1 Z.2.1 d h.1 h.2.1 h.2.2.1 h.2.2.2 (g _ _ _ _ _ _ _ _ _ _ _ Z hP hS hl)
theorem z_tableOut {dflt lw hi : Int} {offs : Array Int} {len : Nat} {x : Int32} {tgt : Nat} (d : decode cc pc = .ok (.tableswitch dflt lw hi offs, len)) (h : x.toInt < lw ∨ hi < x.toInt) (ht : (pc : Int) + dflt = (tgt : Int))
    (g : WZ l cc nL ret own lo n θ R Q σ lv tgt st) : WZ l cc nL ret own lo n θ R Q σ lv pc (.int x :: st) :=
  fun _ _ _ _ _ _ _ _ _ _ _ Z hP hS hl => lv_tableOut Z.1 Z.2.1 d h ht (g _ _ _ _ _ _ _ _ _ _ _ Z hP hS hl)
theorem z_lookup {dflt : Int} {ps : Array (Int × Int)} {len : Nat} {x : Int32} {off : Int} {tgt : Nat} (d : decode cc pc = .ok (.lookupswitch dflt ps, len)) (hp : (ps.toList.zip (ps.toList.drop 1)).all (fun (a, next) => a.1 < next.1) = true) (ho : Op.lookupswitch.offset ps.toList dflt x.toInt = off) (ht : (pc : Int) + off = (tgt : Int))
    (g : WZ l cc nL ret own lo n θ R Q σ lv tgt st) : WZ l cc nL ret own lo n θ R Q σ lv pc (.int x :: st) :=
  fun _ _ _ _ _ _ _ _ _ _ _ Z hP hS hl => lv_lookup Z.1 Z.2.1 d hp ho ht (g _ _ _ _ _ _ _ _ _ _ _ Z hP hS hl)
theorem z_iushr {x y : Int32} {v : Int32} (d : decode cc pc = .ok (.iushr, 1)) (hv : (x.toUInt32 >>> (y.toUInt32 &&& 31)).toInt32 = v) (g : WZ l cc nL ret own lo n θ R Q σ lv (pc + 1) (.int v :: st)) : WZ l cc nL ret own lo n θ R Q σ lv pc (.int y :: .int x :: st) :=
  fun _ _ _ _ _ _ _ _ _ _ _ C hP hS hl => lv_iushr C.1 C.2.1 d hv (g _ _ _ _ _ _ _ _ _ _ _ C hP hS hl)
end CALLS
