/-! THE LAW: two worlds side by side; a rule an instruction -/
def zB (s : State) : Nat → Prop := fun q => s.heap.size ≤ q
def zLC (p : Program) (s : State) (m : MethodId) (meth : Method) (c : Code) (b L : Nat) (xs : Nat → Int32) (θ : ZT) : Prop :=
  lw_At p s m meth c b L xs ∧ va_K (zD θ) zcl (zty θ) s ∧ zJ θ ∧ zFX (zB s) θ s s.heap ∧ ∀ o, o < 143 → s.heap.size ≤ za θ o
def WL (l : Launch) (θ : ZT) (b L : Nat) (xs : Nat → Int32) (σ τ : ZM) (lv : List (Nat × Value)) (pc : Nat) (st : List Value) : Prop :=
  ∀ (p : Program) (e : Env) (s : State) (m : MethodId) (below : List Frame) (meth : Method) (c : Code) (H : Heap) (locs : List Loc) (ls : Array Slot), zLC p s m meth c b L xs θ → va_P (zD θ) zcl (zwd 0 129 θ σ) H → va_P (zD θ) zcl (zwd 129 14 θ τ) H → va_S (zB s) s.heap H locs → lv_has ls 4 lv →
    W p l e room_1 s m #[Value.ref b] below meth c H locs 143 3340 (lw_Z below #[Value.ref b] s) (F0 m pc ls st)
theorem zLC.hts {p : Program} {s : State} {m : MethodId} {meth : Method} {c : Code} {b L : Nat} {xs : Nat → Int32} (C : lw_At p s m meth c b L xs) : ∀ w ∈ zW0, w.before #[Value.ref b] s = true :=
  fun w hw => C.2.2.2.2.2.1 w (List.mem_filter.mp hw).1
theorem zFX.narrow {A B : Nat → Prop} {θ : ZT} {U : State} {H : Heap} (h : zFX A θ U H) (hAB : ∀ q, B q → A q) : zFX B θ U H := by
  obtain ⟨⟨a1, a2⟩, ⟨b1, b2⟩, c, d, e, f, g⟩ := h
  exact ⟨⟨a1.narrow hAB, a2.narrow hAB⟩, ⟨b1.narrow hAB, b2.narrow hAB⟩, c, d, e.narrow hAB, f.narrow hAB, g.narrow hAB⟩
section LROWS
variable {l : Launch} {θ : ZT} {b0 L : Nat} {xs : Nat → Int32} {σ τ : ZM} {lv : List (Nat × Value)} {pc : Nat} {st : List Value}
/-- a call into one of the two worlds; the other stays -/
theorem l_callW {p : Program} {e : Env} {s : State} {m : MethodId} {below : List Frame} {meth : Method} {c : Code} {H : Heap} {locs : List Loc} {ls : Array Slot} {lo n lo2 n2 : Nat} {α : Type} {mk : ZT → α → Option Value} {res : α × ZM} {y : MethodName} {b : ByteArray} {nM k o index ci kc : Nat} {rt : Option FieldType} {rm : Room} {q : vw_C} {fs : List Value} {st1 As : List Value}
    (hdj : lo + n ≤ lo2 ∨ lo2 + n2 ≤ lo) (h143 : lo + n ≤ 143) (h143' : lo2 + n2 ≤ 143) (hM : zMet mk l lo n θ y b nM rt rm (.ref (za θ o) :: As) σ res) (F : zcfV y b nM rt k) (hw : Cond.methodLink R_law index y ∈ zW0) (d : decode code pc = .ok (.invokevirtual index, 3))
    (hk : zk o kc = true) (he : zce θ kc (zln o) o (σ.1 o) (σ.2.1 o) (σ.2.2 o) = .inr (ci, fs)) (hc : zcl[ci]? = some q) (hq : q.1 = y.cls) (hlo : lo ≤ o) (hhi : o < lo + n) (hAs : As.length = k) (hst : st1 = As.reverse ++ .ref (za θ o) :: st) (hcat : (st.map fun v => v.category).sum ≤ 8) (hr0 : rm.cells = 0) (hr1 : rm.slots = 0) (hR : rm.frames + 1 ≤ room_1.frames ∧ 8 + (nM + 11) + rm.locals ≤ room_1.locals)
    (Z : zLC p s m meth c b0 L xs θ) (hP : va_P (zD θ) zcl (zwd lo n θ σ) H) (hQ : va_P (zD θ) zcl (zwd lo2 n2 θ τ) H) (hS : va_S (zB s) s.heap H locs) (hl : lv_has ls 4 lv)
    (kk : ∀ (H1 : Heap) (locs1 : List Loc), va_P (zD θ) zcl (zwd lo n θ res.2) H1 → va_P (zD θ) zcl (zwd lo2 n2 θ τ) H1 → va_S (zB s) s.heap H1 locs1 → W p l e room_1 s m #[Value.ref b0] below meth c H1 locs1 143 3340 (lw_Z below #[Value.ref b0] s) (F0 m (pc + 3) ls ((mk θ res.1).toList ++ st))) :
    W p l e room_1 s m #[Value.ref b0] below meth c H locs 143 3340 (lw_Z below #[Value.ref b0] s) (F0 m pc ls st1) := by
  obtain ⟨A, hK, hJ, hF, hZ⟩ := Z
  obtain ⟨⟨f1, f2, f3⟩, f4, f5⟩ := F
  have hts := zLC.hts A
  have hin : ∀ x, zAA lo n θ x → s.heap.size ≤ x := by
    rintro x ⟨i, _, h2, rfl⟩
    exact hZ i (by omega)
  have hcell : (zwd lo n θ σ)[o - lo]? = some (za θ o, .inr (ci, fs)) := by rw [zwd_at hlo hhi, zcell_obj hk he]
  have hFX : zFX (zAA lo n θ) θ s H := (hF.narrow hin).kept (fun a ha _ => hS.2.1 a ha (fun h => absurd h (Nat.not_le.mpr ha)))
  have run : va_Run p l e room_1 s m #[Value.ref b0] below meth c H locs 143 3340 0 0 (F0 m pc ls st1) st (zQ mk lo n θ res (Value.ref (za θ o) :: As).toArray) (zAA lo n θ) :=
    va_runV (S := ⟨A.1, A.2.1, A.2.2.2.1, A.2.2.2.2.1, hts⟩) hM (C := y.cls) ⟨callB_of k hts (zgoodIn f1) rfl hr0 hr1 (hts _ f2) (hts _ hw) f3 hR, hts _ f4, hts _ f5⟩
      ⟨zWB.blind, hq ▸ va_recv hK hP hc hcell, fun U hU hW => ⟨rfl, by rw [hU]; exact hP, va_K.moved hW.alike hK, hJ, by rw [hU]; exact hFX.warm hW⟩⟩ rfl hAs hl.1 hst (lv_room hcat) d ⟨Nat.le_of_ble_eq_true rfl, Nat.le_of_ble_eq_true rfl⟩
  intro T hT X
  obtain ⟨v, st₀, t, T', L', h0, X', hL, e1, e2, ⟨⟨hv, hb⟩, hz, hkq⟩, sx⟩ := run T hT X
  cases hv
  rw [h0] at hz hkq
  have hold : va_P (zD θ) zcl (zwd lo2 n2 θ τ) t.heap := hQ.kept (fun j x hx => hkq x.1 (hQ j x hx).lt (by
    rintro ⟨i, h1, h2, h3⟩
    have lj : j < n2 := by have := (List.getElem?_eq_some_iff.mp hx).1; rwa [zwd_len] at this
    have hx2 := hx
    simp [zwd, lj] at hx2
    subst hx2
    have := hJ (lo2 + j) i (by omega) (by omega) h3
    omega))
  obtain ⟨t2, a1, b1⟩ := kk T'.heap (locs ++ L') (by rw [e1]; exact hb.1) (by rw [e1]; exact hold)
    ⟨Nat.le_trans hS.1 (by rw [e1]; exact hz), fun x h1 h2 => by
      rw [e1, hkq x (Nat.lt_of_lt_of_le h1 hS.1) (fun h => h2 (hin x h))]; exact hS.2.1 x h1 h2, fun x hx => by
      rcases List.mem_append.mp hx with h | h
      · exact hS.2.2 x h
      · exact hin _ (hL x h)⟩ T' rfl X'
  exact ⟨t2, sx t2 a1, b1⟩
theorem l_callB {α : Type} {mk : ZT → α → Option Value} {res : α × ZM} {y : MethodName} {b : ByteArray} {nM k index : Nat} {rt : Option FieldType} {rm : Room} {st1 As : List Value} (hM : zMet mk l 0 129 θ y b nM rt rm (.ref (za θ 0) :: As) σ res) (F : zcfV y b nM rt k) (hy : y.cls = "BakedBefore") (hw : Cond.methodLink R_law index y ∈ zW0) (d : decode code pc = .ok (.invokevirtual index, 3))
    (hAs : As.length = k) (hst : st1 = As.reverse ++ .ref (za θ 0) :: st) (hcat : (st.map fun v => v.category).sum ≤ 8) (hr0 : rm.cells = 0) (hr1 : rm.slots = 0) (hR : rm.frames + 1 ≤ room_1.frames ∧ 8 + (nM + 11) + rm.locals ≤ room_1.locals)
    (g : WL l θ b0 L xs res.2 τ lv (pc + 3) ((mk θ res.1).toList ++ st)) : WL l θ b0 L xs σ τ lv pc st1 :=
  fun _ _ _ _ _ _ _ _ _ _ Z hP hQ hS hl => l_callW (kc := 10) (ci := 0) (Or.inl (by decide)) (by decide) (by decide) hM F hw d rfl rfl rfl hy.symm (by decide) (by decide) hAs hst hcat hr0 hr1 hR Z hP hQ hS hl (fun _ _ h1 h2 h3 => g _ _ _ _ _ _ _ _ _ _ Z h1 h2 h3 hl)
theorem l_callM {α : Type} {mk : ZT → α → Option Value} {res : α × ZM} {y : MethodName} {b : ByteArray} {nM k index : Nat} {rt : Option FieldType} {rm : Room} {st1 As : List Value} (hM : zMet mk l 129 14 θ y b nM rt rm (.ref (za θ 129) :: As) τ res) (F : zcfV y b nM rt k) (hy : y.cls = "BakedBeforeModel") (hw : Cond.methodLink R_law index y ∈ zW0) (d : decode code pc = .ok (.invokevirtual index, 3))
    (hAs : As.length = k) (hst : st1 = As.reverse ++ .ref (za θ 129) :: st) (hcat : (st.map fun v => v.category).sum ≤ 8) (hr0 : rm.cells = 0) (hr1 : rm.slots = 0) (hR : rm.frames + 1 ≤ room_1.frames ∧ 8 + (nM + 11) + rm.locals ≤ room_1.locals)
    (g : WL l θ b0 L xs σ res.2 lv (pc + 3) ((mk θ res.1).toList ++ st)) : WL l θ b0 L xs σ τ lv pc st1 :=
  fun _ _ _ _ _ _ _ _ _ _ Z hP hQ hS hl => l_callW (kc := 22) (ci := 12) (Or.inr (by decide)) (by decide) (by decide) hM F hw d rfl rfl rfl hy.symm (by decide) (by decide) hAs hst hcat hr0 hr1 hR Z hQ hP hS hl (fun _ _ h1 h2 h3 => g _ _ _ _ _ _ _ _ _ _ Z h2 h1 h3 hl)
theorem l_iconst {k : Int} {v : Int32} (d : decode code pc = .ok (.iconst k, 1)) (hv : Int32.ofInt k = v) (g : WL l θ b0 L xs σ τ lv (pc + 1) (.int v :: st)) : WL l θ b0 L xs σ τ lv pc st :=
  fun _ _ _ _ _ _ _ _ _ _ Z hP hQ hS hl => lv_iconst Z.1.1 Z.1.2.1 d hv (g _ _ _ _ _ _ _ _ _ _ Z hP hQ hS hl)
theorem l_bipush {k : Int} {v : Int32} (d : decode code pc = .ok (.bipush k, 2)) (hv : (Int8.ofInt k).toInt32 = v) (g : WL l θ b0 L xs σ τ lv (pc + 2) (.int v :: st)) : WL l θ b0 L xs σ τ lv pc st :=
  fun _ _ _ _ _ _ _ _ _ _ Z hP hQ hS hl => lv_bipush Z.1.1 Z.1.2.1 d hv (g _ _ _ _ _ _ _ _ _ _ Z hP hQ hS hl)
theorem l_iload_n {k : Fin 4} {i : Nat} (j : Nat) {x : Int32} (d : decode code pc = .ok (.iload_n k, 1)) (hi : (k : Nat) = i) (hj : lv[j]? = some (i, .int x)) (g : WL l θ b0 L xs σ τ lv (pc + 1) (.int x :: st)) : WL l θ b0 L xs σ τ lv pc st :=
  fun _ _ _ _ _ _ _ _ _ _ Z hP hQ hS hl => lv_iload_n Z.1.1 Z.1.2.1 d hi (lv_at hl j hj) (g _ _ _ _ _ _ _ _ _ _ Z hP hQ hS hl)
theorem l_aload_n {k : Fin 4} {i : Nat} (j : Nat) {x : Nat} (d : decode code pc = .ok (.aload_n k, 1)) (hi : (k : Nat) = i) (hj : lv[j]? = some (i, .ref x)) (g : WL l θ b0 L xs σ τ lv (pc + 1) (.ref x :: st)) : WL l θ b0 L xs σ τ lv pc st :=
  fun _ _ _ _ _ _ _ _ _ _ Z hP hQ hS hl => lv_aload_n Z.1.1 Z.1.2.1 d hi (lv_at hl j hj) (g _ _ _ _ _ _ _ _ _ _ Z hP hQ hS hl)
theorem l_istore_n {k : Fin 4} {i : Nat} {x : Int32} {lv' : List (Nat × Value)} (d : decode code pc = .ok (.istore_n k, 1)) (hi : (k : Nat) = i) (hn : i < 4) (hl' : (i, Value.int x) :: lv.filter (fun q => !(q.1 == i) && !(q.1 + 1 == i && q.2.category == 2)) = lv') (g : WL l θ b0 L xs σ τ lv' (pc + 1) st) : WL l θ b0 L xs σ τ lv pc (.int x :: st) :=
  fun _ _ _ _ _ _ _ _ _ _ Z hP hQ hS hl => lv_istore_n Z.1.1 Z.1.2.1 d hi hl hn hl' (fun _ h => g _ _ _ _ _ _ _ _ _ _ Z hP hQ hS h)
theorem l_iinc {i : Nat} (j : Nat) {k : Int} {x v : Int32} {lv' : List (Nat × Value)} (d : decode code pc = .ok (.iinc i k, 3)) (hj : lv[j]? = some (i, .int x)) (hv : x + Int32.ofInt k = v) (hn : i < 4) (hl' : (i, Value.int v) :: lv.filter (fun q => !(q.1 == i) && !(q.1 + 1 == i && q.2.category == 2)) = lv') (g : WL l θ b0 L xs σ τ lv' (pc + 3) st) : WL l θ b0 L xs σ τ lv pc st :=
  fun _ _ _ _ _ _ _ _ _ _ Z hP hQ hS hl => lv_iinc Z.1.1 Z.1.2.1 d hl hj hv hn hl' (fun _ h => g _ _ _ _ _ _ _ _ _ _ Z hP hQ hS h)
theorem l_goto {off : Int} {tgt : Nat} (d : decode code pc = .ok (.goto off, 3)) (ht : (pc : Int) + off = (tgt : Int)) (g : WL l θ b0 L xs σ τ lv tgt st) : WL l θ b0 L xs σ τ lv pc st :=
  fun _ _ _ _ _ _ _ _ _ _ Z hP hQ hS hl => lv_goto Z.1.1 Z.1.2.1 d ht (g _ _ _ _ _ _ _ _ _ _ Z hP hQ hS hl)
theorem l_isub {x y : Int32} (d : decode code pc = .ok (.isub, 1)) (g : WL l θ b0 L xs σ τ lv (pc + 1) (.int (x - y) :: st)) : WL l θ b0 L xs σ τ lv pc (.int y :: .int x :: st) :=
  fun _ _ _ _ _ _ _ _ _ _ Z hP hQ hS hl => lv_isub Z.1.1 Z.1.2.1 d (g _ _ _ _ _ _ _ _ _ _ Z hP hQ hS hl)
theorem l_iand {x y : Int32} (d : decode code pc = .ok (.iand, 1)) (g : WL l θ b0 L xs σ τ lv (pc + 1) (.int (x &&& y) :: st)) : WL l θ b0 L xs σ τ lv pc (.int y :: .int x :: st) :=
  fun _ _ _ _ _ _ _ _ _ _ Z hP hQ hS hl => lv_iand Z.1.1 Z.1.2.1 d (g _ _ _ _ _ _ _ _ _ _ Z hP hQ hS hl)
theorem l_iadd {x y : Int32} (d : decode code pc = .ok (.iadd, 1)) (g : WL l θ b0 L xs σ τ lv (pc + 1) (.int (x + y) :: st)) : WL l θ b0 L xs σ τ lv pc (.int y :: .int x :: st) :=
  fun _ _ _ _ _ _ _ _ _ _ Z hP hQ hS hl => lv_iadd Z.1.1 Z.1.2.1 d (g _ _ _ _ _ _ _ _ _ _ Z hP hQ hS hl)
theorem l_i2l {x : Int32} {v : Int64} (d : decode code pc = .ok (.i2l, 1)) (hv : x.toInt64 = v) (g : WL l θ b0 L xs σ τ lv (pc + 1) (.long v :: st)) : WL l θ b0 L xs σ τ lv pc (.int x :: st) :=
  fun _ _ _ _ _ _ _ _ _ _ Z hP hQ hS hl => lv_i2l Z.1.1 Z.1.2.1 d hv (g _ _ _ _ _ _ _ _ _ _ Z hP hQ hS hl)
theorem l_lshl {x v : Int64} {y : Int32} (d : decode code pc = .ok (.lshl, 1)) (hv : x <<< (y.toInt64 &&& 63) = v) (g : WL l θ b0 L xs σ τ lv (pc + 1) (.long v :: st)) : WL l θ b0 L xs σ τ lv pc (.int y :: .long x :: st) :=
  fun _ _ _ _ _ _ _ _ _ _ Z hP hQ hS hl => lv_lshl Z.1.1 Z.1.2.1 d hv (g _ _ _ _ _ _ _ _ _ _ Z hP hQ hS hl)
theorem l_land {x y : Int64} (d : decode code pc = .ok (.land, 1)) (g : WL l θ b0 L xs σ τ lv (pc + 1) (.long (x &&& y) :: st)) : WL l θ b0 L xs σ τ lv pc (.long y :: .long x :: st) :=
  fun _ _ _ _ _ _ _ _ _ _ Z hP hQ hS hl => lv_land Z.1.1 Z.1.2.1 d (g _ _ _ _ _ _ _ _ _ _ Z hP hQ hS hl)
theorem l_lor {x y : Int64} (d : decode code pc = .ok (.lor, 1)) (g : WL l θ b0 L xs σ τ lv (pc + 1) (.long (x ||| y) :: st)) : WL l θ b0 L xs σ τ lv pc (.long y :: .long x :: st) :=
  fun _ _ _ _ _ _ _ _ _ _ Z hP hQ hS hl => lv_lor Z.1.1 Z.1.2.1 d (g _ _ _ _ _ _ _ _ _ _ Z hP hQ hS hl)
theorem l_ldc2 {k : Nat} {v : Int64} (d : decode code pc = .ok (.ldc2_w k, 3)) (hw : Cond.constantLong R_law k v ∈ zW0) (g : WL l θ b0 L xs σ τ lv (pc + 3) (.long v :: st)) : WL l θ b0 L xs σ τ lv pc st :=
  fun _ _ _ _ _ _ _ _ _ _ Z hP hQ hS hl => lv_ldc2 Z.1.1 Z.1.2.1 Z.1.2.2.2.2.1 (zLC.hts Z.1 _ hw) d (g _ _ _ _ _ _ _ _ _ _ Z hP hQ hS hl)
theorem l_gt {x y : Int32} {off : Int} {tgt : Nat} (d : decode code pc = .ok (.if_icmp .gt off, 3)) (ht : (pc : Int) + off = (tgt : Int)) (kt : y < x → WL l θ b0 L xs σ τ lv tgt st) (kf : ¬ y < x → WL l θ b0 L xs σ τ lv (pc + 3) st) : WL l θ b0 L xs σ τ lv pc (.int y :: .int x :: st) :=
  fun _ _ _ _ _ _ _ _ _ _ Z hP hQ hS hl => lv_icmp_gt Z.1.1 Z.1.2.1 d ht (fun h => kt h _ _ _ _ _ _ _ _ _ _ Z hP hQ hS hl) (fun h => kf h _ _ _ _ _ _ _ _ _ _ Z hP hQ hS hl)
theorem l_eq {x : Int32} {off : Int} {tgt : Nat} (d : decode code pc = .ok (.if_icmp .eq off, 3)) (ht : (pc : Int) + off = (tgt : Int)) (g : WL l θ b0 L xs σ τ lv tgt st) : WL l θ b0 L xs σ τ lv pc (.int x :: .int x :: st) :=
  fun _ _ _ _ _ _ _ _ _ _ Z hP hQ hS hl => lv_icmp_eq Z.1.1 Z.1.2.1 d ht (fun _ => g _ _ _ _ _ _ _ _ _ _ Z hP hQ hS hl) (fun h => absurd rfl h)
theorem l_if0 {x : Int32} {off : Int} {tgt : Nat} (d : decode code pc = .ok (.ifCond .eq off, 3)) (ht : (pc : Int) + off = (tgt : Int)) (kt : x = 0 → WL l θ b0 L xs σ τ lv tgt st) (kf : ¬ x = 0 → WL l θ b0 L xs σ τ lv (pc + 3) st) : WL l θ b0 L xs σ τ lv pc (.int x :: st) :=
  fun _ _ _ _ _ _ _ _ _ _ Z hP hQ hS hl => lv_if_eq Z.1.1 Z.1.2.1 d ht (fun h => kt h _ _ _ _ _ _ _ _ _ _ Z hP hQ hS hl) (fun h => kf h _ _ _ _ _ _ _ _ _ _ Z hP hQ hS hl)
theorem l_leq {x : Int64} {off : Int} {tgt : Nat} (d0 : decode code pc = .ok (.lcmp, 1)) (d : decode code (pc + 1) = .ok (.ifCond .eq off, 3)) (ht : ((pc + 1 : Nat) : Int) + off = (tgt : Int)) (g : WL l θ b0 L xs σ τ lv tgt st) : WL l θ b0 L xs σ τ lv pc (.long x :: .long x :: st) :=
  fun _ _ _ _ _ _ _ _ _ _ Z hP hQ hS hl => W.lcmp Z.1.1 Z.1.2.1 d0 (lv_if_eq Z.1.1 Z.1.2.1 d ht (fun _ => g _ _ _ _ _ _ _ _ _ _ Z hP hQ hS hl) (fun h => absurd (show lg_cmp x x = 0 by simp [lg_cmp]) h))
theorem l_alen (d : decode code pc = .ok (.arraylength, 1)) (g : WL l θ b0 L xs σ τ lv (pc + 1) (.int (Int32.ofNat L) :: st)) : WL l θ b0 L xs σ τ lv pc (.ref b0 :: st) :=
  fun _ _ _ _ _ _ _ _ _ _ Z hP hQ hS hl => va_slen Z.1.1 Z.1.2.1 Z.1.2.2.2.2.2.2.1 Z.1.2.2.2.2.2.2.2.1 (fun h => absurd h (Nat.not_le.mpr Z.1.2.2.2.2.2.2.2.1)) hS d (g _ _ _ _ _ _ _ _ _ _ Z hP hQ hS hl)
theorem l_iald {i : Int32} (hi : vp_in i L) (d : decode code pc = .ok (.iaload, 1)) (g : WL l θ b0 L xs σ τ lv (pc + 1) (.int (xs i.toNatClampNeg) :: st)) : WL l θ b0 L xs σ τ lv pc (.int i :: .ref b0 :: st) :=
  fun _ _ _ _ _ _ _ _ _ _ Z hP hQ hS hl => va_sld Z.1.1 Z.1.2.1 Z.1.2.2.2.2.2.2.1 Z.1.2.2.2.2.2.2.2.1 (fun h => absurd h (Nat.not_le.mpr Z.1.2.2.2.2.2.2.2.1)) hS hi d (g _ _ _ _ _ _ _ _ _ _ Z hP hQ hS hl)
theorem l_tableIn {dflt lw hi : Int} {offs : Array Int} {len : Nat} {x : Int32} {k : Int32} {off : Int} {tgt : Nat} (d : decode code pc = .ok (.tableswitch dflt lw hi offs, len)) (hx : x = k) (h : ¬ k.toInt < lw ∧ ¬ hi < k.toInt ∧ offs[(k.toInt - lw).toNat]? = some off ∧ (pc : Int) + off = (tgt : Int))
    (g : WL l θ b0 L xs σ τ lv tgt st) : WL l θ b0 L xs σ τ lv pc (.int x :: st) :=
  fun _ _ _ _ _ _ _ _ _ _ Z hP hQ hS hl => by subst hx; exact lv_tableIn Z.1.1 Z.1.2.1 d h.1 h.2.1 h.2.2.1 h.2.2.2 (g _ _ _ _ _ _ _ _ _ _ Z hP hQ hS hl)
theorem l_tableOut {dflt lw hi : Int} {offs : Array Int} {len : Nat} {x : Int32} {tgt : Nat} (d : decode code pc = .ok (.tableswitch dflt lw hi offs, len)) (h : x.toInt < lw ∨ hi < x.toInt) (ht : (pc : Int) + dflt = (tgt : Int))
    (g : WL l θ b0 L xs σ τ lv tgt st) : WL l θ b0 L xs σ τ lv pc (.int x :: st) :=
  fun _ _ _ _ _ _ _ _ _ _ Z hP hQ hS hl => lv_tableOut Z.1.1 Z.1.2.1 d h ht (g _ _ _ _ _ _ _ _ _ _ Z hP hQ hS hl)
theorem l_end (d : decode code pc = .ok (.ireturn, 1)) : WL l θ b0 L xs σ τ lv pc [.int 1] :=
  fun _ _ _ _ _ _ _ _ _ _ Z _ _ hS _ => va_forget (fun q hq => hS.2.2 q hq) (W.widen (k := 600000) (n := 7302250) (by decide) (by decide) (lw_ret Z.1.1 Z.1.2.1 Z.1.2.2.1 Z.1.2.2.2.2.2.2.2.2.1 d))
/-- the j-th number of the call at i -/
theorem l_arg {i k j : Nat} (hL : L ≤ 3072) (hi : i + 6 ≤ L) (hj : j < 6) (hk : k = i + j) {n3 : Fin 4} (v3 : (n3 : Nat) = 3) {n0 : Fin 4} (v0 : (n0 : Nat) = 0) {pc4 : Nat} (jc : Int) (hjc : Int32.ofInt jc = nI j) (i0 i3 : Nat) (h0 : lv[i0]? = some (0, .ref b0)) (h3 : lv[i3]? = some (3, .int (nI i))) (d0 : decode code pc = .ok (.aload_n n0, 1)) (d1 : decode code (pc + 1) = .ok (.iload_n n3, 1)) (d2 : decode code (pc + 2) = .ok (.iconst jc, 1)) (d3 : decode code (pc + 3) = .ok (.iadd, 1)) (d4 : decode code (pc + 4) = .ok (.iaload, 1)) (h4 : pc + 5 = pc4)
    (g : WL l θ b0 L xs σ τ lv pc4 (.int (xs k) :: st)) : WL l θ b0 L xs σ τ lv pc st := by
  subst h4; subst hk
  refine l_aload_n i0 d0 v0 h0 (l_iload_n i3 d1 v3 h3 (l_iconst d2 hjc (l_iadd d3 ?_)))
  have e1 : nI i + nI j = nI (i + j) := by rw [nI_add]
  rw [e1]
  have hc : (nI (i + j)).toNatClampNeg = i + j := nI_clamp (by omega)
  refine l_iald (by
    rintro (q | q)
    · exact absurd q (nI_pos (by omega))
    · rw [hc] at q; omega) d4 ?_
  rw [hc]; exact g
end LROWS
