/-! THE RULES, on: fields, arrays, calls, returns, a method's contract out of its walk -/
theorem zgood : ∀ w ∈ zW0, (w.onTables && w.keeps) = true ∨ ∃ ty, w = .arrayClass ty := fun _ h => good_of_word (List.mem_filter.mp h).2
theorem zgoodIn {y : MethodName} {b : ByteArray} {nM : Nat} {rt : Option FieldType} (h : Cond.code y b nM rt ∈ zW0) : GoodIn zW0 (Cond.code y b nM rt :: zW0) := fun w hw => by
  rcases List.mem_cons.mp hw with e | e
  · subst e; exact ⟨h, zgood _ h⟩
  · exact ⟨e, zgood _ e⟩
theorem zcell_obj {θ : ZT} {σ : ZM} {o c : Nat} {e : va_E} (hk : zk o c = true) (he : zce θ c (zln o) o (σ.1 o) (σ.2.1 o) (σ.2.2 o) = e) : zcell θ σ o = e := by
  rw [← he]; show zce θ (zkd o) _ _ _ _ _ = _; rw [zk_eq hk]
theorem zcell_arr {θ : ZT} {σ : ZM} {o c N : Nat} {e : va_E} (hk : zkd o = c) (hN : zln o = N) (he : zce θ c N o (σ.1 o) (σ.2.1 o) (σ.2.2 o) = e) : zcell θ σ o = e := by
  rw [← he]; show zce θ (zkd o) (zln o) _ _ _ _ = _; rw [hk, hN]
section CELLS
variable {l : Launch} {cc : ByteArray} {nL : Nat} {ret : Option FieldType} {own : String} {lo n : Nat} {θ : ZT} {R : Room} {Q : Array Value → State → Outcome → State → Prop} {σ : ZM} {lv : List (Nat × Value)} {pc : Nat} {st : List Value}
theorem z_getG {C : String} {T : u_T} {N ci index o k : Nat} {fs : List Value} {v : Value} (d : decode cc pc = .ok (.getfield index, 3)) (hlo : lo ≤ o) (hhi : o < lo + n) (he : zcell θ σ o = .inr (ci, fs)) (hc : zcl[ci]? = some (C, T, N)) (hin : ∀ w ∈ u_ws C T N, w ∈ zW0) (hk : k < N) (hT : (T k).1 = C) (hw : Cond.fieldLink own index C (T k).2.1 (T k).2.2.1 ∈ zW0) (hv : fs[k]? = some v)
    (g : WZ l cc nL ret own lo n θ R Q σ lv (pc + 3) (v :: st)) : WZ l cc nL ret own lo n θ R Q σ lv pc (.ref (za θ o) :: st) :=
  fun _ _ _ _ _ _ _ _ _ _ _ Z hP hS hl => va_get (D := zD θ) (cl := zcl) (ci := ci) (C := C) (T := T) (N := N) (ref := C) Z.1 Z.2.1 Z.2.2.2.2.1 hin Z.2.2.2.1 Z.2.2.2.2.2.2.2.1 hP (o - lo) (by rw [zwd_at hlo hhi, he]) hc k hk (Z.2.2.2.2.1 _ hw) (fun x hx => by rw [hT] at hx; exact hx) hv d (g _ _ _ _ _ _ _ _ _ _ _ Z hP hS hl)
theorem z_putG {C : String} {T : u_T} {N ci index o k : Nat} {fs : List Value} {v : Value} {ty : FieldType} {ty0 : Nat → FieldType} {σ' : ZM} (d : decode cc pc = .ok (.putfield index, 3)) (hlo : lo ≤ o) (hhi : o < lo + n) (he : zcell θ σ o = .inr (ci, fs)) (hc : zcl[ci]? = some (C, T, N)) (hin : ∀ w ∈ u_ws C T N, w ∈ zW0) (hty : ∀ k, k < N → parseFieldDescriptor (T k).2.2.1 = some (ty0 k)) (hnm : ∀ a, a < N → ∀ b, b < N → a ≠ b → (T a).2.1 ≠ (T b).2.1) (hk : k < N) (hT : (T k).1 = C) (hw : Cond.fieldLink own index C (T k).2.1 (T k).2.2.1 ∈ zW0)
    (hfin : (T k).2.2.2 = false) (hd : parseFieldDescriptor (T k).2.2.1 = some ty) (hn : narrow ty v = v) (hfit : fits ty v = true) (hle : k < fs.length) (he' : zcell θ σ' o = .inr (ci, fs.set k v)) (hne : ∀ a, a ≠ o → zcell θ σ' a = zcell θ σ a)
    (g : WZ l cc nL ret own lo n θ R Q σ' lv (pc + 3) st) : WZ l cc nL ret own lo n θ R Q σ lv pc (v :: .ref (za θ o) :: st) :=
  fun _ _ _ _ _ _ _ _ _ _ _ Z hP hS hl => va_put (D := zD θ) (cl := zcl) (ci := ci) (C := C) (T := T) (N := N) (ref := C) (ty := ty) Z.1 Z.2.1 Z.2.2.2.2.1 hin ty0 hty hnm Z.2.2.2.1 Z.2.2.2.2.2.2.2.1 hP (zwd_D Z.2.2.2.2.2.2.2.2.1 Z.2.2.2.2.2.2.2.2.2.2) hS (o - lo) (by rw [zwd_at hlo hhi, he]) hc k hk (Z.2.2.2.2.1 _ hw) (fun x hx => by rw [hT] at hx; exact hx) hfin hd hn hfit hle d
    (fun _ _ hP1 _ hS1 => g _ _ _ _ _ _ _ _ _ _ _ Z (by rw [← zwd_set hlo hhi he' hne]; exact hP1) hS1 hl)
theorem z_iald {o N : Nat} {i : Int32} (d : decode cc pc = .ok (.iaload, 1)) (hk : zkd o = 0) (hN : zln o = N) (hlo : lo ≤ o) (hhi : o < lo + n) (hi : zin i N = true)
    (g : WZ l cc nL ret own lo n θ R Q σ lv (pc + 1) (.int (zI σ o i.toNatClampNeg) :: st)) : WZ l cc nL ret own lo n θ R Q σ lv pc (.int i :: .ref (za θ o) :: st) :=
  fun _ _ _ _ _ _ _ _ _ _ _ Z hP hS hl => va_iald (D := zD θ) (cl := zcl) (f := σ.1 o) Z.1 Z.2.1 Z.2.2.2.2.2.2.2.1 hP (o - lo) 0 (by rw [zwd_at hlo hhi, zcell_arr hk hN rfl]; rfl) rfl (zin_i hi) d (g _ _ _ _ _ _ _ _ _ _ _ Z hP hS hl)
theorem z_bald {o N : Nat} {i : Int32} (d : decode cc pc = .ok (.baload, 1)) (hk : zkd o = 1) (hN : zln o = N) (hlo : lo ≤ o) (hhi : o < lo + n) (hi : zin i N = true)
    (g : WZ l cc nL ret own lo n θ R Q σ lv (pc + 1) (.int (zI σ o i.toNatClampNeg) :: st)) : WZ l cc nL ret own lo n θ R Q σ lv pc (.int i :: .ref (za θ o) :: st) :=
  fun _ _ _ _ _ _ _ _ _ _ _ Z hP hS hl => va_zald (D := zD θ) (cl := zcl) (f := σ.1 o) Z.1 Z.2.1 Z.2.2.2.2.2.2.2.1 hP (o - lo) 1 (by rw [zwd_at hlo hhi, zcell_arr hk hN rfl]; rfl) rfl (zin_i hi) d (g _ _ _ _ _ _ _ _ _ _ _ Z hP hS hl)
theorem z_lald {o N : Nat} {i : Int32} (d : decode cc pc = .ok (.laload, 1)) (hk : zkd o = 2) (hN : zln o = N) (hlo : lo ≤ o) (hhi : o < lo + n) (hi : zin i N = true)
    (g : WZ l cc nL ret own lo n θ R Q σ lv (pc + 1) (.long (zL σ o i.toNatClampNeg) :: st)) : WZ l cc nL ret own lo n θ R Q σ lv pc (.int i :: .ref (za θ o) :: st) :=
  fun _ _ _ _ _ _ _ _ _ _ _ Z hP hS hl => va_lald (D := zD θ) (cl := zcl) (f := σ.2.1 o) Z.1 Z.2.1 Z.2.2.2.2.2.2.2.1 hP (o - lo) 2 (by rw [zwd_at hlo hhi, zcell_arr hk hN rfl]; rfl) rfl (zin_i hi) d (g _ _ _ _ _ _ _ _ _ _ _ Z hP hS hl)
theorem z_iast {o N : Nat} {i x : Int32} (d : decode cc pc = .ok (.iastore, 1)) (hk : zkd o = 0) (hN : zln o = N) (hlo : lo ≤ o) (hhi : o < lo + n) (hi : zin i N = true)
    (g : WZ l cc nL ret own lo n θ R Q (zsI σ o i.toNatClampNeg x) lv (pc + 1) st) : WZ l cc nL ret own lo n θ R Q σ lv pc (.int x :: .int i :: .ref (za θ o) :: st) :=
  fun _ _ _ _ _ _ _ _ _ _ _ Z hP hS hl => va_iast (D := zD θ) (cl := zcl) (f := σ.1 o) Z.1 Z.2.1 Z.2.2.2.2.2.2.2.1 hP (zwd_D Z.2.2.2.2.2.2.2.2.1 Z.2.2.2.2.2.2.2.2.2.2) hS (o - lo) 0 (by rw [zwd_at hlo hhi, zcell_arr hk hN rfl]; rfl) rfl (zin_i hi) d
    (fun _ _ hP1 _ hS1 => g _ _ _ _ _ _ _ _ _ _ _ Z (by rw [← zwd_set (σ' := zsI σ o i.toNatClampNeg x) hlo hhi (zcell_arr hk hN (by rw [zsI_self])) zcell_sI]; exact hP1) hS1 hl)
theorem zbl_nar {x : Int32} (h : zbl x = true) : vp_nar .boolean x = x := by
  simp only [zbl, Bool.or_eq_true, beq_iff_eq] at h
  rcases h with rfl | rfl <;> rfl
theorem z_bast {o N : Nat} {i x : Int32} (d : decode cc pc = .ok (.bastore, 1)) (hk : zkd o = 1) (hN : zln o = N) (hlo : lo ≤ o) (hhi : o < lo + n) (hi : zin i N = true) (hx : zbl x = true)
    (g : WZ l cc nL ret own lo n θ R Q (zsI σ o i.toNatClampNeg x) lv (pc + 1) st) : WZ l cc nL ret own lo n θ R Q σ lv pc (.int x :: .int i :: .ref (za θ o) :: st) :=
  fun _ _ _ _ _ _ _ _ _ _ _ Z hP hS hl => va_zast (D := zD θ) (cl := zcl) (f := σ.1 o) Z.1 Z.2.1 Z.2.2.2.2.2.2.2.1 hP (zwd_D Z.2.2.2.2.2.2.2.2.1 Z.2.2.2.2.2.2.2.2.2.2) hS (o - lo) 1 (by rw [zwd_at hlo hhi, zcell_arr hk hN rfl]; rfl) rfl (zin_i hi) d
    (fun _ _ hP1 _ hS1 => g _ _ _ _ _ _ _ _ _ _ _ Z (by rw [zbl_nar hx] at hP1; rw [← zwd_set (σ' := zsI σ o i.toNatClampNeg x) hlo hhi (zcell_arr hk hN (by rw [zsI_self])) zcell_sI]; exact hP1) hS1 hl)
theorem zsL_self (σ : ZM) (o k : Nat) (v : Int64) : (zsL σ o k v).2.1 o = vp_updL (σ.2.1 o) k v := if_pos rfl
theorem z_last {o N : Nat} {i : Int32} {x : Int64} (d : decode cc pc = .ok (.lastore, 1)) (hk : zkd o = 2) (hN : zln o = N) (hlo : lo ≤ o) (hhi : o < lo + n) (hi : zin i N = true)
    (g : WZ l cc nL ret own lo n θ R Q (zsL σ o i.toNatClampNeg x) lv (pc + 1) st) : WZ l cc nL ret own lo n θ R Q σ lv pc (.long x :: .int i :: .ref (za θ o) :: st) :=
  fun _ _ _ _ _ _ _ _ _ _ _ Z hP hS hl => va_last (D := zD θ) (cl := zcl) (f := σ.2.1 o) Z.1 Z.2.1 Z.2.2.2.2.2.2.2.1 hP (zwd_D Z.2.2.2.2.2.2.2.2.1 Z.2.2.2.2.2.2.2.2.2.2) hS (o - lo) 2 (by rw [zwd_at hlo hhi, zcell_arr hk hN rfl]; rfl) rfl (zin_i hi) d
    (fun _ _ hP1 _ hS1 => g _ _ _ _ _ _ _ _ _ _ _ Z (by rw [← zwd_set (σ' := zsL σ o i.toNatClampNeg x) hlo hhi (zcell_arr hk hN (by rw [zsL_self])) zcell_sL]; exact hP1) hS1 hl)
theorem z_aald {o N kk t0 : Nat} {C : String} {i : Int32} (d : decode cc pc = .ok (.aaload, 1)) (hk : zkd o = kk) (hN : zln o = N) (he : zce θ kk N o (σ.1 o) (σ.2.1 o) (σ.2.2 o) = .inl (zA θ kk, N, .inr (.inr (.inr (.inr (fun j => some (za θ (zel o j)))))))) (ht : (zty θ)[t0]? = some (zA θ kk, .object C)) (hlo : lo ≤ o) (hhi : o < lo + n) (hi : zin i N = true)
    (g : WZ l cc nL ret own lo n θ R Q σ lv (pc + 1) (.ref (za θ (zel o i.toNatClampNeg)) :: st)) : WZ l cc nL ret own lo n θ R Q σ lv pc (.int i :: .ref (za θ o) :: st) :=
  fun _ _ _ _ _ _ _ _ _ _ _ Z hP hS hl => va_aldq (D := zD θ) (cl := zcl) Z.1 Z.2.1 Z.2.2.2.2.2.2.2.1 hP (o - lo) t0 (by rw [zwd_at hlo hhi, zcell_arr hk hN he]) ht (zin_i hi) d (g _ _ _ _ _ _ _ _ _ _ _ Z hP hS hl)
/-- a row of the array of rows of longs -/
theorem z_aald6 {i : Int32} (d : decode cc pc = .ok (.aaload, 1)) (hlo : lo ≤ 11) (hhi : 11 < lo + n) (hi : zin i 6 = true)
    (g : WZ l cc nL ret own lo n θ R Q σ lv (pc + 1) (.ref (za θ (zel 11 i.toNatClampNeg)) :: st)) : WZ l cc nL ret own lo n θ R Q σ lv pc (.int i :: .ref (za θ 11) :: st) :=
  fun _ _ _ _ _ _ _ _ _ _ _ Z hP hS hl => by
    have ha : (zwd lo n θ σ)[11 - lo]? = some (za θ 11, .inl (zA θ 6, 6, .inr (.inr (.inr (.inr (fun j => some (za θ (zel 11 j)))))))) := by rw [zwd_at hlo hhi]; rfl
    have hin := zin_i hi
    have hlt : i.toNatClampNeg < 6 := Nat.not_le.mp fun q => hin (Or.inr q)
    exact W.aald (v := va_rf (some (za θ (zel 11 i.toNatClampNeg)))) (ty := .array .long) Z.1 Z.2.1 (hP (11 - lo) _ ha) ((Z.2.2.2.2.2.2.2.1.2 6 _ rfl).1 6 (fun j => va_rf (some (za θ (zel 11 j))))) rfl (fun q => by cases q) (by show ¬ (i < 0 ∨ (arrV _ _ _).slots.size ≤ _); rw [arrV_size]; exact hin) (by show (arrV _ _ _).slots[_]? = _; rw [arrV_read _ _ hlt]) rfl rfl d (g _ _ _ _ _ _ _ _ _ _ _ Z hP hS hl)
theorem z_alen {o N kk t0 : Nat} {x : vp_A} {ty : FieldType} {v : Int32} (d : decode cc pc = .ok (.arraylength, 1)) (hk : zkd o = kk) (hN : zln o = N) (he : zce θ kk N o (σ.1 o) (σ.2.1 o) (σ.2.2 o) = .inl (zA θ kk, x)) (ht : (zty θ)[t0]? = some (zA θ kk, ty)) (hlo : lo ≤ o) (hhi : o < lo + n) (hv : Int32.ofNat x.1 = v)
    (g : WZ l cc nL ret own lo n θ R Q σ lv (pc + 1) (.int v :: st)) : WZ l cc nL ret own lo n θ R Q σ lv pc (.ref (za θ o) :: st) :=
  fun _ _ _ _ _ _ _ _ _ _ _ Z hP hS hl => va_alen (D := zD θ) (cl := zcl) Z.1 Z.2.1 Z.2.2.2.2.2.2.2.1 hP (o - lo) t0 (by rw [zwd_at hlo hhi, zcell_arr hk hN he]) ht hv d (g _ _ _ _ _ _ _ _ _ _ _ Z hP hS hl)
/-! static tables -/
theorem z_above {index : Nat} (d : decode cc pc = .ok (.getstatic index, 3)) (hw : Cond.fieldLinkNest own index "BakedBefore" "ABOVE" "[I" "BakedBefore" = zn_acts ∨ Cond.fieldLinkNest own index "BakedBefore" "ABOVE" "[I" "BakedBefore" = zn_loaf)
    (g : WZ l cc nL ret own lo n θ R Q σ lv (pc + 3) (.ref (zf θ 0) :: st)) : WZ l cc nL ret own lo n θ R Q σ lv pc st :=
  fun _ _ _ _ _ _ _ _ _ _ _ Z hP hS hl => va_getsN (ref := "BakedBefore") (host := "BakedBefore") Z.1 Z.2.1 Z.2.2.2.2.2.2.2.2.2.1.1.1 hS Z.2.2.2.1 (by
    have h := Z.2.2.2.2.2.2.2.2.2.1.2.2.1
    rcases hw with e | e
    · rw [e]; exact va_Nw.use rfl h.1
    · rw [e]; exact va_Nw.use rfl h.2.1) (fun _ h => h) d (g _ _ _ _ _ _ _ _ _ _ _ Z hP hS hl)
theorem z_bodies {index : Nat} (d : decode cc pc = .ok (.getstatic index, 3)) (hw : Cond.fieldLink own index "BakedBefore$Acts" "BODIES" "[I" ∈ zW0)
    (g : WZ l cc nL ret own lo n θ R Q σ lv (pc + 3) (.ref (zf θ 1) :: st)) : WZ l cc nL ret own lo n θ R Q σ lv pc st :=
  fun _ _ _ _ _ _ _ _ _ _ _ Z hP hS hl => va_gets (ref := "BakedBefore$Acts") Z.1 Z.2.1 Z.2.2.2.2.2.2.2.2.2.1.2.1.1 hS Z.2.2.2.1 (Z.2.2.2.2.1 _ hw) (fun _ h => h) d (g _ _ _ _ _ _ _ _ _ _ _ Z hP hS hl)
theorem z_ialdA {i : Int32} (d : decode cc pc = .ok (.iaload, 1)) (hi : zin i 7 = true)
    (g : WZ l cc nL ret own lo n θ R Q σ lv (pc + 1) (.int (zabove i.toNatClampNeg) :: st)) : WZ l cc nL ret own lo n θ R Q σ lv pc (.int i :: .ref (zf θ 0) :: st) :=
  fun _ _ _ _ _ _ _ _ _ _ _ Z hP hS hl => va_ti Z.1 Z.2.1 Z.2.2.2.2.2.2.2.2.2.1.1.2 hS (zin_i hi) rfl d (g _ _ _ _ _ _ _ _ _ _ _ Z hP hS hl)
theorem z_ialdB {i : Int32} (d : decode cc pc = .ok (.iaload, 1)) (hi : zin i 21 = true)
    (g : WZ l cc nL ret own lo n θ R Q σ lv (pc + 1) (.int (zbodies i.toNatClampNeg) :: st)) : WZ l cc nL ret own lo n θ R Q σ lv pc (.int i :: .ref (zf θ 1) :: st) :=
  fun _ _ _ _ _ _ _ _ _ _ _ Z hP hS hl => va_ti Z.1 Z.2.1 Z.2.2.2.2.2.2.2.2.2.1.2.1.2 hS (zin_i hi) rfl d (g _ _ _ _ _ _ _ _ _ _ _ Z hP hS hl)
/-! returns -/
theorem z_iret {v : Int32} {res : Int32 × ZM} (d : decode cc pc = .ok (.ireturn, 1)) (h : some (v, σ) = some res) : WZ l cc nL (some .int) own lo n θ R (zQ mkI lo n θ res) σ lv pc [.int v] :=
  fun _ _ _ _ _ _ _ _ _ _ _ Z hP hS hl => W.iret (hlocks := Z.2.2.2.2.2.1) Z.1 Z.2.1 Z.2.2.2.2.2.2.1 (fun t ht hW => by
    cases h
    exact ⟨⟨rfl, by rw [ht]; exact hP, va_K.moved hW.alike Z.2.2.2.2.2.2.2.1, Z.2.2.2.2.2.2.2.2.1, zFX.warm hW (by rw [ht]; exact Z.2.2.2.2.2.2.2.2.2.1.kept hS.2.1)⟩, hS.F ht⟩) hS.2.2 d
theorem z_zret {v : Int32} {res : Int32 × ZM} (d : decode cc pc = .ok (.ireturn, 1)) (hb : zbl v = true) (h : some (v, σ) = some res) : WZ l cc nL (some .boolean) own lo n θ R (zQ mkI lo n θ res) σ lv pc [.int v] :=
  fun _ _ _ _ _ _ _ _ _ _ _ Z hP hS hl => W.zret (hlocks := Z.2.2.2.2.2.1) Z.1 Z.2.1 Z.2.2.2.2.2.2.1 (zbl_i hb) (fun t ht hW => by
    cases h
    exact ⟨⟨rfl, by rw [ht]; exact hP, va_K.moved hW.alike Z.2.2.2.2.2.2.2.1, Z.2.2.2.2.2.2.2.2.1, zFX.warm hW (by rw [ht]; exact Z.2.2.2.2.2.2.2.2.2.1.kept hS.2.1)⟩, hS.F ht⟩) hS.2.2 d
theorem z_lret {v : Int64} {res : Int64 × ZM} (d : decode cc pc = .ok (.lreturn, 1)) (h : some (v, σ) = some res) : WZ l cc nL (some .long) own lo n θ R (zQ mkL lo n θ res) σ lv pc [.long v] :=
  fun _ _ _ _ _ _ _ _ _ _ _ Z hP hS hl => W.lret (hlocks := Z.2.2.2.2.2.1) Z.1 Z.2.1 Z.2.2.2.2.2.2.1 (fun t ht hW => by
    cases h
    exact ⟨⟨rfl, by rw [ht]; exact hP, va_K.moved hW.alike Z.2.2.2.2.2.2.2.1, Z.2.2.2.2.2.2.2.2.1, zFX.warm hW (by rw [ht]; exact Z.2.2.2.2.2.2.2.2.2.1.kept hS.2.1)⟩, hS.F ht⟩) hS.2.2 d
theorem z_vret {res : Unit × ZM} (d : decode cc pc = .ok (.return_, 1)) (h : some ((), σ) = some res) : WZ l cc nL none own lo n θ R (zQ mkV lo n θ res) σ lv pc [] :=
  fun _ _ _ _ _ _ _ _ _ _ _ Z hP hS hl => W.vret (hlocks := Z.2.2.2.2.2.1) Z.1 Z.2.1 Z.2.2.2.2.2.2.1 (fun t ht hW => by
    cases h
    exact ⟨⟨rfl, by rw [ht]; exact hP, va_K.moved hW.alike Z.2.2.2.2.2.2.2.1, Z.2.2.2.2.2.2.2.2.1, zFX.warm hW (by rw [ht]; exact Z.2.2.2.2.2.2.2.2.2.1.kept hS.2.1)⟩, hS.F ht⟩) hS.2.2 d
theorem z_sret {i : Nat} {C : String} {res : Nat × ZM} (d : decode cc pc = .ok (.areturn, 1)) (h : some (i, σ) = some res) : WZ l cc nL (some (.object C)) own lo n θ R (zQ mkS lo n θ res) σ lv pc [.ref (zf θ (2 + i))] :=
  fun _ _ _ _ _ _ _ _ _ _ _ Z hP hS hl => W.aret (hlocks := Z.2.2.2.2.2.1) Z.1 Z.2.1 Z.2.2.2.2.2.2.1 (Or.inl ⟨_, rfl⟩) (Or.inr ⟨_, rfl⟩) (fun t ht hW => by
    cases h
    exact ⟨⟨rfl, by rw [ht]; exact hP, va_K.moved hW.alike Z.2.2.2.2.2.2.2.1, Z.2.2.2.2.2.2.2.2.1, zFX.warm hW (by rw [ht]; exact Z.2.2.2.2.2.2.2.2.2.1.kept hS.2.1)⟩, hS.F ht⟩) hS.2.2 d
end CELLS
/-- a method's contract -/
abbrev zMet {α : Type} (mk : ZT → α → Option Value) (l : Launch) (lo n : Nat) (θ : ZT) (y : MethodName) (b : ByteArray) (nL : Nat) (ret : Option FieldType) (rm : Room) (av : List Value) (σ : ZM) (res : α × ZM) : Prop :=
  Met l y (Cond.code y b nL ret :: zW0) rm (va_Pc av (zWB lo n θ σ)) (zQ mk lo n θ res) 0 0 (zAA lo n θ)
theorem z_met {α : Type} {mk : ZT → α → Option Value} {l : Launch} {lo n : Nat} {θ : ZT} {y : MethodName} {b : ByteArray} {nL : Nat} {ret : Option FieldType} {rm : Room} {av : List Value} {σ : ZM} {res : α × ZM} {lv : List (Nat × Value)} (hy : plainName y.cls = true) (hlv : lv_args 0 av = lv) (hlen : (lg_sl av).length ≤ nL) (hn : lo + n ≤ 143)
    (g : WZ l b nL ret y.cls lo n θ rm (zQ mk lo n θ res) σ lv 0 []) : zMet mk l lo n θ y b nL ret rm av σ res := by
  refine Met.ofW (cc := b) (maxL := nL) (ret := ret) hy rfl ?_
  intro p e s m args below meth c s₁ B hml hv
  obtain ⟨rfl, hP, hK, hJ, hF⟩ := hv
  have hts := atoms_spec (ws := Cond.code y b nL ret :: zW0) B.pre
  have hl := lv_entry av (n := nL) hlen
  rw [lg_entry_eq]
  rw [hlv] at hl
  exact g p e s m _ below meth c s.heap [] _ ⟨B.exec, B.bytes, hml, findClass_of_methodNamed B.named, fun w hw => hts w (List.mem_cons_of_mem _ hw), B.notSynchronized, B.returns, hK, hJ, hF, hn⟩ hP va_S.rf hl
