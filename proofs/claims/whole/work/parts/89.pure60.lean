/-! CONSTRUCTORS: the row of the instruction that makes them -/
theorem cell_eq {x y : Cell} (h1 : x.cls = y.cls) (h2 : x.slots = y.slots) (h3 : x.vm = y.vm) (h4 : x.monitor = y.monitor) (h5 : x.hash = y.hash) : x = y := by
  cases x; cases y
  cases h1; cases h2; cases h3; cases h4; cases h5
  rfl
theorem mOut_m (a : ClassId) (h : Nat) (i : Nat) : (mOut a h i).monitor = {} ∧ (mOut a h i).hash = none := by
  induction i with
  | zero => exact ⟨rfl, rfl⟩
  | succ i ih => exact ih
theorem mOut_v (a : ClassId) (h : Nat) : mOut a h 6 = arrV a 6 (fun j => va_rf (kfm [some (h + (0 + 1)), some (h + (1 + 1)), some (h + (2 + 1)), some (h + (3 + 1)), some (h + (4 + 1)), some (h + (5 + 1))] j)) := by
  obtain ⟨x, y, z⟩ := mOut_f a h 6
  refine cell_eq x ?_ y (mOut_m a h 6).1 (mOut_m a h 6).2
  apply Array.ext_getElem?
  intro i
  by_cases q : i < 6
  · rw [mOut_s a h 6 i q, if_pos q]
    have : i = 0 ∨ i = 1 ∨ i = 2 ∨ i = 3 ∨ i = 4 ∨ i = 5 := by omega
    rcases this with rfl | rfl | rfl | rfl | rfl | rfl <;> rfl
  · rw [Array.getElem?_eq_none (by omega), Array.getElem?_eq_none (by simp [arrV]; omega)]
section MX
variable {p : Program} {l : Launch} {e : Env} {R : Room} {s : State} {m : MethodId} {args : Array Value} {below : List Frame} {meth : Method} {c : Code} {T : State} {locs : List Loc} {cells slots : Nat}
theorem mSt_X (X : Stand p l e R s m args below meth c T locs cells slots) (a b : ClassId) (i : Nat) : Stand p l e R s m args below meth c (mSt T a b i) (locs ++ (List.range i).map fun j => ⟨T.heap.size, j⟩) (cells + 1 + i) (slots + 6 + i * 60) := by
  induction i with
  | zero =>
    have g := X.pushed (mOut a T.heap.size 0)
    rw [(mOut_f a T.heap.size 0).2.2] at g
    rw [List.range_zero, List.map_nil, List.append_nil, Nat.zero_mul]
    exact g
  | succ i ih =>
    obtain ⟨f1, f2, -, -⟩ := mSt_f T a b i
    have lt : T.heap.size < (mSt T a b i).heap.size := by omega
    have hc : ((mSt T a b i).pushCell (mIn b)).heap[T.heap.size]? = some (mOut a T.heap.size i) := by rw [State.heap_pushCell_of_lt (h := lt)]; exact f2
    have g := (ih.pushed (mIn b)).stored hc i (.ref (T.heap.size + (i + 1)))
    have e1 : (mIn b).slots.size = 60 := by simp [mIn]
    rw [e1, List.append_assoc] at g
    rw [List.range_succ, List.map_append, show slots + 6 + (i + 1) * 60 = slots + 6 + i * 60 + 60 by omega, show cells + 1 + (i + 1) = cells + 1 + i + 1 by omega]
    exact g
end MX
def mW (θ : ZT) (h : Nat) (u : Nat → Nat) : va_W := [(h, .inl (zA θ 6, 6, .inr (.inr (.inr (.inr (kfm [some (u 0), some (u 1), some (u 2), some (u 3), some (u 4), some (u 5)])))))), (u 0, .inl (zA θ 2, 60, .inr (.inl (fun _ => 0)))), (u 1, .inl (zA θ 2, 60, .inr (.inl (fun _ => 0)))), (u 2, .inl (zA θ 2, 60, .inr (.inl (fun _ => 0)))), (u 3, .inl (zA θ 2, 60, .inr (.inl (fun _ => 0)))), (u 4, .inl (zA θ 2, 60, .inr (.inl (fun _ => 0)))), (u 5, .inl (zA θ 2, 60, .inr (.inl (fun _ => 0))))]
theorem mW_a {θ : ZT} {h k : Nat} {x : Nat × va_E} (hx : (mW θ h (fun j => h + (j + 1)))[k]? = some x) : k < 7 ∧ x.1 = h + k := by
  have lt := (List.getElem?_eq_some_iff.mp hx).1
  have l7 : (mW θ h (fun j => h + (j + 1))).length = 7 := rfl
  rw [l7] at lt
  refine ⟨lt, ?_⟩
  have : k = 0 ∨ k = 1 ∨ k = 2 ∨ k = 3 ∨ k = 4 ∨ k = 5 ∨ k = 6 := by omega
  rcases this with rfl | rfl | rfl | rfl | rfl | rfl | rfl <;> (cases hx; rfl)
theorem k_multi {l : Launch} {cc : ByteArray} {nL : Nat} {own : String} {θ : ZT} {R : Room} {Q : Array Value → State → Outcome → State → Prop} {mc ms : Nat} {A : Nat → Prop} {ws : va_W} {lv : List (Nat × Value)} {pc : Nat} {st : List Value} {cells slots index : Nat}
    (d : decode cc pc = .ok (.multianewarray index 2, 4)) (hlink : Cond.classLink own index "[[J" ∈ zW0) (harr : Cond.arrayClass .long ∈ zW0) (hcells : cells + 7 ≤ R.cells) (hslots : slots + 366 ≤ R.slots)
    (g : ∀ (q : Nat) (u : Nat → Nat), WK l cc nL own θ R Q mc ms A (ws ++ mW θ q u) lv (pc + 4) (.ref q :: st) (cells + 7) (slots + 366)) : WK l cc nL own θ R Q mc ms A ws lv pc (.int 60 :: .int 6 :: st) cells slots := by
  intro p e s m args below meth c H locs ls Z hP hD hS hl
  intro T hT X
  subst hT
  obtain ⟨hx, hb, hml, hown, hts, hlk, hret, hK, hA, hNX, hin⟩ := id Z
  subst hb
  have hpl : e.platform.magicAccessors = ({} : Platform).magicAccessors := by rw [X.admits.platform]
  obtain ⟨b, a, kA, hb1, hkA, hkindA, ha1⟩ := hNX.2.2
  obtain ⟨b', kB, cc, hb2, hkB, hkindB⟩ := Cond.arrayClass_spec (hts _ harr)
  obtain rfl : b' = b := Option.some.inj (hb2.symm.trans hb1)
  obtain ⟨c0, hfc0, hcl⟩ := Cond.classLink_spec hown (hts _ hlink) e.platform hpl
  obtain rfl : a = c0 := Option.some.inj (ha1.symm.trans hfc0)
  obtain ⟨hg₁, hwarm₁, hready₁⟩ := State.classEntry (e := e) X.warmed hcl
  generalize T.vm.noted (F0 m pc ls (.int 60 :: .int 6 :: st)).method.cls index (.cls a) = vm₁ at hg₁ hwarm₁ hready₁
  have hal : s.vm.Alike vm₁ := hwarm₁.alike
  obtain ⟨kA₁, hkA₁, heA⟩ := hal.2.2 _ _ hkA
  obtain ⟨kB₁, hkB₁, heB⟩ := hal.2.2 _ _ hkB
  have hkindA₁ : kA₁.kind = .array b' (.array .long) := by rw [heA]; exact hkindA
  have hkindB₁ : kB₁.kind = .array cc .long := by rw [heB]; exact hkindB
  have X₁ := X.noted hwarm₁
  obtain ⟨hr1, hr2⟩ := X.roomAbove hcells hslots
  have ea : a = zA θ 6 := by
    have e1 : s.vm.findClass ("[" ++ (FieldType.array .long).toString) = some (zA θ 6) := (hK.2 6 (zA θ 6, .array .long) rfl).2
    exact Option.some.inj (ha1.symm.trans e1)
  have eb : b' = zA θ 2 := by
    have e1 : s.vm.findClass ("[" ++ FieldType.long.toString) = some (zA θ 2) := (hK.2 2 (zA θ 2, .long) rfl).2
    exact Option.some.inj (hb1.symm.trans e1)
  have XF := mSt_X X₁ a b' 6
  obtain ⟨F1, F2, -, -⟩ := mSt_f (T.setVm vm₁) a b' 6
  have old : ∀ q : Nat, q < T.heap.size → (mSt (T.setVm vm₁) a b' 6).heap[q]? = T.heap[q]? := mSt_o (T.setVm vm₁) a b' 6
  have inn : ∀ j, j < 6 → (mSt (T.setVm vm₁) a b' 6).heap[T.heap.size + (j + 1)]? = some (mIn b') := mSt_i (T.setVm vm₁) a b' 6
  have hlt : ∀ (k : Nat) (x : Nat × va_E), ws[k]? = some x → x.1 < T.heap.size := fun k x hx => (hP k x hx).lt
  have P1 : va_P (zD θ) zcl (ws ++ mW θ T.heap.size (fun j => T.heap.size + (j + 1))) (mSt (T.setVm vm₁) a b' 6).heap := by
    refine (hP.kept (fun k x hx => old x.1 (hlt k x hx))).app (fun k x hx => ?_)
    obtain ⟨k7, -⟩ := mW_a hx
    have : k = 0 ∨ k = 1 ∨ k = 2 ∨ k = 3 ∨ k = 4 ∨ k = 5 ∨ k = 6 := by omega
    have row : ∀ j, j < 6 → (mSt (T.setVm vm₁) a b' 6).heap[T.heap.size + (j + 1)]? = some (vp_cell (zA θ 2) (60, .inr (.inl (fun _ => 0)))) := fun j hj => by
      rw [inn j hj, vp_cell_l, ← eb]
      exact congrArg some (arrV_new b' 60 (.long 0))
    rcases this with rfl | rfl | rfl | rfl | rfl | rfl | rfl
    · cases hx
      show (mSt (T.setVm vm₁) a b' 6).heap[T.heap.size]? = some (vp_cell (zA θ 6) _)
      rw [vp_cell_q, ← ea, ← mOut_v]
      exact F2
    · cases hx; exact row 0 (by omega)
    · cases hx; exact row 1 (by omega)
    · cases hx; exact row 2 (by omega)
    · cases hx; exact row 3 (by omega)
    · cases hx; exact row 4 (by omega)
    · cases hx; exact row 5 (by omega)
  have D1 : va_D A (ws ++ mW θ T.heap.size (fun j => T.heap.size + (j + 1))) := by
    refine hD.app ⟨fun i j x y hx hy hxy => ?_, fun k x hx => ?_⟩ (fun i j x y hx hy hxy => ?_)
    · have := (mW_a hx).2
      have := (mW_a hy).2
      omega
    · rw [(mW_a hx).2]
      exact hA _ (by have := hS.1; omega)
    · have := hlt i x hx
      have := (mW_a hy).2
      omega
  have hsz : (T.setVm vm₁).heap.size = T.heap.size := rfl
  have S1 : va_S A s.heap (mSt (T.setVm vm₁) a b' 6).heap (locs ++ (List.range 6).map fun j => ⟨T.heap.size, j⟩) := by
    refine ⟨by rw [F1]; have := hS.1; omega, fun q h1 h2 => ?_, fun x hx => ?_⟩
    · rw [old q (Nat.lt_of_lt_of_le h1 hS.1)]
      exact hS.2.1 q h1 h2
    · rcases List.mem_append.mp hx with hx | hx
      · exact hS.2.2 x hx
      · obtain ⟨j, -, rfl⟩ := List.mem_map.mp hx
        exact hA _ hS.1
  obtain ⟨t, st1, q1⟩ := g T.heap.size (fun j => T.heap.size + (j + 1)) p e s m args below meth c _ _ ls Z P1 D1 S1 hl _ rfl XF
  refine ⟨t, ?_, q1⟩
  have hl2 : ¬ 60 > e.platform.arrayLengthLimit := by rw [Launch.admits_arrayLengthLimit X.admits]; omega
  have hh2 : ¬ 480 > e.platform.maxHeapBytes := by rw [Launch.admits_maxHeapBytes X.admits]; omega
  jvm_step X.here [hx, d]
  simp only [multianewarray.sem, wp_bind', W.resolveClassAt_links (State.method?_setTop (F0 m pc ls (.int 60 :: .int 6 :: st)) X.here.top) hg₁]
  rw [W.popN, if_neg (by decide)]
  refine ⟨F0 m pc ls (.int 60 :: .int 6 :: st), State.topJava?_setTop' (s := T.setVm vm₁) (F0 m pc ls (.int 60 :: .int 6 :: st)) X.here.top, [.int 6, .int 60], st, rfl, rfl, ?_⟩
  simp only [List.mapM_cons, List.mapM_nil, wp_bind', wp_pure']
  refine m_all (ka := kA₁) (kb := kB₁) (b := b') (c := cc) hkA₁ hkindA₁ hkB₁ hkindB₁ hl2 hh2 (by show T.heap.size + 7 ≤ _; omega) (by show T.slotsUsed + 366 ≤ _; omega) (fun d' acts' => ?_)
  have eS : ((T.setTop (F0 m pc ls (.int 60 :: .int 6 :: st))).setVm vm₁).setTop { (F0 m pc ls (.int 60 :: .int 6 :: st)) with stack := st } = (T.setVm vm₁).setTop { (F0 m pc ls (.int 60 :: .int 6 :: st)) with stack := st } := by
    show ((T.setVm vm₁).setTop (F0 m pc ls (.int 60 :: .int 6 :: st))).setTop _ = _
    rw [State.setTop_setTop]
  rw [eS, mSt_t]
  simp only [wp_bind', W.mark, W.pushRef, State.topJava?_setTop' _ XF.here.top, Option.some.injEq, exists_eq_left', State.setTop_setTop, State.heap_setTop]
  intro acts
  simp [jvm, XF.here.top]
  exact st1
