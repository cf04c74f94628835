/-! THE START: what the premises give -/
abbrev zPL : List Cond := flatC (Jvm.Cond.and given_1 narrow_1)
def zstm (i : Nat) : Term := .string (if i < 4 then "BakedBefore$Reade\x72" else "BakedBeforeModel") (([96, 98, 100, 102, 139, 141, 143, 145] : List Nat).getD i 0)
theorem pl_above : ∀ j, j < 7 → Cond.eq (.elem (.static "BakedBefore" "ABOVE" "[I") (.int (Int32.ofNat j))) (.int (zabove j)) ∈ zPL := by decide +kernel
theorem pl_bodies : ∀ j, j < 21 → Cond.eq (.elem (.static "BakedBefore$Acts" "BODIES" "[I") (.int (Int32.ofNat j))) (.int (zbodies j)) ∈ zPL := by decide +kernel
theorem pl_s1 : ∀ i, i < 8 → Cond.exactly (zstm i) "java/lang/String" ∈ zPL := by decide +kernel
theorem pl_s2 : ∀ i, i < 8 → Cond.eq (.field (zstm i) "java/lang/String" "code\x72" "B") (.int 0) ∈ zPL := by decide +kernel
theorem pl_s3 : ∀ i, i < 8 → Cond.arrayOf (.field (zstm i) "java/lang/String" "value" "[B") .byte ∈ zPL := by decide +kernel
theorem pl_s4 : ∀ i, i < 8 → Cond.eq (.length (.field (zstm i) "java/lang/String" "value" "[B")) (.int (Int32.ofNat (zslen.getD i 0))) ∈ zPL := by decide +kernel
theorem pl_s5 : ∀ i, i < 8 → ∀ j, j < zslen.getD i 0 → Cond.eq (.elem (.field (zstm i) "java/lang/String" "value" "[B") (.int (Int32.ofNat j))) (.int ((zsbyt.getD i []).getD j 0)) ∈ zPL := by decide +kernel
theorem pl_s6 : ∀ i, i < 8 → ∀ j, j < 8 → i ≠ j → Cond.not (Cond.eq (zstm i) (zstm j)) ∈ zPL ∨ Cond.not (Cond.eq (zstm j) (zstm i)) ∈ zPL := by decide +kernel
theorem vk_S.cong {N : Nat} {len : List Nat} {byt : List (List Int32)} {k1 v1 k2 v2 : Nat → Nat} {A : Nat → Prop} {U : State} {H : Heap} (h : vk_S N len byt k1 v1 A U H) (hk : ∀ i, i < N → k2 i = k1 i) (hv : ∀ i, i < N → v2 i = v1 i) : vk_S N len byt k2 v2 A U H :=
  ⟨fun i hi => by rw [hk i hi, hv i hi]; exact h.1 i hi, fun i j hi hj e => h.2 i j hi hj (by rw [← hk i hi, ← hk j hj]; exact e)⟩
theorem st_FX {args : Array Value} {s : State} {A : Nat → Prop} (hgv : (Jvm.Cond.and given_1 narrow_1).before args s = true) (hts : ∀ w ∈ lw_tbl, w.before args s = true) (hA : ∀ a : Nat, a < s.heap.size → ¬ A a) :
    ∃ z : Nat → Nat, ∀ (D : va_G) (T : Nat → ClassId) (a : Nat → Nat), zFX A (D, T, a, z) s s.heap := by
  have hs : ∀ w ∈ zPL, w.before args s = true := flat_of_before _ hgv
  obtain ⟨tA, eA, hTA⟩ := va_Tof (s := s) (args := args) (tm := .static "BakedBefore" "ABOVE" "[I") (ty := .int) (N := 7) (f := fun j => .int (zabove j)) (A := A) (by decide) (hs _ (by decide +kernel)) (va_eqt (hs (Cond.eq (.length (.static "BakedBefore" "ABOVE" "[I")) (.int 7)) (by decide +kernel))) (fun j hj => va_eqt (hs _ (pl_above j hj))) hA
  obtain ⟨tB, eB, hTB⟩ := va_Tof (s := s) (args := args) (tm := .static "BakedBefore$Acts" "BODIES" "[I") (ty := .int) (N := 21) (f := fun j => .int (zbodies j)) (A := A) (by decide) (hs _ (by decide +kernel)) (va_eqt (hs (Cond.eq (.length (.static "BakedBefore$Acts" "BODIES" "[I")) (.int 21)) (by decide +kernel))) (fun j hj => va_eqt (hs _ (pl_bodies j hj))) hA
  obtain ⟨adK, adV, hSS, eS⟩ := vk_Sof (s := s) (args := args) (N := 8) (tm := zstm) (len := zslen) (byt := zsbyt) (A := A) (by decide +kernel) (fun i hi => hs _ (pl_s1 i hi)) (fun i hi => hs _ (pl_s2 i hi)) (fun i hi => hs _ (pl_s3 i hi)) (fun i hi => hs _ (pl_s4 i hi)) (fun i hi j hj => hs _ (pl_s5 i hi j hj)) (fun i j hi hj hij => (pl_s6 i hi j hj hij).imp (hs _) (hs _)) hA
  have hvS := vk_S.cong (k2 := fun i => (if 2 + i = 0 then tA else if 2 + i = 1 then tB else if 2 + i < 10 then adK (2 + i - 2) else adV (2 + i - 10))) (v2 := fun i => (if 10 + i = 0 then tA else if 10 + i = 1 then tB else if 10 + i < 10 then adK (10 + i - 2) else adV (10 + i - 10))) hSS
    (fun i hi => by rw [if_neg (show ¬ 2 + i = 0 by omega), if_neg (show ¬ 2 + i = 1 by omega), if_pos (show 2 + i < 10 by omega), Nat.add_sub_cancel_left]) (fun i hi => by rw [if_neg (show ¬ 10 + i = 0 by omega), if_neg (show ¬ 10 + i = 1 by omega), if_neg (show ¬ 10 + i < 10 by omega), Nat.add_sub_cancel_left])
  refine ⟨fun k => if k = 0 then tA else if k = 1 then tB else if k < 10 then adK (k - 2) else adV (k - 10), fun D T a => ⟨⟨va_Zof (hts _ (by decide +kernel)) (hts _ (by decide +kernel)) eA hA, hTA⟩, ⟨va_Zof (hts _ (by decide +kernel)) (hts _ (by decide +kernel)) eB hA, hTB⟩, ⟨va_Nw.of rfl (hts zn_acts (by decide +kernel)), va_Nw.of rfl (hts zn_loaf (by decide +kernel)), va_Nw.of rfl (hts zn_flag (by decide +kernel))⟩,
    ⟨vk_R.of (hts (.stringRef "BakedBefore$Reade\x72" 96 "take") (by decide +kernel)) (eS 0 (by decide)), vk_R.of (hts (.stringRef "BakedBefore$Reade\x72" 98 "more") (by decide +kernel)) (eS 1 (by decide)), vk_R.of (hts (.stringRef "BakedBefore$Reade\x72" 100 "cold") (by decide +kernel)) (eS 2 (by decide)), vk_R.of (hts (.stringRef "BakedBefore$Reade\x72" 102 "fee") (by decide +kernel)) (eS 3 (by decide)),
     vk_R.of (hts (.stringRef "BakedBeforeModel" 139 "take ") (by decide +kernel)) (eS 4 (by decide)), vk_R.of (hts (.stringRef "BakedBeforeModel" 141 "more ") (by decide +kernel)) (eS 5 (by decide)), vk_R.of (hts (.stringRef "BakedBeforeModel" 143 "cold ") (by decide +kernel)) (eS 6 (by decide)), vk_R.of (hts (.stringRef "BakedBeforeModel" 145 "fee ") (by decide +kernel)) (eS 7 (by decide))⟩,
    hvS, va_Zof (hts _ (by decide +kernel)) (hts _ (by decide +kernel)) (va_eqi (hs (Cond.eq (.static "java/lang/String" "COMPACT_STRINGS" "Z") (.int 1)) (by decide +kernel))) hA, va_Zqof (hts _ (by decide +kernel)) (hts _ (by decide +kernel)) (hs (Cond.isRef (.static "jdk/internal/util/Preconditions" "SIOOBE_FORMATTER" "Ljava/util/function/BiFunction;")) (by decide +kernel)) hA⟩⟩
theorem st_NX {args : Array Value} {s : State} (hts : ∀ w ∈ lw_tbl, w.before args s = true) : kNX s := by
  refine ⟨⟨va_Nw.of rfl (hts kn1 (by decide +kernel)), va_Nw.of rfl (hts kn2 (by decide +kernel)), va_Nw.of rfl (hts kn3 (by decide +kernel)), va_Nw.of rfl (hts kn4 (by decide +kernel)), va_Nw.of rfl (hts kn5 (by decide +kernel)), va_Nw.of rfl (hts kn6 (by decide +kernel)), va_Nw.of rfl (hts kn7 (by decide +kernel))⟩, ⟨va_AO.of (hts (.arrayOver (.object "BakedBefore$Loaf")) (by decide +kernel)), va_AO.of (hts (.arrayOver (.object "BakedBefore$Kiln")) (by decide +kernel)), va_AO.of (hts (.arrayOver (.object "BakedBefore$Oven")) (by decide +kernel))⟩, ?_⟩
  obtain ⟨comp, c, k, h1, -, h2, h3, h4⟩ := arrayOverA_spec (args := args) (first := s) (o := none) (s := s) (idx := []) (hts (.arrayOver (.array .long)) (by decide +kernel))
  exact ⟨comp, c, k, h1, h2, h3, h4⟩
def zct (k : Nat) : FieldType := if k = 0 then .int else if k = 1 then .boolean else if k = 2 then .long else if k = 3 then .object R_Loaf else if k = 4 then .object R_Oven else if k = 5 then .object R_Kiln else .array .long
theorem st_arr {args : Array Value} {s : State} (hts : ∀ w ∈ lw_tbl, w.before args s = true) (k : Nat) : ∃ cA : ClassId, ArrOfT s cA (zct k) ∧ va_RA s cA (zct k) := by
  have pr : ∀ ty, Cond.arrayClass ty ∈ lw_tbl → (∀ U cA, U.vm.findClass ("[" ++ ty.toString) = some cA → va_RA U cA ty) → ∃ cA : ClassId, ArrOfT s cA ty ∧ va_RA s cA ty := by
    intro ty h h2
    obtain ⟨c, kA, comp, h3, h4, h5⟩ := Cond.arrayClass_spec (args := args) (first := s) (o := none) (s := s) (idx := []) (hts _ h)
    exact ⟨c, fun N z => ⟨fun k h => (by cases h), kA, h4, comp, h5⟩, h2 s c h3⟩
  have ob : ∀ C, Cond.arrayOver (.object C) ∈ lw_tbl → ∃ cA : ClassId, ArrOfT s cA (.object C) ∧ va_RA s cA (.object C) := by
    intro C h
    obtain ⟨comp, c, kA, h1, h2, h3, h4, h5⟩ := Cond.arrayOver_spec (args := args) (first := s) (o := none) (s := s) (idx := []) (hts _ h)
    exact ⟨c, fun N z => ⟨fun k h => (by cases h), kA, h3, comp, h4⟩, kA, comp, h3, h4, h1, h5⟩
  unfold zct
  by_cases h0 : k = 0
  · rw [if_pos h0]; exact pr _ (by decide +kernel) (fun _ _ h => h)
  · rw [if_neg h0]
    by_cases h1 : k = 1
    · rw [if_pos h1]; exact pr _ (by decide +kernel) (fun _ _ h => h)
    · rw [if_neg h1]
      by_cases h2 : k = 2
      · rw [if_pos h2]; exact pr _ (by decide +kernel) (fun _ _ h => h)
      · rw [if_neg h2]
        by_cases h3 : k = 3
        · rw [if_pos h3]; exact ob _ (by decide +kernel)
        · rw [if_neg h3]
          by_cases h4 : k = 4
          · rw [if_pos h4]; exact ob _ (by decide +kernel)
          · rw [if_neg h4]
            by_cases h5 : k = 5
            · rw [if_pos h5]; exact ob _ (by decide +kernel)
            · rw [if_neg h5]
              obtain ⟨comp, c, kA, h1, -, h2, h3, h4⟩ := arrayOverA_spec (args := args) (first := s) (o := none) (s := s) (idx := []) (hts (.arrayOver (.array .long)) (by decide +kernel))
              exact ⟨c, fun N z => ⟨fun k h => (by cases h), kA, h2, comp, h3⟩, h4⟩
theorem st_cls {args : Array Value} {s : State} (hts : ∀ w ∈ lw_tbl, w.before args s = true) (k : Nat) : ∃ x : ClassId × (Nat → Nat), ∀ q : vw_C, zcl[k]? = some q → u_Kn s q.1 q.2.1 q.2.2 x.1 x.2 := by
  have hz : ∀ w ∈ zW0, w.before args s = true := fun w hw => hts w (List.mem_filter.mp hw).1
  have one : ∀ (C : String) (T : u_T) (N : Nat), (∀ w ∈ u_ws C T N, w ∈ zW0) → Cond.instantiable C N ∈ lw_tbl → ∃ x : ClassId × (Nat → Nat), ∀ q : vw_C, some (C, T, N) = some q → u_Kn s q.1 q.2.1 q.2.2 x.1 x.2 := by
    intro C T N h1 h2
    obtain ⟨c, f, h⟩ := u_known (C := C) (T := T) (N := N) (n := N) hz h1 (hts _ h2)
    refine ⟨(c, f), fun q hq => ?_⟩
    cases hq
    exact h
  match k with
  | 0 => exact one _ _ _ i_BB (by decide +kernel)
  | 1 => exact one _ _ _ i_Acts (by decide +kernel)
  | 2 => exact one _ _ _ i_Asker (by decide +kernel)
  | 3 => exact one _ _ _ i_Baker (by decide +kernel)
  | 4 => exact one _ _ _ i_Book (by decide +kernel)
  | 5 => exact one _ _ _ i_Kiln (by decide +kernel)
  | 6 => exact one _ _ _ i_Loaf (by decide +kernel)
  | 7 => exact one _ _ _ i_Oven (by decide +kernel)
  | 8 => exact one _ _ _ i_Reader (by decide +kernel)
  | 9 => exact one _ _ _ i_Search (by decide +kernel)
  | 10 => exact one _ _ _ i_Stand (by decide +kernel)
  | 11 => exact one _ _ _ i_Tapes (by decide +kernel)
  | 12 => exact one _ _ _ i_Model (by decide +kernel)
  | k + 13 =>
    obtain ⟨x, -⟩ := one _ _ _ i_BB (by decide +kernel)
    exact ⟨x, fun q hq => by cases hq⟩
theorem st_K {args : Array Value} {s : State} (hts : ∀ w ∈ lw_tbl, w.before args s = true) : ∃ (D : va_G) (T : Nat → ClassId), ∀ (a z : Nat → Nat), va_K (zD (D, T, a, z)) zcl (zty (D, T, a, z)) s := by
  obtain ⟨f, hf⟩ := Classical.axiomOfChoice (st_cls hts)
  obtain ⟨g, hg⟩ := Classical.axiomOfChoice (st_arr hts)
  refine ⟨(fun k => (f k).1, fun k => (f k).2), g, fun a z => ⟨fun c q hq => hf c q hq, fun k q hk => ?_⟩⟩
  match k, hk with
  | 0, hk => cases hk; exact hg 0
  | 1, hk => cases hk; exact hg 1
  | 2, hk => cases hk; exact hg 2
  | 3, hk => cases hk; exact hg 3
  | 4, hk => cases hk; exact hg 4
  | 5, hk => cases hk; exact hg 5
  | 6, hk => cases hk; exact hg 6
  | k + 7, hk => cases hk
