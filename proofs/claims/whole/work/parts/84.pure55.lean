/-! CONSTRUCTORS: a constructor called; rows of rows of longs -/
section KCALL
variable {l : Launch} {cc : ByteArray} {nL : Nat} {own : String} {θ : ZT} {R : Room} {Q : Array Value → State → Outcome → State → Prop} {mc ms : Nat} {A : Nat → Prop} {ws : va_W} {lv : List (Nat × Value)} {pc : Nat} {st : List Value} {cells slots : Nat}
/-- what comes back of a constructor, put beside the rest -/
theorem k_back {A : Nat → Prop} {ws w1 : va_W} {q : Nat} {e0 : va_E} {H H1 : Heap} (hP : va_P (zD θ) zcl (ws ++ [(q, e0)]) H) (hD : va_D A (ws ++ [(q, e0)])) (hA : ∀ x, H.size ≤ x → A x) (hk : ∀ x : Nat, x < H.size → ¬ va_A [(q, e0)] H.size x → H1[x]? = H[x]?) (hP1 : va_P (zD θ) zcl w1 H1) (hD1 : va_D (va_A [(q, e0)] H.size) w1) :
    va_P (zD θ) zcl (ws ++ w1) H1 ∧ va_D A (ws ++ w1) := by
  have in0 : ∀ (k : Nat) (x : Nat × va_E), ws[k]? = some x → (ws ++ [(q, e0)])[k]? = some x := fun k x hx => by rw [List.getElem?_append_left (List.getElem?_eq_some_iff.mp hx).1]; exact hx
  have inq : (ws ++ [(q, e0)])[ws.length]? = some (q, e0) := by rw [List.getElem?_append_right (Nat.le_refl _), Nat.sub_self]; rfl
  have out : ∀ (k : Nat) (x : Nat × va_E), ws[k]? = some x → x.1 < H.size ∧ ¬ va_A [(q, e0)] H.size x.1 := fun k x hx => by
    have lt := (hP k x (in0 k x hx)).lt
    refine ⟨lt, ?_⟩
    rintro (⟨j, e, hj⟩ | h)
    · have hj1 := (List.getElem?_eq_some_iff.mp hj).1
      simp only [List.length_cons, List.length_nil] at hj1
      obtain rfl : j = 0 := by omega
      have e1 : x.1 = q := by
        have := Option.some.inj hj
        exact (congrArg Prod.fst this).symm
      have := hD.1 k ws.length x (q, e0) (in0 k x hx) inq e1
      have := (List.getElem?_eq_some_iff.mp hx).1
      omega
    · omega
  have hP0 : va_P (zD θ) zcl ws H := fun k x hx => hP k x (in0 k x hx)
  have hD0 : va_D A ws := ⟨fun i j a b ha hb hab => hD.1 i j a b (in0 i a ha) (in0 j b hb) hab, fun k x hx => hD.2 k x (in0 k x hx)⟩
  refine ⟨(hP0.kept (fun k x hx => hk x.1 (out k x hx).1 (out k x hx).2)).app hP1, hD0.app (hD1.weaken (fun k x _ hx => ?_)) (fun i j a b ha hb hab => ?_)⟩
  · rcases hx with ⟨j, e, hj⟩ | h
    · have hj1 := (List.getElem?_eq_some_iff.mp hj).1
      simp only [List.length_cons, List.length_nil] at hj1
      obtain rfl : j = 0 := by omega
      have e1 : x.1 = q := by
        have := Option.some.inj hj
        exact (congrArg Prod.fst this).symm
      rw [e1]
      exact hD.2 _ _ inq
    · exact hA _ h
  · have h1 := hD1.2 j b hb
    rw [← hab] at h1
    exact (out i a ha).2 h1
theorem va_Aq {q : Nat} {e0 : va_E} {ws : va_W} {A : Nat → Prop} {H0 H : Heap} {locs : List Loc} (hD : va_D A (ws ++ [(q, e0)])) (hS : va_S A H0 H locs) (hA : ∀ x, H0.size ≤ x → A x) : ∀ x, va_A [(q, e0)] H.size x → A x := by
  rintro x (⟨j, e, hj⟩ | h)
  · have hj1 := (List.getElem?_eq_some_iff.mp hj).1
    simp only [List.length_cons, List.length_nil] at hj1
    obtain rfl : j = 0 := by omega
    have e1 : x = q := by
      have := Option.some.inj hj
      exact (congrArg Prod.fst this).symm
    rw [e1]
    exact hD.2 ws.length (q, e0) (by rw [List.getElem?_append_right (Nat.le_refl _), Nat.sub_self]; rfl)
  · exact hA x (Nat.le_trans hS.1 h)
theorem k_ctor {y : MethodName} {b : ByteArray} {nM k index q mc1 ms1 : Nat} {rm : Room} {e0 : va_E} {As st1 : List Value} {ws1 : (Nat → Nat) → va_W} (hM : ∀ sz, kMet l θ y b nM rm As sz q e0 mc1 ms1 ws1) (F : zcf y b nM none k) (hi : Cond.instanceMethod y ∈ zW0) (hy : y.name = "<init>") (hlink : Cond.methodLink own index y ∈ zW0 ∨ ∀ U, kNX U → va_Nw (.methodLinkNest own index y "BakedBefore") U)
    (d : decode cc pc = .ok (.invokespecial index, 3)) (hAs : As.length = k) (hst : st1 = As.reverse ++ .ref q :: st) (hcat : (st.map fun v => v.category).sum ≤ 8) (hr0 : rm.cells = mc1) (hr1 : rm.slots = ms1) (hR : rm.frames + 1 ≤ R.frames ∧ 8 + (nM + 11) + rm.locals ≤ R.locals) (hcells : cells + mc1 ≤ R.cells) (hslots : slots + ms1 ≤ R.slots)
    (g : ∀ u, WK l cc nL own θ R Q mc ms A (ws ++ ws1 u) lv (pc + 3) st (cells + mc1) (slots + ms1)) : WK l cc nL own θ R Q mc ms A (ws ++ [(q, e0)]) lv pc st1 cells slots := by
  intro p e s m args below meth c H locs ls Z hP hD hS hl
  obtain ⟨f1, f2, f3⟩ := F
  have hts := Z.2.2.2.2.1
  have hA := Z.2.2.2.2.2.2.2.2.1
  have hX := Z.2.2.2.2.2.2.2.2.2.1
  have hPq : va_P (zD θ) zcl [(q, e0)] H := fun j x hx => by
    have hj1 := (List.getElem?_eq_some_iff.mp hx).1
    simp only [List.length_cons, List.length_nil] at hj1
    obtain rfl : j = 0 := by omega
    rw [← Option.some.inj hx]
    exact hP ws.length (q, e0) (by rw [List.getElem?_append_right (Nat.le_refl _), Nat.sub_self]; rfl)
  have pre : ∀ U : State, U.heap = H → s.WarmedH U.vm → kPre θ q e0 H.size U := fun U hU hW => ⟨by rw [hU], by rw [hU]; exact hPq, va_K.moved hW.alike Z.2.2.2.2.2.2.2.1, hX.warm hW⟩
  have run : va_Run p l e R s m args below meth c H locs cells slots mc1 ms1 (F0 m pc ls st1) st (kQ θ H.size q e0 ws1 (Value.ref q :: As).toArray) (va_A [(q, e0)] H.size) := by
    rcases hlink with hlink | hlink
    · exact va_runI (S := ⟨Z.1, Z.2.1, Z.2.2.1, Z.2.2.2.1, hts⟩) (hM H.size) ⟨callB_of k hts (zgoodIn f1) rfl hr0 hr1 (hts _ f2) (hts _ hlink) f3 hR, hy, hts _ hi⟩ ⟨kPre.blind, fun U hU hW => ⟨rfl, pre U hU hW⟩⟩ rfl hAs hl.1 hst (lv_room hcat) d ⟨hcells, hslots⟩
    · exact va_runIN (S := ⟨Z.1, Z.2.1, Z.2.2.1, Z.2.2.2.1, hts⟩) (hM H.size) ⟨va_cnB k hts (zgoodIn f1) rfl hr0 hr1 (hlink s hX) (hts _ f2) f3 hR, hy, hts _ hi⟩ ⟨kPre.blind, fun U hU hW => ⟨rfl, pre U hU hW⟩⟩ rfl hAs hl.1 hst (lv_room hcat) d ⟨hcells, hslots⟩
  have hAq := va_Aq hD hS hA
  refine va_callv run hS (fun x _ h => hAq x h) hAq (fun u t H1 locs1 ht hvm _ hB hz1 hk1 hS1 => ?_)
  obtain ⟨hP1, hD1⟩ := hB
  rw [ht] at hP1
  obtain ⟨hP2, hD2⟩ := k_back hP hD (fun x h => hA x (Nat.le_trans hS.1 h)) hk1 hP1 hD1
  exact g u _ _ _ _ _ _ _ _ _ _ _ Z hP2 hD2 hS1 hl
end KCALL
