/-! CONSTRUCTORS: rows of references -/
def kfm (xs : List (Option Nat)) (j : Nat) : Option Nat := xs.getD j none
theorem kfm_0 (n : Nat) : (fun _ => none : Nat → Option Nat) = kfm (List.replicate n none) := by
  funext j
  unfold kfm
  rw [List.getD_eq_getElem?_getD]
  by_cases h : j < n
  · simp [h]
  · rw [List.getElem?_eq_none (by simp; omega)]; rfl
theorem kfm_u {xs : List (Option Nat)} {i : Nat} {v : Option Nat} (h : i < xs.length) : va_up (kfm xs) i v = kfm (xs.set i v) := by
  funext j
  show (if j = i then v else xs.getD j none) = (xs.set i v).getD j none
  rw [List.getD_eq_getElem?_getD, List.getD_eq_getElem?_getD, List.getElem?_set]
  by_cases q : j = i
  · subst q
    simp [h]
  · rw [if_neg q, if_neg (fun z => q z.symm)]
section KREFS
variable {l : Launch} {cc : ByteArray} {nL : Nat} {own : String} {θ : ZT} {R : Room} {Q : Array Value → State → Outcome → State → Prop} {mc ms : Nat} {A : Nat → Prop} {ws : va_W} {lv : List (Nat × Value)} {pc : Nat} {st : List Value} {cells slots : Nat}
theorem k_newr {C : String} {t0 index N' : Nat} {n : Int32} (d : decode cc pc = .ok (.anewarray index, 3)) (hcl : Cond.classLink own index C ∈ zW0) (hover : ∀ U, kNX U → va_AO C U) (ht : ∃ k, (zty θ)[t0]? = some (zA θ k, .object C) ∧ k = t0) (hn : ¬ n < 0) (hN : n.toNatClampNeg = N') (hbytes : N' * 4 ≤ 536870912)
    (hcells : cells + 1 ≤ R.cells) (hslots : slots + N' ≤ R.slots) (g : ∀ q, WK l cc nL own θ R Q mc ms A (ws ++ [(q, .inl (zA θ t0, N', .inr (.inr (.inr (.inr (kfm (List.replicate N' none)))))))]) lv (pc + 3) (.ref q :: st) (cells + 1) (slots + N')) : WK l cc nL own θ R Q mc ms A ws lv pc (.int n :: st) cells slots := by
  refine k_newq d hcl hover ht hn hN hbytes hcells hslots (fun q => ?_)
  rw [kfm_0 N']
  exact g q
theorem k_astr {q0 qk t0 ci n v a : Nat} {r : vw_C} {vs : List Value} {xs : List (Option Nat)} {i : Int32} (d : decode cc pc = .ok (.aastore, 1)) (ha : ws[q0]? = some (a, .inl (zA θ t0, n, .inr (.inr (.inr (.inr (kfm xs))))))) (ht : (zty θ)[t0]? = some (zA θ t0, .object r.1)) (hv : ws[qk]? = some (v, .inr (ci, vs))) (hc : zcl[ci]? = some r) (hi : zin i n = true) (hx : i.toNatClampNeg < xs.length)
    (g : WK l cc nL own θ R Q mc ms A (ws.set q0 (a, .inl (zA θ t0, n, .inr (.inr (.inr (.inr (kfm (xs.set i.toNatClampNeg (some v))))))))) lv (pc + 1) st cells slots) : WK l cc nL own θ R Q mc ms A ws lv pc (.ref v :: .int i :: .ref a :: st) cells slots :=
  k_aast d ha ht hv hc hi (kfm_u hx) rfl g
end KREFS
theorem k_w {l : Launch} {cc : ByteArray} {nL : Nat} {own : String} {θ : ZT} {R : Room} {Q : Array Value → State → Outcome → State → Prop} {mc ms : Nat} {A : Nat → Prop} {ws ws' : va_W} {lv : List (Nat × Value)} {pc pc' : Nat} {st : List Value} {cells cells' slots slots' : Nat} (h : ws = ws') (h1 : pc = pc') (h2 : cells = cells') (h3 : slots = slots')
    (g : WK l cc nL own θ R Q mc ms A ws' lv pc' st cells' slots') : WK l cc nL own θ R Q mc ms A ws lv pc st cells slots := by
  subst h; subst h1; subst h2; subst h3; exact g
