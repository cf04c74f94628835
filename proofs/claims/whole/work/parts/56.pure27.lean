/-! PURE: the class's sums -/
theorem sum_u (N K : Nat) (w a b i : Int32) (σ : ZM) : F_Kiln_sum_7 (N + 1) (K, w, a, b, i, σ) = f_Kiln_sum_7 (F_Kiln_sum_7 N) K w a b i σ := rfl
theorem zsteps_app (a b : List ZCl) : zsteps (a ++ b) = zsteps a ++ zsteps b := by simp [zsteps]
theorem sum_l {i7 w : Nat} {σ : ZM} {cs : List ZCl} {lam : Nat → Int32} (hi7 : i7 < 7) (h : zKB σ (87 + i7) cs) (hg : ∀ c ∈ cs, zGc c) (hw : ¬ w = 2) (hw4 : w < 4) (hlam : ∀ li, li < 6 → zI σ (87 + i7 + 35) li = lam li) :
    ∀ (d i N : Nat), i + d = cs.length → d < N → F_Kiln_sum_7 N (87 + i7, nI w, nI (zsmB lam w (cs.take i)), nI (zsteps (cs.take i)).length, nI i, σ) = some (nI (zsmB lam w cs), σ) := by
  obtain ⟨a, b, c, d5, e, f, g⟩ := h
  intro d
  induction d with
  | zero =>
    intro i N hi hN
    obtain ⟨N, rfl⟩ : ∃ M, N = M + 1 := ⟨N - 1, by omega⟩
    rw [sum_u]
    unfold f_Kiln_sum_7
    rw [b, if_pos (nI_le (by omega) (by omega)), List.take_of_length_le (by omega)]
  | succ d ih =>
    intro i N hi hN
    obtain ⟨N, rfl⟩ : ∃ M, N = M + 1 := ⟨N - 1, by omega⟩
    have hl : i < cs.length := by omega
    have ec : cs[i]? = some cs[i] := List.getElem?_eq_getElem hl
    have et : cs.take (i + 1) = cs.take i ++ [cs[i]] := by rw [List.take_succ, ec]; rfl
    obtain ⟨f1, f2, f3, f4, f5⟩ := f i _ ec
    obtain ⟨g1, g2, g3, g4⟩ := hg cs[i] (List.getElem_mem hl)
    have es : zsteps (cs.take (i + 1)) = zsteps (cs.take i) ++ cs[i].2.2 := by rw [et]; exact zsteps_a _ _
    have eall : zsteps cs = zsteps (cs.take i) ++ cs[i].2.2 ++ zsteps (cs.drop (i + 1)) := by
      rw [← es, ← zsteps_app, List.take_append_drop]
    have hle : (zsteps (cs.take i)).length + cs[i].2.2.length ≤ 100 := by
      have := congrArg List.length eall
      simp only [List.length_append] at this
      omega
    have ih' := ih (i + 1) N (by omega) (by omega)
    rw [et, zsmB_a, zsteps_a, List.length_append] at ih'
    rw [sum_u]
    unfold f_Kiln_sum_7 f_Kiln_sum_52
    rw [b, if_neg (nI_ge hl (by omega)), zck_nI (by omega) (by omega), nI_clamp (by omega), f3, f5, es, List.length_append, show nI i + (1 : Int32) = nI (i + 1) from nI_add i 1]
    by_cases q : cs[i].1 = w
    · rw [if_pos (by rw [q]), zck_nI (by omega) (by omega)]
      unfold f_Kiln_holds
      rw [zck_of (zRkn hi7), hold_l (e := (zsteps (cs.take i)).length + cs[i].2.2.length) (lam := lam) hle hlam cs[i].2.2 [] (zsteps (cs.take i)).length 2000 0 (fun i b hb => by cases hb) (by decide) (fun j s hj => by
        apply g
        have hjl := (List.getElem?_eq_some_iff.mp hj).1
        rw [eall, List.getElem?_append_left (by rw [List.length_append]; omega), List.getElem?_append_right (by omega), Nat.add_sub_cancel_left]; exact hj) rfl g3 ((g4 (by omega) 0 (by omega) [-1]).trans rfl) (by omega), zbd_s, zif, f4, f5, es, List.length_append, zck_nI (by omega) (by omega), nI_add]
      have ev : ((cs[i].2.2.foldl (zbs lam) []).headD false) = zevB lam cs[i].2.2 := rfl
      rw [ev]
      by_cases z : zevB lam cs[i].2.2 = true
      · rw [if_pos ⟨q, z⟩] at ih'
        rw [if_pos z, zck_nI (by omega) (by omega)]; exact ih'
      · rw [if_neg (fun y => z y.2), Nat.add_zero] at ih'
        rw [if_neg z, zck_nI (by omega) (by omega)]; exact ih'
    · rw [if_neg (fun y => q y.1), Nat.add_zero] at ih'
      rw [if_neg (fun y => q ((nI_eq (by omega) (by omega)).mp y)), zck_nI (by omega) (by omega)]; exact ih'
theorem sum_e {i7 w : Nat} {σ : ZM} {cs : List ZCl} {lam : Nat → Int32} (hi7 : i7 < 7) (h : zKB σ (87 + i7) cs) (hg : ∀ c ∈ cs, zGc c) (hw : ¬ w = 2) (hw4 : w < 4) (hlam : ∀ li, li < 6 → zI σ (87 + i7 + 35) li = lam li) :
    f_Kiln_sum (87 + i7) (nI w) σ = some (nI (zsmB lam w cs), σ) := by
  have ha := h.1
  unfold f_Kiln_sum
  rw [zck_of (zRkn hi7)]
  exact sum_l hi7 h hg hw hw4 hlam cs.length 0 2000 (by omega) (by omega)
/-- a sum of a kiln is small -/
theorem zsmB_le0 (lam : Nat → Int32) (w : Nat) : ∀ (cs : List ZCl) (a : Nat), (∀ c ∈ cs, zGc c) → cs.foldl (fun a c => if c.1 = w ∧ zevB lam c.2.2 = true then a + c.2.1 else a) a ≤ a + 99 * cs.length
  | [], a, _ => Nat.le_refl _
  | c :: cs, a, hg => by
    have i1 := zsmB_le0 lam w cs (if c.1 = w ∧ zevB lam c.2.2 = true then a + c.2.1 else a) (fun d hd => hg d (List.mem_cons_of_mem _ hd))
    have i2 := (hg c List.mem_cons_self).2.1
    refine Nat.le_trans i1 ?_
    simp only [List.length_cons]
    split <;> omega
theorem zsmB_le (lam : Nat → Int32) (w : Nat) (cs : List ZCl) (hg : ∀ c ∈ cs, zGc c) : zsmB lam w cs ≤ 99 * cs.length := by
  have := zsmB_le0 lam w cs 0 hg
  rw [Nat.zero_add] at this; exact this
/-- the letters as the class sets them down -/
theorem look_e {i7 i l a d : Nat} {x2 x3 x4 : Int32} {σ : ZM} (hi7 : i7 < 7) (hb : zR 0 129 (51 + i) 16 0 = true) (h0 : zI σ (51 + i) 0 = nI l) (hi : i < 12) :
    ∃ σ', f_Kiln_lookAt (87 + i7) (51 + i) x2 x3 x4 σ = some ((), σ') ∧ (∀ o k, ¬ o = 87 + i7 + 35 → zI σ' o k = zI σ o k) ∧ (∀ o k, zP σ' o k = zP σ o k) ∧ (∀ o k, zL σ' o k = zL σ o k) ∧
      ∀ li, li < 6 → zI σ' (87 + i7 + 35) li = if li = 0 then nI l else if li = 1 then zI σ (51 + i) 3 else if li = 2 then x2 else if li = 3 then zI σ (51 + i) 4 else if li = 4 then x4 - x4 / 60 * 60 else x3 := by
  unfold f_Kiln_lookAt
  rw [zck_of (zRkn hi7), zck_of hb, zck_of (show zin (0 : Int32) 6 = true by decide), zck_of (show zin (1 : Int32) 6 = true by decide), zck_of (show zin (2 : Int32) 6 = true by decide), zck_of (show zin (3 : Int32) 6 = true by decide), zck_of (show zin (4 : Int32) 6 = true by decide), zck_of (show zin (5 : Int32) 6 = true by decide),
    show (0 : Int32).toNatClampNeg = 0 from rfl, show (1 : Int32).toNatClampNeg = 1 from rfl, show (2 : Int32).toNatClampNeg = 2 from rfl, show (3 : Int32).toNatClampNeg = 3 from rfl, show (4 : Int32).toNatClampNeg = 4 from rfl, show (5 : Int32).toNatClampNeg = 5 from rfl, h0]
  refine ⟨_, rfl, fun o k n => ?_, fun o k => rfl, fun o k => rfl, fun li hli => ?_⟩
  · rw [zI_sI, if_neg (fun q => n q.1), zI_sI, if_neg (fun q => n q.1), zI_sI, if_neg (fun q => n q.1), zI_sI, if_neg (fun q => n q.1), zI_sI, if_neg (fun q => n q.1), zI_sI, if_neg (fun q => n q.1)]
  · have n1 : ∀ k j : Nat, ¬ (51 + i = 87 + i7 + 35 ∧ k = j) := fun k j => by omega
    have : li = 0 ∨ li = 1 ∨ li = 2 ∨ li = 3 ∨ li = 4 ∨ li = 5 := by omega
    rcases this with rfl | rfl | rfl | rfl | rfl | rfl
    all_goals simp (config := { decide := true }) only [zI_sI, n1, and_false, if_true, if_false, true_and, and_self, Nat.reduceEqDiff, reduceIte]
