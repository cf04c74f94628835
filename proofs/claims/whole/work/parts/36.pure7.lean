/-! PURE: loaves come; books -/
theorem Bbegin_u (N a : Nat) (x : Int32) (σ : ZM) : F_Loaf_begin_12 (N + 1) (a, x, σ) = f_Loaf_begin_12 (F_Loaf_begin_12 N) a x σ := rfl
theorem Bbegin_e {a : Nat} (ha : zR 0 129 a 16 0 = true) (k v : Int32) (σ : ZM) : ∃ σ', f_Loaf_begin a k v σ = some ((), σ') ∧ (∀ o j, zL σ' o j = zL σ o j) ∧ (∀ o j, zP σ' o j = zP σ o j) ∧ (∀ o j, zI σ' o j = if o = a + 24 ∧ j < 4 then nI 9 else if o = a + 12 ∧ j < 4 then nI 0 else if o = a ∧ j = 4 then v else if o = a ∧ j = 3 then k else zI σ o j) := by
  unfold f_Loaf_begin
  rw [zck_of ha]
  simp (disch := omega) only [Bbegin_u, f_Loaf_begin_12, ↓reduceIte, Nat.reduceAdd, Nat.reduceMul, Nat.reduceSub, Nat.reduceLeDiff, Nat.reduceLT, Nat.reduceEqDiff, nI_leI, nI_ltI, nI_eq, zbd_s, zck_t, zlit, nI_add, nI_mul, nI_clamp, zck_nI, zbl_0, zbl_1]
  refine ⟨_, rfl, fun _ _ => rfl, fun _ _ => rfl, fun o j => ?_⟩
  simp only [zI_sI]
  by_cases h1 : o = a + 24 ∧ j < 4
  · rw [if_pos h1]
    obtain ⟨rfl, h2⟩ := h1
    rcases (by omega : j = 0 ∨ j = 1 ∨ j = 2 ∨ j = 3) with rfl | rfl | rfl | rfl <;> simp
  · rw [if_neg h1]
    by_cases h3 : o = a + 12 ∧ j < 4
    · rw [if_pos h3]
      obtain ⟨rfl, h2⟩ := h3
      rcases (by omega : j = 0 ∨ j = 1 ∨ j = 2 ∨ j = 3) with rfl | rfl | rfl | rfl <;> simp
    · rw [if_neg h3]
      repeat rw [if_neg (show ¬ (o = a + 24 ∧ _) by omega), if_neg (show ¬ (o = a + 12 ∧ _) by omega)]
theorem Mbegin_u (N : Nat) (l x : Int32) (σ : ZM) : F_Model_loaf_77 (N + 1) (l, x, σ) = f_Model_loaf_77 (F_Model_loaf_77 N) l x σ := rfl
theorem Mbegin_e {m : Nat} (hm : m < 6) (σ : ZM) (h5 : zI σ 130 5 = nI m) : ∃ σ', F_Model_loaf_77 2000 (nI m, 0, σ) = some (nI m, σ') ∧ (∀ o j, zL σ' o j = zL σ o j) ∧ (∀ o j, zP σ' o j = zP σ o j) ∧ (∀ o j, zI σ' o j = if o = 130 ∧ j = 5 then nI (m + 1) else if o = 130 ∧ 14 + 10 * m ≤ j ∧ j < 18 + 10 * m then nI 9 else if o = 130 ∧ 10 + 10 * m ≤ j ∧ j < 14 + 10 * m then nI 0 else zI σ o j) := by
  simp (disch := omega) only [Mbegin_u, f_Model_loaf_77, ↓reduceIte, Nat.reduceAdd, Nat.reduceMul, Nat.reduceSub, Nat.reduceLeDiff, Nat.reduceLT, Nat.reduceEqDiff, nI_leI, nI_ltI, nI_eq, zbd_s, zck_t, zlit, nI_add, nI_mul, nI_clamp, zck_nI, zbl_0, zbl_1]
  refine ⟨_, rfl, fun _ _ => rfl, fun _ _ => rfl, fun o j => ?_⟩
  simp only [zI_sI]
  by_cases h0 : o = 130 ∧ j = 5
  · rw [if_pos h0, if_pos h0]
    repeat rw [if_neg (by omega)]
    rw [h5, nI_add]
  · rw [if_neg h0, if_neg h0]
    by_cases h1 : o = 130 ∧ 14 + 10 * m ≤ j ∧ j < 18 + 10 * m
    · rw [if_pos h1]
      obtain ⟨rfl, h2, h3⟩ := h1
      rcases (by omega : j = 8 + 10 * m + 6 + 0 ∨ j = 8 + 10 * m + 6 + 1 ∨ j = 8 + 10 * m + 6 + 2 ∨ j = 8 + 10 * m + 6 + 3) with rfl | rfl | rfl | rfl <;> simp
    · rw [if_neg h1]
      by_cases h4 : o = 130 ∧ 10 + 10 * m ≤ j ∧ j < 14 + 10 * m
      · rw [if_pos h4]
        obtain ⟨rfl, h2, h3⟩ := h4
        rcases (by omega : j = 8 + 10 * m + 2 + 0 ∨ j = 8 + 10 * m + 2 + 1 ∨ j = 8 + 10 * m + 2 + 2 ∨ j = 8 + 10 * m + 2 + 3) with rfl | rfl | rfl | rfl <;> simp
      · rw [if_neg h4]
        repeat rw [if_neg (by omega)]
/-- one loaf more -/
theorem zRel_loaf {σ σ' τ τ' : ZM} (h : zRel σ τ) {m n k v : Nat} (hs : zRs m n σ τ) (hm : m < 6) (hk : k < 7) (hv : v ≤ 9)
    (hσ : ∀ o j, zI σ' o j = if o = 1 ∧ j = 3 then nI (m + 1) else if o = 75 + m ∧ j < 4 then nI 9 else if o = 63 + m ∧ j < 4 then nI 0 else if o = 51 + m ∧ j = 4 then nI v else if o = 51 + m ∧ j = 3 then nI k else zI σ o j) (hL : ∀ o j, zL σ' o j = zL σ o j) (hP : ∀ o j, zP σ' o j = zP σ o j)
    (hτ : ∀ o j, zI τ' o j = if o = 130 ∧ j = 5 then nI (m + 1) else if o = 130 ∧ 14 + 10 * m ≤ j ∧ j < 18 + 10 * m then nI 9 else if o = 130 ∧ 10 + 10 * m ≤ j ∧ j < 14 + 10 * m then nI 0 else if o = 130 ∧ j = 9 + 10 * m then nI v else if o = 130 ∧ j = 8 + 10 * m then nI k else zI τ o j) (hτL : ∀ o j, zL τ' o j = zL τ o j) : zRel σ' τ' := by
  obtain ⟨⟨a, b, c, d, e⟩, ⟨h2, h3⟩, h4⟩ := id hs
  have hva : ∀ p, zva (m + 1) n p = true → zva m n p = true ∨ (8 + 10 * m ≤ p ∧ p < 18 + 10 * m) := by
    intro p hp
    simp only [zva, Bool.or_eq_true, Bool.and_eq_true, decide_eq_true_eq] at hp ⊢
    omega
  refine zRel_S (m := m + 1) (n := n) h ⟨⟨by omega, b, by rw [hτ, if_pos ⟨rfl, rfl⟩], by rw [hτ, if_neg (by omega), if_neg (by omega), if_neg (by omega), if_neg (by omega), if_neg (by omega)]; exact d, fun p hp => ?_⟩, ⟨?_, fun p hp6 hp => ?_⟩, fun i hi => ?_⟩ (fun o j ho => ?_) hL hP (fun o j ho => ?_) hτL ?_
  · have hl := zva_lt (by omega) hp
    by_cases q : 8 + 10 * m ≤ p ∧ p < 18 + 10 * m
    · rw [hτ, if_neg (by omega)]
      refine Or.inl ?_
      by_cases q1 : 14 + 10 * m ≤ p
      · rw [if_pos ⟨rfl, q1, q.2⟩]
        exact ⟨9, by simp only [zmx]; repeat' split
                     all_goals omega, rfl, fun z => by omega⟩
      · rw [if_neg (by omega)]
        by_cases q2 : 10 + 10 * m ≤ p
        · rw [if_pos (by omega)]; exact ⟨0, by omega, rfl, fun z => by omega⟩
        · rw [if_neg (by omega)]
          by_cases q3 : p = 9 + 10 * m
          · rw [if_pos ⟨rfl, q3⟩]
            exact ⟨v, by simp only [zmx]; repeat' split
                         all_goals omega, rfl, fun z => by omega⟩
          · rw [if_neg (by omega), if_pos (by omega)]
            exact ⟨k, by simp only [zmx]; repeat' split
                         all_goals omega, rfl, fun z => by omega⟩
    · have hp' := (hva p hp).resolve_right q
      have e5 := e p hp'
      by_cases q5 : p = 5
      · subst q5
        rw [hτ, if_pos ⟨rfl, rfl⟩]
        exact Or.inl ⟨m + 1, by simp [zmx]; omega, rfl, fun z => by omega⟩
      · rw [hτ, if_neg (by omega), if_neg (by omega), if_neg (by omega), if_neg (by omega), if_neg (by omega)]
        rcases e5 with z | ⟨z1, z2, z3 | ⟨j, z3, z4⟩⟩
        · exact Or.inl z
        · exact Or.inr ⟨z1, z2, Or.inl z3⟩
        · exact Or.inr ⟨z1, z2, Or.inr ⟨j, by omega, z4⟩⟩
  · rw [hσ, if_neg (by omega), if_neg (by omega), if_neg (by omega), if_neg (by omega), if_neg (by omega), hτ, if_neg (by omega), if_neg (by omega), if_neg (by omega), if_neg (by omega), if_neg (by omega)]; exact h2
  · have hl := zva_lt (by omega) hp
    by_cases q : 8 + 10 * m ≤ p ∧ p < 18 + 10 * m
    · obtain ⟨z, hz, rfl⟩ : ∃ z, z < 10 ∧ p = 8 + 10 * m + z := ⟨p - (8 + 10 * m), by omega, by omega⟩
      rcases (by omega : z = 0 ∨ z = 1 ∨ (2 ≤ z ∧ z < 6) ∨ (6 ≤ z ∧ z < 10)) with rfl | rfl | ⟨z1, z2⟩ | ⟨z1, z2⟩
      · have hloc := (by decide +kernel : ∀ m, m < 6 → zlo 0 (8 + 10 * m + 0) = 51 + m ∧ zlk (8 + 10 * m + 0) = 3) m hm
        rw [hloc.1, hloc.2, hσ, hτ, if_neg (by omega), if_neg (by omega), if_neg (by omega), if_neg (by omega), if_pos (by omega), if_neg (by omega), if_neg (by omega), if_neg (by omega), if_neg (by omega), if_pos (by omega)]
      · have hloc := (by decide +kernel : ∀ m, m < 6 → zlo 0 (8 + 10 * m + 1) = 51 + m ∧ zlk (8 + 10 * m + 1) = 4) m hm
        rw [hloc.1, hloc.2, hσ, hτ, if_neg (by omega), if_neg (by omega), if_neg (by omega), if_pos (by omega), if_neg (by omega), if_neg (by omega), if_neg (by omega), if_pos (by omega)]
      · have hloc := (by decide +kernel : ∀ m, m < 6 → ∀ z, z < 10 → 2 ≤ z → z < 6 → zlo 0 (8 + 10 * m + z) = 63 + m ∧ zlk (8 + 10 * m + z) = z - 2) m hm z hz z1 z2
        rw [hloc.1, hloc.2, hσ, hτ, if_neg (by omega), if_neg (by omega), if_pos (by omega), if_neg (by omega), if_neg (by omega), if_pos (by omega)]
      · have hloc := (by decide +kernel : ∀ m, m < 6 → ∀ z, z < 10 → 6 ≤ z → zlo 0 (8 + 10 * m + z) = 75 + m ∧ zlk (8 + 10 * m + z) = z - 6) m hm z hz z1
        rw [hloc.1, hloc.2, hσ, hτ, if_neg (by omega), if_pos (by omega), if_neg (by omega), if_pos (by omega)]
    · have hp' := (hva p hp).resolve_right q
      by_cases q5 : p = 5
      · subst q5
        rw [hτ, if_pos ⟨rfl, rfl⟩]
        show zI σ' 1 3 = _
        rw [hσ, if_pos ⟨rfl, rfl⟩]
      · rw [hτ, if_neg (by omega), if_neg (by omega), if_neg (by omega), if_neg (by omega), if_neg (by omega), ← h3 p hp6 hp']
        have hne := ((by decide +kernel : ∀ m, m < 6 → ∀ p, p < 92 → p = 5 ∨ (8 + 10 * m ≤ p ∧ p < 18 + 10 * m) ∨ (¬ (zlo 0 p = 1 ∧ zlk p = 3) ∧ zlo 0 p ≠ 75 + m ∧ zlo 0 p ≠ 63 + m ∧ zlo 0 p ≠ 51 + m)) m hm p hl).resolve_left q5 |>.resolve_left q
        rw [hσ, if_neg hne.1, if_neg (fun z => hne.2.1 z.1), if_neg (fun z => hne.2.2.1 z.1), if_neg (fun z => hne.2.2.2 z.1), if_neg (fun z => hne.2.2.2 z.1)]
  · rw [hσ, if_neg (by omega), if_neg (by omega), if_neg (by omega), if_neg (by omega), if_neg (by omega)]; exact h4 i hi
  · have : cS 1 = true ∧ (∀ i, i < 6 → cS (51 + i) = true ∧ cS (63 + i) = true ∧ cS (75 + i) = true) := by decide +kernel
    have hq := this.2 m hm
    rw [hσ, if_neg, if_neg, if_neg, if_neg, if_neg]
    · rintro ⟨rfl, -⟩; rw [hq.1] at ho; cases ho
    · rintro ⟨rfl, -⟩; rw [hq.1] at ho; cases ho
    · rintro ⟨rfl, -⟩; rw [hq.2.1] at ho; cases ho
    · rintro ⟨rfl, -⟩; rw [hq.2.2] at ho; cases ho
    · rintro ⟨rfl, -⟩; cases ho
  · rw [hτ, if_neg (fun z => ho z.1), if_neg (fun z => ho z.1), if_neg (fun z => ho z.1), if_neg (fun z => ho z.1), if_neg (fun z => ho z.1)]
  · rw [hτ, if_neg (by omega), if_neg (by omega), if_neg (by omega), if_neg (by omega), if_neg (by omega)]
theorem op_loaf {σ τ : ZM} (h : zRel σ τ) (x1 x2 : Int32) : zOK (f_BB_loaf x1 x2 σ) (f_Model_loaf x1 x2 τ) := by
  obtain ⟨⟨m, n, hs⟩, -⟩ := id h
  obtain ⟨hm, m1, m2⟩ := zmany hs
  unfold f_BB_loaf f_Model_loaf
  simp only [zbd_s, zif, isInM_e (M := 6) x1 6 rfl (by omega), zrng (M := 6) 6 rfl (by omega), isInM_e (M := 9) x2 9 rfl (by omega), zrng (M := 9) 9 rfl (by omega)]
  cases hy : zin x1 7 with
  | false => exact zOK_s h
  | true =>
    cases hz : zin x2 10 with
    | false => exact zOK_s h
    | true =>
      obtain ⟨k, hk, hk2, rfl⟩ := zin_t hy
      obtain ⟨v, hv, hv2, rfl⟩ := zin_t hz
      simp (disch := omega) only [if_true, zbd_s, zck_t, zlit, nI_add, nI_mul, nI_clamp, zck_nI, zbl_0, zbl_1, m1, m2]
      by_cases c : m = 6
      · subst c
        rw [if_neg (nI_nlt (by omega) (by omega)), if_pos rfl]; exact zOK_s h
      · rw [if_pos (nI_lt (by omega) (by omega)), if_neg (by rw [nI_eq (by omega) (by omega)]; exact c)]
        simp (disch := omega) only [zck_nI, zel25, zck_l]
        obtain ⟨σ1, b1, b2, b3, b4⟩ := Bbegin_e (zRl (show m < 12 by omega)) (nI k) (nI v) σ
        obtain ⟨τ1, t1, t2, t3, t4⟩ := Mbegin_e (m := m) (by omega) (zsI (zsI τ 130 (8 + 10 * m) (nI k)) 130 (8 + 10 * m + 1) (nI v)) (by rw [zI_sI, if_neg (by omega), zI_sI, if_neg (by omega)]; exact m2)
        have e13 : zI σ1 1 3 = nI m := by rw [b4, if_neg (by omega), if_neg (by omega), if_neg (by omega), if_neg (by omega)]; exact m1
        rw [b1, zbd_s, show nI 0 = (0 : Int32) from rfl, t1, e13, nI_add, zI_sI, if_pos ⟨rfl, rfl⟩, nI_subE (by omega)]
        refine ⟨_, _, _, rfl, rfl, zRel_loaf (k := k) (v := v) h hs (by omega) hk (by omega) (fun o j => ?_) (fun o j => b2 o j) (fun o j => b3 o j) (fun o j => ?_) (fun o j => t2 o j)⟩
        · rw [zI_sI]
          by_cases q : o = 1 ∧ j = 3
          · rw [if_pos q, if_pos q]
          · rw [if_neg q, if_neg q, b4, show 51 + m + 24 = 75 + m by omega, show 51 + m + 12 = 63 + m by omega]
        · rw [t4, zI_sI, zI_sI, show 8 + 10 * m + 1 = 9 + 10 * m by omega]
