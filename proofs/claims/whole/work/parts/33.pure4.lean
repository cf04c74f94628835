/-! PURE: commands on loaves, the oven, the text, counts -/
theorem cS_x : ∀ o, o < 200 → cS o = true → cI o = false ∧ cK o = false ∧ cA o = false ∧ cP o = false ∧ o ≠ 3 ∧ o ≠ 4 := by decide +kernel
theorem cS_lt {o : Nat} (h : cS o = true) : o < 200 := by
  simp [cS] at h
  omega
theorem zRel_S {σ σ' τ τ' : ZM} (h : zRel σ τ) {m n : Nat} (hs : zRs m n σ' τ') (hσ : ∀ o k, cS o = false → zI σ' o k = zI σ o k) (hL : ∀ o k, zL σ' o k = zL σ o k) (hP : ∀ o k, zP σ' o k = zP σ o k) (hτ : ∀ o k, o ≠ 130 → zI τ' o k = zI τ o k) (hτL : ∀ o k, zL τ' o k = zL τ o k) (h6 : zI τ' 130 6 = zI τ 130 6) : zRel σ' τ' := by
  obtain ⟨-, h2, h3, h4, h5, h7⟩ := h
  have nS : ∀ {o : Nat}, (cI o = true ∨ cK o = true ∨ cA o = true ∨ cP o = true ∨ o = 3 ∨ o = 4) → cS o = false := by
    intro o ho
    cases hc : cS o with
    | false => rfl
    | true =>
      obtain ⟨a, b, c, d, e, f⟩ := cS_x o (cS_lt hc) hc
      rcases ho with q | q | q | q | q | q
      · rw [a] at q; cases q
      · rw [b] at q; cases q
      · rw [c] at q; cases q
      · rw [d] at q; cases q
      · exact absurd q e
      · exact absurd q f
  refine ⟨⟨m, n, hs⟩, zRi_c h2 (fun o k ho => hσ o k (nS (Or.inl ho))) (fun k _ => hτ _ k (by omega)) (hτ _ _ (by omega)), zRt_c h3 (hσ _ _ rfl) (hτ _ _ (by omega)) (fun k _ => hσ _ _ rfl) (fun k _ => hτ _ _ (by omega)), zRa_c h4 (fun o k ho => hσ o k (nS (Or.inr (Or.inr (Or.inl ho))))) (hτ _ _ (by omega)) (fun k _ => hτ _ _ (by omega)), zRp_c h5 (fun o k ho => hσ o k (nS (Or.inr (Or.inr (Or.inr (Or.inl ho)))))) (fun o k _ => hL o k) (fun k _ => hτ _ _ (by omega)) (fun k _ => hτ _ _ (by omega)) (fun k _ => hτL _ _), zRk_c h7 (fun o k ho => hσ o k (nS (Or.inr (Or.inl ho)))) (hP _ _) (fun k _ => hτ _ _ (by omega)) (fun k _ => hτ _ _ (by omega)) (hτ _ _ (by omega)) (hτ _ _ (by omega)) h6 (hτ _ _ (by omega))⟩
theorem zok_n {m p g : Nat} (h1 : p < 68 ∨ p % 2 = 1) (h2 : g ≤ zmx p) : zok m p (nI g) := Or.inl ⟨g, h2, rfl, fun h => by omega⟩
theorem zif {α : Type} {A B : α} {b : Bool} : (if zbI b = 0 then A else B) = if b = true then B else A := by cases b <;> rfl
theorem zin_t {x : Int32} {N : Nat} (h : zin x N = true) : ∃ j, j < N ∧ j < 2 ^ 31 ∧ x = nI j := by
  rcases zc3 x N with hx | ⟨j, hj, hj2, e⟩ | ⟨j, hj, hj2, rfl⟩
  · rw [zin_neg hx] at h; cases h
  · exact ⟨j, hj, hj2, e⟩
  · rw [zin_nI hj2, decide_eq_false (by omega)] at h; cases h
theorem zOK_s {α : Type} {r : α} {σ τ : ZM} (h : zRel σ τ) : zOK (some (r, σ)) (some (r, τ)) := ⟨r, σ, τ, rfl, rfl, h⟩
/-- a range check as the class writes it -/
theorem zrng {α : Type} {x M : Int32} (N : Nat) (hM : M = nI N) (hN : N < 2 ^ 31) {A B : α} : (if x < 0 then A else if x ≤ M then B else A) = if zin x (N + 1) = true then B else A := by
  subst hM
  rcases zc3 x (N + 1) with hx | ⟨j, hj, hj2, rfl⟩ | ⟨j, hj, hj2, rfl⟩
  · rw [if_pos hx, zin_neg hx, if_neg (by decide)]
  · rw [if_neg (nI_pos hj2), zin_nI hj2, if_pos (nI_le (by omega) hN), decide_eq_true hj, if_pos rfl]
  · rw [if_neg (nI_pos hj2), zin_nI hj2, if_neg (nI_ge (by omega) hj2), decide_eq_false (by omega), if_neg (by decide)]
theorem isInM_e (x : Int32) {M : Int32} (N : Nat) (hM : M = nI N) (h : N < 2 ^ 31) (σ : ZM) : f_Model_isIn x 0 M σ = some (zbI (zin x (N + 1)), σ) := by subst hM; exact isInN_e x N h σ
theorem op_oven {σ τ : ZM} (h : zRel σ τ) (x1 x2 : Int32) : zOK (f_BB_oven x1 x2 σ) (f_Model_oven x1 x2 τ) := by
  unfold f_BB_oven f_Model_oven
  simp only [Btaste_e, Mtaste_e, zbd_s, zif, isInM_e (M := 9999) x2 9999 rfl (by omega), zrng (M := 9999) 9999 rfl (by omega)]
  cases hz : zin x1 4 with
  | false => exact zOK_s h
  | true =>
    cases hy : zin x2 10000 with
    | false => exact zOK_s h
    | true =>
      obtain ⟨t, ht, ht2, rfl⟩ := zin_t hz
      obtain ⟨v, hv, hv2, rfl⟩ := zin_t hy
      simp (disch := omega) only [if_true, zbd_s, zck_t, zlit, nI_add, nI_mul, nI_clamp, zck_nI, zbl_0, zbl_1]
      obtain ⟨⟨m, n, hs⟩, -⟩ := id h
      have hp := zRs_put (p := t) (v := nI v) (σ' := zsI σ 42 t (nI v)) (τ' := zsI τ 130 t (nI v)) hs (by omega) (by omega) (by omega) (by omega) (fun _ => zok_n (by omega) (by simp [zmx, show t < 5 by omega]; omega)) (fun o k _ => by rw [zI_sI]; simp [zlo, zlk, ht]) (fun k _ => by rw [zI_sI]; simp)
      have e : zI σ 42 t = zI τ 130 t := hs.2.1.2 t (by omega) (by simp [zva]; omega) |> fun q => by simpa [zlo, zlk, ht] using q
      exact ⟨_, _, _, by rw [e], rfl, zRel_S h hp (fun o k ho => by rw [zI_sI, if_neg]; rintro ⟨rfl, -⟩; cases ho) (fun _ _ => rfl) (fun _ _ => rfl) (fun o k ho => by rw [zI_sI, if_neg]; exact fun z => ho z.1) (fun _ _ => rfl) (by rw [zI_sI, if_neg]; omega)⟩
theorem op_count {σ τ : ZM} (h : zRel σ τ) (x1 : Int32) : zOK (f_BB_count x1 σ) (f_Model_count x1 τ) := by
  unfold f_BB_count f_Model_count
  obtain ⟨⟨m, n, hs⟩, hi, ⟨a, -, ht1, ht2, -⟩, ⟨b, -, ha1, ha2, -⟩, hp, ⟨c, -, -, hk1, hk2, -⟩⟩ := id h
  have e1 : zI σ 1 3 = zI τ 130 5 := hs.2.1.2 5 (by omega) rfl
  have e2 : zI σ 27 2 = zI τ 130 7 := hs.2.1.2 7 (by omega) rfl
  by_cases c0 : x1 = (0 : Int32)
  · rw [if_pos c0, if_pos c0, zck_of (show zin 5 92 = true by decide), e1]; exact zOK_s h
  · rw [if_neg c0, if_neg c0]
    by_cases c1 : x1 = (1 : Int32)
    · rw [if_pos c1, if_pos c1, hk1, hk2]; exact zOK_s h
    · rw [if_neg c1, if_neg c1]
      by_cases c2 : x1 = (2 : Int32)
      · rw [if_pos c2, if_pos c2, zck_of (show zin 7 92 = true by decide), e2]; exact zOK_s h
      · rw [if_neg c2, if_neg c2]
        by_cases c3 : x1 = (3 : Int32)
        · rw [if_pos c3, if_pos c3, ht1, ht2]; exact zOK_s h
        · rw [if_neg c3, if_neg c3]
          by_cases c4 : x1 = (4 : Int32)
          · rw [if_pos c4, if_pos c4, ha1, ha2]; exact zOK_s h
          · rw [if_neg c4, if_neg c4]; exact zOK_s h
theorem op_trace {σ τ : ZM} (h : zRel σ τ) (x1 : Int32) : zOK (f_BB_trace x1 σ) (f_Model_trace x1 τ) := by
  unfold f_BB_trace f_Model_trace
  obtain ⟨-, -, -, ⟨r, hr, ha1, ha2, ha3⟩, -⟩ := id h
  rw [ha1, ha2]
  rcases zc3 x1 20 with hx | ⟨j, hj, hj2, rfl⟩ | ⟨j, hj, hj2, rfl⟩
  · rw [if_pos hx, if_pos hx]; exact zOK_s h
  · rw [if_neg (nI_pos hj2), if_neg (nI_pos hj2)]
    by_cases c : nI r ≤ nI j
    · rw [if_pos c, if_pos c]; exact zOK_s h
    · rw [if_neg c, if_neg c, show (20 : Int32) = nI 20 from rfl, if_pos (nI_lt hj (by omega)), if_neg (nI_ge hj (by omega)), zck_nI hj hj2, zck_nI hj hj2, nI_clamp hj2, ha3 j (by rw [nI_leI (by omega) hj2] at c; omega) hj]; exact zOK_s h
  · rw [if_neg (nI_pos hj2), if_neg (nI_pos hj2)]
    by_cases c : nI r ≤ nI j
    · rw [if_pos c, if_pos c]; exact zOK_s h
    · rw [if_neg c, if_neg c, show (20 : Int32) = nI 20 from rfl, if_neg (nI_nlt hj hj2), if_pos (nI_le hj hj2)]; exact zOK_s h
theorem op_feed {σ τ : ZM} (h : zRel σ τ) (x1 : Int32) : zOK (f_BB_feed x1 σ) (f_Model_feed x1 τ) := by
  unfold f_BB_feed f_Model_feed f_Reader_append
  simp only [isInM_e (M := 127) x1 127 rfl (by omega), zrng (M := 127) 127 rfl (by omega), zbd_s, zif]
  cases hz : zin x1 128 with
  | false => exact zOK_s h
  | true =>
    obtain ⟨v, hv, hv2, rfl⟩ := zin_t hz
    obtain ⟨hS, hi, ⟨n, hn, ht1, ht2, ht3⟩, ha, hp, hk⟩ := id h
    rw [if_pos rfl, if_pos rfl, ht1, ht2, show (100 : Int32) = nI 100 from rfl]
    by_cases c : n = 100
    · subst c
      rw [if_neg (nI_nlt (by omega) (by omega)), if_pos rfl]; exact zOK_s h
    · rw [if_pos (nI_lt (by omega) (by omega)), if_neg (by rw [nI_eq (by omega) (by omega)]; exact c)]
      simp (disch := omega) only [zbd_s, zck_t, zlit, nI_add, nI_mul, nI_clamp, zck_nI, zbl_0, zbl_1, zI_sI, zI_sL, zI_sP, zL_sI, zP_sI, zL_sL, zP_sP, zL_sP, zP_sL, false_and, and_false, true_and, and_true, and_self, if_true, if_false, Nat.reduceEqDiff, reduceIte, ht1, ht2]
      refine ⟨_, _, _, rfl, rfl, ?_⟩
      obtain ⟨m, n', hs⟩ := hS
      refine ⟨⟨m, n', zRs_c hs (fun o k ho => ?_) (fun k _ => ?_)⟩, zRi_c hi (fun o k ho => ?_) (fun k _ => ?_) ?_, ⟨n + 1, by omega, ?_, ?_, fun k hk => ?_⟩, zRa_c ha (fun o k ho => ?_) ?_ (fun k _ => ?_), zRp_c hp (fun o k ho => ?_) (fun _ _ _ => rfl) (fun k _ => ?_) (fun k _ => ?_) (fun _ _ => rfl), zRk_c hk (fun o k ho => ?_) rfl (fun k _ => ?_) (fun k _ => ?_) ?_ ?_ ?_ ?_⟩
      all_goals (try (simp [zI_sI]; done))
      all_goals (try (rw [zI_sI, if_neg (by rintro ⟨rfl, -⟩; cases ho), zI_sI, if_neg (by rintro ⟨rfl, -⟩; cases ho)]; done))
      · by_cases q : k = n
        · subst q; simp [zI_sI]; exact ⟨v, hv, rfl⟩
        · have := ht3 k (by omega)
          simp [zI_sI, q]; exact this
