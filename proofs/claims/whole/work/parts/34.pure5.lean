/-! PURE: tapes -/
theorem zel11 (j : Nat) : zel 11 j = 14 + j := rfl
theorem zel25 (j : Nat) : zel 25 j = 51 + j := by simp [zel]
theorem zel26 (j : Nat) : zel 26 j = 57 + j := by simp [zel]
theorem zel20 (j : Nat) : zel 20 j = 87 + j := by simp [zel]
theorem zel24 (j : Nat) : zel 24 j = 36 + j := by simp [zel]
theorem zRl {j : Nat} (h : j < 12) : zR 0 129 (51 + j) 16 0 = true := (by decide +kernel : ∀ j, j < 12 → zR 0 129 (51 + j) 16 0 = true) j h
theorem zRr {j : Nat} (h : j < 6) : zR 0 129 (14 + j) 2 60 = true := (by decide +kernel : ∀ j, j < 6 → zR 0 129 (14 + j) 2 60 = true) j h
theorem zRo {j : Nat} (h : j < 9) : zR 0 129 (33 + j) 17 0 = true := (by decide +kernel : ∀ j, j < 9 → zR 0 129 (33 + j) 17 0 = true) j h
theorem zRo6 {j : Nat} (h : j < 6) : zR 0 129 (36 + j) 17 0 = true := (by decide +kernel : ∀ j, j < 6 → zR 0 129 (36 + j) 17 0 = true) j h
theorem zRkn {j : Nat} (h : j < 7) : zR 0 129 (87 + j) 15 0 = true := (by decide +kernel : ∀ j, j < 7 → zR 0 129 (87 + j) 15 0 = true) j h
theorem zck_l {α : Type} {j : Nat} {k : Option α} (h : j < 12) : zck (zR 0 129 (51 + j) 16 0) k = k := zck_of (zRl h)
theorem zck_r {α : Type} {j : Nat} {k : Option α} (h : j < 6) : zck (zR 0 129 (14 + j) 2 60) k = k := zck_of (zRr h)
theorem isInP_e {L : Nat} (hL : L < 2 ^ 31) (x : Int32) (τ : ZM) : f_Model_isIn x 0 (nI L - 1) τ = some (zbI (zin x L), τ) := by
  cases L with
  | zero =>
    rw [isIn_e]
    have e : zin x 0 = false := by simp [zin]
    rw [e]
    have hl : (nI 0 - 1 : Int32) = -1 := rfl
    rw [hl]
    by_cases hx : x < 0
    · rw [if_pos hx]; rfl
    · rw [if_neg hx, if_pos (by have := Int32.not_lt.mp hx; rw [Int32.le_iff_toInt_le] at this; rw [Int32.lt_iff_toInt_lt]; have a : (-1 : Int32).toInt = -1 := rfl; have b : (0 : Int32).toInt = 0 := rfl; omega)]; rfl
  | succ k => rw [show (nI (k + 1) - 1 : Int32) = nI k from nI_pred k, isInN_e x k (by omega)]
theorem nI_nm1 {s : Nat} (h : s < 2 ^ 31) : ¬ nI s = -1 := by
  intro q
  have := nI_toInt h
  rw [q] at this
  have e : (-1 : Int32).toInt = -1 := rfl
  omega
theorem nm1_lt : (-1 : Int32) < 0 := by decide
theorem nm1_nle : ¬ (0 : Int32) ≤ -1 := by decide
/-- an index below a number, as the class asks it -/
theorem zrng2 {α : Type} {x : Int32} {L : Nat} (hL : L < 2 ^ 31) {A B : α} : (if x < 0 then A else if x < nI L then B else A) = if zin x L = true then B else A := by
  rcases zc3 x L with hx | ⟨j, hj, hj2, rfl⟩ | ⟨j, hj, hj2, rfl⟩
  · rw [if_pos hx, zin_neg hx, if_neg (by decide)]
  · rw [if_neg (nI_pos hj2), zin_nI hj2, if_pos (nI_lt hj hL), decide_eq_true hj, if_pos rfl]
  · rw [if_neg (nI_pos hj2), zin_nI hj2, if_neg (nI_nlt hj hj2), decide_eq_false (by omega), if_neg (by decide)]
theorem op_read {σ τ : ZM} (h : zRel σ τ) (x1 x2 : Int32) : zOK (f_BB_read x1 x2 σ) (f_Model_read x1 x2 τ) := by
  unfold f_BB_read f_Model_read f_Tapes_valueAt f_Tapes_valueAt_24 f_Model_read_46
  simp only [Btape_e, Mtape_e, zbd_s, zif]
  cases hz : zin x1 6 with
  | false => exact zOK_s h
  | true =>
    obtain ⟨t, ht, ht2, rfl⟩ := zin_t hz
    obtain ⟨-, -, -, -, hp, -⟩ := id h
    obtain ⟨⟨e1, e2⟩, ⟨L, hL, e3, e4⟩, e5⟩ := hp t ht
    rw [if_pos rfl, if_pos rfl]
    simp (disch := omega) only [nI_clamp, zck_nI, zck_t, e1, e3, e4, isInP_e, zbd_s, zif, zrng2]
    rcases e2 with e2 | ⟨s, hs, e2⟩
    · rw [e2, if_pos rfl, if_pos nm1_lt]; exact zOK_s h
    · rw [e2, if_neg (nI_nm1 (by omega)), if_neg (nI_pos (by omega))]
      cases hy : zin x2 L with
      | false => exact zOK_s h
      | true =>
        obtain ⟨i, hi, hi2, rfl⟩ := zin_t hy
        rw [if_pos rfl, if_pos rfl]
        simp (disch := omega) only [zbd_s, zck_t, zlit, nI_add, nI_mul, nI_clamp, zck_nI, zbl_0, zbl_1, zI_sI, zI_sL, zI_sP, zL_sI, zP_sI, zL_sL, zP_sP, zL_sP, zP_sL, false_and, and_false, true_and, and_true, and_self, if_true, if_false, Nat.reduceEqDiff, reduceIte, zel11, zck_r]
        rw [e5 i (by omega)]; exact zOK_s h
theorem asItem_e (s : Int32) (v : Int64) (σ τ : ZM) : ∃ w, f_Tapes_asItem s v σ = some (w, σ) ∧ f_Model_kept s v τ = some (w, τ) := by
  unfold f_Tapes_asItem f_Model_kept
  repeat' split
  all_goals exact ⟨_, rfl, rfl⟩
/-- tapes change alone -/
theorem zRel_P {σ σ' τ τ' : ZM} (h : zRel σ τ) (hp : zRp σ' τ') (hσ : ∀ o k, cP o = false → zI σ' o k = zI σ o k) (hP : ∀ o k, zP σ' o k = zP σ o k) (hτ : ∀ o k, o ≠ 139 → o ≠ 140 → zI τ' o k = zI τ o k) : zRel σ' τ' := by
  obtain ⟨⟨m, n, h1⟩, h2, h3, h4, -, h7⟩ := h
  have nS : ∀ {o : Nat}, (cS o = true ∨ cI o = true ∨ cK o = true ∨ cA o = true) → cP o = false := by
    intro o ho
    cases hc : cP o with
    | false => rfl
    | true =>
      exfalso
      simp only [cP, cS, cI, cK, cA, Bool.or_eq_true, Bool.and_eq_true, beq_iff_eq, decide_eq_true_eq] at ho hc
      omega
  exact ⟨⟨m, n, zRs_c h1 (fun o k ho => hσ o k (nS (Or.inl ho))) (fun k _ => hτ _ _ (by omega) (by omega))⟩, zRi_c h2 (fun o k ho => hσ o k (nS (Or.inr (Or.inl ho)))) (fun k _ => hτ _ k (by omega) (by omega)) (hτ _ _ (by omega) (by omega)), zRt_c h3 (hσ _ _ rfl) (hτ _ _ (by omega) (by omega)) (fun k _ => hσ _ _ rfl) (fun k _ => hτ _ _ (by omega) (by omega)), zRa_c h4 (fun o k ho => hσ o k (nS (Or.inr (Or.inr (Or.inr ho))))) (hτ _ _ (by omega) (by omega)) (fun k _ => hτ _ _ (by omega) (by omega)), hp, zRk_c h7 (fun o k ho => hσ o k (nS (Or.inr (Or.inr (Or.inl ho))))) (hP _ _) (fun k _ => hτ _ _ (by omega) (by omega)) (fun k _ => hτ _ _ (by omega) (by omega)) (hτ _ _ (by omega) (by omega)) (hτ _ _ (by omega) (by omega)) (hτ _ _ (by omega) (by omega)) (hτ _ _ (by omega) (by omega))⟩
theorem op_item {σ τ : ZM} (h : zRel σ τ) (x1 x2 : Int32) (v : Int64) : zOK (f_BB_item x1 x2 v σ) (f_Model_item x1 x2 v τ) := by
  unfold f_BB_item f_Model_item f_Tapes_write
  simp only [Btape_e, Mtape_e, zbd_s, zif]
  cases hz : zin x1 6 with
  | false => exact zOK_s h
  | true =>
    obtain ⟨t, ht, ht2, rfl⟩ := zin_t hz
    obtain ⟨-, -, -, -, hp, -⟩ := id h
    obtain ⟨⟨e1, e2⟩, ⟨L, hL, e3, e4⟩, e5⟩ := hp t ht
    rw [if_pos rfl, if_pos rfl]
    simp (disch := omega) only [nI_clamp, zck_nI, zck_t, e1, e3, e4, isInP_e, zbd_s, zif, zrng2]
    rcases e2 with e2 | ⟨s, hs, e2⟩
    · rw [e2, if_pos rfl, if_neg nm1_nle]; exact zOK_s h
    · rw [e2, if_neg (nI_nm1 (by omega)), if_pos (nI_pos' (by omega))]
      cases hy : zin x2 L with
      | false => exact zOK_s h
      | true =>
        obtain ⟨i, hi, hi2, rfl⟩ := zin_t hy
        obtain ⟨w, w1, w2⟩ := asItem_e (nI s) v σ τ
        rw [if_pos rfl, if_pos rfl, w1, w2]
        simp (disch := omega) only [zbd_s, zck_t, zlit, nI_add, nI_mul, nI_clamp, zck_nI, zbl_0, zbl_1, zI_sI, zI_sL, zI_sP, zL_sI, zP_sI, zL_sL, zP_sP, zL_sP, zP_sL, false_and, and_false, true_and, and_true, and_self, if_true, if_false, Nat.reduceEqDiff, reduceIte, zel11, zck_r]
        refine ⟨_, _, _, rfl, rfl, zRel_P h (fun t' ht' => ?_) (fun _ _ _ => rfl) (fun _ _ => rfl) (fun _ _ _ _ => rfl)⟩
        obtain ⟨a, b, c⟩ := hp t' ht'
        refine ⟨a, b, fun i' hi' => ?_⟩
        rw [zL_sL, zL_sL]
        by_cases q : t' = t ∧ i' = i
        · rw [if_pos ⟨by omega, q.2⟩, if_pos ⟨rfl, by rw [q.1, q.2]⟩]
        · rw [if_neg (fun z => q ⟨by omega, z.2⟩), if_neg (fun z => q (by omega))]; exact c i' hi'
theorem Btb_loop {t : Nat} (ht : t < 6) : ∀ (d k : Nat) (N : Nat) (σ : ZM), k + d = 60 → d < N → ∃ σ', F_Tapes_begin_62 N (nI t, nI k, σ) = some (1, σ') ∧ (∀ o j, zI σ' o j = zI σ o j) ∧ (∀ o j, zP σ' o j = zP σ o j) ∧ ∀ o j, zL σ' o j = if o = 14 + t ∧ k ≤ j ∧ j < 60 then 0 else zL σ o j := by
  intro d
  induction d with
  | zero =>
    intro k N σ hk hN
    obtain ⟨N, rfl⟩ : ∃ M, N = M + 1 := ⟨N - 1, by omega⟩
    refine ⟨σ, ?_, fun _ _ => rfl, fun _ _ => rfl, fun o j => by rw [if_neg (by omega)]⟩
    show f_Tapes_begin_62 (F_Tapes_begin_62 N) (nI t) (nI k) σ = _
    unfold f_Tapes_begin_62
    rw [show (60 : Int32) = nI 60 from rfl, if_pos (nI_le (by omega) (by omega))]
  | succ d ih =>
    intro k N σ hk hN
    obtain ⟨N, rfl⟩ : ∃ M, N = M + 1 := ⟨N - 1, by omega⟩
    obtain ⟨σ', a, b, c, e⟩ := ih (k + 1) N (zsL σ (14 + t) k 0) (by omega) (by omega)
    refine ⟨σ', ?_, b, c, fun o j => ?_⟩
    · rw [← a]
      show f_Tapes_begin_62 (F_Tapes_begin_62 N) (nI t) (nI k) σ = _
      unfold f_Tapes_begin_62
      rw [show (60 : Int32) = nI 60 from rfl, if_neg (nI_ge (by omega) (by omega))]
      simp (disch := omega) only [zbd_s, zck_t, zlit, nI_add, nI_mul, nI_clamp, zck_nI, zbl_0, zbl_1, zI_sI, zI_sL, zI_sP, zL_sI, zP_sI, zL_sL, zP_sP, zL_sP, zP_sL, false_and, and_false, true_and, and_true, and_self, if_true, if_false, Nat.reduceEqDiff, reduceIte, zel11, zck_r]
    · rw [e, zL_sL]
      by_cases q : o = 14 + t ∧ j = k
      · rw [if_neg (by omega), if_pos q, if_pos (by omega)]
      · by_cases q2 : o = 14 + t ∧ k + 1 ≤ j ∧ j < 60
        · rw [if_pos q2, if_pos (by omega)]
        · rw [if_neg q2, if_neg q, if_neg (by omega)]
theorem Mtb_loop {t : Nat} (ht : t < 6) : ∀ (d k : Nat) (N : Nat) (σ : ZM), k + d = 60 → d < N → ∃ σ', F_Model_tape_67 N (nI t, nI k, σ) = some (1, σ') ∧ (∀ o j, zI σ' o j = zI σ o j) ∧ (∀ o j, zP σ' o j = zP σ o j) ∧ ∀ o j, zL σ' o j = if o = 141 ∧ 60 * t + k ≤ j ∧ j < 60 * t + 60 then 0 else zL σ o j := by
  intro d
  induction d with
  | zero =>
    intro k N σ hk hN
    obtain ⟨N, rfl⟩ : ∃ M, N = M + 1 := ⟨N - 1, by omega⟩
    refine ⟨σ, ?_, fun _ _ => rfl, fun _ _ => rfl, fun o j => by rw [if_neg (by omega)]⟩
    show f_Model_tape_67 (F_Model_tape_67 N) (nI t) (nI k) σ = _
    unfold f_Model_tape_67
    rw [show (60 : Int32) = nI 60 from rfl, if_pos (nI_le (by omega) (by omega))]
  | succ d ih =>
    intro k N σ hk hN
    obtain ⟨N, rfl⟩ : ∃ M, N = M + 1 := ⟨N - 1, by omega⟩
    obtain ⟨σ', a, b, c, e⟩ := ih (k + 1) N (zsL σ 141 (60 * t + k) 0) (by omega) (by omega)
    refine ⟨σ', ?_, b, c, fun o j => ?_⟩
    · rw [← a]
      show f_Model_tape_67 (F_Model_tape_67 N) (nI t) (nI k) σ = _
      unfold f_Model_tape_67
      rw [show (60 : Int32) = nI 60 from rfl, if_neg (nI_ge (by omega) (by omega))]
      simp (disch := omega) only [zbd_s, zck_t, zlit, nI_add, nI_mul, nI_clamp, zck_nI, zbl_0, zbl_1, zI_sI, zI_sL, zI_sP, zL_sI, zP_sI, zL_sL, zP_sP, zL_sP, zP_sL, false_and, and_false, true_and, and_true, and_self, if_true, if_false, Nat.reduceEqDiff, reduceIte]
    · rw [e, zL_sL]
      by_cases q : o = 141 ∧ j = 60 * t + k
      · rw [if_neg (by omega), if_pos q, if_pos (by omega)]
      · by_cases q2 : o = 141 ∧ 60 * t + (k + 1) ≤ j ∧ j < 60 * t + 60
        · rw [if_pos q2, if_pos (by omega)]
        · rw [if_neg q2, if_neg q, if_neg (by omega)]
/-- a tape becomes a row of a sort s (as the cell says) and a length L, all 0 -/
theorem tape_put {σ τ : ZM} (h : zRel σ τ) {t L : Nat} {s : Int32} (ht : t < 6) (hL : L ≤ 60) (hs : s = -1 ∨ ∃ k, k ≤ 4 ∧ s = nI k) : zOK (F_Tapes_begin_62 2000 (nI t, 0, zsI (zsI σ 12 t s) 13 t (nI L))) (F_Model_tape_67 2000 (nI t, 0, zsI (zsI τ 139 t s) 140 t (nI L))) := by
  obtain ⟨σ', a1, a2, a3, a4⟩ := Btb_loop ht 60 0 2000 (zsI (zsI σ 12 t s) 13 t (nI L)) rfl (by omega)
  obtain ⟨τ', b1, b2, b3, b4⟩ := Mtb_loop ht 60 0 2000 (zsI (zsI τ 139 t s) 140 t (nI L)) rfl (by omega)
  refine ⟨1, σ', τ', a1, b1, zRel_P h (fun t' ht' => ?_) (fun o k ho => ?_) (fun o k => a3 o k) (fun o k h1 h2 => ?_)⟩
  · obtain ⟨-, -, -, -, hp, -⟩ := id h
    obtain ⟨⟨e1, e2⟩, ⟨M, hM, e3, e4⟩, e5⟩ := hp t' ht'
    by_cases q : t' = t
    · subst q
      refine ⟨⟨by simp [a2, b2, zI_sI], by simp [b2, zI_sI]; exact hs⟩, ⟨L, hL, by simp [a2, zI_sI], by simp [b2, zI_sI]⟩, fun i hi => ?_⟩
      rw [a4, b4, if_pos (by omega), if_pos (by omega)]
    · refine ⟨⟨by simp [a2, b2, zI_sI, q]; exact e1, by simp [b2, zI_sI, q]; exact e2⟩, ⟨M, hM, by simp [a2, zI_sI, q]; exact e3, by simp [b2, zI_sI, q]; exact e4⟩, fun i hi => ?_⟩
      rw [a4, b4, if_neg (by omega), if_neg (by omega)]
      exact e5 i hi
  · rw [a2, zI_sI, zI_sI, if_neg (by rintro ⟨rfl, -⟩; cases ho), if_neg (by rintro ⟨rfl, -⟩; cases ho)]
  · rw [b2, zI_sI, zI_sI, if_neg (by omega), if_neg (by omega)]
