/-! PURE: tapes on; loaves told and taken -/
theorem zbd_id {α : Type} {o : Option (α × ZM)} : zbd o (fun v s => some (v, s)) = o := by
  cases o with
  | none => rfl
  | some x => rfl
theorem zcm1 (x : Int32) : x < -1 ∨ x = -1 ∨ ∃ j : Nat, j < 2 ^ 31 ∧ x = nI j := by
  rcases zc3 x 0 with h | ⟨j, hj, -⟩ | ⟨j, -, hj, e⟩
  · by_cases q : x = -1
    · exact Or.inr (Or.inl q)
    · refine Or.inl ?_
      rw [Int32.lt_iff_toInt_lt] at *
      have a : (-1 : Int32).toInt = -1 := rfl
      have b : (0 : Int32).toInt = 0 := rfl
      have c : ¬ x.toInt = -1 := fun z => q (Int32.toInt_inj.mp (z.trans a.symm))
      omega
  · omega
  · exact Or.inr (Or.inr ⟨j, hj, e⟩)
theorem nm1_nlt (j : Nat) (h : j < 2 ^ 31) : ¬ nI j < -1 := by
  intro q
  rw [Int32.lt_iff_toInt_lt, nI_toInt h] at q
  have a : (-1 : Int32).toInt = -1 := rfl
  omega
theorem op_tape {σ τ : ZM} (h : zRel σ τ) (x1 x2 x3 : Int32) : zOK (f_BB_tape x1 x2 x3 σ) (f_Model_tape x1 x2 x3 τ) := by
  unfold f_BB_tape f_Model_tape
  simp only [Btape_e, Mtape_e, zbd_s, zif, zbd_id, isIn_e]
  cases hz : zin x1 6 with
  | false => exact zOK_s h
  | true =>
    obtain ⟨t, ht, ht2, rfl⟩ := zin_t hz
    unfold f_Tapes_begin f_Tapes_begin_24 f_Tapes_begin_36 f_Tapes_begin_58 f_Model_tape_31 f_Model_tape_42 f_Model_tape_63
    simp (disch := omega) only [if_true, zck_nI, nI_clamp, show (60 : Int32) = nI 60 from rfl, show (4 : Int32) = nI 4 from rfl]
    have a1 : ¬ (-1 : Int32) < -1 := by decide
    have a2 : ¬ nI 4 < (-1 : Int32) := by decide
    have a5 : ¬ (1 : Int32) = 0 := by decide
    rcases zcm1 x2 with hx | hx | ⟨s, hs, rfl⟩
    · simp only [if_pos hx, if_true]; exact zOK_s h
    · subst hx
      simp only [if_neg a1, if_neg a2, if_pos nm1_lt, if_neg nm1_nle, if_neg a5, if_true]
      exact tape_put (L := 0) h ht (Nat.zero_le _) (Or.inl rfl)
    · simp only [if_neg (nm1_nlt s hs), if_neg (nI_nm1 hs), if_neg (nI_pos hs), if_pos (nI_pos' hs)]
      by_cases c : nI 4 < nI s
      · simp only [if_pos c, if_true]; exact zOK_s h
      · simp only [if_neg c, if_neg a5]
        by_cases c2 : x3 ≤ nI 60
        · rw [if_pos c2, if_pos c2]
          by_cases c3 : 0 ≤ x3
          · rw [if_pos c3, if_pos c3]
            obtain ⟨L, hL, rfl⟩ := nI_of (Int32.not_lt.mpr c3)
            rw [nI_leI hL (by omega)] at c2
            rw [nI_ltI (by omega) hs] at c
            exact tape_put h ht c2 (Or.inr ⟨s, by omega, rfl⟩)
          · rw [if_neg c3, if_neg c3]; exact zOK_s h
        · rw [if_neg c2, if_neg c2]; exact zOK_s h
theorem zval {m n : Nat} {σ τ : ZM} (h : zRs m n σ τ) (p : Nat) (hp : p ≠ 6) (hv : zva m n p = true) : zI σ (zlo 0 p) (zlk p) = zI τ 130 p := h.2.1.2 p hp hv
theorem zheld {m n : Nat} {σ τ : ZM} (h : zRs m n σ τ) {t : Nat} (ht : t < 4) : ∃ g, g ≤ 9999 ∧ zI σ 42 t = nI g ∧ zI τ 130 t = nI g := by
  have a := zval h t (by omega) (by simp [zva]; omega)
  have b := h.1.2.2.2.2 t (by simp [zva]; omega)
  rcases b with ⟨g, b1, b2, -⟩ | ⟨b1, -⟩
  · have e : zlo 0 t = 42 ∧ zlk t = t := by simp [zlo, zlk, ht]
    rw [e.1, e.2] at a
    exact ⟨g, by simpa [zmx, show t < 5 by omega] using b1, a.trans b2, b2⟩
  · omega
theorem zhour {m n : Nat} {σ τ : ZM} (h : zRs m n σ τ) : ∃ g, g ≤ 9999 ∧ zI σ 33 1 = nI g ∧ zI τ 130 4 = nI g := by
  have a := zval h 4 (by omega) rfl
  have b := h.1.2.2.2.2 4 rfl
  rcases b with ⟨g, b1, b2, -⟩ | ⟨b1, -⟩
  · exact ⟨g, b1, Eq.trans a b2, b2⟩
  · omega
theorem zmany {m n : Nat} {σ τ : ZM} (h : zRs m n σ τ) : m ≤ 6 ∧ zI σ 1 3 = nI m ∧ zI τ 130 5 = nI m := ⟨h.1.1, (zval h 5 (by omega) rfl).trans h.1.2.2.1, h.1.2.2.1⟩
theorem zrows {m n : Nat} {σ τ : ZM} (h : zRs m n σ τ) : n ≤ 12 ∧ zI σ 27 2 = nI n ∧ zI τ 130 7 = nI n := ⟨h.1.2.1, (zval h 7 (by omega) rfl).trans h.1.2.2.2.1, h.1.2.2.2.1⟩
theorem zkind {m n : Nat} {σ τ : ZM} (h : zRs m n σ τ) {i : Nat} (hi : i < m) : ∃ g, g < 7 ∧ zI σ (51 + i) 3 = nI g ∧ zI τ 130 (8 + 10 * i) = nI g := by
  have hm := h.1.1
  have a := zval h (8 + 10 * i) (by omega) (by simp [zva]; omega)
  have b := h.1.2.2.2.2 (8 + 10 * i) (by simp [zva]; omega)
  have e : zlo 0 (8 + 10 * i) = 51 + i ∧ zlk (8 + 10 * i) = 3 ∧ zmx (8 + 10 * i) = 6 := (by decide +kernel : ∀ i, i < 6 → zlo 0 (8 + 10 * i) = 51 + i ∧ zlk (8 + 10 * i) = 3 ∧ zmx (8 + 10 * i) = 6) i (by omega)
  rcases b with ⟨g, b1, b2, -⟩ | ⟨b1, -⟩
  · rw [e.1, e.2.1] at a
    exact ⟨g, by rw [e.2.2] at b1; omega, a.trans b2, b2⟩
  · omega
theorem zvee {m n : Nat} {σ τ : ZM} (h : zRs m n σ τ) {i : Nat} (hi : i < m) : ∃ g, g ≤ 9 ∧ zI σ (51 + i) 4 = nI g ∧ zI τ 130 (9 + 10 * i) = nI g := by
  have hm := h.1.1
  have a := zval h (9 + 10 * i) (by omega) (by simp [zva]; omega)
  have b := h.1.2.2.2.2 (9 + 10 * i) (by simp [zva]; omega)
  have e : zlo 0 (9 + 10 * i) = 51 + i ∧ zlk (9 + 10 * i) = 4 ∧ zmx (9 + 10 * i) = 9 := (by decide +kernel : ∀ i, i < 6 → zlo 0 (9 + 10 * i) = 51 + i ∧ zlk (9 + 10 * i) = 4 ∧ zmx (9 + 10 * i) = 9) i (by omega)
  rcases b with ⟨g, b1, b2, -⟩ | ⟨b1, -⟩
  · rw [e.1, e.2.1] at a
    exact ⟨g, by rw [e.2.2] at b1; omega, a.trans b2, b2⟩
  · omega
theorem zloc_g : ∀ i, i < 6 → ∀ t, t < 4 → zlo 0 (10 + 10 * i + t) = 63 + i ∧ zlk (10 + 10 * i + t) = t ∧ zmx (10 + 10 * i + t) = 99 ∧ zlo 0 (14 + 10 * i + t) = 75 + i ∧ zlk (14 + 10 * i + t) = t ∧ zmx (14 + 10 * i + t) = 99 := by decide +kernel
theorem zgive {m n : Nat} {σ τ : ZM} (h : zRs m n σ τ) {i t : Nat} (hi : i < m) (ht : t < 4) : ∃ g, g ≤ 99 ∧ zI σ (63 + i) t = nI g ∧ zI τ 130 (10 + 10 * i + t) = nI g := by
  have hm := h.1.1
  have a := zval h (10 + 10 * i + t) (by omega) (by simp [zva]; omega)
  have b := h.1.2.2.2.2 (10 + 10 * i + t) (by simp [zva]; omega)
  obtain ⟨e1, e2, e3, -⟩ := zloc_g i (by omega) t ht
  rcases b with ⟨g, b1, b2, -⟩ | ⟨b1, -⟩
  · rw [e1, e2] at a
    exact ⟨g, by rw [e3] at b1; omega, a.trans b2, b2⟩
  · omega
theorem zbear {m n : Nat} {σ τ : ZM} (h : zRs m n σ τ) {i t : Nat} (hi : i < m) (ht : t < 4) : ∃ g, g ≤ 99 ∧ zI σ (75 + i) t = nI g ∧ zI τ 130 (14 + 10 * i + t) = nI g := by
  have hm := h.1.1
  have a := zval h (14 + 10 * i + t) (by omega) (by simp [zva]; omega)
  have b := h.1.2.2.2.2 (14 + 10 * i + t) (by simp [zva]; omega)
  obtain ⟨-, -, -, e1, e2, e3⟩ := zloc_g i (by omega) t ht
  rcases b with ⟨g, b1, b2, -⟩ | ⟨b1, -⟩
  · rw [e1, e2] at a
    exact ⟨g, by rw [e3] at b1; omega, a.trans b2, b2⟩
  · omega
/-- a write in a cell of the class and its place in the model's row -/
theorem zRel_w {σ τ : ZM} (h : zRel σ τ) {m n p : Nat} {v : Int32} (hs : zRs m n σ τ) (hp : p < 92) (h5 : p ≠ 5) (h6 : p ≠ 6) (h7 : p ≠ 7) (hv : zva m n p = true → zok m p v) : zRel (zsI σ (zlo 0 p) (zlk p) v) (zsI τ 130 p v) :=
  zRel_S h (zRs_put hs hp h5 h6 h7 hv (fun _ _ _ => zI_sI) (fun k _ => by rw [zI_sI]; simp)) (fun o k ho => by
    rw [zI_sI, if_neg]
    rintro ⟨rfl, -⟩
    rw [zlo_S p hp] at ho; cases ho) (fun _ _ => rfl) (fun _ _ => rfl) (fun o k ho => by rw [zI_sI, if_neg]; exact fun z => ho z.1) (fun _ _ => rfl) (by rw [zI_sI, if_neg]; exact fun z => h6 z.2.symm)
theorem op_set {σ τ : ZM} (h : zRel σ τ) (x1 x2 x3 x4 : Int32) : zOK (f_BB_set x1 x2 x3 x4 σ) (f_Model_set x1 x2 x3 x4 τ) := by
  obtain ⟨⟨m, n, hs⟩, -⟩ := id h
  obtain ⟨hm, m1, m2⟩ := zmany hs
  unfold f_BB_set f_Model_set
  simp only [Bloaf_e (show m < 2 ^ 31 by omega) m1, Mloaf_e (show m < 2 ^ 31 by omega) m2, Btaste_e, Mtaste_e, zbd_s, zif, isInM_e (M := 1) x3 1 rfl (by omega), isInM_e (M := 99) x4 99 rfl (by omega), zrng (M := 1) 1 rfl (by omega), zrng (M := 99) 99 rfl (by omega)]
  cases hz : zin x1 m with
  | false => exact zOK_s h
  | true =>
    cases hy : zin x2 4 with
    | false => exact zOK_s h
    | true =>
      cases hx : zin x3 2 with
      | false => exact zOK_s h
      | true =>
        cases hw : zin x4 100 with
        | false => exact zOK_s h
        | true =>
          obtain ⟨i, hi, hi2, rfl⟩ := zin_t hz
          obtain ⟨t, ht, ht2, rfl⟩ := zin_t hy
          obtain ⟨w, hw', hw2, rfl⟩ := zin_t hx
          obtain ⟨v, hv, hv2, rfl⟩ := zin_t hw
          obtain ⟨e1, e2, e3, e4, e5, e6⟩ := zloc_g i (by omega) t ht
          simp only [if_true]
          by_cases c : nI w = 0
          · rw [if_pos c, if_pos c]
            obtain ⟨g, g1, g2, g3⟩ := zgive hs hi ht
            have hp := zRel_w (p := 10 + 10 * i + t) (v := nI v) h hs (by omega) (by omega) (by omega) (by omega) (fun _ => zok_n (by omega) (by omega))
            rw [e1, e2] at hp
            unfold f_BB_set_72 f_Model_set_57
            simp (disch := omega) only [zbd_s, zck_t, zlit, nI_add, nI_mul, nI_clamp, zck_nI, zbl_0, zbl_1, zI_sI, zI_sL, zI_sP, zL_sI, zP_sI, zL_sL, zP_sP, zL_sP, zP_sL, false_and, and_false, true_and, and_true, and_self, if_true, if_false, Nat.reduceEqDiff, reduceIte, zel25, zck_l]
            rw [show 51 + i + 12 = 63 + i by omega, show 8 + 10 * i + 2 + t = 10 + 10 * i + t by omega, g2, g3]
            exact ⟨_, _, _, rfl, rfl, hp⟩
          · rw [if_neg c, if_neg c]
            obtain ⟨g, g1, g2, g3⟩ := zbear hs hi ht
            have hp := zRel_w (p := 14 + 10 * i + t) (v := nI v) h hs (by omega) (by omega) (by omega) (by omega) (fun _ => zok_n (by omega) (by omega))
            rw [e4, e5] at hp
            unfold f_BB_set_72 f_Model_set_57
            simp (disch := omega) only [zbd_s, zck_t, zlit, nI_add, nI_mul, nI_clamp, zck_nI, zbl_0, zbl_1, zI_sI, zI_sL, zI_sP, zL_sI, zP_sI, zL_sL, zP_sP, zL_sP, zP_sL, false_and, and_false, true_and, and_true, and_self, if_true, if_false, Nat.reduceEqDiff, reduceIte, zel25, zck_l]
            rw [show 51 + i + 24 = 75 + i by omega, show 8 + 10 * i + 6 + t = 14 + 10 * i + t by omega, g2, g3]
            exact ⟨_, _, _, rfl, rfl, hp⟩
theorem Mget_e {τ : ZM} {i k : Nat} (hi : i < 6) (hk : k < 10) : f_Model_get (nI i) (nI k) τ = some (zI τ 130 (8 + 10 * i + k), τ) := by
  unfold f_Model_get
  simp (disch := omega) only [zbd_s, zck_t, zlit, nI_add, nI_mul, nI_clamp, zck_nI, zbl_0, zbl_1, zI_sI, zI_sL, zI_sP, zL_sI, zP_sI, zL_sL, zP_sP, zL_sP, zP_sL, false_and, and_false, true_and, and_true, and_self, if_true, if_false, Nat.reduceEqDiff, reduceIte]
theorem Mkind_e {τ : ZM} {i : Nat} (hi : i < 6) : f_Model_kind (nI i) τ = some (zI τ 130 (8 + 10 * i), τ) := by
  unfold f_Model_kind
  rw [show (0 : Int32) = nI 0 from rfl, Mget_e hi (by omega)]; rfl
theorem Mnumber_e {τ : ZM} {i : Nat} (hi : i < 6) : f_Model_number (nI i) τ = some (zI τ 130 (9 + 10 * i), τ) := by
  unfold f_Model_number
  rw [show (1 : Int32) = nI 1 from rfl, Mget_e hi (by omega)]
  show some _ = some _
  rw [show 8 + 10 * i + 1 = 9 + 10 * i by omega]
theorem zunder : ∀ k, k < 7 → ∀ j, j < 7 → ∀ σ : ZM, F_Loaf_isUnder_7 2000 (nI j, nI k, 0, σ) = some (if nI k = nI j then (1 : Int32) else if (if nI k < 4 then (0 : Int32) else nI k - 3) = nI j then 1 else if nI j = 0 then 1 else 0, σ) := by
  intro k hk j hj σ
  have e : ∀ N, F_Loaf_isUnder_7 (N + 3) (nI j, nI k, 0, σ) = some (if nI k = nI j then (1 : Int32) else if (if nI k < 4 then (0 : Int32) else nI k - 3) = nI j then 1 else if nI j = 0 then 1 else 0, σ) := by
    intro N
    rcases (by omega : k = 0 ∨ k = 1 ∨ k = 2 ∨ k = 3 ∨ k = 4 ∨ k = 5 ∨ k = 6) with rfl | rfl | rfl | rfl | rfl | rfl | rfl <;> rcases (by omega : j = 0 ∨ j = 1 ∨ j = 2 ∨ j = 3 ∨ j = 4 ∨ j = 5 ∨ j = 6) with rfl | rfl | rfl | rfl | rfl | rfl | rfl <;> rfl
  exact e 1997
theorem op_taken {σ τ : ZM} (h : zRel σ τ) (x1 x2 : Int32) : zOK (f_BB_taken x1 x2 σ) (f_Model_taken x1 x2 τ) := by
  obtain ⟨⟨m, n, hs⟩, -⟩ := id h
  obtain ⟨hm, m1, m2⟩ := zmany hs
  unfold f_BB_taken f_Model_taken f_Loaf_isUnder f_Model_above
  simp only [Bloaf_e (show m < 2 ^ 31 by omega) m1, Mloaf_e (show m < 2 ^ 31 by omega) m2, zbd_s, zif, isInM_e (M := 6) x2 6 rfl (by omega), zrng (M := 6) 6 rfl (by omega)]
  cases hy : zin x2 7 with
  | false => exact zOK_s h
  | true =>
    cases hz : zin x1 m with
    | false => exact zOK_s h
    | true =>
      obtain ⟨i, hi, hi2, rfl⟩ := zin_t hz
      obtain ⟨j, hj, hj2, rfl⟩ := zin_t hy
      obtain ⟨k, hk, k1, k2⟩ := zkind hs hi
      simp (disch := omega) only [if_true, zck_nI, zck_t, nI_clamp, zel25, zck_l, Mkind_e, zbd_s, k1, k2, zunder]
      by_cases c1 : nI k = nI j
      · rw [if_pos c1, if_pos c1, if_neg (by decide)]; exact zOK_s h
      · rw [if_neg c1, if_neg c1]
        by_cases c3 : nI k < (4 : Int32)
        · rw [if_pos c3, if_pos c3, zbd_s]
          by_cases c2 : (0 : Int32) = nI j
          · rw [if_pos c2, if_pos c2, if_neg (by decide)]; exact zOK_s h
          · rw [if_neg c2, if_neg c2]
            by_cases c4 : nI j = 0
            · exact absurd c4.symm c2
            · rw [if_neg c4, if_neg c4, if_pos rfl]; exact zOK_s h
        · rw [if_neg c3, if_neg c3, zbd_s]
          by_cases c2 : nI k - 3 = nI j
          · rw [if_pos c2, if_pos c2, if_neg (by decide)]; exact zOK_s h
          · rw [if_neg c2, if_neg c2]
            by_cases c4 : nI j = 0
            · rw [if_pos c4, if_pos c4, if_neg (by decide)]; exact zOK_s h
            · rw [if_neg c4, if_neg c4, if_pos rfl]; exact zOK_s h
