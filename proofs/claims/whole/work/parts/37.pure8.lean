/-! PURE: the book; judging; shifting -/
theorem zRel_book {σ σ' τ τ' : ZM} (h : zRel σ τ) {m n : Nat} {x y : Int32} (hs : zRs m n σ τ) (hn : n < 12) (hx : x = -2 ∨ ∃ j, j < m ∧ x = nI j) (hy : y = nI 0 ∨ y = nI 1)
    (hσ : ∀ o j, zI σ' o j = if o = 27 ∧ j = 2 then nI (n + 1) else if o = 31 ∧ j = n then y else if o = 29 ∧ j = n then x else zI σ o j) (hL : ∀ o j, zL σ' o j = zL σ o j) (hP : ∀ o j, zP σ' o j = zP σ o j)
    (hτ : ∀ o j, zI τ' o j = if o = 130 ∧ j = 7 then nI (n + 1) else if o = 130 ∧ j = 69 + 2 * n then y else if o = 130 ∧ j = 68 + 2 * n then x else zI τ o j) (hτL : ∀ o j, zL τ' o j = zL τ o j) : zRel σ' τ' := by
  obtain ⟨⟨a, b, c, d, e⟩, ⟨h2, h3⟩, h4⟩ := id hs
  have hva : ∀ p, zva m (n + 1) p = true → zva m n p = true ∨ p = 68 + 2 * n ∨ p = 69 + 2 * n := by
    intro p hp
    simp only [zva, Bool.or_eq_true, Bool.and_eq_true, decide_eq_true_eq] at hp ⊢
    omega
  refine zRel_S (m := m) (n := n + 1) h ⟨⟨a, by omega, by rw [hτ, if_neg (by omega), if_neg (by omega), if_neg (by omega)]; exact c, by rw [hτ, if_pos ⟨rfl, rfl⟩], fun p hp => ?_⟩, ⟨?_, fun p hp6 hp => ?_⟩, fun i hi => ?_⟩ (fun o j ho => ?_) hL hP (fun o j ho => ?_) hτL ?_
  · have hl := zva_lt (by omega) hp
    by_cases q7 : p = 7
    · subst q7
      rw [hτ, if_pos ⟨rfl, rfl⟩]
      exact Or.inl ⟨n + 1, by simp [zmx]; omega, rfl, fun z => by omega⟩
    · by_cases q1 : p = 69 + 2 * n
      · rw [hτ, if_neg (by omega), if_pos ⟨rfl, q1⟩]
        refine Or.inl ?_
        have hz : zmx p = 1 := by simp only [zmx]; repeat' split
                                  all_goals omega
        rcases hy with rfl | rfl
        · exact ⟨0, by omega, rfl, fun z => by omega⟩
        · exact ⟨1, by omega, rfl, fun z => by omega⟩
      · by_cases q2 : p = 68 + 2 * n
        · rw [hτ, if_neg (by omega), if_neg (by omega), if_pos ⟨rfl, q2⟩]
          exact Or.inr ⟨by omega, by omega, hx⟩
        · rw [hτ, if_neg (by omega), if_neg (by omega), if_neg (by omega)]
          rcases hva p hp with z | z | z
          · exact e p z
          · exact absurd z q2
          · exact absurd z q1
  · rw [hσ, if_neg (by omega), if_neg (by omega), if_neg (by omega), hτ, if_neg (by omega), if_neg (by omega), if_neg (by omega)]; exact h2
  · have hl := zva_lt (by omega) hp
    by_cases q7 : p = 7
    · subst q7
      rw [hτ, if_pos ⟨rfl, rfl⟩]
      show zI σ' 27 2 = _
      rw [hσ, if_pos ⟨rfl, rfl⟩]
    · have hbk := (by decide +kernel : ∀ n, n < 12 → zlo 0 (68 + 2 * n) = 29 ∧ zlk (68 + 2 * n) = n ∧ zlo 0 (69 + 2 * n) = 31 ∧ zlk (69 + 2 * n) = n) n hn
      by_cases q1 : p = 69 + 2 * n
      · subst q1
        rw [hbk.2.2.1, hbk.2.2.2, hσ, hτ, if_neg (by omega), if_pos ⟨rfl, rfl⟩, if_neg (by omega), if_pos ⟨rfl, rfl⟩]
      · by_cases q2 : p = 68 + 2 * n
        · subst q2
          rw [hbk.1, hbk.2.1, hσ, hτ, if_neg (by omega), if_neg (by omega), if_pos ⟨rfl, rfl⟩, if_neg (by omega), if_neg (by omega), if_pos ⟨rfl, rfl⟩]
        · have hp' : zva m n p = true := by
            rcases hva p hp with z | z | z
            · exact z
            · exact absurd z q2
            · exact absurd z q1
          have hne := ((by decide +kernel : ∀ n, n < 12 → ∀ p, p < 92 → p = 7 ∨ p = 69 + 2 * n ∨ p = 68 + 2 * n ∨ (¬ (zlo 0 p = 27 ∧ zlk p = 2) ∧ ¬ (zlo 0 p = 31 ∧ zlk p = n) ∧ ¬ (zlo 0 p = 29 ∧ zlk p = n))) n hn p hl).resolve_left q7 |>.resolve_left q1 |>.resolve_left q2
          rw [hσ, hτ, if_neg hne.1, if_neg hne.2.1, if_neg hne.2.2, if_neg (by omega), if_neg (by omega), if_neg (by omega)]
          exact h3 p hp6 hp'
  · rw [hσ, if_neg (by omega), if_neg (by omega), if_neg (by omega)]; exact h4 i hi
  · rw [hσ, if_neg, if_neg, if_neg]
    · rintro ⟨rfl, -⟩; cases ho
    · rintro ⟨rfl, -⟩; cases ho
    · rintro ⟨rfl, -⟩; cases ho
  · rw [hτ, if_neg (fun z => ho z.1), if_neg (fun z => ho z.1), if_neg (fun z => ho z.1)]
  · rw [hτ, if_neg (by omega), if_neg (by omega), if_neg (by omega)]
theorem zRel_book0 {σ τ : ZM} (h : zRel σ τ) {m n : Nat} (hs : zRs m n σ τ) : zRel (zsI σ 27 2 0) (zsI τ 130 7 0) := by
  obtain ⟨⟨a, b, c, d, e⟩, ⟨h2, h3⟩, h4⟩ := id hs
  have hva : ∀ p, zva m 0 p = true → zva m n p = true ∧ p < 68 := by
    intro p hp
    simp only [zva, Bool.or_eq_true, Bool.and_eq_true, decide_eq_true_eq] at hp ⊢
    omega
  refine zRel_S (m := m) (n := 0) h ⟨⟨a, by omega, by rw [zI_sI, if_neg (by omega)]; exact c, by rw [zI_sI, if_pos ⟨rfl, rfl⟩]; rfl, fun p hp => ?_⟩, ⟨?_, fun p hp6 hp => ?_⟩, fun i hi => ?_⟩ (fun o j ho => ?_) (fun _ _ => rfl) (fun _ _ => rfl) (fun o j ho => ?_) (fun _ _ => rfl) ?_
  · rw [zI_sI]
    by_cases q7 : p = 7
    · rw [if_pos ⟨rfl, q7⟩]; exact Or.inl ⟨0, by omega, rfl, fun z => by omega⟩
    · rw [if_neg (by omega)]; exact e p (hva p hp).1
  · rw [zI_sI, if_neg (by omega), zI_sI, if_neg (by omega)]; exact h2
  · by_cases q7 : p = 7
    · subst q7; rfl
    · have hl := (hva p hp).2
      have hne := ((by decide +kernel : ∀ p, p < 92 → p = 7 ∨ ¬ (zlo 0 p = 27 ∧ zlk p = 2)) p (by omega)).resolve_left q7
      rw [zI_sI, if_neg hne, zI_sI, if_neg (by omega)]; exact h3 p hp6 (hva p hp).1
  · rw [zI_sI, if_neg (by omega)]; exact h4 i hi
  · rw [zI_sI, if_neg]; rintro ⟨rfl, -⟩; cases ho
  · rw [zI_sI, if_neg (fun z => ho z.1)]
  · rw [zI_sI, if_neg (by omega)]
theorem book_put {σ τ : ZM} (h : zRel σ τ) {m n : Nat} {x y : Int32} (hs : zRs m n σ τ) (hx : x = -2 ∨ ∃ j, j < m ∧ x = nI j) (hy : y = nI 0 ∨ y = nI 1) : zOK (f_BB_book_34 x y σ) (f_Model_book_31 x y τ) := by
  obtain ⟨hn, n1, n2⟩ := zrows hs
  unfold f_BB_book_34 f_Model_book_31 f_Book_append f_Model_book_91
  simp (disch := omega) only [zbd_id, zck_of (show zR 0 129 27 14 0 = true by decide), zbd_s, zck_t, zlit, nI_add, nI_mul, nI_clamp, zck_nI, zbl_0, zbl_1, n1, n2]
  by_cases c : n = 12
  · subst c
    rw [if_neg (nI_nlt (by omega) (by omega)), if_pos rfl]; exact zOK_s h
  · have hy' : zbl y = true := by rcases hy with rfl | rfl <;> rfl
    rw [if_pos (nI_lt (by omega) (by omega)), if_neg (by rw [nI_eq (by omega) (by omega)]; exact c)]
    have e1 : zI (zsI σ 29 n x) 27 2 = nI n := by rw [zI_sI, if_neg (by omega)]; exact n1
    have e2 : zI (zsI τ 130 (68 + 2 * n) x) 130 7 = nI n := by rw [zI_sI, if_neg (by omega)]; exact n2
    have e3 : ∀ y, zI (zsI (zsI σ 29 n x) 31 n y) 27 2 = nI n := fun y => by rw [zI_sI, if_neg (by omega)]; exact e1
    have e4 : ∀ y, zI (zsI (zsI τ 130 (68 + 2 * n) x) 130 (68 + 2 * n + 1) y) 130 7 = nI n := fun y => by rw [zI_sI, if_neg (by omega)]; exact e2
    have key : ∀ z : Int32, zRel (zsI (zsI (zsI σ 29 n x) 31 n y) 27 2 (nI (n + 1))) (zsI (zsI (zsI τ 130 (68 + 2 * n) x) 130 (68 + 2 * n + 1) y) 130 7 (nI (n + 1))) := fun _ => by
      refine zRel_book h hs (by omega) hx hy (fun o j => by simp only [zI_sI]) (fun _ _ => rfl) (fun _ _ => rfl) (fun o j => ?_) (fun _ _ => rfl)
      simp only [zI_sI]
      rw [show 68 + 2 * n + 1 = 69 + 2 * n by omega]
    simp (disch := omega) only [zbd_s, zck_t, zlit, nI_add, nI_mul, nI_clamp, zck_nI, zbl_0, zbl_1, e1, e2, e3, e4, zck_of hy']
    rcases hy with rfl | rfl
    · rw [if_pos rfl]
      rw [zI_sI, if_pos ⟨rfl, rfl⟩, zI_sI, if_pos ⟨rfl, rfl⟩]
      exact ⟨_, _, _, rfl, rfl, key 0⟩
    · rw [if_neg (by decide)]
      rw [zI_sI, if_pos ⟨rfl, rfl⟩, zI_sI, if_pos ⟨rfl, rfl⟩]
      exact ⟨_, _, _, rfl, rfl, key 0⟩
theorem op_book {σ τ : ZM} (h : zRel σ τ) (x1 x2 : Int32) (hb : zbl x2 = true) : zOK (f_BB_book x1 x2 σ) (f_Model_book x1 x2 τ) := by
  obtain ⟨⟨m, n, hs⟩, -⟩ := id h
  obtain ⟨hm, m1, m2⟩ := zmany hs
  have hy : x2 = nI 0 ∨ x2 = nI 1 := by
    simp only [zbl, Bool.or_eq_true, beq_iff_eq] at hb
    exact hb
  unfold f_BB_book f_Model_book
  by_cases c1 : x1 = -1
  · rw [if_pos c1, if_pos c1, zck_of (show zin 7 92 = true by decide)]
    exact ⟨_, _, _, rfl, rfl, zRel_book0 h hs⟩
  · rw [if_neg c1, if_neg c1]
    by_cases c2 : x1 = -2
    · rw [if_pos c2, if_pos c2]; exact book_put h hs (Or.inl c2) hy
    · rw [if_neg c2, if_neg c2, Bloaf_e (show m < 2 ^ 31 by omega) m1, Mloaf_e (show m < 2 ^ 31 by omega) m2, zbd_s, zbd_s, zif, zif]
      cases hz : zin x1 m with
      | false => exact zOK_s h
      | true =>
        obtain ⟨i, hi, hi2, rfl⟩ := zin_t hz
        rw [if_pos rfl, if_pos rfl]
        exact book_put h hs (Or.inr ⟨i, hi, rfl⟩) hy
theorem lgz (x y : Int64) : (lg_cmp x y = 0) = (x = y) := by
  unfold lg_cmp
  by_cases h : x > y
  · rw [if_pos h]
    have : ¬ x = y := by
      intro e; subst e
      rw [gt_iff_lt, Int64.lt_iff_toInt_lt] at h; omega
    simp [this]
  · rw [if_neg h]
    by_cases h2 : x = y
    · simp [h2]
    · simp [h2]
theorem lgz_n (x y : Int64) : (lg_cmp x y = nI 0) = (x = y) := lgz x y
theorem judge_loop {σ τ : ZM} (h : zRel σ τ) {m n : Nat} (hs : zRs m n σ τ) {t a L : Nat} (ht : t < 6) (hL : L ≤ 60) (ha : a ≤ L) (e3 : zI σ 13 t = nI L) (e4 : zI τ 140 t = nI L) : ∀ (d k : Nat) (N M : Nat), k + d = 4 → d < N → d < M → zOK (F_Tapes_firstUnlike_46 N (nI t, nI a, 33, nI k, σ)) (F_Model_judge_49 M (nI t, nI a, nI k, τ)) := by
  intro d
  induction d with
  | zero =>
    intro k N M hk hN hM
    obtain ⟨N, rfl⟩ : ∃ K, N = K + 1 := ⟨N - 1, by omega⟩
    obtain ⟨M, rfl⟩ : ∃ K, M = K + 1 := ⟨M - 1, by omega⟩
    show zOK (f_Tapes_firstUnlike_46 (F_Tapes_firstUnlike_46 N) (nI t) (nI a) 33 (nI k) σ) (f_Model_judge_49 (F_Model_judge_49 M) (nI t) (nI a) (nI k) τ)
    unfold f_Tapes_firstUnlike_46 f_Model_judge_49
    rw [show (4 : Int32) = nI 4 from rfl, if_pos (nI_le (by omega) (by omega)), if_pos (nI_le (by omega) (by omega))]
    exact zOK_s h
  | succ d ih =>
    intro k N M hk hN hM
    obtain ⟨N, rfl⟩ : ∃ K, N = K + 1 := ⟨N - 1, by omega⟩
    obtain ⟨M, rfl⟩ : ∃ K, M = K + 1 := ⟨M - 1, by omega⟩
    show zOK (f_Tapes_firstUnlike_46 (F_Tapes_firstUnlike_46 N) (nI t) (nI a) 33 (nI k) σ) (f_Model_judge_49 (F_Model_judge_49 M) (nI t) (nI a) (nI k) τ)
    unfold f_Tapes_firstUnlike_46 f_Model_judge_49
    rw [show (4 : Int32) = nI 4 from rfl, if_neg (nI_ge (by omega) (by omega)), if_neg (nI_ge (by omega) (by omega))]
    simp (disch := omega) only [zbd_s, zck_t, zlit, nI_add, nI_mul, nI_clamp, zck_nI, zbl_0, zbl_1, zck_of (show zin (nI k) 4 = true by rw [zin_nI (by omega)]; simp; omega), e3, e4]
    obtain ⟨g, g1, g2, g3⟩ := zheld hs (show k < 4 by omega)
    by_cases c : a + k < L
    · rw [nI_subE (by omega), if_pos (nI_lt c (by omega)), if_pos (nI_lt (by omega) (by omega))]
      obtain ⟨-, -, -, -, hp, -⟩ := id h
      obtain ⟨-, -, e5⟩ := hp t ht
      have e5 := e5 (a + k) (by omega)
      rw [show 60 * t + (a + k) = 60 * t + a + k by omega] at e5
      simp (disch := omega) only [zbd_s, zck_t, zlit, nI_add, nI_mul, nI_clamp, zck_nI, zbl_0, zbl_1, zel11, zck_r, lgz, lgz_n, g2, g3, e5, show 33 + 9 = 42 from rfl]
      by_cases c2 : zL τ 141 (60 * t + a + k) = (nI g).toInt64
      · simp only [if_pos c2]; exact ih (k + 1) N M (by omega) (by omega) (by omega)
      · simp only [if_neg c2]; exact zOK_s h
    · rw [if_neg (nI_nlt (by omega) (by omega))]
      have e : ¬ nI a < nI L - nI k := by
        rw [Int32.lt_iff_toInt_lt, nI_toInt (by omega)]
        by_cases q : k ≤ L
        · rw [nI_subE q, nI_toInt (by omega)]; omega
        · have z := (by decide +kernel : ∀ L, L < 3 → ∀ k, k < 4 → k ≤ L ∨ (nI L - nI k).toInt < 0) L (by omega) k (by omega)
          omega
      rw [if_neg e]
      exact zOK_s h
theorem op_judge {σ τ : ZM} (h : zRel σ τ) (x1 x2 : Int32) : zOK (f_BB_judge x1 x2 σ) (f_Model_judge x1 x2 τ) := by
  unfold f_BB_judge f_Model_judge f_Tapes_firstUnlike f_Model_judge_31
  simp only [Btape_e, Mtape_e, zbd_s, zif, zbd_id]
  obtain ⟨⟨m, n, hs⟩, -, -, -, hp, -⟩ := id h
  cases hz : zin x1 6 with
  | false => exact zOK_s h
  | true =>
    obtain ⟨t, ht, ht2, rfl⟩ := zin_t hz
    obtain ⟨⟨e1, e2⟩, ⟨L, hL, e3, e4⟩, e5⟩ := hp t ht
    rw [if_pos rfl, if_pos rfl]
    simp (disch := omega) only [nI_clamp, zck_nI, zck_t, zck_of (show zR 0 129 33 17 0 = true by decide), e1, e3, e4]
    rcases e2 with e2 | ⟨s, hs', e2⟩
    · rw [e2]
      simp only [if_true, if_pos nm1_lt]
      exact zOK_s h
    · rw [e2]
      simp only [if_neg (nI_nm1 (show s < 2 ^ 31 by omega)), if_neg (nI_pos (show s < 2 ^ 31 by omega))]
      by_cases c : nI s = 1
      · rw [if_pos c, if_pos c]
        rcases zc3 x2 (L + 1) with hx | ⟨a, ha, ha2, rfl⟩ | ⟨a, ha, ha2, rfl⟩
        · rw [if_pos hx, if_neg (Int32.not_le.mpr hx)]; exact zOK_s h
        · rw [if_neg (nI_pos ha2), if_pos (nI_pos' ha2), if_pos (nI_le (by omega) (by omega))]
          exact judge_loop h hs ht hL (by omega) e3 e4 4 0 2000 2000 rfl (by omega) (by omega)
        · rw [if_neg (nI_pos ha2), if_pos (nI_pos' ha2), if_neg (nI_ge (by omega) (by omega))]
          show zOK _ (f_Model_judge_49 (F_Model_judge_49 1999) (nI t) (nI a) (nI 0) τ)
          unfold f_Model_judge_49
          simp (disch := omega) only [zbd_s, zck_t, zlit, nI_add, nI_mul, nI_clamp, zck_nI, zbl_0, zbl_1, e4]
          rw [if_neg (by decide), nI_subE (by omega), if_neg (nI_nlt (by omega) (by omega))]
          exact zOK_s h
      · rw [if_neg c, if_neg c]; exact zOK_s h
