/-! PURE: looked -/
theorem zlo_bk : ∀ k, k < 12 → zlo 0 (68 + 2 * k) = 29 ∧ zlk (68 + 2 * k) = k ∧ zlo 0 (68 + 2 * k + 1) = 31 ∧ zlk (68 + 2 * k + 1) = k ∧ zmx (68 + 2 * k + 1) = 1 := by decide +kernel
theorem zbookr {m n : Nat} {σ τ : ZM} (h : zRs m n σ τ) {k : Nat} (hk : k < n) : zI σ 29 k = zI τ 130 (68 + 2 * k) ∧ (zI σ 29 k = -2 ∨ ∃ j, j < m ∧ zI σ 29 k = nI j) ∧ zI σ 31 k = zI τ 130 (68 + 2 * k + 1) ∧ ∃ b, zI σ 31 k = zbI b := by
  have hn := h.1.2.1
  have v1 : zva m n (68 + 2 * k) = true := by
    simp only [zva, Bool.or_eq_true, Bool.and_eq_true, decide_eq_true_eq]; omega
  have v2 : zva m n (68 + 2 * k + 1) = true := by
    simp only [zva, Bool.or_eq_true, Bool.and_eq_true, decide_eq_true_eq]; omega
  have a := zval h (68 + 2 * k) (by omega) v1
  have b := zval h (68 + 2 * k + 1) (by omega) v2
  have c := h.1.2.2.2.2 (68 + 2 * k) v1
  have d := h.1.2.2.2.2 (68 + 2 * k + 1) v2
  obtain ⟨e1, e2, e3, e4, e5⟩ := zlo_bk k (by omega)
  rw [e1, e2] at a
  rw [e3, e4] at b
  refine ⟨a, ?_, b, ?_⟩
  · rw [a]
    rcases c with ⟨g, c1, c2, c3⟩ | ⟨-, -, c⟩
    · have := c3 (by omega); omega
    · exact c
  · rw [b]
    rcases d with ⟨g, d1, d2, d3⟩ | ⟨-, d2, -⟩
    · rw [e5] at d1
      have : g = 0 ∨ g = 1 := by omega
      rcases this with rfl | rfl
      · exact ⟨false, d2⟩
      · exact ⟨true, d2⟩
    · omega
def pLo (cs : List ZCl) (D : ZD) (L B : Nat → Int32) : Nat → Nat → ZS → Int32
  | 0, _, _ => -5
  | d + 1, k, S => if L k = -2 then (if 0 = B k then pLo cs D L B d (k + 1) (pCl cs S) else nI k) else (if zbI (pSp cs D S.1 S.2 (L k).toNatClampNeg 0 4) = B k then pLo cs D L B d (k + 1) (pBk cs D (L k).toNatClampNeg S) else nI k)
theorem pLo_s (cs : List ZCl) (D : ZD) (L B : Nat → Int32) (d k : Nat) (S : ZS) : pLo cs D L B (d + 1) k S = if L k = -2 then (if 0 = B k then pLo cs D L B d (k + 1) (pCl cs S) else nI k) else (if zbI (pSp cs D S.1 S.2 (L k).toNatClampNeg 0 4) = B k then pLo cs D L B d (k + 1) (pBk cs D (L k).toNatClampNeg S) else nI k) := rfl
theorem lkc_u (N : Nat) (a : Int32) (σ : ZM) : F_Asker_firstOtherwise_16 (N + 1) (a, σ) = f_Asker_firstOtherwise_16 (F_Asker_firstOtherwise_16 N) a σ := rfl
theorem lkm_u (N : Nat) (a b : Int32) (σ : ZM) : F_Model_looked_9 (N + 1) (a, b, σ) = f_Model_looked_9 (F_Model_looked_9 N) a b σ := rfl
theorem m2_nlt : ∀ j, j < 7 → ¬ nI j = (-2 : Int32) := by decide +kernel
section
variable {m : Nat} {cs : List ZCl} {D : ZD} {σ0 τ0 : ZM} {S0 : ZS}
theorem lk_Cl (w : xW m cs D σ0 τ0 S0) {n : Nat} (hs : zRs m n σ0 τ0) : ∀ (d k N : Nat) (σ : ZM) (S : ZS), k + d = n → d < N → xC σ0 σ S → ∃ σ', F_Asker_firstOtherwise_16 N (nI k, σ) = some (pLo cs D (zI σ0 29) (zI σ0 31) d k S, σ') ∧ zFC 35 σ0 σ' := by
  have hm := w.1.1
  have hn := hs.1.2.1
  obtain ⟨-, r1, -⟩ := zrows hs
  intro d
  induction d with
  | zero =>
    intro k N σ S hk hN c
    obtain ⟨N, rfl⟩ : ∃ M, N = M + 1 := ⟨N - 1, by omega⟩
    rw [lkc_u]
    unfold f_Asker_firstOtherwise_16
    rw [c.1.1 27 2 (by omega) (by omega) (by omega), r1, if_pos (nI_le (by omega) (by omega))]
    exact ⟨σ, rfl, c.1⟩
  | succ d ih =>
    intro k N σ S hk hN c
    obtain ⟨N, rfl⟩ : ∃ M, N = M + 1 := ⟨N - 1, by omega⟩
    obtain ⟨-, q1, -, -⟩ := zbookr hs (show k < n by omega)
    have last : ∀ (y : Int32) (σ1 : ZM) (S1 : ZS), xC σ0 σ1 S1 → ∃ σ', f_Asker_firstOtherwise_86 (F_Asker_firstOtherwise_16 N) (nI k) y σ1 = some (if y = zI σ0 31 k then pLo cs D (zI σ0 29) (zI σ0 31) d (k + 1) S1 else nI k, σ') ∧ zFC 35 σ0 σ' := by
      intro y σ1 S1 c1
      unfold f_Asker_firstOtherwise_86
      rw [zck_nI (by omega) (by omega), nI_clamp (by omega), c1.1.1 31 k (by omega) (by omega) (by omega), show nI k + (1 : Int32) = nI (k + 1) from nI_add k 1]
      by_cases q : y = zI σ0 31 k
      · rw [if_pos q, if_pos q]
        exact ih (k + 1) N σ1 S1 (by omega) (by omega) c1
      · rw [if_neg q, if_neg q]
        exact ⟨σ1, rfl, c1.1⟩
    rw [lkc_u]
    unfold f_Asker_firstOtherwise_16
    rw [c.1.1 27 2 (by omega) (by omega) (by omega), r1, if_neg (nI_ge (a := k) (b := n) (by omega) (by omega)), zck_nI (by omega) (by omega), nI_clamp (by omega), c.1.1 29 k (by omega) (by omega) (by omega), pLo_s]
    rcases q1 with q1 | ⟨j, hj, q1⟩
    · obtain ⟨σ1, e1, c1⟩ := xC_c w c
      rw [if_pos q1, if_pos q1, e1, zbd_s]
      exact last 0 σ1 _ c1
    · obtain ⟨σ1, e1, c1⟩ := xC_k w c hj
      have nn : ¬ zI σ0 29 k = -2 := by rw [q1]; exact m2_nlt j (by omega)
      rw [if_neg nn, if_neg nn, q1, nI_clamp (by omega), zel25, zck_nI (by omega) (by omega), zck_of (zRl (by omega)), e1, zbd_s]
      exact last _ σ1 _ c1
theorem lk_Ml (w : xW m cs D σ0 τ0 S0) {n : Nat} (hs : zRs m n σ0 τ0) : ∀ (d k N : Nat) (τ : ZM) (S : ZS), k + d = n → d + 1 < N → xM τ0 τ S → ∃ τ', F_Model_looked_9 N (-5, nI k, τ) = some (pLo cs D (zI σ0 29) (zI σ0 31) d k S, τ') ∧ zFE τ0 τ' := by
  have hm := w.1.1
  have hn := hs.1.2.1
  obtain ⟨-, -, r1⟩ := zrows hs
  have row : ∀ {τ : ZM} {k : Nat}, zIn τ0 τ → 5 ≤ k → zI τ 130 k = zI τ0 130 k := fun {τ k} f hk => f.1 _ _ (by omega) (by omega) (by omega) (by omega)
  intro d
  induction d with
  | zero =>
    intro k N τ S hk hN c
    obtain ⟨N, rfl⟩ : ∃ M, N = M + 1 := ⟨N - 1, by omega⟩
    obtain ⟨τ1, e1, f1⟩ := xM_e c
    rw [lkm_u]
    unfold f_Model_looked_9 f_Model_looked_45
    rw [zck_of (show zin 7 92 = true by decide), show (7 : Int32).toNatClampNeg = 7 from rfl, row c.1 (by omega), r1, if_pos (nI_le (by omega) (by omega)), e1, zbd_s]
    exact ⟨τ1, rfl, f1⟩
  | succ d ih =>
    intro k N τ S hk hN c
    obtain ⟨N, rfl⟩ : ∃ M, N = M + 1 := ⟨N - 1, by omega⟩
    obtain ⟨q0, q1, q2, b, q3⟩ := zbookr hs (show k < n by omega)
    have last : ∀ (y : Bool) (τ1 : ZM) (S1 : ZS), xM τ0 τ1 S1 → ∃ τ', (if (if y = true then (1 : Int32) else 0) = 0 then f_Model_looked_38 (F_Model_looked_9 N) (nI k) (nI k) τ1 else f_Model_looked_38 (F_Model_looked_9 N) (nI k) (-5) τ1) = some (if y = true then pLo cs D (zI σ0 29) (zI σ0 31) d (k + 1) S1 else nI k, τ') ∧ zFE τ0 τ' := by
      intro y τ1 S1 c1
      unfold f_Model_looked_38
      rw [show nI k + (1 : Int32) = nI (k + 1) from nI_add k 1]
      cases y with
      | true =>
        rw [if_pos (show true = true from rfl), if_neg (show ¬ (1 : Int32) = 0 by decide), if_pos (show true = true from rfl)]
        exact ih (k + 1) N τ1 S1 (by omega) (by omega) c1
      | false =>
        obtain ⟨N, rfl⟩ : ∃ M, N = M + 1 := ⟨N - 1, by omega⟩
        obtain ⟨τ2, e2, f2⟩ := xM_e c1
        rw [if_neg (show ¬ false = true by decide), if_pos (show (0 : Int32) = 0 from rfl), if_neg (show ¬ false = true by decide), lkm_u]
        unfold f_Model_looked_9 f_Model_looked_45
        rw [zck_of (show zin 7 92 = true by decide), show (7 : Int32).toNatClampNeg = 7 from rfl, if_pos (nI_pos' (show k < 2 ^ 31 by omega)), e2, zbd_s]
        split <;> exact ⟨τ2, rfl, f2⟩
    rw [lkm_u]
    unfold f_Model_looked_9
    rw [zck_of (show zin 7 92 = true by decide), show (7 : Int32).toNatClampNeg = 7 from rfl, row c.1 (by omega), r1, if_neg (nI_ge (a := k) (b := n) (by omega) (by omega)), if_neg (show ¬ (0 : Int32) ≤ -5 by decide)]
    have ea : (68 : Int32) + (2 : Int32) * nI k = nI (68 + 2 * k) := by
      rw [show (2 : Int32) * nI k = nI (2 * k) from nI_mul 2 k]; exact nI_add 68 (2 * k)
    have eb : nI (68 + 2 * k) + (1 : Int32) = nI (68 + 2 * k + 1) := nI_add (68 + 2 * k) 1
    have told : ∃ τ', f_Model_isBookedSo (nI k) τ = some (if (if zI σ0 29 k = -2 then decide ((0 : Int32) = zI σ0 31 k) else decide (zbI (pSp cs D S.1 S.2 (zI σ0 29 k).toNatClampNeg 0 4) = zI σ0 31 k)) = true then (1 : Int32) else 0, τ') ∧ xM τ0 τ' (if zI σ0 29 k = -2 then pCl cs S else pBk cs D (zI σ0 29 k).toNatClampNeg S) := by
      unfold f_Model_isBookedSo
      rw [ea, eb, zck_nI (by omega) (by omega), zck_nI (by omega) (by omega), nI_clamp (by omega), nI_clamp (by omega), row c.1 (by omega), row c.1 (by omega), ← q0, ← q2]
      have one : (if zI σ0 31 k = (1 : Int32) then f_Model_isBookedSo_34 (zI σ0 29 k) 1 τ else f_Model_isBookedSo_34 (zI σ0 29 k) 0 τ) = f_Model_isBookedSo_34 (zI σ0 29 k) (zI σ0 31 k) τ := by
        rw [q3]
        cases b <;> rfl
      rw [one]
      unfold f_Model_isBookedSo_34
      rcases q1 with q1 | ⟨j, hj, q1⟩
      · obtain ⟨τ1, e1, c1⟩ := xM_c w c
        rw [if_pos (show zI σ0 29 k < 0 by rw [q1]; decide), if_pos q1, if_pos q1, e1, zbd_s]
        refine ⟨τ1, ?_, c1⟩
        rw [q3]
        cases b <;> rfl
      · obtain ⟨τ1, e1, c1⟩ := xM_k w c hj
        have nn : ¬ zI σ0 29 k = -2 := by rw [q1]; exact m2_nlt j (by omega)
        rw [if_neg nn, if_neg nn, q1, if_neg (nI_pos (by omega)), nI_clamp (by omega), e1, zbd_s]
        refine ⟨τ1, ?_, c1⟩
        by_cases z : zbI (pSp cs D S.1 S.2 j 0 4) = zI σ0 31 k
        · rw [if_pos z, if_pos (decide_eq_true z)]
        · rw [if_neg z, if_neg (by simpa using z)]
    obtain ⟨τ1, e1, c1⟩ := told
    rw [e1, zbd_s, pLo_s]
    obtain ⟨τ2, e2, f2⟩ := last (if zI σ0 29 k = -2 then decide ((0 : Int32) = zI σ0 31 k) else decide (zbI (pSp cs D S.1 S.2 (zI σ0 29 k).toNatClampNeg 0 4) = zI σ0 31 k)) τ1 _ c1
    refine ⟨τ2, e2.trans ?_, f2⟩
    by_cases z : zI σ0 29 k = -2
    · simp only [if_pos z]
      by_cases y : (0 : Int32) = zI σ0 31 k
      · rw [if_pos y, if_pos (decide_eq_true y)]
      · rw [if_neg y, if_neg (by simpa using y)]
    · simp only [if_neg z]
      by_cases y : zbI (pSp cs D S.1 S.2 (zI σ0 29 k).toNatClampNeg 0 4) = zI σ0 31 k
      · rw [if_pos y, if_pos (decide_eq_true y)]
      · rw [if_neg y, if_neg (by simpa using y)]
end
theorem op_looked {σ τ : ZM} (h : zRel σ τ) : zOK (f_BB_looked σ) (f_Model_looked τ) := by
  obtain ⟨m, n, cs, D, S, hs, w⟩ := zRel_W h
  have hn := hs.1.2.1
  obtain ⟨σ1, e1, c1⟩ := xC_b w (zFC_r 35 σ)
  obtain ⟨σ2, e2, f2⟩ := lk_Cl w hs n 0 2000 σ1 S (by omega) (by omega) c1
  obtain ⟨τ1, e3, c3⟩ := xM_b w (zFE_r τ)
  obtain ⟨τ2, e4, f4⟩ := lk_Ml w hs n 0 2000 τ1 S (by omega) (by omega) c3
  unfold f_BB_looked f_Asker_firstOtherwise f_Model_looked
  rw [e1, zbd_s, e3, zbd_s]
  refine zOK_F h ?_ e4 (zFK_35 f2) (zFN_E f4)
  exact (congrArg (fun q => zbd q fun v1 s2 => some (v1, s2)) e2).trans rfl
