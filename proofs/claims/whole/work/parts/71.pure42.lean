/-! PURE: odds, mean -/
theorem cmm_u (N : Nat) (a b : Int32) (σ : ZM) : F_Model_common (N + 1) (a, b, σ) = f_Model_common (F_Model_common N) a b σ := rfl
theorem com_e (τ : ZM) : ∀ (K a b : Nat), b < K → a < 2 ^ 31 → b < 2 ^ 31 → F_Model_common K (nI a, nI b, τ) = some (nI (Nat.gcd b a), τ)
  | 0, a, b, h, _, _ => by omega
  | K + 1, a, b, h, ha, hb => by
    rw [cmm_u]
    unfold f_Model_common
    by_cases q : b = 0
    · subst q
      rw [if_pos (show nI 0 = 0 from rfl), Nat.gcd_zero_left]
    · have hl : a % b < b := Nat.mod_lt _ (by omega)
      rw [if_neg (nI_ne0 (by omega) hb), zck_of (nI_nz (by omega) hb), nI_mod ha hb, com_e τ K b (a % b) (by omega) hb (by omega), zbd_s, Nat.gcd_rec b a]
theorem low_m {a b : Nat} (ha : a < 60000) (hb : 0 < b ∧ b < 7) (p : Nat) (hp : p < 2) (τ : ZM) : f_Model_lowest (nI a) (nI b) (nI p) τ = some ((nI (if p = 0 then a else b) / nI (Nat.gcd a b)).toInt64, τ) := by
  have g1 : 0 < Nat.gcd a b := Nat.gcd_pos_of_pos_right a hb.1
  have g2 : Nat.gcd a b ≤ b := Nat.le_of_dvd hb.1 (Nat.gcd_dvd_right a b)
  have e : F_Model_common 20 (nI b, nI a, τ) = some (nI (Nat.gcd a b), τ) := by
    rw [cmm_u]
    unfold f_Model_common
    by_cases q : a = 0
    · subst q
      rw [if_pos (show nI 0 = 0 from rfl), Nat.gcd_zero_left]
    · have hl : b % a ≤ b := Nat.mod_le _ _
      rw [if_neg (nI_ne0 (by omega) (by omega)), zck_of (nI_nz (by omega) (by omega)), nI_mod (by omega) (by omega), com_e τ 19 a (b % a) (by omega) (by omega) (by omega), zbd_s, Nat.gcd_rec a b]
  unfold f_Model_lowest
  rw [e, zbd_s]
  have : p = 0 ∨ p = 1 := by omega
  rcases this with rfl | rfl
  · rw [if_pos (show nI 0 = 0 from rfl), if_pos (show (0 : Nat) = 0 from rfl), zck_of (nI_nz g1 (by omega))]
  · rw [if_neg (show ¬ nI 1 = 0 by decide), if_neg (show ¬ (1 : Nat) = 0 by decide), zck_of (nI_nz g1 (by omega))]
theorem loc_u (N : Nat) (a b c d : Int32) (σ : ZM) : F_BB_lowest_2 (N + 1) (a, b, c, d, σ) = f_BB_lowest_2 (F_BB_lowest_2 N) a b c d σ := rfl
theorem low_bl {a b : Nat} (ha : a < 60000) (hb : 0 < b ∧ b < 7) (p : Nat) (hp : p < 2) (σ : ZM) : ∀ (d c N : Nat), Nat.gcd a b + d = c → c ≤ b → d < N → F_BB_lowest_2 N (nI a, nI b, nI p, nI c, σ) = some ((nI (if p = 0 then a else b) / nI (Nat.gcd a b)).toInt64, σ) := by
  have g1 : 0 < Nat.gcd a b := Nat.gcd_pos_of_pos_right a hb.1
  have g2 : Nat.gcd a b ≤ b := Nat.le_of_dvd hb.1 (Nat.gcd_dvd_right a b)
  have fin : f_BB_lowest_25 (nI a) (nI b) (nI p) (nI (Nat.gcd a b)) σ = some ((nI (if p = 0 then a else b) / nI (Nat.gcd a b)).toInt64, σ) := by
    unfold f_BB_lowest_25 f_BB_lowest_34
    have : p = 0 ∨ p = 1 := by omega
    rcases this with rfl | rfl
    · rw [if_pos (show nI 0 = 0 from rfl), if_pos (show (0 : Nat) = 0 from rfl), zck_of (nI_nz g1 (by omega))]
    · rw [if_neg (show ¬ nI 1 = 0 by decide), if_neg (show ¬ (1 : Nat) = 0 by decide), zck_of (nI_nz g1 (by omega))]
  intro d
  induction d with
  | zero =>
    intro c N hc hcb hN
    obtain ⟨N, rfl⟩ : ∃ M, N = M + 1 := ⟨N - 1, by omega⟩
    obtain rfl : Nat.gcd a b = c := by omega
    rw [loc_u]
    unfold f_BB_lowest_2
    by_cases q : Nat.gcd a b ≤ 1
    · rw [if_pos (show nI (Nat.gcd a b) ≤ (1 : Int32) from nI_le (b := 1) q (by omega))]
      exact fin
    · have z1 : a % Nat.gcd a b = 0 := Nat.mod_eq_zero_of_dvd (Nat.gcd_dvd_left a b)
      have z2 : b % Nat.gcd a b = 0 := Nat.mod_eq_zero_of_dvd (Nat.gcd_dvd_right a b)
      rw [if_neg (show ¬ nI (Nat.gcd a b) ≤ (1 : Int32) from nI_ge (a := 1) (by omega) (by omega)), zck_of (nI_nz g1 (by omega)), zck_of (nI_nz g1 (by omega)), nI_mod (by omega) (by omega), nI_mod (by omega) (by omega), z1, z2, if_pos (show nI 0 = 0 from rfl), if_pos (show nI 0 = 0 from rfl)]
      exact fin
  | succ d ih =>
    intro c N hc hcb hN
    obtain ⟨N, rfl⟩ : ∃ M, N = M + 1 := ⟨N - 1, by omega⟩
    have r := ih (c - 1) N (by omega) (by omega) (by omega)
    have em : nI c + (-1 : Int32) = nI (c - 1) := by
      rw [← Int32.sub_eq_add_neg]
      exact nI_subE (b := 1) (by omega)
    rw [loc_u]
    unfold f_BB_lowest_2 f_BB_lowest_19
    rw [if_neg (show ¬ nI c ≤ (1 : Int32) from nI_ge (a := 1) (by omega) (by omega)), zck_of (nI_nz (by omega) (by omega)), zck_of (nI_nz (by omega) (by omega)), nI_mod (by omega) (by omega), nI_mod (by omega) (by omega), em]
    have l1 : a % c < c := Nat.mod_lt _ (by omega)
    have l2 : b % c < c := Nat.mod_lt _ (by omega)
    by_cases q1 : a % c = 0
    · rw [q1, if_pos (show nI 0 = 0 from rfl)]
      by_cases q2 : b % c = 0
      · exfalso
        have := Nat.le_of_dvd g1 (Nat.dvd_gcd (Nat.dvd_of_mod_eq_zero q1) (Nat.dvd_of_mod_eq_zero q2))
        omega
      · rw [if_neg (nI_ne0 (by omega) (by omega))]; exact r
    · rw [if_neg (nI_ne0 (by omega) (by omega))]; exact r
theorem low_b {a b : Nat} (ha : a < 60000) (hb : 0 < b ∧ b < 7) (p : Nat) (hp : p < 2) (σ : ZM) : f_BB_lowest (nI a) (nI b) (nI p) σ = some ((nI (if p = 0 then a else b) / nI (Nat.gcd a b)).toInt64, σ) := by
  have g2 : Nat.gcd a b ≤ b := Nat.le_of_dvd hb.1 (Nat.gcd_dvd_right a b)
  exact low_bl ha hb p hp σ (b - Nat.gcd a b) b 2000 (by omega) (Nat.le_refl _) (by omega)
def pOd (cs : List ZCl) (D : ZD) (S : ZS) (l : Nat) : Nat → Nat → Nat → Nat
  | 0, _, a => a
  | d + 1, i, a => pOd cs D S l d (i + 1) (if i = l then a else if pSp cs D (pBk cs D i S).1 (pBk cs D i S).2 l 0 4 = true then a + 1 else a)
theorem pOd_s (cs : List ZCl) (D : ZD) (S : ZS) (l d i a : Nat) : pOd cs D S l (d + 1) i a = pOd cs D S l d (i + 1) (if i = l then a else if pSp cs D (pBk cs D i S).1 (pBk cs D i S).2 l 0 4 = true then a + 1 else a) := rfl
theorem pOd_le (cs : List ZCl) (D : ZD) (S : ZS) (l : Nat) : ∀ d i a, pOd cs D S l d i a ≤ a + d
  | 0, _, _ => Nat.le_refl _
  | d + 1, i, a => by
    rw [pOd_s]
    refine Nat.le_trans (pOd_le cs D S l d (i + 1) _) ?_
    split
    · omega
    · split <;> omega
theorem odc_u (N : Nat) (a b c : Int32) (σ : ZM) : F_Asker_spoilers_4 (N + 1) (a, b, c, σ) = f_Asker_spoilers_4 (F_Asker_spoilers_4 N) a b c σ := rfl
theorem odm_u (N : Nat) (a b c d : Int32) (σ : ZM) : F_Model_odds_36 (N + 1) (a, b, c, d, σ) = f_Model_odds_36 (F_Model_odds_36 N) a b c d σ := rfl
theorem mec_u (N : Nat) (a b c : Int32) (σ : ZM) : F_Asker_takenByAll_4 (N + 1) (a, b, c, σ) = f_Asker_takenByAll_4 (F_Asker_takenByAll_4 N) a b c σ := rfl
theorem mem_u (N : Nat) (a b c d : Int32) (σ : ZM) : F_Model_mean_34 (N + 1) (a, b, c, d, σ) = f_Model_mean_34 (F_Model_mean_34 N) a b c d σ := rfl
def pMe (cs : List ZCl) (D : ZD) (S : ZS) (t : Nat) : Nat → Nat → Nat → Nat
  | 0, _, a => a
  | d + 1, i, a => pMe cs D S t d (i + 1) (a + pTk cs D S.1 S.2 i t)
theorem pMe_s (cs : List ZCl) (D : ZD) (S : ZS) (t d i a : Nat) : pMe cs D S t (d + 1) i a = pMe cs D S t d (i + 1) (a + pTk cs D S.1 S.2 i t) := rfl
section
variable {m : Nat} {cs : List ZCl} {D : ZD} {σ0 τ0 : ZM} {S0 : ZS}
theorem od_Cl (w : xW m cs D σ0 τ0 S0) {l : Nat} (hl : l < m) : ∀ (d i N a : Nat) (σ : ZM), i + d = m → d < N → zFC 35 σ0 σ → ∃ σ', F_Asker_spoilers_4 N (nI l, nI a, nI i, σ) = some (nI (pOd cs D S0 l d i a), σ') ∧ zFC 35 σ0 σ' := by
  have hm := w.1.1
  intro d
  induction d with
  | zero =>
    intro i N a σ hi hN f
    obtain ⟨N, rfl⟩ : ∃ M, N = M + 1 := ⟨N - 1, by omega⟩
    rw [odc_u]
    unfold f_Asker_spoilers_4
    rw [xC_m w f, if_pos (nI_le (by omega) (by omega))]
    exact ⟨σ, rfl, f⟩
  | succ d ih =>
    intro i N a σ hi hN f
    obtain ⟨N, rfl⟩ : ∃ M, N = M + 1 := ⟨N - 1, by omega⟩
    rw [odc_u]
    unfold f_Asker_spoilers_4 f_Asker_spoilers_30
    rw [xC_m w f, if_neg (nI_ge (a := i) (b := m) (by omega) (by omega)), show nI i + (1 : Int32) = nI (i + 1) from nI_add i 1, pOd_s]
    by_cases q : i = l
    · rw [if_pos (by rw [q]), if_pos q]
      exact ih (i + 1) N a σ (by omega) (by omega) f
    · obtain ⟨σ1, e1, f1⟩ := behind_C w (t := 4) f hl (by omega) (Or.inr ⟨i, by omega, rfl⟩)
      rw [if_neg (show ¬ nI i = nI l from nI_ne q (by omega) (by omega)), if_neg q, show (4 : Int32) = nI 4 from rfl, e1, zbd_s]
      have ev : pWo cs D (pBo cs D S0 (nI i)) l 4 = zbI (pSp cs D (pBk cs D i S0).1 (pBk cs D i S0).2 l 0 4) := by
        unfold pWo pBo
        rw [if_neg (by decide), if_neg (nI_pos (by omega)), nI_clamp (by omega)]
      rw [ev]
      cases pSp cs D (pBk cs D i S0).1 (pBk cs D i S0).2 l 0 4 with
      | false =>
        rw [if_neg (show ¬ false = true by decide), show nI a + zbI false = nI a from Int32.add_zero _]
        exact ih (i + 1) N a σ1 (by omega) (by omega) f1
      | true =>
        rw [if_pos (show true = true from rfl), show nI a + zbI true = nI (a + 1) from nI_add a 1]
        exact ih (i + 1) N (a + 1) σ1 (by omega) (by omega) f1
theorem od_Ml (w : xW m cs D σ0 τ0 S0) {l p : Nat} (hl : l < m) (hp : p < 2) (hm2 : 2 ≤ m) : ∀ (d i N a : Nat) (τ : ZM), i + d = m → d < N → a ≤ i → zFE τ0 τ → ∃ τ', F_Model_odds_36 N (nI l, nI p, nI a, nI i, τ) = some ((nI (if p = 0 then pOd cs D S0 l d i a else m - 1) / nI (Nat.gcd (pOd cs D S0 l d i a) (m - 1))).toInt64, τ') ∧ zFE τ0 τ' := by
  have hm := w.1.1
  intro d
  induction d with
  | zero =>
    intro i N a τ hi hN ha f
    obtain ⟨N, rfl⟩ : ∃ M, N = M + 1 := ⟨N - 1, by omega⟩
    rw [odm_u]
    unfold f_Model_odds_36
    rw [zck_of (show zin 5 92 = true by decide), zck_of (show zin 5 92 = true by decide), show (5 : Int32).toNatClampNeg = 5 from rfl, xE_m w f, if_pos (nI_le (by omega) (by omega)), show nI m - (1 : Int32) = nI (m - 1) from nI_subE (b := 1) (by omega), low_m (by omega) (by omega) p hp, zbd_s]
    exact ⟨τ, rfl, f⟩
  | succ d ih =>
    intro i N a τ hi hN ha f
    obtain ⟨N, rfl⟩ : ∃ M, N = M + 1 := ⟨N - 1, by omega⟩
    rw [odm_u]
    unfold f_Model_odds_36 f_Model_odds_82 f_Model_odds_88
    rw [zck_of (show zin 5 92 = true by decide), show (5 : Int32).toNatClampNeg = 5 from rfl, xE_m w f, if_neg (nI_ge (a := i) (b := m) (by omega) (by omega)), show nI i + (1 : Int32) = nI (i + 1) from nI_add i 1, pOd_s]
    by_cases q : i = l
    · rw [if_pos (show nI i = nI l by rw [q]), if_pos q]
      exact ih (i + 1) N a τ (by omega) (by omega) (by omega) f
    · obtain ⟨τ1, e1, x1⟩ := xM_b w f
      obtain ⟨τ2, e2, x2⟩ := xM_k w x1 (show i < m by omega)
      obtain ⟨τ3, e3, x3⟩ := xM_s w x2 hl
      obtain ⟨τ4, e4, f4⟩ := xM_e x3
      rw [if_neg (show ¬ nI i = nI l from nI_ne q (by omega) (by omega)), if_neg q, e1, zbd_s, e2, zbd_s, e3, zbd_s, e4, zbd_s, zbd_s]
      cases pSp cs D (pBk cs D i S0).1 (pBk cs D i S0).2 l 0 4 with
      | false =>
        rw [if_pos (show zbI false = 0 from rfl), if_neg (show ¬ false = true by decide), Int32.add_zero]
        exact ih (i + 1) N a τ4 (by omega) (by omega) (by omega) f4
      | true =>
        rw [if_neg (show ¬ zbI true = 0 by decide), if_pos (show true = true from rfl), show nI a + (1 : Int32) = nI (a + 1) from nI_add a 1]
        exact ih (i + 1) N (a + 1) τ4 (by omega) (by omega) (by omega) f4
theorem me_Cl (w : xW m cs D σ0 τ0 S0) {t : Nat} (ht : t < 4) : ∀ (d i N a : Nat) (σ : ZM), i + d = m → d < N → zLt σ0 σ → ∃ σ', F_Asker_takenByAll_4 N (nI t, nI a, nI i, σ) = some (nI (pMe cs D S0 t d i a), σ') ∧ zLt σ0 σ' := by
  have hm := w.1.1
  intro d
  induction d with
  | zero =>
    intro i N a σ hi hN f
    obtain ⟨N, rfl⟩ : ∃ M, N = M + 1 := ⟨N - 1, by omega⟩
    rw [mec_u]
    unfold f_Asker_takenByAll_4
    rw [f.1 _ _ (by omega), w.2.1, if_pos (nI_le (by omega) (by omega))]
    exact ⟨σ, rfl, f⟩
  | succ d ih =>
    intro i N a σ hi hN f
    obtain ⟨N, rfl⟩ : ∃ M, N = M + 1 := ⟨N - 1, by omega⟩
    obtain ⟨σ1, e1, f1⟩ := tak_C (zSt_C w.1 (X := 33) (by omega) (zFC_L f)) (X := 33) (by omega) w.2.2.1 (zLt_Co (by omega) f w.2.2.2.1) (show i < m by omega) ht
    rw [mec_u]
    unfold f_Asker_takenByAll_4
    rw [f.1 _ _ (by omega), w.2.1, if_neg (nI_ge (a := i) (b := m) (by omega) (by omega)), nI_clamp (by omega), zel25, zck_nI (by omega) (by omega), zck_of (zRl (by omega)), e1, zbd_s, nI_add, show nI i + (1 : Int32) = nI (i + 1) from nI_add i 1, pMe_s]
    exact ih (i + 1) N _ σ1 (by omega) (by omega) (zLt_t f f1)
theorem pMe_le (w : xW m cs D σ0 τ0 S0) {t : Nat} (ht : t < 4) : ∀ d i a, i + d = m → pMe cs D S0 t d i a ≤ a + 9999 * d
  | 0, _, _, _ => Nat.le_refl _
  | d + 1, i, a, h => by
    rw [pMe_s]
    have := pTk_le w.1 w.2.2.1 (show i < m by omega) ht
    have := pMe_le w ht d (i + 1) (a + pTk cs D S0.1 S0.2 i t) (by omega)
    omega
theorem me_Ml (w : xW m cs D σ0 τ0 S0) {t p : Nat} (ht : t < 4) (hp : p < 2) (hm1 : 1 ≤ m) : ∀ (d i N a : Nat) (τ : ZM), i + d = m → d < N → a ≤ 9999 * i → zFE τ0 τ → ∃ τ', F_Model_mean_34 N (nI t, nI p, nI a, nI i, τ) = some ((nI (if p = 0 then pMe cs D S0 t d i a else m) / nI (Nat.gcd (pMe cs D S0 t d i a) m)).toInt64, τ') ∧ zFE τ0 τ' := by
  have hm := w.1.1
  intro d
  induction d with
  | zero =>
    intro i N a τ hi hN ha f
    obtain ⟨N, rfl⟩ : ∃ M, N = M + 1 := ⟨N - 1, by omega⟩
    rw [mem_u]
    unfold f_Model_mean_34
    rw [zck_of (show zin 5 92 = true by decide), zck_of (show zin 5 92 = true by decide), show (5 : Int32).toNatClampNeg = 5 from rfl, xE_m w f, if_pos (nI_le (by omega) (by omega)), low_m (by omega) (by omega) p hp, zbd_s]
    exact ⟨τ, rfl, f⟩
  | succ d ih =>
    intro i N a τ hi hN ha f
    obtain ⟨N, rfl⟩ : ∃ M, N = M + 1 := ⟨N - 1, by omega⟩
    obtain ⟨τ1, e1, f1, -⟩ := tak_M (zSt_E w.1 f) w.2.2.1 (zMo_E w.2.2.2.2 f) (show i < m by omega) ht
    have hle := pTk_le w.1 w.2.2.1 (show i < m by omega) ht
    rw [mem_u]
    unfold f_Model_mean_34
    rw [zck_of (show zin 5 92 = true by decide), show (5 : Int32).toNatClampNeg = 5 from rfl, xE_m w f, if_neg (nI_ge (a := i) (b := m) (by omega) (by omega)), e1, zbd_s, nI_add, show nI i + (1 : Int32) = nI (i + 1) from nI_add i 1, pMe_s]
    exact ih (i + 1) N _ τ1 (by omega) (by omega) (by omega) (zFE_t f (zFE_H f1))
end
theorem op_odds {σ τ : ZM} (h : zRel σ τ) (x1 x2 : Int32) : zOK (f_BB_odds x1 x2 σ) (f_Model_odds x1 x2 τ) := by
  obtain ⟨m, n, cs, D, S, hs, w⟩ := zRel_W h
  obtain ⟨hm, m1, m2⟩ := zmany hs
  unfold f_BB_odds f_Model_odds f_BB_odds_28 f_Model_odds_27
  simp only [Bloaf_e (show m < 2 ^ 31 by omega) m1, Mloaf_e (show m < 2 ^ 31 by omega) m2, zbd_s, zif, isInM_e (M := 1) x2 1 rfl (by omega), zrng (M := 1) 1 rfl (by omega)]
  cases hz : zin x1 m with
  | false => exact zOK_s h
  | true =>
    obtain ⟨l, hl, hl2, rfl⟩ := zin_t hz
    rw [if_pos rfl, if_pos rfl, m1, zck_of (show zin 5 92 = true by decide), show (5 : Int32).toNatClampNeg = 5 from rfl, m2]
    by_cases q : m < 2
    · obtain rfl : m = 1 := by omega
      rw [if_pos (show nI 1 < (2 : Int32) by decide), if_pos (show nI 1 = (1 : Int32) from rfl)]
      split <;> exact zOK_s h
    · rw [if_neg (show ¬ nI m < (2 : Int32) from nI_nlt (b := 2) (by omega) (by omega)), if_neg (show ¬ nI m = (1 : Int32) from nI_ne (b := 1) (by omega) (by omega) (by omega))]
      cases hy : zin x2 (1 + 1) with
      | false => exact zOK_s h
      | true =>
        obtain ⟨p, hp, hp2, rfl⟩ := zin_t hy
        rw [if_pos rfl, if_pos rfl]
        obtain ⟨σ1, e1, f1⟩ := od_Cl w hl m 0 2000 0 σ (by omega) (by omega) (zFC_r 35 σ)
        obtain ⟨τ1, e2, f2⟩ := od_Ml w hl hp (by omega) m 0 2000 0 τ (by omega) (by omega) (by omega) (zFE_r τ)
        have hle := pOd_le cs D S l m 0 0
        have e3 : f_Asker_spoilers (nI l) σ = some (nI (pOd cs D S l m 0 0), σ1) := e1
        rw [e3, zbd_s, xC_m w f1, show nI m - (1 : Int32) = nI (m - 1) from nI_subE (b := 1) (by omega), low_b (by omega) (by omega) p hp, zbd_s]
        exact zOK_F h rfl e2 (zFK_35 f1) (zFN_E f2)
theorem op_mean {σ τ : ZM} (h : zRel σ τ) (x1 x2 : Int32) : zOK (f_BB_mean x1 x2 σ) (f_Model_mean x1 x2 τ) := by
  obtain ⟨m, n, cs, D, S, hs, w⟩ := zRel_W h
  obtain ⟨hm, m1, m2⟩ := zmany hs
  unfold f_BB_mean f_Model_mean f_BB_mean_26 f_Model_mean_25
  simp only [Btaste_e, Mtaste_e, zbd_s, zif, isInM_e (M := 1) x2 1 rfl (by omega), zrng (M := 1) 1 rfl (by omega)]
  cases hz : zin x1 4 with
  | false => exact zOK_s h
  | true =>
    obtain ⟨t, ht, ht2, rfl⟩ := zin_t hz
    rw [if_pos rfl, if_pos rfl, m1, zck_of (show zin 5 92 = true by decide), show (5 : Int32).toNatClampNeg = 5 from rfl, m2]
    by_cases q : m = 0
    · subst q
      rw [if_pos (show nI 0 = 0 from rfl), if_pos (show nI 0 = 0 from rfl)]
      split <;> exact zOK_s h
    · rw [if_neg (nI_ne0 (by omega) (by omega)), if_neg (nI_ne0 (by omega) (by omega))]
      cases hy : zin x2 (1 + 1) with
      | false => exact zOK_s h
      | true =>
        obtain ⟨p, hp, hp2, rfl⟩ := zin_t hy
        rw [if_pos rfl, if_pos rfl]
        obtain ⟨σ1, e1, f1⟩ := me_Cl w ht m 0 2000 0 σ (by omega) (by omega) (zLt_r σ)
        obtain ⟨τ1, e2, f2⟩ := me_Ml w ht hp (by omega) m 0 2000 0 τ (by omega) (by omega) (by omega) (zFE_r τ)
        have hle := pMe_le w ht m 0 0 (by omega)
        have e3 : f_Asker_takenByAll (nI t) σ = some (nI (pMe cs D S t m 0 0), σ1) := e1
        rw [e3, zbd_s, f1.1 _ _ (by omega), m1, low_b (by omega) (by omega) p hp, zbd_s]
        exact zOK_F h rfl e2 (zFK_L f1) (zFN_E f2)
