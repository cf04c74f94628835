/-! PURE: has -/
def pGa (cs : List ZCl) (D : ZD) (S : ZS) (g : Nat) : Int32 := if pAl cs D S (g + 1) 0 4 ≤ pAl cs D (pBk cs D g S) (g + 1) 0 4 then -nI (pFe cs D S (g + 1)) else nI (pFe cs D S g)
def pHa (G : Nat → Int32) (l : Nat) : Nat → Nat → Int32 → Int32
  | 0, _, v => v
  | d + 1, i, v => pHa G l d (i + 1) (v + (if l = i then G i else if l = i + 1 then -(G i) else 0))
theorem pHa_s (G : Nat → Int32) (l d i : Nat) (v : Int32) : pHa G l (d + 1) i v = pHa G l d (i + 1) (v + (if l = i then G i else if l = i + 1 then -(G i) else 0)) := rfl
theorem pHa_A (G : Nat → Int32) (l : Nat) : ∀ (d i : Nat) (v : Int32), l < i → pHa G l d i v = v
  | 0, _, _, _ => rfl
  | d + 1, i, v, h => by rw [pHa_s, if_neg (by omega), if_neg (by omega), pHa_A G l d (i + 1) _ (by omega), Int32.add_zero]
theorem pHa_B (G : Nat → Int32) (l : Nat) : ∀ (d i : Nat) (v : Int32), i < l → l ≤ i + d → pHa G l d i v = pHa G l (i + d - l) l (v + -(G (l - 1)))
  | 0, i, v, h, h2 => by omega
  | d + 1, i, v, h, h2 => by
    rw [pHa_s, if_neg (by omega)]
    by_cases q : l = i + 1
    · rw [if_pos q]
      subst q
      rw [show i + (d + 1) - (i + 1) = d by omega, Nat.add_sub_cancel]
    · rw [if_neg q, Int32.add_zero, pHa_B G l d (i + 1) v (by omega) (by omega), show i + 1 + d - l = i + (d + 1) - l by omega]
theorem ham_u (N : Nat) (a b c : Int32) (σ : ZM) : F_Model_has_15 (N + 1) (a, b, c, σ) = f_Model_has_15 (F_Model_has_15 N) a b c σ := rfl
section
variable {m : Nat} {cs : List ZCl} {D : ZD} {σ0 τ0 : ZM} {S0 : ZS}
theorem ga_C (w : xW m cs D σ0 τ0 S0) {g : Nat} (hg : g + 1 < m) {σ : ZM} (f : zFC 35 σ0 σ) : ∃ σ', f_Asker_gainOfFirst (nI g) σ = some (pGa cs D S0 g, σ') ∧ zFC 35 σ0 σ' := by
  have hm := w.1.1
  obtain ⟨σ1, e1, x1⟩ := xC_b w f
  obtain ⟨σ2, e2, x2⟩ := xC_k w x1 (show g < m by omega)
  obtain ⟨σ3, e3, x3⟩ := xC_a w x2 hg
  have c33 : ∀ {σ : ZM}, zFC 35 σ0 σ → zCo 33 σ S0 := fun {σ} f => ⟨fun t ht => by rw [f.1 _ _ (by omega) (by omega) (by omega)]; exact w.2.2.2.1.1 t ht, by rw [f.1 _ _ (by omega) (by omega) (by omega)]; exact w.2.2.2.1.2⟩
  obtain ⟨σ4, e4, f4⟩ := all_C (xC_st w x3.1) (X := 33) (by omega) w.2.2.1 (c33 x3.1) hg
  have f4' : zFC 35 σ0 σ4 := zFC_t x3.1 (zFC_L f4)
  have b1 := pAl_le w.1 w.2.2.1 hg
  have b2 := pAl_le w.1 (pBk_B cs D g S0) hg
  unfold f_Asker_gainOfFirst pGa
  rw [show nI g + (1 : Int32) = nI (g + 1) from nI_add g 1, zck_nI (by omega) (by omega), zck_nI (by omega) (by omega), nI_clamp (by omega), nI_clamp (by omega), zel25, zel25, zck_of (zRl (by omega)), zck_of (zRl (by omega)), e1, zbd_s, e2, zbd_s, e3, zbd_s, e4, zbd_s, (c33 f4').2]
  by_cases q : pAl cs D S0 (g + 1) 0 4 ≤ pAl cs D (pBk cs D g S0) (g + 1) 0 4
  · obtain ⟨σ5, e5, f5⟩ := fee_C (xC_st w f4') (X := 33) (by omega) w.2.2.1 (c33 f4') hg
    rw [if_pos q, if_pos (nI_le q (by omega)), e5, zbd_s]
    exact ⟨σ5, rfl, zFC_t f4' (zFC_L f5)⟩
  · obtain ⟨σ5, e5, f5⟩ := fee_C (xC_st w f4') (X := 33) (by omega) w.2.2.1 (c33 f4') (show g < m by omega)
    rw [if_neg q, if_neg (nI_ge (by omega) (by omega)), e5, zbd_s]
    exact ⟨σ5, rfl, zFC_t f4' (zFC_L f5)⟩
theorem ha_C (w : xW m cs D σ0 τ0 S0) {l : Nat} (hl : l < m) : ∃ σ', f_Asker_purse (nI l) σ0 = some (pHa (pGa cs D S0) l (m - 1) 0 0, σ') ∧ zFC 35 σ0 σ' := by
  have hm := w.1.1
  have step : ∀ (x : Int32) (σ : ZM), zFC 35 σ0 σ → ∃ σ', f_Asker_purse_23 (nI l) x σ = some (if l = 0 then x else x - pGa cs D S0 (l - 1), σ') ∧ zFC 35 σ0 σ' := by
    intro x σ f
    unfold f_Asker_purse_23
    by_cases q : l = 0
    · rw [q, if_pos (show nI 0 ≤ 0 from Int32.le_refl _), if_pos rfl]
      exact ⟨σ, rfl, f⟩
    · obtain ⟨σ1, e1, f1⟩ := ga_C w (g := l - 1) (by omega) f
      rw [if_neg (show ¬ nI l ≤ (0 : Int32) from nI_ge (a := 0) (by omega) (by omega)), if_neg q, show nI l - (1 : Int32) = nI (l - 1) from nI_subE (b := 1) (by omega), e1, zbd_s]
      exact ⟨σ1, rfl, f1⟩
  unfold f_Asker_purse
  rw [w.2.1, show nI l + (1 : Int32) = nI (l + 1) from nI_add l 1]
  by_cases q : m ≤ l + 1
  · rw [if_pos (nI_le q (by omega))]
    obtain ⟨σ1, e1, f1⟩ := step 0 σ0 (zFC_r 35 σ0)
    refine ⟨σ1, e1.trans ?_, f1⟩
    congr 1
    congr 1
    by_cases z : l = 0
    · subst z
      rw [if_pos rfl, show m - 1 = 0 by omega]; rfl
    · rw [if_neg z, pHa_B _ _ _ _ _ (by omega) (by omega), show 0 + (m - 1) - l = 0 by omega, Int32.sub_eq_add_neg]; rfl
  · rw [if_neg (nI_ge (by omega) (by omega))]
    obtain ⟨σ1, e1, f1⟩ := ga_C w (g := l) (by omega) (zFC_r 35 σ0)
    obtain ⟨σ2, e2, f2⟩ := step (0 + pGa cs D S0 l) σ1 f1
    rw [e1, zbd_s]
    refine ⟨σ2, e2.trans ?_, f2⟩
    congr 1
    congr 1
    obtain ⟨d, hd⟩ : ∃ d, m - 1 - l = d + 1 := ⟨m - 2 - l, by omega⟩
    by_cases z : l = 0
    · subst z
      rw [if_pos rfl, show m - 1 = d + 1 by omega, pHa_s, if_pos rfl, pHa_A _ _ _ _ _ (by omega)]
    · rw [if_neg z, pHa_B _ _ _ _ _ (by omega) (by omega), show 0 + (m - 1) - l = d + 1 by omega, pHa_s, if_pos rfl, pHa_A _ _ _ _ _ (by omega), Int32.sub_eq_add_neg, Int32.zero_add, Int32.zero_add, Int32.add_comm]
theorem ha_Ml (w : xW m cs D σ0 τ0 S0) {l : Nat} (hl : l < m) : ∀ (d i N : Nat) (τ : ZM) (v : Int32), i + 1 + d = m → d < N → zFE τ0 τ → ∃ τ', F_Model_has_15 N (nI l, v, nI i, τ) = some (pHa (pGa cs D S0) l d i v, τ') ∧ zFE τ0 τ' := by
  have hm := w.1.1
  intro d
  induction d with
  | zero =>
    intro i N τ v hi hN f
    obtain ⟨N, rfl⟩ : ∃ M, N = M + 1 := ⟨N - 1, by omega⟩
    rw [ham_u]
    unfold f_Model_has_15
    rw [zck_of (show zin 5 92 = true by decide), show (5 : Int32).toNatClampNeg = 5 from rfl, xE_m w f, show nI i + (1 : Int32) = nI (i + 1) from nI_add i 1, if_pos (nI_le (by omega) (by omega))]
    exact ⟨τ, rfl, f⟩
  | succ d ih =>
    intro i N τ v hi hN f
    obtain ⟨N, rfl⟩ : ∃ M, N = M + 1 := ⟨N - 1, by omega⟩
    obtain ⟨τ1, e1, x1⟩ := xM_b w f
    obtain ⟨τ2, e2, x2⟩ := xM_k w x1 (show i < m by omega)
    obtain ⟨τ3, e3, x3⟩ := xM_a w x2 (show i + 1 < m by omega)
    obtain ⟨τ4, e4, f4⟩ := xM_e x3
    obtain ⟨τ5, e5, f5⟩ := all_M (zSt_E w.1 f4) w.2.2.1 (zMo_E w.2.2.2.2 f4) (show i + 1 < m by omega)
    have f5' : zFE τ0 τ5 := zFE_t f4 (zFE_H f5)
    have b1 := pAl_le w.1 w.2.2.1 (show i + 1 < m by omega)
    have b2 := pAl_le w.1 (pBk_B cs D i S0) (show i + 1 < m by omega)
    have last : ∀ (y : Int32) (τ : ZM), zFE τ0 τ → ∃ τ', f_Model_has_73 (F_Model_has_15 N) (nI l) v (nI i) y τ = F_Model_has_15 N (nI l, v + (if l = i then y else if l = i + 1 then -y else 0), nI (i + 1), τ') ∧ zFE τ0 τ' := by
      intro y τ f
      unfold f_Model_has_73 f_Model_has_100
      rw [show nI i + (1 : Int32) = nI (i + 1) from nI_add i 1]
      by_cases q : l = i
      · rw [if_pos (by rw [q]), if_pos q]; exact ⟨τ, rfl, f⟩
      · rw [if_neg (show ¬ nI l = nI i from nI_ne q (by omega) (by omega)), if_neg q]
        by_cases z : l = i + 1
        · rw [if_pos (by rw [z]), if_pos z]; exact ⟨τ, rfl, f⟩
        · rw [if_neg (show ¬ nI l = nI (i + 1) from nI_ne z (by omega) (by omega)), if_neg z]; exact ⟨τ, rfl, f⟩
    have pays : ∃ τ', (if nI (pAl cs D S0 (i + 1) 0 4) ≤ nI (pAl cs D (pBk cs D i S0) (i + 1) 0 4) then f_Model_has_50 (F_Model_has_15 N) (nI l) v (nI i) 0 τ5 else f_Model_has_50 (F_Model_has_15 N) (nI l) v (nI i) 1 τ5) = F_Model_has_15 N (nI l, v + (if l = i then pGa cs D S0 i else if l = i + 1 then -(pGa cs D S0 i) else 0), nI (i + 1), τ') ∧ zFE τ0 τ' := by
      unfold f_Model_has_50 pGa
      rw [show nI i + (1 : Int32) = nI (i + 1) from nI_add i 1]
      by_cases q : pAl cs D S0 (i + 1) 0 4 ≤ pAl cs D (pBk cs D i S0) (i + 1) 0 4
      · obtain ⟨τ6, e6, f6⟩ := fee_M (zSt_E w.1 f5') w.2.2.1 (zMo_E w.2.2.2.2 f5') (show i + 1 < m by omega)
        rw [if_pos q, if_pos (nI_le q (by omega)), if_pos rfl, e6, zbd_s]
        exact last _ τ6 (zFE_t f5' (zFE_H f6))
      · obtain ⟨τ6, e6, f6⟩ := fee_M (zSt_E w.1 f5') w.2.2.1 (zMo_E w.2.2.2.2 f5') (show i < m by omega)
        rw [if_neg q, if_neg (nI_ge (by omega) (by omega)), if_neg (by decide), e6, zbd_s]
        exact last _ τ6 (zFE_t f5' (zFE_H f6))
    obtain ⟨τ7, e7, f7⟩ := pays
    obtain ⟨τ8, e8, f8⟩ := ih (i + 1) N τ7 _ (by omega) (by omega) f7
    refine ⟨τ8, ?_, f8⟩
    rw [ham_u]
    unfold f_Model_has_15 f_Model_takesBehind
    rw [zck_of (show zin 5 92 = true by decide), show (5 : Int32).toNatClampNeg = 5 from rfl, xE_m w f, show nI i + (1 : Int32) = nI (i + 1) from nI_add i 1, if_neg (nI_ge (by omega) (by omega)), e1, zbd_s, e2, zbd_s, e3, zbd_s, e4, zbd_s, zbd_s, e5, zbd_s, e7, pHa_s]
    exact e8
end
theorem op_has {σ τ : ZM} (h : zRel σ τ) (x1 : Int32) : zOK (f_BB_has x1 σ) (f_Model_has x1 τ) := by
  obtain ⟨m, n, cs, D, S, hs, w⟩ := zRel_W h
  obtain ⟨hm, m1, m2⟩ := zmany hs
  unfold f_BB_has f_Model_has
  simp only [Bloaf_e (show m < 2 ^ 31 by omega) m1, Mloaf_e (show m < 2 ^ 31 by omega) m2, zbd_s, zif]
  cases hz : zin x1 m with
  | false => exact zOK_s h
  | true =>
    obtain ⟨l, hl, hl2, rfl⟩ := zin_t hz
    obtain ⟨σ1, e1, f1⟩ := ha_C w hl
    obtain ⟨τ1, e2, f2⟩ := ha_Ml w hl (m - 1) 0 2000 τ 0 (by omega) (by omega) (zFE_r τ)
    rw [if_pos rfl, if_pos rfl, e1, zbd_s]
    exact zOK_F h rfl e2 (zFK_35 f1) (zFN_E f2)
