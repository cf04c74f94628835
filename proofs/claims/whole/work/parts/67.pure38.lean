/-! PURE: place -/
def pOt (cs : List ZCl) (D : ZD) (l : Nat) (S : ZS) : Nat → ZS
  | 0 => S
  | c + 1 => pBk cs D (if c < l then c else c + 1) (pOt cs D l S c)
def pVo (cs : List ZCl) (D : ZD) (l : Nat) (S : ZS) (c : Nat) : Nat := pAl cs D (pOt cs D l S c) l 0 4
def pPl (v : Nat → Nat) : Nat → Nat × Nat
  | 0 => (v 0, 0)
  | c + 1 => if (pPl v c).1 ≤ v (c + 1) then pPl v c else (v (c + 1), c + 1)
theorem pOt_s (cs : List ZCl) (D : ZD) (l : Nat) (S : ZS) (c : Nat) : pOt cs D l S (c + 1) = pBk cs D (if c < l then c else c + 1) (pOt cs D l S c) := rfl
theorem pPl_s (v : Nat → Nat) (c : Nat) : pPl v (c + 1) = if (pPl v c).1 ≤ v (c + 1) then pPl v c else (v (c + 1), c + 1) := rfl
theorem pPl_le (v : Nat → Nat) (B : Nat) (hv : ∀ c, v c ≤ B) : ∀ c, (pPl v c).1 ≤ B ∧ (pPl v c).2 ≤ c
  | 0 => ⟨hv 0, Nat.le_refl _⟩
  | c + 1 => by
    have := pPl_le v B hv c
    rw [pPl_s]
    split
    · exact ⟨this.1, by omega⟩
    · exact ⟨hv _, Nat.le_refl _⟩
theorem plc_u (N : Nat) (a b c d e g : Int32) (σ : ZM) : F_Asker_bestPlace_44 (N + 1) (a, b, c, d, e, g, σ) = f_Asker_bestPlace_44 (F_Asker_bestPlace_44 N) a b c d e g σ := rfl
theorem plm_u (N : Nat) (a b c d e : Int32) (σ : ZM) : F_Model_place_32 (N + 1) (a, b, c, d, e, σ) = f_Model_place_32 (F_Model_place_32 N) a b c d e σ := rfl
theorem pat_u (N : Nat) (a b c d : Int32) (σ : ZM) : F_Model_takesAt_9 (N + 1) (a, b, c, d, σ) = f_Model_takesAt_9 (F_Model_takesAt_9 N) a b c d σ := rfl
section
variable {m : Nat} {cs : List ZCl} {D : ZD} {σ0 τ0 : ZM} {S0 : ZS}
theorem pOt_B (hS : zSB S0) (l : Nat) : ∀ c, zSB (pOt cs D l S0 c)
  | 0 => hS
  | c + 1 => pBk_B cs D _ _
theorem pVo_le (w : xW m cs D σ0 τ0 S0) {l : Nat} (hl : l < m) (c : Nat) : pVo cs D l S0 c ≤ 39996 := pAl_le w.1 (pOt_B w.2.2.1 l c) hl
theorem pl_Cl (w : xW m cs D σ0 τ0 S0) {l : Nat} (hl : l < m) (a : Bool) : ∀ (d i c N : Nat) (σ : ZM), i + d = m → d < N → c = (if i ≤ l then i else i - 1) → xC σ0 σ (pOt cs D l S0 c) →
    ∃ σ', F_Asker_bestPlace_44 N (nI l, zbI a, nI (pPl (pVo cs D l S0) c).1, nI (pPl (pVo cs D l S0) c).2, nI c, nI i, σ) = some (if a = true then nI (pPl (pVo cs D l S0) (m - 1)).1 else nI (pPl (pVo cs D l S0) (m - 1)).2, σ') ∧ zFC 35 σ0 σ' := by
  have hm := w.1.1
  intro d
  induction d with
  | zero =>
    intro i c N σ hi hN hc x
    obtain ⟨N, rfl⟩ : ∃ M, N = M + 1 := ⟨N - 1, by omega⟩
    obtain rfl : i = m := by omega
    rw [if_neg (by omega)] at hc
    subst hc
    rw [plc_u]
    unfold f_Asker_bestPlace_44
    rw [xC_m w x.1, if_pos (nI_le (Nat.le_refl _) (by omega)), zif]
    cases a with
    | false => exact ⟨σ, rfl, x.1⟩
    | true => exact ⟨σ, rfl, x.1⟩
  | succ d ih =>
    intro i c N σ hi hN hc x
    obtain ⟨N, rfl⟩ : ∃ M, N = M + 1 := ⟨N - 1, by omega⟩
    rw [plc_u]
    unfold f_Asker_bestPlace_44 f_Asker_bestPlace_122
    rw [xC_m w x.1, if_neg (nI_ge (a := i) (b := m) (by omega) (by omega)), show nI i + (1 : Int32) = nI (i + 1) from nI_add i 1]
    by_cases q : i = l
    · subst q
      rw [if_pos rfl]
      exact ih (i + 1) c N σ (by omega) (by omega) (by rw [if_pos (Nat.le_refl _)] at hc; rw [if_neg (by omega)]; omega) x
    · have hc2 : (if c < l then c else c + 1) = i := by
        by_cases z : i ≤ l
        · rw [if_pos z] at hc
          rw [if_pos (by omega)]; omega
        · rw [if_neg z] at hc
          rw [if_neg (by omega)]; omega
      obtain ⟨σ1, e1, x1⟩ := xC_k w x (show i < m by omega)
      have es : pOt cs D l S0 (c + 1) = pBk cs D i (pOt cs D l S0 c) := by rw [pOt_s, hc2]
      rw [← es] at x1
      obtain ⟨σ2, e2, x2⟩ := xC_a w x1 hl
      have hr := ih (i + 1) (c + 1) N σ2 (by omega) (by omega) (by
        by_cases z : i ≤ l
        · rw [if_pos z] at hc
          rw [if_pos (by omega)]; omega
        · rw [if_neg z] at hc
          rw [if_neg (by omega)]; omega) x2
      have b1 := (pPl_le (pVo cs D l S0) 39996 (pVo_le w hl) c).1
      have b2 := pVo_le w hl (c + 1)
      rw [if_neg (show ¬ nI i = nI l from nI_ne q (by omega) (by omega)), nI_clamp (by omega), zel25, zck_nI (by omega) (by omega), zck_of (zRl (by omega)), e1, zbd_s, nI_clamp (by omega), zel25, zck_nI (by omega) (by omega), zck_of (zRl (by omega)), e2, zbd_s, show nI c + (1 : Int32) = nI (c + 1) from nI_add c 1]
      have ev : pAl cs D (pOt cs D l S0 (c + 1)) l 0 4 = pVo cs D l S0 (c + 1) := rfl
      rw [ev]
      rw [pPl_s] at hr
      by_cases z : (pPl (pVo cs D l S0) c).1 ≤ pVo cs D l S0 (c + 1)
      · rw [if_pos z] at hr
        rw [if_pos (nI_le z (by omega))]; exact hr
      · rw [if_neg z] at hr
        rw [if_neg (nI_ge (by omega) (by omega))]; exact hr
theorem pa_Ml (w : xW m cs D σ0 τ0 S0) {l k : Nat} (hl : l < m) (hk : k < m) : ∀ (d o n N : Nat) (τ : ZM), o + d = m → d < N → n = (if o ≤ l then o else o - 1) → n ≤ k → xM τ0 τ (pOt cs D l S0 n) →
    ∃ τ', F_Model_takesAt_9 N (nI l, nI k, nI n, nI o, τ) = some (nI (pVo cs D l S0 k), τ') ∧ zFE τ0 τ' := by
  have hm := w.1.1
  have fin : ∀ (τ : ZM), xM τ0 τ (pOt cs D l S0 k) → ∃ τ', f_Model_takesAt_51 (nI l) τ = some (nI (pVo cs D l S0 k), τ') ∧ zFE τ0 τ' := by
    intro τ x
    obtain ⟨τ1, e1, x1⟩ := xM_a w x hl
    obtain ⟨τ2, e2, x2⟩ := xM_e x1
    unfold f_Model_takesAt_51
    rw [e1, zbd_s, e2, zbd_s]
    exact ⟨τ2, rfl, x2⟩
  intro d
  induction d with
  | zero =>
    intro o n N τ ho hN hn hnk x
    obtain ⟨N, rfl⟩ : ∃ M, N = M + 1 := ⟨N - 1, by omega⟩
    obtain rfl : o = m := by omega
    rw [if_neg (by omega)] at hn
    obtain rfl : n = k := by omega
    rw [pat_u]
    unfold f_Model_takesAt_9
    rw [zck_of (show zin 5 92 = true by decide), show (5 : Int32).toNatClampNeg = 5 from rfl, xM_m w x.1, if_pos (nI_le (Nat.le_refl _) (by omega))]
    exact fin τ x
  | succ d ih =>
    intro o n N τ ho hN hn hnk x
    obtain ⟨N, rfl⟩ : ∃ M, N = M + 1 := ⟨N - 1, by omega⟩
    rw [pat_u]
    unfold f_Model_takesAt_9 f_Model_takesAt_45
    rw [zck_of (show zin 5 92 = true by decide), show (5 : Int32).toNatClampNeg = 5 from rfl, xM_m w x.1, if_neg (nI_ge (a := o) (b := m) (by omega) (by omega)), show nI o + (1 : Int32) = nI (o + 1) from nI_add o 1]
    by_cases z : k ≤ n
    · obtain rfl : n = k := by omega
      rw [if_pos (nI_le (Nat.le_refl _) (by omega))]
      exact fin τ x
    · rw [if_neg (nI_ge (a := n) (b := k) (by omega) (by omega))]
      by_cases q : o = l
      · subst q
        rw [if_pos rfl]
        exact ih (o + 1) n N τ (by omega) (by omega) (by rw [if_pos (Nat.le_refl _)] at hn; rw [if_neg (by omega)]; omega) hnk x
      · have hc2 : (if n < l then n else n + 1) = o := by
          by_cases z : o ≤ l
          · rw [if_pos z] at hn
            rw [if_pos (by omega)]; omega
          · rw [if_neg z] at hn
            rw [if_neg (by omega)]; omega
        obtain ⟨τ1, e1, x1⟩ := xM_k w x (show o < m by omega)
        have es : pOt cs D l S0 (n + 1) = pBk cs D o (pOt cs D l S0 n) := by rw [pOt_s, hc2]
        rw [← es] at x1
        rw [if_neg (show ¬ nI o = nI l from nI_ne q (by omega) (by omega)), e1, zbd_s, show nI n + (1 : Int32) = nI (n + 1) from nI_add n 1]
        exact ih (o + 1) (n + 1) N τ1 (by omega) (by omega) (by
          by_cases z : o ≤ l
          · rw [if_pos z] at hn
            rw [if_pos (by omega)]; omega
          · rw [if_neg z] at hn
            rw [if_neg (by omega)]; omega) (by omega) x1
theorem pa_M (w : xW m cs D σ0 τ0 S0) {l k : Nat} (hl : l < m) (hk : k < m) {τ : ZM} (f : zFE τ0 τ) : ∃ τ', f_Model_takesAt (nI l) (nI k) τ = some (nI (pVo cs D l S0 k), τ') ∧ zFE τ0 τ' := by
  have hm := w.1.1
  obtain ⟨τ1, e1, x1⟩ := xM_b w f
  obtain ⟨τ2, e2, x2⟩ := pa_Ml w hl hk m 0 0 2000 τ1 (by omega) (by omega) (by rw [if_pos (Nat.zero_le _)]) (Nat.zero_le _) x1
  refine ⟨τ2, ?_, x2⟩
  unfold f_Model_takesAt
  rw [e1, zbd_s]; exact e2
theorem pl_Ml (w : xW m cs D σ0 τ0 S0) {l : Nat} (hl : l < m) (a : Bool) : ∀ (d k N : Nat) (τ : ZM), k + 1 + d = m → d < N → zFE τ0 τ →
    ∃ τ', F_Model_place_32 N (nI l, zbI a, nI (pPl (pVo cs D l S0) k).2, nI (pPl (pVo cs D l S0) k).1, nI (k + 1), τ) = some (if a = true then nI (pPl (pVo cs D l S0) (m - 1)).1 else nI (pPl (pVo cs D l S0) (m - 1)).2, τ') ∧ zFE τ0 τ' := by
  have hm := w.1.1
  intro d
  induction d with
  | zero =>
    intro k N τ hk hN f
    obtain ⟨N, rfl⟩ : ∃ M, N = M + 1 := ⟨N - 1, by omega⟩
    obtain rfl : k = m - 1 := by omega
    rw [plm_u]
    unfold f_Model_place_32
    rw [zck_of (show zin 5 92 = true by decide), show (5 : Int32).toNatClampNeg = 5 from rfl, xE_m w f, if_pos (nI_le (by omega) (by omega)), zif]
    cases a with
    | false => exact ⟨τ, rfl, f⟩
    | true => exact ⟨τ, rfl, f⟩
  | succ d ih =>
    intro k N τ hk hN f
    obtain ⟨N, rfl⟩ : ∃ M, N = M + 1 := ⟨N - 1, by omega⟩
    obtain ⟨τ1, e1, f1⟩ := pa_M w hl (show k + 1 < m by omega) f
    have hr := ih (k + 1) N τ1 (by omega) (by omega) f1
    have b1 := (pPl_le (pVo cs D l S0) 39996 (pVo_le w hl) k).1
    have b2 := pVo_le w hl (k + 1)
    rw [plm_u]
    unfold f_Model_place_32 f_Model_place_69
    rw [zck_of (show zin 5 92 = true by decide), show (5 : Int32).toNatClampNeg = 5 from rfl, xE_m w f, if_neg (nI_ge (a := k + 1) (b := m) (by omega) (by omega)), e1, zbd_s, show nI (k + 1) + (1 : Int32) = nI (k + 1 + 1) from nI_add (k + 1) 1]
    rw [pPl_s] at hr
    by_cases z : (pPl (pVo cs D l S0) k).1 ≤ pVo cs D l S0 (k + 1)
    · rw [if_pos z] at hr
      rw [if_neg (nI_nlt z (by omega))]; exact hr
    · rw [if_neg z] at hr
      rw [if_pos (nI_lt (by omega) (by omega))]; exact hr
end
theorem op_place {σ τ : ZM} (h : zRel σ τ) (x1 x2 : Int32) : zOK (f_BB_place x1 x2 σ) (f_Model_place x1 x2 τ) := by
  obtain ⟨m, n, cs, D, S, hs, w⟩ := zRel_W h
  obtain ⟨hm, m1, m2⟩ := zmany hs
  unfold f_BB_place f_Model_place
  simp only [Bloaf_e (show m < 2 ^ 31 by omega) m1, Mloaf_e (show m < 2 ^ 31 by omega) m2, zbd_s, zif, isInM_e (M := 1) x2 1 rfl (by omega), zrng (M := 1) 1 rfl (by omega)]
  cases hz : zin x1 m with
  | false => exact zOK_s h
  | true =>
    obtain ⟨l, hl, hl2, rfl⟩ := zin_t hz
    rw [if_pos rfl, if_pos rfl]
    cases hy : zin x2 (1 + 1) with
    | false => exact zOK_s h
    | true =>
      obtain ⟨p, hp, hp2, rfl⟩ := zin_t hy
      rw [if_pos rfl, if_pos rfl]
      have main : ∀ a : Bool, zOK (f_BB_place_34 (zbI a) (nI l) σ) (zbd (f_Model_takesAt (nI l) 0 τ) fun v9 s10 => F_Model_place_32 2000 (nI l, zbI a, 0, v9, 1, s10)) := by
        intro a
        obtain ⟨σ1, e1, x1⟩ := xC_b w (zFC_r 35 σ)
        obtain ⟨σ2, e2, x2⟩ := xC_a w x1 hl
        obtain ⟨σ3, e3, x3⟩ := pl_Cl w hl a m 0 0 2000 σ2 (by omega) (by omega) (by rw [if_pos (Nat.zero_le _)]) x2
        obtain ⟨τ1, e4, x4⟩ := pa_M w hl (show 0 < m by omega) (zFE_r τ)
        obtain ⟨τ2, e5, x5⟩ := pl_Ml w hl a (m - 1) 0 2000 τ1 (by omega) (by omega) x4
        unfold f_BB_place_34 f_Asker_bestPlace
        rw [e1, zbd_s, nI_clamp (by omega), zel25, zck_nI (by omega) (by omega), zck_of (zRl (by omega)), e2, zbd_s, show (0 : Int32) = nI 0 from rfl, e4, zbd_s]
        refine zOK_F h ?_ e5 (zFK_35 x3) (zFN_E x5)
        rw [show (pAl cs D S l 0 4) = (pPl (pVo cs D l S) 0).1 from rfl, show nI 0 = nI (pPl (pVo cs D l S) 0).2 from rfl] at *
        exact (congrArg (fun q => zbd q fun v1 s2 => some (v1, s2)) e3).trans rfl
      have : p = 0 ∨ p = 1 := by omega
      rcases this with rfl | rfl
      · rw [if_neg (show ¬ nI 0 = (1 : Int32) by decide)]; exact main false
      · rw [if_pos (show nI 1 = (1 : Int32) from rfl)]; exact main true
