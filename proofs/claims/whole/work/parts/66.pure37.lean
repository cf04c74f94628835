/-! PURE: guilty, place -/
def pGo (cs : List ZCl) (D : ZD) (q : Nat → Bool) : Nat → Nat → ZS → ZS
  | 0, _, S => S
  | d + 1, k, S => pGo cs D q d (k + 1) (if q k = true then pBk cs D k S else S)
theorem pGo_s (cs : List ZCl) (D : ZD) (q : Nat → Bool) (d k : Nat) (S : ZS) : pGo cs D q (d + 1) k S = pGo cs D q d (k + 1) (if q k = true then pBk cs D k S else S) := rfl
theorem swc_u (N : Nat) (a b c : Int32) (σ : ZM) : F_Asker_spoilsWithout_16 (N + 1) (a, b, c, σ) = f_Asker_spoilsWithout_16 (F_Asker_spoilsWithout_16 N) a b c σ := rfl
theorem swm_u (N : Nat) (a b c : Int32) (σ : ZM) : F_Model_isSpoiledBehind_6 (N + 1) (a, b, c, σ) = f_Model_isSpoiledBehind_6 (F_Model_isSpoiledBehind_6 N) a b c σ := rfl
def pNe (x : Int32) (k : Nat) : Bool := decide (¬ nI k = x)
def pSw (cs : List ZCl) (D : ZD) (x : Int32) (l d k : Nat) (S : ZS) : Bool := pSp cs D (pGo cs D (pNe x) d k S).1 (pGo cs D (pNe x) d k S).2 l 0 4
section
variable {m : Nat} {cs : List ZCl} {D : ZD} {σ0 τ0 : ZM} {S0 : ZS}
theorem sw_Cl (w : xW m cs D σ0 τ0 S0) {l : Nat} (hl : l < m) (x : Int32) : ∀ (d k N : Nat) (σ : ZM) (S : ZS), k + d = l → d < N → xC σ0 σ S → ∃ σ', F_Asker_spoilsWithout_16 N (nI l, x, nI k, σ) = some (zbI (pSw cs D x l d k S), σ') ∧ zFC 35 σ0 σ' := by
  have hm := w.1.1
  intro d
  induction d with
  | zero =>
    intro k N σ S hk hN c
    obtain ⟨N, rfl⟩ : ∃ M, N = M + 1 := ⟨N - 1, by omega⟩
    obtain rfl : k = l := by omega
    obtain ⟨σ1, e1, c1⟩ := xC_s w c hl
    rw [swc_u]
    unfold f_Asker_spoilsWithout_16
    rw [if_pos (nI_le (Nat.le_refl _) (by omega)), nI_clamp (by omega), zel25, zck_nI (by omega) (by omega), zck_of (zRl (by omega)), e1, zbd_s, zbl_bI, zck_t]
    exact ⟨σ1, rfl, c1.1⟩
  | succ d ih =>
    intro k N σ S hk hN c
    obtain ⟨N, rfl⟩ : ∃ M, N = M + 1 := ⟨N - 1, by omega⟩
    rw [swc_u]
    unfold f_Asker_spoilsWithout_16 f_Asker_spoilsWithout_47
    rw [if_neg (nI_ge (a := k) (b := l) (by omega) (by omega)), show nI k + (1 : Int32) = nI (k + 1) from nI_add k 1]
    unfold pSw
    rw [pGo_s]
    by_cases q : nI k = x
    · rw [if_pos q, if_neg (show ¬ pNe x k = true by simp [pNe, q])]
      exact ih (k + 1) N σ S (by omega) (by omega) c
    · obtain ⟨σ1, e1, c1⟩ := xC_k w c (show k < m by omega)
      rw [if_neg q, if_pos (show pNe x k = true by simp [pNe, q]), nI_clamp (by omega), zel25, zck_nI (by omega) (by omega), zck_of (zRl (by omega)), e1, zbd_s]
      exact ih (k + 1) N σ1 _ (by omega) (by omega) c1
theorem sw_C (w : xW m cs D σ0 τ0 S0) {l : Nat} (hl : l < m) (x : Int32) {σ : ZM} (f : zFC 35 σ0 σ) : ∃ σ', f_Asker_spoilsWithout (nI l) x σ = some (zbI (pSw cs D x l l 0 S0), σ') ∧ zFC 35 σ0 σ' := by
  have hm := w.1.1
  obtain ⟨σ1, e1, c1⟩ := xC_b w f
  obtain ⟨σ2, e2, c2⟩ := sw_Cl w hl x l 0 2000 σ1 S0 (by omega) (by omega) c1
  refine ⟨σ2, ?_, c2⟩
  unfold f_Asker_spoilsWithout
  rw [e1, zbd_s]; exact e2
theorem sw_Ml (w : xW m cs D σ0 τ0 S0) {l : Nat} (hl : l < m) (x : Int32) : ∀ (d k N : Nat) (τ : ZM) (S : ZS), k + d = l → d < N → xM τ0 τ S → ∃ τ', F_Model_isSpoiledBehind_6 N (nI l, x, nI k, τ) = some (zbI (pSw cs D x l d k S), τ') ∧ zFE τ0 τ' := by
  have hm := w.1.1
  intro d
  induction d with
  | zero =>
    intro k N τ S hk hN c
    obtain ⟨N, rfl⟩ : ∃ M, N = M + 1 := ⟨N - 1, by omega⟩
    obtain rfl : k = l := by omega
    obtain ⟨τ1, e1, c1⟩ := xM_s w c hl
    obtain ⟨τ2, e2, c2⟩ := xM_e c1
    rw [swm_u]
    unfold f_Model_isSpoiledBehind_6
    rw [if_pos (nI_le (Nat.le_refl _) (by omega)), e1, zbd_s, e2, zbd_s, zbl_bI, zck_t]
    exact ⟨τ2, rfl, c2⟩
  | succ d ih =>
    intro k N τ S hk hN c
    obtain ⟨N, rfl⟩ : ∃ M, N = M + 1 := ⟨N - 1, by omega⟩
    rw [swm_u]
    unfold f_Model_isSpoiledBehind_6 f_Model_isSpoiledBehind_28 f_Model_isSpoiledBehind_29
    rw [if_neg (nI_ge (a := k) (b := l) (by omega) (by omega)), show nI k + (1 : Int32) = nI (k + 1) from nI_add k 1]
    unfold pSw
    rw [pGo_s]
    by_cases q : nI k = x
    · rw [if_pos q, if_neg (show ¬ pNe x k = true by simp [pNe, q])]
      exact ih (k + 1) N τ S (by omega) (by omega) c
    · obtain ⟨τ1, e1, c1⟩ := xM_k w c (show k < m by omega)
      rw [if_neg q, if_pos (show pNe x k = true by simp [pNe, q]), e1, zbd_s]
      have r := ih (k + 1) N τ1 _ (by omega) (by omega) c1
      cases pSp cs D S.1 S.2 k 0 4 <;> exact r
theorem sw_M (w : xW m cs D σ0 τ0 S0) {l : Nat} (hl : l < m) (x : Int32) {τ : ZM} (f : zFE τ0 τ) : ∃ τ', f_Model_isSpoiledBehind (nI l) x τ = some (zbI (pSw cs D x l l 0 S0), τ') ∧ zFE τ0 τ' := by
  have hm := w.1.1
  obtain ⟨τ1, e1, c1⟩ := xM_b w f
  obtain ⟨τ2, e2, c2⟩ := sw_Ml w hl x l 0 2000 τ1 S0 (by omega) (by omega) c1
  refine ⟨τ2, ?_, c2⟩
  unfold f_Model_isSpoiledBehind
  rw [e1, zbd_s]; exact e2
def pGl (B : Nat → Bool) : Nat → Nat → Int32 → Int32
  | 0, _, g => g
  | d + 1, k, g => pGl B d (k + 1) (if B k = true then g else g ||| ((1 : Int32) <<< (nI k &&& 31)))
theorem pGl_s (B : Nat → Bool) (d k : Nat) (g : Int32) : pGl B (d + 1) k g = pGl B d (k + 1) (if B k = true then g else g ||| ((1 : Int32) <<< (nI k &&& 31))) := rfl
theorem gic_u (N : Nat) (a b c : Int32) (σ : ZM) : F_Asker_guiltyOf_15 (N + 1) (a, b, c, σ) = f_Asker_guiltyOf_15 (F_Asker_guiltyOf_15 N) a b c σ := rfl
theorem gim_u (N : Nat) (a b c : Int32) (σ : ZM) : F_Model_guilty_25 (N + 1) (a, b, c, σ) = f_Model_guilty_25 (F_Model_guilty_25 N) a b c σ := rfl
theorem gi_Cl (w : xW m cs D σ0 τ0 S0) {l : Nat} (hl : l < m) : ∀ (d k N : Nat) (σ : ZM) (g : Int32), k + d = l → d < N → zFC 35 σ0 σ → ∃ σ', F_Asker_guiltyOf_15 N (nI l, g, nI k, σ) = some (pGl (fun k => pSw cs D (nI k) l l 0 S0) d k g, σ') ∧ zFC 35 σ0 σ' := by
  have hm := w.1.1
  intro d
  induction d with
  | zero =>
    intro k N σ g hk hN c
    obtain ⟨N, rfl⟩ : ∃ M, N = M + 1 := ⟨N - 1, by omega⟩
    obtain rfl : k = l := by omega
    rw [gic_u]
    unfold f_Asker_guiltyOf_15
    rw [if_pos (nI_le (Nat.le_refl _) (by omega))]
    exact ⟨σ, rfl, c⟩
  | succ d ih =>
    intro k N σ g hk hN c
    obtain ⟨N, rfl⟩ : ∃ M, N = M + 1 := ⟨N - 1, by omega⟩
    obtain ⟨σ1, e1, c1⟩ := sw_C w hl (nI k) c
    rw [gic_u]
    unfold f_Asker_guiltyOf_15 f_Asker_guiltyOf_35
    rw [if_neg (nI_ge (a := k) (b := l) (by omega) (by omega)), e1, zbd_s, zif, pGl_s, show nI k + (1 : Int32) = nI (k + 1) from nI_add k 1]
    cases pSw cs D (nI k) l l 0 S0 with
    | false =>
      rw [if_neg (by decide), if_neg (by decide)]
      exact ih (k + 1) N σ1 _ (by omega) (by omega) c1
    | true =>
      rw [if_pos rfl, if_pos rfl]
      exact ih (k + 1) N σ1 _ (by omega) (by omega) c1
theorem gi_Ml (w : xW m cs D σ0 τ0 S0) {l : Nat} (hl : l < m) : ∀ (d k N : Nat) (τ : ZM) (g : Int32), k + d = l → d < N → zFE τ0 τ → ∃ τ', F_Model_guilty_25 N (nI l, g, nI k, τ) = some (pGl (fun k => pSw cs D (nI k) l l 0 S0) d k g, τ') ∧ zFE τ0 τ' := by
  have hm := w.1.1
  intro d
  induction d with
  | zero =>
    intro k N τ g hk hN c
    obtain ⟨N, rfl⟩ : ∃ M, N = M + 1 := ⟨N - 1, by omega⟩
    obtain rfl : k = l := by omega
    rw [gim_u]
    unfold f_Model_guilty_25
    rw [if_pos (nI_le (Nat.le_refl _) (by omega))]
    exact ⟨τ, rfl, c⟩
  | succ d ih =>
    intro k N τ g hk hN c
    obtain ⟨N, rfl⟩ : ∃ M, N = M + 1 := ⟨N - 1, by omega⟩
    obtain ⟨τ1, e1, c1⟩ := sw_M w hl (nI k) c
    rw [gim_u]
    unfold f_Model_guilty_25 f_Model_guilty_47
    rw [if_neg (nI_ge (a := k) (b := l) (by omega) (by omega)), e1, zbd_s, zif, pGl_s, show nI k + (1 : Int32) = nI (k + 1) from nI_add k 1]
    cases pSw cs D (nI k) l l 0 S0 with
    | false =>
      rw [if_neg (by decide), if_neg (by decide)]
      exact ih (k + 1) N τ1 _ (by omega) (by omega) c1
    | true =>
      rw [if_pos rfl, if_pos rfl, Int32.or_zero]
      exact ih (k + 1) N τ1 _ (by omega) (by omega) c1
end
theorem op_guilty {σ τ : ZM} (h : zRel σ τ) (x1 : Int32) : zOK (f_BB_guilty x1 σ) (f_Model_guilty x1 τ) := by
  obtain ⟨m, n, cs, D, S, hs, w⟩ := zRel_W h
  obtain ⟨hm, m1, m2⟩ := zmany hs
  unfold f_BB_guilty f_Model_guilty
  simp only [Bloaf_e (show m < 2 ^ 31 by omega) m1, Mloaf_e (show m < 2 ^ 31 by omega) m2, zbd_s, zif]
  cases hz : zin x1 m with
  | false => exact zOK_s h
  | true =>
    obtain ⟨l, hl, hl2, rfl⟩ := zin_t hz
    obtain ⟨σ1, e1, f1⟩ := sw_C w hl (-1) (zFC_r 35 σ)
    obtain ⟨τ1, e2, f2⟩ := sw_M w hl (-1) (zFE_r τ)
    unfold f_Asker_guiltyOf
    rw [if_pos rfl, if_pos rfl, e1, e2, zbd_s, zbd_s, zif, zif]
    cases pSw cs D (-1) l l 0 S with
    | false => exact zOK_F h rfl rfl (zFK_35 f1) (zFN_E f2)
    | true =>
      obtain ⟨σ2, e3, f3⟩ := gi_Cl w hl l 0 2000 σ1 0 (by omega) (by omega) f1
      obtain ⟨τ2, e4, f4⟩ := gi_Ml w hl l 0 2000 τ1 0 (by omega) (by omega) f2
      rw [if_pos rfl, if_pos rfl]
      exact zOK_F h (by rw [show (0 : Int32) = nI 0 from rfl] at *; rw [e3, zbd_s]) e4 (zFK_35 f3) (zFN_E f4)
