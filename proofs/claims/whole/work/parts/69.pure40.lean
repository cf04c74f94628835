/-! PURE: swaps -/
def pRw (cs : List ZCl) (D : ZD) (π : Nat → Nat) (x : Nat) : Nat → Nat → Nat → ZS → Nat
  | 0, _, v, _ => v
  | d + 1, k, v, S => pRw cs D π x d (k + 1) (if π k = x then pAl cs D S x 0 4 else v) (pBk cs D (π k) S)
def pTt : Nat → Bool := fun _ => true
theorem pRw_s (cs : List ZCl) (D : ZD) (π : Nat → Nat) (x d k v : Nat) (S : ZS) : pRw cs D π x (d + 1) k v S = pRw cs D π x d (k + 1) (if π k = x then pAl cs D S x 0 4 else v) (pBk cs D (π k) S) := rfl
theorem pRw_1 (cs : List ZCl) (D : ZD) (π : Nat → Nat) (x : Nat) : ∀ (d k v : Nat) (S : ZS), (∀ j, k ≤ j → j < k + d → π j ≠ x) → pRw cs D π x d k v S = v
  | 0, _, _, _, _ => rfl
  | d + 1, k, v, S, h => by rw [pRw_s, if_neg (h k (by omega) (by omega)), pRw_1 cs D π x d (k + 1) v _ (fun j h1 h2 => h j (by omega) (by omega))]
theorem pRw_2 (cs : List ZCl) (D : ZD) (π : Nat → Nat) (x d : Nat) : ∀ (e k v : Nat) (S : ZS), (∀ j, k ≤ j → j < k + e → π j = j ∧ π j ≠ x) → pRw cs D π x (e + d) k v S = pRw cs D π x d (k + e) v (pGo cs D pTt e k S)
  | 0, k, v, S, _ => by rw [Nat.zero_add]; rfl
  | e + 1, k, v, S, h => by
    obtain ⟨h1, h2⟩ := h k (by omega) (by omega)
    rw [show e + 1 + d = e + d + 1 by omega, pRw_s, if_neg h2, h1, pRw_2 cs D π x d e (k + 1) v _ (fun j h1 h2 => h j (by omega) (by omega)), pGo_s, show k + 1 + e = k + (e + 1) by omega]
    rfl
theorem trm_u (N : Nat) (a b c d : Int32) (σ : ZM) : F_Model_takesInRow_9 (N + 1) (a, b, c, d, σ) = f_Model_takesInRow_9 (F_Model_takesInRow_9 N) a b c d σ := rfl
theorem bac_u (N : Nat) (a b : Int32) (σ : ZM) : F_Asker_bakeAhead_16 (N + 1) (a, b, σ) = f_Asker_bakeAhead_16 (F_Asker_bakeAhead_16 N) a b σ := rfl
/-- two changed, or none -/
def pPi (l : Option Nat) (k : Nat) : Nat := match l with
  | none => k
  | some l => if k = l then k + 1 else if k = l + 1 then k - 1 else k
def pXi (l : Option Nat) : Int32 := match l with
  | none => -5
  | some l => nI l
section
variable {m : Nat} {cs : List ZCl} {D : ZD} {σ0 τ0 : ZM} {S0 : ZS}
theorem pRw_B (w : xW m cs D σ0 τ0 S0) (π : Nat → Nat) {x : Nat} (hx : x < m) : ∀ (d k v : Nat) (S : ZS), zSB S → v ≤ 39996 → pRw cs D π x d k v S ≤ 39996
  | 0, _, v, _, _, h => h
  | d + 1, k, v, S, hS, h => by
    rw [pRw_s]
    refine pRw_B w π hx d _ _ _ (pBk_B cs D _ S) ?_
    split
    · exact pAl_le w.1 hS hx
    · exact h
theorem tr_Ml (w : xW m cs D σ0 τ0 S0) {x : Nat} (hx : x < m) (l : Option Nat) (hl : ∀ j, l = some j → j + 1 < m) : ∀ (d k N v : Nat) (τ : ZM) (S : ZS), k + d = m → d < N → xM τ0 τ S → ∃ τ', F_Model_takesInRow_9 N (nI x, pXi l, nI v, nI k, τ) = some (nI (pRw cs D (pPi l) x d k v S), τ') ∧ zFE τ0 τ' := by
  have hm := w.1.1
  intro d
  induction d with
  | zero =>
    intro k N v τ S hk hN c
    obtain ⟨N, rfl⟩ : ∃ M, N = M + 1 := ⟨N - 1, by omega⟩
    obtain rfl : k = m := by omega
    obtain ⟨τ1, e1, f1⟩ := xM_e c
    rw [trm_u]
    unfold f_Model_takesInRow_9
    rw [zck_of (show zin 5 92 = true by decide), show (5 : Int32).toNatClampNeg = 5 from rfl, xM_m w c.1, if_pos (nI_le (Nat.le_refl _) (by omega)), e1, zbd_s]
    exact ⟨τ1, rfl, f1⟩
  | succ d ih =>
    intro k N v τ S hk hN c
    obtain ⟨N, rfl⟩ : ∃ M, N = M + 1 := ⟨N - 1, by omega⟩
    have pm : pPi l k < m := by
      unfold pPi
      cases l with
      | none => show k < m; omega
      | some j =>
        have := hl j rfl
        show (if k = j then k + 1 else if k = j + 1 then k - 1 else k) < m
        split
        · omega
        · split <;> omega
    have last : ∃ τ', f_Model_takesInRow_54 (F_Model_takesInRow_9 N) (nI x) (pXi l) (nI v) (nI k) (nI (pPi l k)) τ = F_Model_takesInRow_9 N (nI x, pXi l, nI (if pPi l k = x then pAl cs D S x 0 4 else v), nI (k + 1), τ') ∧ xM τ0 τ' (pBk cs D (pPi l k) S) := by
      unfold f_Model_takesInRow_54 f_Model_takesInRow_71
      rw [show nI k + (1 : Int32) = nI (k + 1) from nI_add k 1]
      by_cases q : pPi l k = x
      · obtain ⟨τ1, e1, x1⟩ := xM_a w c hx
        obtain ⟨τ2, e2, x2⟩ := xM_k w x1 pm
        rw [if_pos (by rw [q]), if_pos q, e1, zbd_s, e2, zbd_s]
        exact ⟨τ2, rfl, x2⟩
      · obtain ⟨τ2, e2, x2⟩ := xM_k w c pm
        rw [if_neg (show ¬ nI (pPi l k) = nI x from nI_ne q (by omega) (by omega)), if_neg q, e2, zbd_s]
        exact ⟨τ2, rfl, x2⟩
    obtain ⟨τ1, e1, x1⟩ := last
    obtain ⟨τ2, e2, x2⟩ := ih (k + 1) N (if pPi l k = x then pAl cs D S x 0 4 else v) τ1 _ (by omega) (by omega) x1
    refine ⟨τ2, ?_, x2⟩
    rw [trm_u]
    unfold f_Model_takesInRow_9 f_Model_takesInRow_52
    rw [zck_of (show zin 5 92 = true by decide), show (5 : Int32).toNatClampNeg = 5 from rfl, xM_m w c.1, if_neg (nI_ge (a := k) (b := m) (by omega) (by omega)), pRw_s, ← e2, ← e1]
    cases l with
    | none =>
      show (if nI k = (-5 : Int32) then _ else if nI k = (-5 : Int32) + 1 then _ else _) = _
      rw [if_neg (show ¬ nI k = (-5 : Int32) from fun q => absurd (show nI k < 0 by rw [q]; decide) (nI_pos (by omega))), if_neg (show ¬ nI k = (-5 : Int32) + 1 from fun q => absurd (show nI k < 0 by rw [q]; decide) (nI_pos (by omega)))]
      rfl
    | some j =>
      have hj := hl j rfl
      show (if nI k = nI j then _ else if nI k = nI j + 1 then (if nI j < 0 then _ else _) else _) = f_Model_takesInRow_54 (F_Model_takesInRow_9 N) (nI x) (nI j) (nI v) (nI k) (nI (if k = j then k + 1 else if k = j + 1 then k - 1 else k)) τ
      rw [show nI j + (1 : Int32) = nI (j + 1) from nI_add j 1]
      by_cases q : k = j
      · rw [if_pos (by rw [q]), if_pos q, show nI k + (1 : Int32) = nI (k + 1) from nI_add k 1]
        rfl
      · rw [if_neg (show ¬ nI k = nI j from nI_ne q (by omega) (by omega)), if_neg q]
        by_cases z : k = j + 1
        · rw [if_pos (by rw [z]), if_pos z, if_neg (nI_pos (by omega)), show nI k - (1 : Int32) = nI (k - 1) from nI_subE (b := 1) (by omega)]
          rfl
        · rw [if_neg (show ¬ nI k = nI (j + 1) from nI_ne z (by omega) (by omega)), if_neg z]
          rfl
theorem tr_M (w : xW m cs D σ0 τ0 S0) {x : Nat} (hx : x < m) (l : Option Nat) (hl : ∀ j, l = some j → j + 1 < m) {τ : ZM} (f : zFE τ0 τ) : ∃ τ', f_Model_takesInRow (nI x) (pXi l) τ = some (nI (pRw cs D (pPi l) x m 0 0 S0), τ') ∧ zFE τ0 τ' := by
  have hm := w.1.1
  obtain ⟨τ1, e1, x1⟩ := xM_b w f
  obtain ⟨τ2, e2, x2⟩ := tr_Ml w hx l hl m 0 2000 0 τ1 S0 (by omega) (by omega) x1
  refine ⟨τ2, ?_, x2⟩
  unfold f_Model_takesInRow
  rw [e1, zbd_s]; exact e2
theorem ba_Cl (w : xW m cs D σ0 τ0 S0) {l : Nat} (hl : l < m) : ∀ (d k N : Nat) (σ : ZM) (S : ZS), k + d = l → d < N → xC σ0 σ S → ∃ σ', F_Asker_bakeAhead_16 N (nI l, nI k, σ) = some ((), σ') ∧ xC σ0 σ' (pGo cs D pTt d k S) := by
  have hm := w.1.1
  intro d
  induction d with
  | zero =>
    intro k N σ S hk hN c
    obtain ⟨N, rfl⟩ : ∃ M, N = M + 1 := ⟨N - 1, by omega⟩
    rw [bac_u]
    unfold f_Asker_bakeAhead_16
    rw [if_pos (nI_le (by omega) (by omega))]
    exact ⟨σ, rfl, c⟩
  | succ d ih =>
    intro k N σ S hk hN c
    obtain ⟨N, rfl⟩ : ∃ M, N = M + 1 := ⟨N - 1, by omega⟩
    obtain ⟨σ1, e1, c1⟩ := xC_k w c (show k < m by omega)
    rw [bac_u]
    unfold f_Asker_bakeAhead_16
    rw [if_neg (nI_ge (a := k) (b := l) (by omega) (by omega)), nI_clamp (by omega), zel25, zck_nI (by omega) (by omega), zck_of (zRl (by omega)), e1, zbd_s, show nI k + (1 : Int32) = nI (k + 1) from nI_add k 1]
    exact ih (k + 1) N σ1 _ (by omega) (by omega) c1
theorem ba_C (w : xW m cs D σ0 τ0 S0) {l : Nat} (hl : l < m) {σ : ZM} (f : zFC 35 σ0 σ) : ∃ σ', f_Asker_bakeAhead (nI l) σ = some ((), σ') ∧ xC σ0 σ' (pGo cs D pTt l 0 S0) := by
  have hm := w.1.1
  obtain ⟨σ1, e1, c1⟩ := xC_b w f
  obtain ⟨σ2, e2, c2⟩ := ba_Cl w hl l 0 2000 σ1 S0 (by omega) (by omega) c1
  refine ⟨σ2, ?_, c2⟩
  unfold f_Asker_bakeAhead
  rw [e1, zbd_s]; exact e2
end
/-- the four, told by the row -/
theorem pRw_4 (cs : List ZCl) (D : ZD) (S : ZS) {l m : Nat} (h : l + 1 < m) :
    pRw cs D (pPi none) l m 0 0 S = pAl cs D (pGo cs D pTt l 0 S) l 0 4 ∧ pRw cs D (pPi none) (l + 1) m 0 0 S = pAl cs D (pBk cs D l (pGo cs D pTt l 0 S)) (l + 1) 0 4 ∧
    pRw cs D (pPi (some l)) l m 0 0 S = pAl cs D (pBk cs D (l + 1) (pGo cs D pTt l 0 S)) l 0 4 ∧ pRw cs D (pPi (some l)) (l + 1) m 0 0 S = pAl cs D (pGo cs D pTt l 0 S) (l + 1) 0 4 := by
  obtain ⟨d, rfl⟩ : ∃ d, m = l + (d + 2) := ⟨m - l - 2, by omega⟩
  have n0 : ∀ k, pPi none k = k := fun _ => rfl
  have s0 : ∀ k, pPi (some l) k = if k = l then k + 1 else if k = l + 1 then k - 1 else k := fun _ => rfl
  have s1 : pPi (some l) l = l + 1 := by rw [s0, if_pos rfl]
  have s2 : pPi (some l) (l + 1) = l := by rw [s0, if_neg (by omega), if_pos rfl, Nat.add_sub_cancel]
  refine ⟨?_, ?_, ?_, ?_⟩
  · rw [pRw_2 cs D _ _ _ l 0 0 S (fun j h1 h2 => by rw [n0]; exact ⟨rfl, by omega⟩), Nat.zero_add, pRw_s, n0, if_pos rfl, pRw_1 _ _ _ _ _ _ _ _ (fun j h1 h2 => by rw [n0]; omega)]
  · rw [pRw_2 cs D _ _ _ l 0 0 S (fun j h1 h2 => by rw [n0]; exact ⟨rfl, by omega⟩), Nat.zero_add, pRw_s, n0, if_neg (by omega), pRw_s, n0, if_pos rfl, pRw_1 _ _ _ _ _ _ _ _ (fun j h1 h2 => by rw [n0]; omega)]
  · rw [pRw_2 cs D _ _ _ l 0 0 S (fun j h1 h2 => by rw [s0, if_neg (by omega), if_neg (by omega)]; exact ⟨rfl, by omega⟩), Nat.zero_add, pRw_s, s1, if_neg (by omega), pRw_s, s2, if_pos rfl, pRw_1 _ _ _ _ _ _ _ _ (fun j h1 h2 => by rw [s0, if_neg (by omega), if_neg (by omega)]; omega)]
  · rw [pRw_2 cs D _ _ _ l 0 0 S (fun j h1 h2 => by rw [s0, if_neg (by omega), if_neg (by omega)]; exact ⟨rfl, by omega⟩), Nat.zero_add, pRw_s, s1, if_pos rfl, pRw_s, s2, if_neg (by omega), pRw_1 _ _ _ _ _ _ _ _ (fun j h1 h2 => by rw [s0, if_neg (by omega), if_neg (by omega)]; omega)]
theorem op_swaps {σ τ : ZM} (h : zRel σ τ) (x1 : Int32) : zOK (f_BB_swaps x1 σ) (f_Model_swaps x1 τ) := by
  obtain ⟨m, n, cs, D, S, hs, w⟩ := zRel_W h
  obtain ⟨hm, m1, m2⟩ := zmany hs
  unfold f_BB_swaps f_Model_swaps
  simp only [Bloaf_e (show m < 2 ^ 31 by omega) m1, Mloaf_e (show m < 2 ^ 31 by omega) m2, zbd_s, zif]
  cases hz : zin x1 m with
  | false => exact zOK_s h
  | true =>
    obtain ⟨l, hl, hl2, rfl⟩ := zin_t hz
    rw [if_pos rfl, if_pos rfl, show nI l + (1 : Int32) = nI (l + 1) from nI_add l 1, zin_nI (by omega)]
    by_cases hl1 : l + 1 < m
    · rw [decide_eq_true hl1, if_pos rfl, if_pos rfl]
      obtain ⟨r1, r2, r3, r4⟩ := pRw_4 cs D S hl1
      obtain ⟨τ1, e1, f1⟩ := tr_M w hl none (fun j q => by cases q) (zFE_r τ)
      obtain ⟨τ2, e2, f2⟩ := tr_M w hl1 none (fun j q => by cases q) f1
      obtain ⟨τ3, e3, f3⟩ := tr_M w hl (some l) (fun j q => by cases q; exact hl1) f2
      obtain ⟨τ4, e4, f4⟩ := tr_M w hl1 (some l) (fun j q => by cases q; exact hl1) f3
      obtain ⟨σ1, a1, c1⟩ := ba_C w hl (zFC_r 35 σ)
      obtain ⟨σ2, a2, c2⟩ := xC_a w c1 hl
      obtain ⟨σ3, a3, c3⟩ := xC_k w c2 hl
      obtain ⟨σ4, a4, c4⟩ := xC_a w c3 hl1
      obtain ⟨σ5, a5, c5⟩ := ba_C w hl c4.1
      obtain ⟨σ6, a6, c6⟩ := xC_a w c5 hl1
      obtain ⟨σ7, a7, c7⟩ := xC_k w c6 hl1
      obtain ⟨σ8, a8, c8⟩ := xC_a w c7 hl
      have B1 := pRw_B w (pPi none) hl m 0 0 S w.2.2.1 (by omega)
      have B2 := pRw_B w (pPi none) hl1 m 0 0 S w.2.2.1 (by omega)
      have B3 := pRw_B w (pPi (some l)) hl m 0 0 S w.2.2.1 (by omega)
      have B4 := pRw_B w (pPi (some l)) hl1 m 0 0 S w.2.2.1 (by omega)
      unfold f_Asker_bothAgree
      rw [show (-5 : Int32) = pXi none from rfl, e1, zbd_s, e2, zbd_s, show f_Model_takesInRow (nI l) (nI l) τ2 = _ from e3, zbd_s, show f_Model_takesInRow (nI (l + 1)) (nI l) τ3 = _ from e4, zbd_s, zck_nI (by omega) (by omega), show nI l + (1 : Int32) = nI (l + 1) from nI_add l 1, zck_nI (by omega) (by omega), nI_clamp (by omega), nI_clamp (by omega), zel25, zel25, zck_of (zRl (by omega)), zck_of (zRl (by omega)), a1, zbd_s, a2, zbd_s, a3, zbd_s, a4, zbd_s, a5, zbd_s, a6, zbd_s, a7, zbd_s, a8, zbd_s, ← r1, ← r2, ← r3, ← r4]
      generalize pRw cs D (pPi none) l m 0 0 S = v1 at *
      generalize pRw cs D (pPi none) (l + 1) m 0 0 S = v2 at *
      generalize pRw cs D (pPi (some l)) l m 0 0 S = v3 at *
      generalize pRw cs D (pPi (some l)) (l + 1) m 0 0 S = v4 at *
      rw [nI_add, nI_add]
      by_cases q1 : v1 < v3
      · rw [if_pos (nI_lt q1 (by omega)), if_pos (nI_lt q1 (by omega))]
        exact zOK_F h rfl rfl (zFK_35 c8.1) (zFN_E f4)
      · rw [if_neg (show ¬ nI v1 < nI v3 from nI_nlt (by omega) (by omega)), if_neg (show ¬ nI v1 < nI v3 from nI_nlt (by omega) (by omega))]
        by_cases q2 : v2 < v4
        · rw [if_pos (nI_lt q2 (by omega)), if_pos (nI_lt q2 (by omega))]
          exact zOK_F h rfl rfl (zFK_35 c8.1) (zFN_E f4)
        · rw [if_neg (show ¬ nI v2 < nI v4 from nI_nlt (by omega) (by omega)), if_neg (show ¬ nI v2 < nI v4 from nI_nlt (by omega) (by omega))]
          by_cases q3 : v3 < v1
          · rw [if_pos (nI_lt q3 (by omega)), if_neg (show ¬ nI (v1 + v2) ≤ nI (v3 + v4) from nI_ge (by omega) (by omega))]
            exact zOK_F h rfl rfl (zFK_35 c8.1) (zFN_E f4)
          · rw [if_neg (show ¬ nI v3 < nI v1 from nI_nlt (by omega) (by omega))]
            by_cases q4 : v2 ≤ v4
            · rw [if_pos (nI_le q4 (by omega)), if_pos (show nI (v1 + v2) ≤ nI (v3 + v4) from nI_le (by omega) (by omega))]
              exact zOK_F h rfl rfl (zFK_35 c8.1) (zFN_E f4)
            · rw [if_neg (show ¬ nI v2 ≤ nI v4 from nI_ge (by omega) (by omega)), if_neg (show ¬ nI (v1 + v2) ≤ nI (v3 + v4) from nI_ge (by omega) (by omega))]
              exact zOK_F h rfl rfl (zFK_35 c8.1) (zFN_E f4)
    · rw [decide_eq_false hl1, if_neg (by decide), if_neg (by decide)]
      exact zOK_s h
