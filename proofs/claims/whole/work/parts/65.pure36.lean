/-! PURE: trials; would, guilty, place -/
/-- how all is, before a trial -/
def xW (m : Nat) (cs : List ZCl) (D : ZD) (σ τ : ZM) (S : ZS) : Prop := zSt m cs D σ τ ∧ zI σ 1 3 = nI m ∧ zSB S ∧ zCo 33 σ S ∧ zMo τ S
def xC (σ0 σ : ZM) (S : ZS) : Prop := zFC 35 σ0 σ ∧ zCo 35 σ S ∧ zSB S
def xM (τ0 τ : ZM) (S : ZS) : Prop := zIn τ0 τ ∧ zMo τ S ∧ zSB S
theorem zRel_W {σ τ : ZM} (h : zRel σ τ) : ∃ m n cs D S, zRs m n σ τ ∧ xW m cs D σ τ S := by
  obtain ⟨m, n, cs, D, S, hs, st, hS, hc, hr⟩ := zRel_St h
  exact ⟨m, n, cs, D, S, hs, st, (zmany hs).2.1, hS, hc, hr⟩
section
variable {m : Nat} {cs : List ZCl} {D : ZD} {σ0 τ0 : ZM} {S0 : ZS}
theorem xC_st (w : xW m cs D σ0 τ0 S0) {σ : ZM} (f : zFC 35 σ0 σ) : zSt m cs D σ τ0 := zSt_C w.1 (by omega) f
theorem xM_st (w : xW m cs D σ0 τ0 S0) {τ : ZM} (f : zIn τ0 τ) : zSt m cs D σ0 τ := zSt_I w.1 f
theorem xC_m (w : xW m cs D σ0 τ0 S0) {σ : ZM} (f : zFC 35 σ0 σ) : zI σ 1 3 = nI m := (f.1 _ _ (by omega) (by omega) (by omega)).trans w.2.1
theorem xM_m (w : xW m cs D σ0 τ0 S0) {τ : ZM} (f : zIn τ0 τ) : zI τ 130 5 = nI m := (f.1 _ _ (by omega) (by omega) (by omega) (by omega)).trans w.1.2.1
theorem xE_m (w : xW m cs D σ0 τ0 S0) {τ : ZM} (f : zFE τ0 τ) : zI τ 130 5 = nI m := (f.1 _ _ (by omega) (by omega) (by omega)).trans w.1.2.1
theorem xC_b (w : xW m cs D σ0 τ0 S0) {σ : ZM} (f : zFC 35 σ0 σ) : ∃ σ', f_Oven_become 35 33 σ = some ((), σ') ∧ xC σ0 σ' S0 := by
  obtain ⟨σ', a, b, c⟩ := become_C (X := 35) (Y := 33) (S := S0) (σ := σ) (by omega) (by omega) (by omega) ⟨fun t ht => by rw [f.1 _ _ (by omega) (by omega) (by omega)]; exact w.2.2.2.1.1 t ht, by rw [f.1 _ _ (by omega) (by omega) (by omega)]; exact w.2.2.2.1.2⟩
  exact ⟨σ', a, zFC_t f b, c, w.2.2.1⟩
theorem xC_k (w : xW m cs D σ0 τ0 S0) {σ : ZM} {S : ZS} {i : Nat} (c : xC σ0 σ S) (hi : i < m) : ∃ σ', f_Baker_bakeIn 35 (51 + i) σ = some (zbI (pSp cs D S.1 S.2 i 0 4), σ') ∧ xC σ0 σ' (pBk cs D i S) := by
  obtain ⟨σ', a, b, d⟩ := bake_C (xC_st w c.1) (X := 35) (by omega) c.2.2 c.2.1 hi
  exact ⟨σ', a, zFC_t c.1 b, d, pBk_B cs D i S⟩
theorem xC_c (w : xW m cs D σ0 τ0 S0) {σ : ZM} {S : ZS} (c : xC σ0 σ S) : ∃ σ', f_Baker_chill 35 σ = some ((), σ') ∧ xC σ0 σ' (pCl cs S) := by
  obtain ⟨σ', a, b, d⟩ := chill_C (xC_st w c.1) (X := 35) (by omega) c.2.2 c.2.1
  exact ⟨σ', a, zFC_t c.1 b, d, pCl_B cs S⟩
theorem xC_L {σ σ' : ZM} {S : ZS} (c : xC σ0 σ S) (f : zLt σ σ') : xC σ0 σ' S := ⟨zFC_t c.1 (zFC_L f), zLt_Co (by omega) f c.2.1, c.2.2⟩
theorem xC_a (w : xW m cs D σ0 τ0 S0) {σ : ZM} {S : ZS} {i : Nat} (c : xC σ0 σ S) (hi : i < m) : ∃ σ', f_Baker_takesOfAll (51 + i) 35 σ = some (nI (pAl cs D S i 0 4), σ') ∧ xC σ0 σ' S := by
  obtain ⟨σ', a, b⟩ := all_C (xC_st w c.1) (X := 35) (by omega) c.2.2 c.2.1 hi
  exact ⟨σ', a, xC_L c b⟩
theorem xC_t (w : xW m cs D σ0 τ0 S0) {σ : ZM} {S : ZS} {i t : Nat} (c : xC σ0 σ S) (hi : i < m) (ht : t < 4) : ∃ σ', f_Baker_takes (51 + i) (nI t) 35 σ = some (nI (pTk cs D S.1 S.2 i t), σ') ∧ xC σ0 σ' S := by
  obtain ⟨σ', a, b⟩ := tak_C (xC_st w c.1) (X := 35) (by omega) c.2.2 c.2.1 hi ht
  exact ⟨σ', a, xC_L c b⟩
theorem xC_s (w : xW m cs D σ0 τ0 S0) {σ : ZM} {S : ZS} {i : Nat} (c : xC σ0 σ S) (hi : i < m) : ∃ σ', f_Baker_spoils (51 + i) 35 σ = some (zbI (pSp cs D S.1 S.2 i 0 4), σ') ∧ xC σ0 σ' S := by
  obtain ⟨σ', a, b⟩ := spo_C (xC_st w c.1) (X := 35) (by omega) c.2.2 c.2.1 hi
  exact ⟨σ', a, xC_L c b⟩
theorem zIn_F {a b c : ZM} (f : zFE a b) (g : zIn b c) : zIn a c := ⟨fun o k n1 n2 n3 n4 => (g.1 o k n1 n2 n3 n4).trans (f.1 o k n1 n2 n3), fun k hk => (g.2.1 k hk).trans (f.1 _ _ (by omega) (by omega) (by omega)), fun o k => (g.2.2.1 o k).trans (f.2.1 o k), fun o k => (g.2.2.2 o k).trans (f.2.2 o k)⟩
theorem xM_b (w : xW m cs D σ0 τ0 S0) {τ : ZM} (f : zFE τ0 τ) : ∃ τ', f_Model_begins τ = some ((), τ') ∧ xM τ0 τ' S0 := by
  obtain ⟨τ', a, b, c⟩ := begin_M (zMo_E w.2.2.2.2 f)
  exact ⟨τ', a, zIn_F f b, c, w.2.2.1⟩
theorem xM_k (w : xW m cs D σ0 τ0 S0) {τ : ZM} {S : ZS} {i : Nat} (c : xM τ0 τ S) (hi : i < m) : ∃ τ', f_Model_bakes (nI i) τ = some (zbI (pSp cs D S.1 S.2 i 0 4), τ') ∧ xM τ0 τ' (pBk cs D i S) := by
  obtain ⟨τ', a, b, d⟩ := bake_M (xM_st w c.1) c.2.2 c.2.1 hi
  exact ⟨τ', a, zIn_M c.1 b, d, pBk_B cs D i S⟩
theorem xM_c (w : xW m cs D σ0 τ0 S0) {τ : ZM} {S : ZS} (c : xM τ0 τ S) : ∃ τ', f_Model_cools τ = some ((), τ') ∧ xM τ0 τ' (pCl cs S) := by
  obtain ⟨τ', a, b, d⟩ := cool_M (xM_st w c.1) c.2.2 c.2.1
  exact ⟨τ', a, zIn_M c.1 b, d, pCl_B cs S⟩
theorem xM_H {τ τ' : ZM} {S : ZS} (c : xM τ0 τ S) (f : zMH τ τ') : xM τ0 τ' S := ⟨zIn_H c.1 f, zMH_Mo f c.2.1, c.2.2⟩
theorem xM_a (w : xW m cs D σ0 τ0 S0) {τ : ZM} {S : ZS} {i : Nat} (c : xM τ0 τ S) (hi : i < m) : ∃ τ', f_Model_allTakes (nI i) τ = some (nI (pAl cs D S i 0 4), τ') ∧ xM τ0 τ' S := by
  obtain ⟨τ', a, b⟩ := all_M (xM_st w c.1) c.2.2 c.2.1 hi
  exact ⟨τ', a, xM_H c b⟩
theorem xM_t (w : xW m cs D σ0 τ0 S0) {τ : ZM} {S : ZS} {i t : Nat} (c : xM τ0 τ S) (hi : i < m) (ht : t < 4) : ∃ τ', f_Model_takesOf (nI i) (nI t) τ = some (nI (pTk cs D S.1 S.2 i t), τ') ∧ xM τ0 τ' S := by
  obtain ⟨τ', a, b, -⟩ := tak_M (xM_st w c.1) c.2.2 c.2.1 hi ht
  exact ⟨τ', a, xM_H c b⟩
theorem xM_s (w : xW m cs D σ0 τ0 S0) {τ : ZM} {S : ZS} {i : Nat} (c : xM τ0 τ S) (hi : i < m) : ∃ τ', f_Model_isSpoiled (nI i) τ = some (zbI (pSp cs D S.1 S.2 i 0 4), τ') ∧ xM τ0 τ' S := by
  obtain ⟨τ', a, b⟩ := spo_M (xM_st w c.1) c.2.2 c.2.1 hi
  exact ⟨τ', a, xM_H c b⟩
theorem xM_e {τ : ZM} {S : ZS} (c : xM τ0 τ S) : ∃ τ', f_Model_ends τ = some ((), τ') ∧ zFE τ0 τ' := end_M c.1
theorem zFK_35 {a b : ZM} (h : zFC 35 a b) : zFK a b := zFK_C (by omega) h
/-! would -/
def pWo (cs : List ZCl) (D : ZD) (S : ZS) (l : Nat) (t : Nat) : Int32 := if t < 4 then nI (pTk cs D S.1 S.2 l t) else zbI (pSp cs D S.1 S.2 l 0 4)
theorem beh_C (w : xW m cs D σ0 τ0 S0) {σ : ZM} {S : ZS} {l t : Nat} (c : xC σ0 σ S) (hl : l < m) (ht : t < 5) : ∃ σ', f_Asker_behind_39 (nI l) (nI t) σ = some (pWo cs D S l t, σ') ∧ xC σ0 σ' S := by
  have hm := w.1.1
  unfold f_Asker_behind_39 pWo
  rw [nI_clamp (by omega), zel25, zck_nI (by omega) (by omega), zck_nI (by omega) (by omega), zck_of (zRl (by omega)), zck_of (zRl (by omega))]
  by_cases q : t < 4
  · obtain ⟨σ', e, f⟩ := xC_t w c hl q
    rw [if_neg (show ¬ (4 : Int32) ≤ nI t from nI_ge (b := 4) q (by omega)), if_pos q, e, zbd_s]
    exact ⟨_, rfl, f⟩
  · obtain ⟨σ', e, f⟩ := xC_s w c hl
    rw [if_pos (show (4 : Int32) ≤ nI t from nI_le (a := 4) (by omega) (by omega)), if_neg q, e, zbd_s, flag_e, zbd_s]
    exact ⟨_, rfl, f⟩
theorem beh_M (w : xW m cs D σ0 τ0 S0) {τ : ZM} {S : ZS} {l t : Nat} (y : Int32) (c : xM τ0 τ S) (hl : l < m) (ht : t < 5) : ∃ τ', f_Model_would_61 (nI l) (nI t) y τ = some (pWo cs D S l t, τ') ∧ zFE τ0 τ' := by
  have hm := w.1.1
  unfold f_Model_would_61 f_Model_would_90 pWo
  by_cases q : t < 4
  · obtain ⟨τ1, e, f⟩ := xM_t w c hl q
    obtain ⟨τ2, e2, f2⟩ := xM_e f
    rw [if_neg (show ¬ (4 : Int32) ≤ nI t from nI_ge (b := 4) q (by omega)), if_pos q, e, zbd_s, e2, zbd_s]
    exact ⟨_, rfl, f2⟩
  · obtain ⟨τ1, e, f⟩ := xM_s w c hl
    obtain ⟨τ2, e2, f2⟩ := xM_e f
    rw [if_pos (show (4 : Int32) ≤ nI t from nI_le (a := 4) (by omega) (by omega)), if_neg q, e, zbd_s, e2, zbd_s]
    refine ⟨τ2, ?_, f2⟩
    cases pSp cs D S.1 S.2 l 0 4 <;> rfl
/-- behind another, or none -/
def pBo (cs : List ZCl) (D : ZD) (S : ZS) (x : Int32) : ZS := if x < 0 then S else pBk cs D x.toNatClampNeg S
theorem behind_C (w : xW m cs D σ0 τ0 S0) {σ : ZM} {l t : Nat} {x : Int32} (f : zFC 35 σ0 σ) (hl : l < m) (ht : t < 5) (hx : x < 0 ∨ ∃ j, j < m ∧ x = nI j) : ∃ σ', f_Asker_behind (nI l) x (nI t) σ = some (pWo cs D (pBo cs D S0 x) l t, σ') ∧ zFC 35 σ0 σ' := by
  have hm := w.1.1
  obtain ⟨σ1, e1, c1⟩ := xC_b w f
  unfold f_Asker_behind pBo
  rw [e1, zbd_s]
  rcases hx with hx | ⟨j, hj, rfl⟩
  · rw [if_pos hx, if_pos hx]
    obtain ⟨σ2, e2, c2⟩ := beh_C w c1 hl ht
    exact ⟨σ2, e2, c2.1⟩
  · obtain ⟨σ2, e2, c2⟩ := xC_k w c1 hj
    obtain ⟨σ3, e3, c3⟩ := beh_C w c2 hl ht
    rw [if_neg (nI_pos (by omega)), if_neg (nI_pos (by omega)), nI_clamp (by omega), zel25, zck_nI (by omega) (by omega), zck_of (zRl (by omega)), e2, zbd_s]
    exact ⟨σ3, e3, c3.1⟩
end
theorem op_would {σ τ : ZM} (h : zRel σ τ) (x1 x2 x3 : Int32) : zOK (f_BB_would x1 x2 x3 σ) (f_Model_would x1 x2 x3 τ) := by
  obtain ⟨m, n, cs, D, S, hs, w⟩ := zRel_W h
  obtain ⟨hm, m1, m2⟩ := zmany hs
  unfold f_BB_would f_Model_would
  simp only [Bloaf_e (show m < 2 ^ 31 by omega) m1, Mloaf_e (show m < 2 ^ 31 by omega) m2, zbd_s, zif]
  cases hz : zin x1 m with
  | false => exact zOK_s h
  | true =>
    obtain ⟨l, hl, hl2, rfl⟩ := zin_t hz
    rw [if_pos rfl, if_pos rfl]
    have main : (x2 < 0 ∨ ∃ j, j < m ∧ x2 = nI j) → zOK (f_BB_would_21 (nI l) x2 x3 σ) (f_Model_would_21 (nI l) x2 x3 τ) := by
      intro hx
      unfold f_BB_would_21 f_Model_would_21
      rw [isInM_e (M := 4) x3 4 rfl (by omega), zrng (M := 4) 4 rfl (by omega), zbd_s, zif]
      cases hy : zin x3 (4 + 1) with
      | false => exact zOK_s h
      | true =>
        obtain ⟨t, ht, ht2, rfl⟩ := zin_t hy
        rw [if_pos rfl, if_pos rfl]
        by_cases q : nI l = x2
        · rw [if_pos q, if_pos q]; exact zOK_s h
        · rw [if_neg q, if_neg q]
          obtain ⟨σ', e1, f1⟩ := behind_C w (zFC_r 35 σ) hl ht hx
          obtain ⟨τ1, e2, c2⟩ := xM_b w (zFE_r τ)
          rw [e1, e2, zbd_s, zbd_s]
          unfold pBo at *
          rcases hx with hx | ⟨j, hj, rfl⟩
          · rw [if_pos hx]
            obtain ⟨τ2, e3, f3⟩ := beh_M w 0 c2 hl ht
            rw [if_pos hx] 
            exact zOK_F h rfl e3 (zFK_35 f1) (zFN_E f3)
          · obtain ⟨τ2, e3, c3⟩ := xM_k w c2 hj
            rw [if_neg (nI_pos (by omega)), if_neg (nI_pos (by omega)), nI_clamp (by omega), e3, zbd_s]
            cases hb : pSp cs D S.1 S.2 j 0 4 with
            | false =>
              obtain ⟨τ3, e4, f4⟩ := beh_M w 0 c3 hl ht
              rw [if_pos (show zbI false = 0 from rfl)]
              exact zOK_F h rfl e4 (zFK_35 f1) (zFN_E f4)
            | true =>
              obtain ⟨τ3, e4, f4⟩ := beh_M w 1 c3 hl ht
              rw [if_neg (show ¬ zbI true = 0 by decide)]
              exact zOK_F h rfl e4 (zFK_35 f1) (zFN_E f4)
    by_cases q : x2 = -1
    · rw [if_pos q, if_pos q]
      exact main (Or.inl (by rw [q]; exact nm1_lt))
    · rw [if_neg q, if_neg q]
      cases hy : zin x2 m with
      | false => exact zOK_s h
      | true =>
        obtain ⟨j, hj, hj2, rfl⟩ := zin_t hy
        rw [if_pos rfl, if_pos rfl]
        exact main (Or.inr ⟨j, hj, rfl⟩)
