/-! PURE: year -/
theorem zrng3 {α : Type} {x M : Int32} (N : Nat) (hM : M = nI N) (hN : N < 2 ^ 31) {A B : α} : (if x < 0 then A else if M < x then A else B) = if zin x (N + 1) = true then B else A := by
  subst hM
  rcases zc3 x (N + 1) with hx | ⟨j, hj, hj2, rfl⟩ | ⟨j, hj, hj2, rfl⟩
  · rw [if_pos hx, zin_neg hx, if_neg (by decide)]
  · rw [if_neg (nI_pos hj2), zin_nI hj2, if_neg (nI_nlt (by omega) hN), decide_eq_true hj, if_pos rfl]
  · rw [if_neg (nI_pos hj2), zin_nI hj2, if_pos (nI_lt (by omega) hj2), decide_eq_false (by omega), if_neg (by decide)]
theorem nI_mod {a f : Nat} (ha : a < 2 ^ 31) (hf : f < 2 ^ 31) : nI a - nI a / nI f * nI f = nI (a % f) := by
  have h1 : a / f * f ≤ a := Nat.div_mul_le_self a f
  rw [nI_divE ha hf, nI_mul, nI_subE h1]
  congr 1
  have := Nat.div_add_mod a f
  rw [Nat.mul_comm] at this
  omega
theorem nI_nz {f : Nat} (h : 0 < f) (hf : f < 2 ^ 31) : (nI f != 0) = true := by
  rw [bne_iff_ne]
  exact nI_ne0 h hf
def pYr (cs : List ZCl) (D : ZD) (m f : Nat) : Nat → Nat → Nat → ZS → Nat × ZS
  | 0, _, sp, S => (sp, S)
  | d + 1, nx, sp, S => if S.2 % f = 0 then pYr cs D m f d nx sp (pCl cs S) else pYr cs D m f d (if nx + 1 < m then nx + 1 else 0) (if pSp cs D S.1 S.2 nx 0 4 = true then sp + 1 else sp) (pBk cs D nx S)
theorem pYr_s (cs : List ZCl) (D : ZD) (m f d nx sp : Nat) (S : ZS) : pYr cs D m f (d + 1) nx sp S = if S.2 % f = 0 then pYr cs D m f d nx sp (pCl cs S) else pYr cs D m f d (if nx + 1 < m then nx + 1 else 0) (if pSp cs D S.1 S.2 nx 0 4 = true then sp + 1 else sp) (pBk cs D nx S) := rfl
def pYv (q : Nat × ZS) (w : Nat) : Int32 := if w < 4 then nI (q.2.1 w) else nI q.1
theorem yrc_u (N : Nat) (a b c d e g : Int32) (σ : ZM) : F_Asker_afterYear_23 (N + 1) (a, b, c, d, e, g, σ) = f_Asker_afterYear_23 (F_Asker_afterYear_23 N) a b c d e g σ := rfl
theorem yrm_u (N : Nat) (a b c d e g : Int32) (σ : ZM) : F_Model_year_62 (N + 1) (a, b, c, d, e, g, σ) = f_Model_year_62 (F_Model_year_62 N) a b c d e g σ := rfl
section
variable {m : Nat} {cs : List ZCl} {D : ZD} {σ0 τ0 : ZM} {S0 : ZS}
theorem yr_Cl (w : xW m cs D σ0 τ0 S0) {n f u : Nat} (hn : n ≤ 60) (hf : 0 < f ∧ f < 31) (hu : u < 5) : ∀ (d i N nx sp : Nat) (σ : ZM) (S : ZS), i + d = n → d < N → nx < m → xC σ0 σ S → ∃ σ', F_Asker_afterYear_23 N (nI n, nI f, nI u, nI nx, nI sp, nI i, σ) = some (pYv (pYr cs D m f d nx sp S) u, σ') ∧ zFC 35 σ0 σ' := by
  have hm := w.1.1
  intro d
  induction d with
  | zero =>
    intro i N nx sp σ S hi hN hx c
    obtain ⟨N, rfl⟩ : ∃ M, N = M + 1 := ⟨N - 1, by omega⟩
    rw [yrc_u]
    unfold f_Asker_afterYear_23 pYv
    rw [if_pos (nI_le (by omega) (by omega))]
    by_cases q : u < 4
    · rw [if_neg (show ¬ (4 : Int32) ≤ nI u from nI_ge (b := 4) q (by omega)), if_pos q, zck_nI q (by omega), nI_clamp (by omega)]
      rw [c.2.1.1 u q]
      exact ⟨σ, rfl, c.1⟩
    · rw [if_pos (show (4 : Int32) ≤ nI u from nI_le (a := 4) (by omega) (by omega)), if_neg q]
      exact ⟨σ, rfl, c.1⟩
  | succ d ih =>
    intro i N nx sp σ S hi hN hx c
    obtain ⟨N, rfl⟩ : ∃ M, N = M + 1 := ⟨N - 1, by omega⟩
    have hS2 := c.2.2.2
    rw [yrc_u]
    unfold f_Asker_afterYear_23 f_Asker_afterYear_106
    rw [if_neg (nI_ge (a := i) (b := n) (by omega) (by omega)), zck_of (nI_nz hf.1 (by omega)), c.2.1.2, nI_mod (by omega) (by omega), pYr_s, show nI i + (1 : Int32) = nI (i + 1) from nI_add i 1]
    by_cases q : S.2 % f = 0
    · obtain ⟨σ1, e1, c1⟩ := xC_c w c
      rw [if_pos q, if_pos (show nI (S.2 % f) = 0 by rw [q]; rfl), e1, zbd_s]
      exact ih (i + 1) N nx sp σ1 _ (by omega) (by omega) hx c1
    · obtain ⟨σ1, e1, c1⟩ := xC_k w c hx
      have hlt : S.2 % f < f := Nat.mod_lt _ hf.1
      rw [if_neg q, if_neg (nI_ne0 (by omega) (by omega)), nI_clamp (by omega), zel25, zck_nI (by omega) (by omega), zck_of (zRl (by omega)), e1, zbd_s]
      have last : ∀ sp', f_Asker_afterYear_82 (F_Asker_afterYear_23 N) (nI n) (nI f) (nI u) (nI nx) (nI sp') (nI i) σ1 = F_Asker_afterYear_23 N (nI n, nI f, nI u, nI (if nx + 1 < m then nx + 1 else 0), nI sp', nI (i + 1), σ1) := by
        intro sp'
        unfold f_Asker_afterYear_82 f_Asker_afterYear_104 f_Asker_afterYear_106
        rw [xC_m w c1.1, show nI nx + (1 : Int32) = nI (nx + 1) from nI_add nx 1, show nI i + (1 : Int32) = nI (i + 1) from nI_add i 1]
        by_cases z : nx + 1 < m
        · rw [if_neg (nI_ge z (by omega)), if_pos z]
        · rw [if_pos (nI_le (by omega) (by omega)), if_neg z]; rfl
      have hn2 : (if nx + 1 < m then nx + 1 else 0) < m := by split <;> omega
      cases pSp cs D S.1 S.2 nx 0 4 with
      | false =>
        rw [if_pos (show zbI false = 0 from rfl), last, if_neg (show ¬ false = true by decide)]
        exact ih (i + 1) N _ sp σ1 _ (by omega) (by omega) hn2 c1
      | true =>
        rw [if_neg (show ¬ zbI true = 0 by decide), show nI sp + (1 : Int32) = nI (sp + 1) from nI_add sp 1, last, if_pos (show true = true from rfl)]
        exact ih (i + 1) N _ (sp + 1) σ1 _ (by omega) (by omega) hn2 c1
theorem yr_Ml (w : xW m cs D σ0 τ0 S0) {n f u : Nat} (hn : n ≤ 60) (hf : 0 < f ∧ f < 31) (hu : u < 5) : ∀ (d i N nx q sp : Nat) (τ : ZM) (S : ZS), i + d = n → d < N → nx < m → m * q + nx ≤ i → xM τ0 τ S → ∃ τ', F_Model_year_62 N (nI n, nI f, nI u, nI (m * q + nx), nI sp, nI i, τ) = some (pYv (pYr cs D m f d nx sp S) u, τ') ∧ zFE τ0 τ' := by
  have hm := w.1.1
  intro d
  induction d with
  | zero =>
    intro i N nx q sp τ S hi hN hx hq c
    obtain ⟨N, rfl⟩ : ∃ M, N = M + 1 := ⟨N - 1, by omega⟩
    obtain ⟨τ1, e1, f1⟩ := xM_e c
    rw [yrm_u]
    unfold f_Model_year_62 f_Model_year_137 pYv
    rw [if_pos (nI_le (by omega) (by omega)), e1, zbd_s, zbd_s]
    by_cases z : u < 4
    · rw [if_neg (show ¬ nI u = (4 : Int32) from nI_ne (b := 4) (by omega) (by omega) (by omega)), if_pos z, zck_nI (by omega) (by omega), nI_clamp (by omega)]
      rw [c.2.1.1 u z]
      exact ⟨τ1, rfl, f1⟩
    · obtain rfl : u = 4 := by omega
      rw [if_pos (show nI 4 = (4 : Int32) from rfl), if_neg z]
      exact ⟨τ1, rfl, f1⟩
  | succ d ih =>
    intro i N nx q sp τ S hi hN hx hq c
    obtain ⟨N, rfl⟩ : ∃ M, N = M + 1 := ⟨N - 1, by omega⟩
    have hS2 := c.2.2.2
    rw [yrm_u]
    unfold f_Model_year_62 f_Model_year_115
    rw [if_neg (nI_ge (a := i) (b := n) (by omega) (by omega)), zck_of (show zin (4 : Int32) 92 = true by decide), show (4 : Int32).toNatClampNeg = 4 from rfl, zck_of (show zin (5 : Int32) 92 = true by decide), show (5 : Int32).toNatClampNeg = 5 from rfl, xM_m w c.1, zck_of (nI_nz hf.1 (by omega)), zck_of (nI_nz (show 0 < m by omega) (by omega)), c.2.1.2, nI_mod (by omega) (by omega), nI_mod (a := m * q + nx) (by omega) (by omega), Nat.mul_add_mod, Nat.mod_eq_of_lt hx, pYr_s, show nI i + (1 : Int32) = nI (i + 1) from nI_add i 1]
    by_cases z : S.2 % f = 0
    · obtain ⟨τ1, e1, c1⟩ := xM_c w c
      rw [if_pos z, if_pos (show nI (S.2 % f) = 0 by rw [z]; rfl), e1, zbd_s]
      exact ih (i + 1) N nx q sp τ1 _ (by omega) (by omega) hx (by omega) c1
    · obtain ⟨τ1, e1, c1⟩ := xM_k w c hx
      have hlt : S.2 % f < f := Nat.mod_lt _ hf.1
      rw [if_neg z, if_neg (nI_ne0 (by omega) (by omega)), e1, zbd_s]
      unfold f_Model_year_109 f_Model_year_115
      rw [show nI i + (1 : Int32) = nI (i + 1) from nI_add i 1, show nI (m * q + nx) + (1 : Int32) = nI (m * q + nx + 1) from nI_add (m * q + nx) 1]
      have last : ∀ sp', ∃ τ', F_Model_year_62 N (nI n, nI f, nI u, nI (m * q + nx + 1), nI sp', nI (i + 1), τ1) = some (pYv (pYr cs D m f d (if nx + 1 < m then nx + 1 else 0) sp' (pBk cs D nx S)) u, τ') ∧ zFE τ0 τ' := by
        intro sp'
        by_cases y : nx + 1 < m
        · rw [if_pos y, Nat.add_assoc]
          exact ih (i + 1) N (nx + 1) q sp' τ1 _ (by omega) (by omega) y (by omega) c1
        · have e : m * q + nx + 1 = m * (q + 1) + 0 := by rw [Nat.mul_add, Nat.mul_one]; omega
          rw [if_neg y, e]
          exact ih (i + 1) N 0 (q + 1) sp' τ1 _ (by omega) (by omega) (by omega) (by omega) c1
      cases pSp cs D S.1 S.2 nx 0 4 with
      | false =>
        rw [if_pos (show zbI false = 0 from rfl), if_neg (show ¬ false = true by decide), Int32.add_zero]
        exact last sp
      | true =>
        rw [if_neg (show ¬ zbI true = 0 by decide), show nI sp + (1 : Int32) = nI (sp + 1) from nI_add sp 1, if_pos (show true = true from rfl)]
        exact last (sp + 1)
end
theorem op_year {σ τ : ZM} (h : zRel σ τ) (x1 x2 x3 : Int32) : zOK (f_BB_year x1 x2 x3 σ) (f_Model_year x1 x2 x3 τ) := by
  obtain ⟨m, n, cs, D, S, hs, w⟩ := zRel_W h
  obtain ⟨hm, m1, m2⟩ := zmany hs
  unfold f_BB_year f_Model_year f_BB_year_9 f_BB_year_33 f_Model_year_32
  rw [isInM_e (M := 4) x3 4 rfl (by omega), zrng (M := 4) 4 rfl (by omega), zbd_s, zif]
  cases hz : zin x3 (4 + 1) with
  | false => exact zOK_s h
  | true =>
    obtain ⟨u, hu, hu2, rfl⟩ := zin_t hz
    rw [if_pos rfl, if_pos rfl, isInM_e (M := 60) x1 60 rfl (by omega), zrng3 (M := 60) 60 rfl (by omega), zbd_s, zif]
    cases hy : zin x1 (60 + 1) with
    | false => exact zOK_s h
    | true =>
      obtain ⟨k, hk, hk2, rfl⟩ := zin_t hy
      rw [if_pos rfl, if_pos rfl, isIn_e, zbd_s]
      by_cases q1 : x2 < 2
      · rw [if_pos q1, if_pos q1, if_pos rfl]; exact zOK_s h
      rw [if_neg q1, if_neg q1]
      by_cases q2 : x2 ≤ 30
      · rw [if_pos q2, if_neg (Int32.not_lt.mpr q2), if_neg (show ¬ (1 : Int32) = 0 by decide), m1, zck_of (show zin (5 : Int32) 92 = true by decide), show (5 : Int32).toNatClampNeg = 5 from rfl, m2]
        obtain ⟨f, hf, rfl⟩ := nI_of (fun z => q1 (show x2 < (2 : Int32) from neg_lt (n := 2) z (by omega)))
        have hf1 : f ≤ 30 := (nI_leI (a := f) (b := 30) hf (by omega)).mp q2
        have hf2 : ¬ f < 2 := fun z => q1 (nI_lt (b := 2) z (by omega))
        by_cases m0 : m = 0
        · subst m0
          rw [if_pos (show nI 0 = 0 from rfl), if_pos (show nI 0 = 0 from rfl)]; exact zOK_s h
        · rw [if_neg (nI_ne0 (by omega) (by omega)), if_neg (nI_ne0 (by omega) (by omega))]
          obtain ⟨σ1, e1, c1⟩ := xC_b w (zFC_r 35 σ)
          obtain ⟨σ2, e2, f2⟩ := yr_Cl w (n := k) (f := f) (u := u) (by omega) (by omega) (by omega) k 0 2000 0 0 σ1 S (by omega) (by omega) (by omega) c1
          obtain ⟨τ1, e3, c3⟩ := xM_b w (zFE_r τ)
          obtain ⟨τ2, e4, f4⟩ := yr_Ml w (n := k) (f := f) (u := u) (by omega) (by omega) (by omega) k 0 2000 0 0 0 τ1 S (by omega) (by omega) (by omega) (by omega) c3
          unfold f_Asker_afterYear
          rw [e1, zbd_s, e3, zbd_s]
          refine zOK_F h ?_ e4 (zFK_35 f2) (zFN_E f4)
          exact (congrArg (fun q => zbd q fun v8 s9 => some (v8, s9)) e2).trans rfl
      · rw [if_neg q2, if_pos (Int32.not_le.mp q2), if_pos rfl]; exact zOK_s h
