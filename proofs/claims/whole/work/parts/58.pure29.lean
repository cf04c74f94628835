/-! PURE: takes, leaves, spoils -/
theorem zBk_le {m X s o : Nat} {cs : List ZCl} {D : ZD} {H : Nat → Nat} {σ τ : ZM} (h : zBk m X s cs σ τ D H o) : cs.length ≤ 10 := h.2.2.2.2.1.1
theorem takes_b {m X s o i t : Nat} {cs : List ZCl} {D : ZD} {H : Nat → Nat} {σ τ : ZM} (h : zBk m X s cs σ τ D H o) (hi : i < m) (ht : t < 4) (hs : s ≤ t) :
    ∃ σ', f_Baker_takes (51 + i) (nI t) X σ = some (nI (pTk cs D H o i t), σ') ∧ zLt σ σ' := by
  obtain ⟨hm, -, lf, ⟨hX, hH, ho, o1, o2⟩, hd⟩ := id h
  obtain ⟨σ', e, f⟩ := part_b h hi ht hs
  obtain ⟨h1, h2, h3⟩ := hH t ht
  have h' := zBk_c h f (zMJ_H (zMH_r τ))
  have le := pPart_le hd.2.2.1 (zBk_le h) (zlq i (D.1 i) (D.2.1 i) t (H t) o 0)
  obtain ⟨-, a2, -⟩ := amount_e (i := i) (t := t) (p := pPart cs (zlq i (D.1 i) (D.2.1 i) t (H t) o 0)) (d := H t) (by omega) ht (h'.2.2.1 i hi) le h1
  unfold f_Baker_takes
  rw [zck_of (zRl (by omega)), zck_of (zRov hX), zck_nI ht (by omega), nI_clamp (by omega), h2 hs, o1, e, zbd_s, a2, zbd_s]
  exact ⟨_, rfl, f⟩
theorem takes_m {m X s o i t : Nat} {cs : List ZCl} {D : ZD} {H : Nat → Nat} {σ τ : ZM} (h : zBk m X s cs σ τ D H o) (hi : i < m) (ht : t < 4) :
    ∃ τ', f_Model_takesOf (nI i) (nI t) τ = some (nI (pTk cs D H o i t), τ') ∧ zMH τ τ' ∧ pTk cs D H o i t ≤ H t := by
  obtain ⟨hm, -, lf, ⟨hX, hH, ho, o1, o2⟩, hd⟩ := id h
  obtain ⟨τ', e, f⟩ := part_m h hi ht
  obtain ⟨h1, h2, h3⟩ := hH t ht
  have h' := zBk_c h (zLt_r σ) (zMJ_H f)
  have le := pPart_le hd.2.2.1 (zBk_le h) (zlq i (D.1 i) (D.2.1 i) t (H t) o 0)
  obtain ⟨a1, -, a2⟩ := amount_e (i := i) (t := t) (p := pPart cs (zlq i (D.1 i) (D.2.1 i) t (H t) o 0)) (d := H t) (by omega) ht (h'.2.2.1 i hi) le h1
  unfold f_Model_takesOf
  rw [e, zbd_s, zck_nI (by omega) (by omega), nI_clamp (by omega), f.1 130 t (by omega), h3, a2, zbd_s]
  exact ⟨_, rfl, f, a1⟩
theorem leaves_b {m X s o i t : Nat} {cs : List ZCl} {D : ZD} {H : Nat → Nat} {σ τ : ZM} (h : zBk m X s cs σ τ D H o) (hi : i < m) (ht : t < 4) (hs : s ≤ t) :
    ∃ σ', f_Baker_leaves (51 + i) (nI t) X σ = some (nI (pLv cs D H o i t), σ') ∧ zLt σ σ' := by
  obtain ⟨hm, -, lf, ⟨hX, hH, ho, o1, o2⟩, ⟨hb, ⟨j, hj, ej⟩, hg, -⟩⟩ := id h
  obtain ⟨h1, h2, h3⟩ := hH t ht
  obtain ⟨σ', e2, f2, hl⟩ := lam_e h hi ht hs hj ej
  obtain ⟨n0, hk, k1, k2, hv, v1, v2, hgg, hbb⟩ := lf i hi
  obtain ⟨g1, g2, g3⟩ := hgg t ht
  rw [ej] at hb
  have hb2 : zKB σ' (87 + j) cs := zKB_c hb (fun k => f2.1 _ _ (by omega)) (fun k => f2.1 _ _ (by omega)) (fun k => f2.1 _ _ (by omega)) (fun k => f2.1 _ _ (by omega)) (fun k => f2.1 _ _ (by omega))
  have le := zsmB_le (zlq i (D.1 i) (D.2.1 i) t (H t) o 0) 1 cs hg
  have h10 := hb.1
  unfold f_Baker_leaves f_Baker_leaves_78 pLv
  rw [zck_of (zRl (by omega)), zck_of (zRov hX), k1]
  by_cases q1 : D.1 i = 1
  · rw [q1, if_pos (show nI 1 = 1 from rfl), if_pos (Or.inl rfl)]
    exact ⟨_, rfl, zLt_r _⟩
  · rw [if_neg (show ¬ nI (D.1 i) = (1 : Int32) from fun q => q1 ((nI_eq (a := D.1 i) (b := 1) (by omega) (by omega)).mp q))]
    by_cases q4 : D.1 i = 4
    · rw [q4, if_pos (show nI 4 = 4 from rfl), if_pos (Or.inr rfl)]
      exact ⟨_, rfl, zLt_r _⟩
    · rw [if_neg (show ¬ nI (D.1 i) = (4 : Int32) from fun q => q4 ((nI_eq (a := D.1 i) (b := 4) (by omega) (by omega)).mp q)), if_neg (show ¬ (D.1 i = 1 ∨ D.1 i = 4) by omega), ej, zck_of (zRkn hj), zck_nI ht (by omega), nI_clamp (by omega), h2 hs, o1, e2, zbd_s, zck_nI ht (by omega), f2.2.1, ej, zck_of (zRkn hj), show (1 : Int32) = nI 1 from rfl, sum_e hj hb2 hg (by decide) (by decide) hl, zbd_s, f2.1 _ 3 (by omega), f2.1 (51 + i + 12) t (by omega), f2.1 _ 4 (by omega), k1, v1, show 51 + i + 12 = 63 + i by omega, g2, nI_add]
      generalize hS : zsmB (zlq i (D.1 i) (D.2.1 i) t (H t) o 0) 1 cs = S at *
      have ed : nI (D.2.2.1 i t + S) / (2 : Int32) = nI ((D.2.2.1 i t + S) / 2) := nI_divE (b := 2) (by omega) (by omega)
      rw [nI_add, ed]
      by_cases q6 : D.1 i = 6
      · rw [q6, if_neg (show ¬ nI 6 = 5 by decide), if_pos (show nI 6 = 6 from rfl), if_pos (show (6 : Nat) = 6 from rfl)]
        exact ⟨_, rfl, f2⟩
      · have n6 : ¬ nI (D.1 i) = (6 : Int32) := fun q => q6 ((nI_eq (a := D.1 i) (b := 6) (by omega) (by omega)).mp q)
        rw [if_neg q6, if_neg n6, if_neg n6]
        by_cases q5 : D.1 i = 5
        · by_cases qt : t = 0
          · subst qt
            rw [q5, if_pos (show nI 5 = 5 from rfl), if_pos (show nI 0 = 0 from rfl), if_pos (show (5 : Nat) = 5 ∧ (0 : Nat) = 0 from ⟨rfl, rfl⟩)]
            exact ⟨_, rfl, f2⟩
          · rw [q5, if_pos (show nI 5 = 5 from rfl), if_neg (nI_ne0 (by omega) (by omega)), if_neg (fun q => qt q.2)]
            exact ⟨_, rfl, f2⟩
        · rw [if_neg (show ¬ nI (D.1 i) = (5 : Int32) from fun q => q5 ((nI_eq (a := D.1 i) (b := 5) (by omega) (by omega)).mp q)), if_neg (fun q => q5 q.1)]
          exact ⟨_, rfl, f2⟩
theorem leaves_m {m X s o i t : Nat} {cs : List ZCl} {D : ZD} {H : Nat → Nat} {σ τ : ZM} (h : zBk m X s cs σ τ D H o) (hi : i < m) (ht : t < 4) :
    ∃ τ', f_Model_leavesOf (nI i) (nI t) τ = some (nI (pLv cs D H o i t), τ') ∧ zMH τ τ' ∧ pLv cs D H o i t ≤ 2000 := by
  obtain ⟨hm, m2, lf, ⟨hX, hH, ho, o1, o2⟩, ⟨hb, -, hg, hr⟩⟩ := id h
  obtain ⟨τ', e1, f1, r1, r2, r3⟩ := hr i t τ (by omega) ht (fun _ => rfl) (fun _ => rfl) rfl
  obtain ⟨n0, hk, k1, k2, hv, v1, v2, hgg, hbb⟩ := lf i hi
  obtain ⟨g1, g2, g3⟩ := hgg t ht
  have le := zsmB_le (zlq i (D.1 i) (D.2.1 i) t (H t) o 0) 1 cs hg
  have h10 := hb.1
  have m0 : ¬ zI τ 130 5 = 0 := by rw [m2]; exact nI_ne0 (by omega) (by omega)
  have r4 := (r3 m0).2.1
  rw [zlm_n h hi ht] at r4
  unfold f_Model_leavesOf pLv
  rw [Mkind_e (by omega), zbd_s, k2]
  by_cases q1 : D.1 i = 1
  · rw [q1, if_pos (show nI 1 = 1 from rfl), if_pos (Or.inl rfl)]
    exact ⟨_, rfl, zMH_r _, by omega⟩
  · rw [if_neg (show ¬ nI (D.1 i) = (1 : Int32) from fun q => q1 ((nI_eq (a := D.1 i) (b := 1) (by omega) (by omega)).mp q))]
    by_cases q4 : D.1 i = 4
    · rw [q4, if_pos (show nI 4 = 4 from rfl), if_pos (Or.inr rfl)]
      exact ⟨_, rfl, zMH_r _, by omega⟩
    · rw [if_neg (show ¬ nI (D.1 i) = (4 : Int32) from fun q => q4 ((nI_eq (a := D.1 i) (b := 4) (by omega) (by omega)).mp q)), if_neg (show ¬ (D.1 i = 1 ∨ D.1 i = 4) by omega), e1, zbd_s, show (2 : Int32) + nI t = nI (2 + t) from nI_add 2 t, Mget_e (by omega) (by omega), zbd_s, f1.1 130 _ (by omega), show 8 + 10 * i + (2 + t) = 10 + 10 * i + t by omega, g3, r4, nI_add]
      generalize hS : zsmB (zlq i (D.1 i) (D.2.1 i) t (H t) o 0) 1 cs = S at *
      have ed : nI (D.2.2.1 i t + S) / (2 : Int32) = nI ((D.2.2.1 i t + S) / 2) := nI_divE (b := 2) (by omega) (by omega)
      rw [ed]
      by_cases q6 : D.1 i = 6
      · rw [q6, if_pos (show nI 6 = 6 from rfl), if_pos (show (6 : Nat) = 6 from rfl)]
        exact ⟨_, rfl, f1, by omega⟩
      · have n6 : ¬ nI (D.1 i) = (6 : Int32) := fun q => q6 ((nI_eq (a := D.1 i) (b := 6) (by omega) (by omega)).mp q)
        rw [if_neg q6, if_neg n6]
        by_cases q5 : D.1 i = 5
        · by_cases qt : t = 0
          · subst qt
            rw [q5, if_pos (show nI 5 = 5 from rfl), if_pos (show nI 0 = 0 from rfl), if_pos (show (5 : Nat) = 5 ∧ (0 : Nat) = 0 from ⟨rfl, rfl⟩), Mnumber_e (by omega), zbd_s, f1.1 130 _ (by omega), v2, nI_add]
            exact ⟨_, rfl, f1, by omega⟩
          · rw [q5, if_pos (show nI 5 = 5 from rfl), if_neg (nI_ne0 (by omega) (by omega)), if_neg (fun q => qt q.2)]
            exact ⟨_, rfl, f1, by omega⟩
        · rw [if_neg (show ¬ nI (D.1 i) = (5 : Int32) from fun q => q5 ((nI_eq (a := D.1 i) (b := 5) (by omega) (by omega)).mp q)), if_neg (fun q => q5 q.1)]
          exact ⟨_, rfl, f1, by omega⟩
def pSp (cs : List ZCl) (D : ZD) (H : Nat → Nat) (o i : Nat) : Nat → Nat → Bool
  | _, 0 => false
  | t, n + 1 => if pTk cs D H o i t ≤ D.2.2.2 i t then pSp cs D H o i (t + 1) n else true
theorem spb_u (N X Y : Nat) (t : Int32) (σ : ZM) : F_Baker_spoils_2 (N + 1) (X, Y, t, σ) = f_Baker_spoils_2 (F_Baker_spoils_2 N) X Y t σ := rfl
theorem spm_u (N : Nat) (i t : Int32) (σ : ZM) : F_Model_isSpoiled_2 (N + 1) (i, t, σ) = f_Model_isSpoiled_2 (F_Model_isSpoiled_2 N) i t σ := rfl
theorem spoil_bl {m X o i : Nat} {cs : List ZCl} {D : ZD} {H : Nat → Nat} {τ : ZM} (hi : i < m) : ∀ (n t N : Nat) (σ : ZM), t + n = 4 → n < N → zBk m X 0 cs σ τ D H o →
    ∃ σ', F_Baker_spoils_2 N (51 + i, X, nI t, σ) = some (zbI (pSp cs D H o i t n), σ') ∧ zLt σ σ' := by
  intro n
  induction n with
  | zero =>
    intro t N σ ht hN h
    obtain ⟨N, rfl⟩ : ∃ M, N = M + 1 := ⟨N - 1, by omega⟩
    obtain rfl : t = 4 := by omega
    exact ⟨_, rfl, zLt_r _⟩
  | succ n ih =>
    intro t N σ ht hN h
    obtain ⟨N, rfl⟩ : ∃ M, N = M + 1 := ⟨N - 1, by omega⟩
    obtain ⟨σ1, e1, f1⟩ := takes_b h hi (by omega : t < 4) (Nat.zero_le _)
    have h1 := zBk_c h f1 (zMJ_H (zMH_r τ))
    have hm := h.1
    obtain ⟨_, -, -, le⟩ := takes_m h hi (by omega : t < 4)
    obtain ⟨b1, b2, b3⟩ := (h1.2.2.1 i hi).2.2.2.2.2.2.2.2 t (by omega)
    have hH := (h.2.2.2.1.2.1 t (by omega)).1
    rw [spb_u]
    unfold f_Baker_spoils_2 pSp
    rw [if_neg (show ¬ (4 : Int32) ≤ nI t from nI_ge (b := 4) (by omega) (by omega)), e1, zbd_s, zck_nI (by omega) (by omega), nI_clamp (by omega), show 51 + i + 24 = 75 + i by omega, b2, show nI t + (1 : Int32) = nI (t + 1) from nI_add t 1]
    by_cases q : pTk cs D H o i t ≤ D.2.2.2 i t
    · rw [if_pos q, if_pos (nI_le q (by omega))]
      obtain ⟨σ2, e2, f2⟩ := ih (t + 1) N σ1 (by omega) (by omega) h1
      exact ⟨σ2, e2, zLt_t f1 f2⟩
    · rw [if_neg q, if_neg (nI_ge (by omega) (by omega))]
      exact ⟨_, rfl, f1⟩
theorem spoil_b {m X o i : Nat} {cs : List ZCl} {D : ZD} {H : Nat → Nat} {σ τ : ZM} (h : zBk m X 0 cs σ τ D H o) (hi : i < m) : ∃ σ', f_Baker_spoils (51 + i) X σ = some (zbI (pSp cs D H o i 0 4), σ') ∧ zLt σ σ' := by
  have hm := h.1
  unfold f_Baker_spoils
  rw [zck_of (zRl (by omega)), zck_of (zRov h.2.2.2.1.1)]
  exact spoil_bl hi 4 0 2000 σ (by omega) (by omega) h
theorem spoil_ml {m X o i s : Nat} {cs : List ZCl} {D : ZD} {H : Nat → Nat} {σ : ZM} (hi : i < m) : ∀ (n t N : Nat) (τ : ZM), t + n = 4 → n < N → zBk m X s cs σ τ D H o →
    ∃ τ', F_Model_isSpoiled_2 N (nI i, nI t, τ) = some (zbI (pSp cs D H o i t n), τ') ∧ zMH τ τ' := by
  intro n
  induction n with
  | zero =>
    intro t N τ ht hN h
    obtain ⟨N, rfl⟩ : ∃ M, N = M + 1 := ⟨N - 1, by omega⟩
    obtain rfl : t = 4 := by omega
    exact ⟨_, rfl, zMH_r _⟩
  | succ n ih =>
    intro t N τ ht hN h
    obtain ⟨N, rfl⟩ : ∃ M, N = M + 1 := ⟨N - 1, by omega⟩
    obtain ⟨τ1, e1, f1, le⟩ := takes_m h hi (by omega : t < 4)
    have h1 := zBk_c h (zLt_r σ) (zMJ_H f1)
    have hm := h.1
    obtain ⟨b1, b2, b3⟩ := (h1.2.2.1 i hi).2.2.2.2.2.2.2.2 t (by omega)
    have hH := (h.2.2.2.1.2.1 t (by omega)).1
    rw [spm_u]
    unfold f_Model_isSpoiled_2 pSp
    rw [if_neg (show ¬ (4 : Int32) ≤ nI t from nI_ge (b := 4) (by omega) (by omega)), e1, zbd_s, show (6 : Int32) + nI t = nI (6 + t) from nI_add 6 t, Mget_e (by omega) (by omega), zbd_s, show 8 + 10 * i + (6 + t) = 14 + 10 * i + t by omega, b3, show nI t + (1 : Int32) = nI (t + 1) from nI_add t 1]
    by_cases q : pTk cs D H o i t ≤ D.2.2.2 i t
    · rw [if_pos q, if_pos (nI_le q (by omega))]
      obtain ⟨τ2, e2, f2⟩ := ih (t + 1) N τ1 (by omega) (by omega) h1
      exact ⟨τ2, e2, zMH_t f1 f2⟩
    · rw [if_neg q, if_neg (nI_ge (by omega) (by omega))]
      exact ⟨_, rfl, f1⟩
theorem spoil_m {m X o i s : Nat} {cs : List ZCl} {D : ZD} {H : Nat → Nat} {σ τ : ZM} (h : zBk m X s cs σ τ D H o) (hi : i < m) : ∃ τ', f_Model_isSpoiled (nI i) τ = some (zbI (pSp cs D H o i 0 4), τ') ∧ zMH τ τ' :=
  spoil_ml hi 4 0 2000 τ (by omega) (by omega) h
