/-! PURE: of; a trial of the reference; would -/
theorem lea_C {m X i t : Nat} {cs : List ZCl} {D : ZD} {S : ZS} {σ τ : ZM} (h : zSt m cs D σ τ) (hX : 33 ≤ X ∧ X < 42) (hS : zSB S) (hc : zCo X σ S) (hi : i < m) (ht : t < 4) : ∃ σ', f_Baker_leaves (51 + i) (nI t) X σ = some (nI (pLv cs D S.1 S.2 i t), σ') ∧ zLt σ σ' :=
  leaves_b (zBk_C h hX hS hc) hi ht (Nat.zero_le _)
theorem lea_M {m i t : Nat} {cs : List ZCl} {D : ZD} {S : ZS} {σ τ : ZM} (h : zSt m cs D σ τ) (hS : zSB S) (hr : zMo τ S) (hi : i < m) (ht : t < 4) : ∃ τ', f_Model_leavesOf (nI i) (nI t) τ = some (nI (pLv cs D S.1 S.2 i t), τ') ∧ zMH τ τ' := by
  obtain ⟨τ', a, b, -⟩ := leaves_m (zBk_M h hS hr) hi ht
  exact ⟨τ', a, b⟩
theorem zOK_F {α : Type} {σ σ' τ τ' : ZM} {r : α} {a b : Option (α × ZM)} (h : zRel σ τ) (e1 : a = some (r, σ')) (e2 : b = some (r, τ')) (f : zFK σ σ') (g : zFN τ τ') : zOK a b :=
  ⟨r, σ', τ', e1, e2, zRel_F h f g⟩
theorem nI_ne {a b : Nat} (h : a ≠ b) (ha : a < 2 ^ 31) (hb : b < 2 ^ 31) : ¬ nI a = nI b := fun q => h ((nI_eq ha hb).mp q)
theorem op_of {σ τ : ZM} (h : zRel σ τ) (x1 x2 : Int32) : zOK (f_BB_of x1 x2 σ) (f_Model_of x1 x2 τ) := by
  obtain ⟨m, n, cs, D, S, hs, st, hS, hc, hr⟩ := zRel_St h
  obtain ⟨hm, m1, m2⟩ := zmany hs
  unfold f_BB_of f_Model_of
  simp only [Bloaf_e (show m < 2 ^ 31 by omega) m1, Mloaf_e (show m < 2 ^ 31 by omega) m2, zbd_s, zif]
  cases hz : zin x1 m with
  | false => exact zOK_s h
  | true =>
    obtain ⟨i, hi, hi2, rfl⟩ := zin_t hz
    obtain ⟨n0, hk, k1, k2, hv, v1, v2, hg, hb⟩ := st.2.2.1 i hi
    rw [if_pos rfl, if_pos rfl, nI_clamp hi2, zel25, zck_nI (by omega) hi2, zck_of (zRl (by omega))]
    rcases zc3 x2 4 with hx | ⟨j, hj, hj2, rfl⟩ | ⟨j, hj, hj2, rfl⟩
    · have q0 : ¬ x2 = 0 := fun q => by rw [q] at hx; exact absurd hx (by decide)
      have q1 : ¬ x2 = 1 := fun q => by rw [q] at hx; exact absurd hx (by decide)
      have q2 : ¬ x2 = 2 := fun q => by rw [q] at hx; exact absurd hx (by decide)
      have q3 : ¬ x2 = 3 := fun q => by rw [q] at hx; exact absurd hx (by decide)
      rw [if_neg (nlt0 hx), if_neg q0, if_neg q1, if_neg q2, if_neg q3, if_pos (show x2 < (10 : Int32) from neg_lt (n := 10) hx (by omega))]
      exact zOK_s h
    · rw [if_pos (nI_pos' hj2)]
      have : j = 0 ∨ j = 1 ∨ j = 2 ∨ j = 3 := by omega
      rcases this with rfl | rfl | rfl | rfl
      · rw [if_pos (show nI 0 = 0 from rfl), if_pos (show nI 0 = 0 from rfl), Mkind_e (by omega), zbd_s, k1, k2]
        exact zOK_s h
      · rw [if_neg (show ¬ nI 1 = 0 by decide), if_neg (show ¬ nI 1 = 0 by decide), if_pos (show nI 1 = 1 from rfl), if_pos (show nI 1 = 1 from rfl), Mnumber_e (by omega), zbd_s, v1, v2]
        exact zOK_s h
      · obtain ⟨σ', e1, f1⟩ := fee_C st (show 33 ≤ 33 ∧ 33 < 42 by omega) hS hc hi
        obtain ⟨τ', e2, f2⟩ := fee_M st hS hr hi
        rw [if_neg (show ¬ nI 2 = 0 by decide), if_neg (show ¬ nI 2 = 0 by decide), if_neg (show ¬ nI 2 = 1 by decide), if_neg (show ¬ nI 2 = 1 by decide), if_pos (show nI 2 = 2 from rfl), if_pos (show nI 2 = 2 from rfl), hc.2, e1, e2]
        exact zOK_F h rfl rfl (zFK_L f1) (zFN_H f2)
      · obtain ⟨σ', e1, f1⟩ := spo_C st (show 33 ≤ 33 ∧ 33 < 42 by omega) hS hc hi
        obtain ⟨τ', e2, f2⟩ := spo_M st hS hr hi
        rw [if_neg (show ¬ nI 3 = 0 by decide), if_neg (show ¬ nI 3 = 0 by decide), if_neg (show ¬ nI 3 = 1 by decide), if_neg (show ¬ nI 3 = 1 by decide), if_neg (show ¬ nI 3 = 2 by decide), if_neg (show ¬ nI 3 = 2 by decide), if_pos (show nI 3 = 3 from rfl), if_pos (show nI 3 = 3 from rfl), e1, e2, zbd_s, zbd_s, flag_e, zbd_s]
        refine zOK_F h (r := zbI (pSp cs D S.1 S.2 i 0 4)) rfl ?_ (zFK_L f1) (zFN_H f2)
        cases pSp cs D S.1 S.2 i 0 4 <;> rfl
    · have e10 : nI j / (10 : Int32) = nI (j / 10) := nI_divE (b := 10) hj2 (by omega)
      have em : nI j - nI j / (10 : Int32) * (10 : Int32) = nI (j % 10) := by
        rw [e10, show nI (j / 10) * (10 : Int32) = nI (j / 10 * 10) from nI_mul (j / 10) 10, nI_subE (by omega)]
        congr 1; omega
      rw [if_pos (nI_pos' hj2), if_neg (show ¬ nI j = (0 : Int32) from nI_ne (b := 0) (by omega) hj2 (by omega)), if_neg (show ¬ nI j = (1 : Int32) from nI_ne (b := 1) (by omega) hj2 (by omega)), if_neg (show ¬ nI j = (2 : Int32) from nI_ne (b := 2) (by omega) hj2 (by omega)), if_neg (show ¬ nI j = (3 : Int32) from nI_ne (b := 3) (by omega) hj2 (by omega)), if_neg (show ¬ nI j = (0 : Int32) from nI_ne (b := 0) (by omega) hj2 (by omega)), if_neg (show ¬ nI j = (1 : Int32) from nI_ne (b := 1) (by omega) hj2 (by omega)), if_neg (show ¬ nI j = (2 : Int32) from nI_ne (b := 2) (by omega) hj2 (by omega)), if_neg (show ¬ nI j = (3 : Int32) from nI_ne (b := 3) (by omega) hj2 (by omega)), em, e10]
      unfold f_BB_ofTaste
      rw [zck_of (zRl (by omega)), Btaste_e, zbd_s, zif, zin_nI (show j % 10 < 2 ^ 31 by omega)]
      by_cases c10 : j < 10
      · rw [if_pos (show nI j < (10 : Int32) from nI_lt (b := 10) c10 (by omega)), decide_eq_false (by omega), if_neg (by decide)]
        exact zOK_s h
      rw [if_neg (show ¬ nI j < (10 : Int32) from nI_nlt (b := 10) (by omega) hj2)]
      by_cases c43 : 43 < j
      · rw [if_pos (show (43 : Int32) < nI j from nI_lt (a := 43) c43 hj2)]
        by_cases t4 : j % 10 < 4
        · rw [decide_eq_true t4, if_pos rfl, if_neg (show ¬ nI (j / 10) = (1 : Int32) from nI_ne (b := 1) (by omega) (by omega) (by omega)), if_neg (show ¬ nI (j / 10) = (2 : Int32) from nI_ne (b := 2) (by omega) (by omega) (by omega)), if_neg (show ¬ nI (j / 10) = (3 : Int32) from nI_ne (b := 3) (by omega) (by omega) (by omega)), if_neg (show ¬ nI (j / 10) = (4 : Int32) from nI_ne (b := 4) (by omega) (by omega) (by omega))]
          exact zOK_s h
        · rw [decide_eq_false t4, if_neg (by decide)]
          exact zOK_s h
      rw [if_neg (show ¬ (43 : Int32) < nI j from nI_nlt (a := 43) (b := j) (by omega) (by omega)), Mtaste_e, zbd_s, zif, zin_nI (show j % 10 < 2 ^ 31 by omega)]
      by_cases t4 : j % 10 < 4
      · rw [decide_eq_true t4, if_pos rfl, if_pos rfl, nI_clamp (by omega)]
        generalize ht : j % 10 = t at *
        have hj10 : j / 10 = 1 ∨ j / 10 = 2 ∨ j / 10 = 3 ∨ j / 10 = 4 := by omega
        rcases hj10 with q | q | q | q
        · rw [q, if_pos (show nI 1 = 1 from rfl), zck_t, if_neg (show ¬ (20 : Int32) ≤ nI j from nI_ge (b := 20) (by omega) (by omega)), show (2 : Int32) + nI t = nI (2 + t) from nI_add 2 t, Mget_e (by omega) (by omega), zbd_s, show 8 + 10 * i + (2 + t) = 10 + 10 * i + t by omega, (hg t t4).2.2, show 51 + i + 12 = 63 + i by omega, (hg t t4).2.1]
          exact zOK_s h
        · rw [q, if_neg (show ¬ nI 2 = 1 by decide), if_pos (show nI 2 = 2 from rfl), zck_t, if_pos (show (20 : Int32) ≤ nI j from nI_le (a := 20) (by omega) (by omega)), if_neg (show ¬ (30 : Int32) ≤ nI j from nI_ge (b := 30) (by omega) (by omega)), show (6 : Int32) + nI t = nI (6 + t) from nI_add 6 t, Mget_e (by omega) (by omega), zbd_s, show 8 + 10 * i + (6 + t) = 14 + 10 * i + t by omega, (hb t t4).2.2, show 51 + i + 24 = 75 + i by omega, (hb t t4).2.1]
          exact zOK_s h
        · obtain ⟨σ', e1, f1⟩ := tak_C st (show 33 ≤ 33 ∧ 33 < 42 by omega) hS hc hi t4
          obtain ⟨τ', e2, f2, -⟩ := tak_M st hS hr hi t4
          rw [q, if_neg (show ¬ nI 3 = 1 by decide), if_neg (show ¬ nI 3 = 2 by decide), if_pos (show nI 3 = 3 from rfl), if_pos (show (20 : Int32) ≤ nI j from nI_le (a := 20) (by omega) (by omega)), if_pos (show (30 : Int32) ≤ nI j from nI_le (a := 30) (by omega) (by omega)), if_neg (show ¬ (40 : Int32) ≤ nI j from nI_ge (b := 40) (by omega) (by omega)), e1, e2]
          exact zOK_F h rfl rfl (zFK_L f1) (zFN_H f2)
        · obtain ⟨σ', e1, f1⟩ := lea_C st (show 33 ≤ 33 ∧ 33 < 42 by omega) hS hc hi t4
          obtain ⟨τ', e2, f2⟩ := lea_M st hS hr hi t4
          rw [q, if_neg (show ¬ nI 4 = 1 by decide), if_neg (show ¬ nI 4 = 2 by decide), if_neg (show ¬ nI 4 = 3 by decide), if_pos (show nI 4 = 4 from rfl), if_pos (show (20 : Int32) ≤ nI j from nI_le (a := 20) (by omega) (by omega)), if_pos (show (30 : Int32) ≤ nI j from nI_le (a := 30) (by omega) (by omega)), if_pos (show (40 : Int32) ≤ nI j from nI_le (a := 40) (by omega) (by omega)), e1, e2]
          exact zOK_F h rfl rfl (zFK_L f1) (zFN_H f2)
      · rw [decide_eq_false t4, if_neg (by decide), if_neg (by decide)]
        exact zOK_s h
/-! inside begins and ends -/
def zIn (τ0 τ : ZM) : Prop := (∀ o k, ¬ (o = 129 ∧ 9 ≤ k ∧ k ≤ 20) → ¬ o = 132 → ¬ o = 136 → ¬ (o = 130 ∧ k < 5) → zI τ o k = zI τ0 o k) ∧ (∀ k, k < 92 → zI τ 132 k = zI τ0 130 k) ∧ (∀ o k, zP τ o k = zP τ0 o k) ∧ (∀ o k, zL τ o k = zL τ0 o k)
def zFE (τ0 τ : ZM) : Prop := (∀ o k, ¬ (o = 129 ∧ 9 ≤ k ∧ k ≤ 20) → ¬ o = 132 → ¬ o = 136 → zI τ o k = zI τ0 o k) ∧ (∀ o k, zP τ o k = zP τ0 o k) ∧ (∀ o k, zL τ o k = zL τ0 o k)
theorem zFE_r (τ : ZM) : zFE τ τ := ⟨fun _ _ _ _ _ => rfl, fun _ _ => rfl, fun _ _ => rfl⟩
theorem zFE_t {a b c : ZM} (h : zFE a b) (h2 : zFE b c) : zFE a c := ⟨fun o k n1 n2 n3 => (h2.1 o k n1 n2 n3).trans (h.1 o k n1 n2 n3), fun o k => (h2.2.1 o k).trans (h.2.1 o k), fun o k => (h2.2.2 o k).trans (h.2.2 o k)⟩
theorem zFE_H {a b : ZM} (h : zMH a b) : zFE a b := ⟨fun o k n1 _ _ => h.1 o k n1, h.2.1, h.2.2⟩
theorem zFN_E {a b : ZM} (h : zFE a b) : zFN a b := ⟨fun o k n1 _ n3 n4 _ _ => h.1 o k n1 n3 n4, h.2.1, h.2.2⟩
theorem zSt_E {m : Nat} {cs : List ZCl} {D : ZD} {σ τ τ' : ZM} (h : zSt m cs D σ τ) (f : zFE τ τ') : zSt m cs D σ τ' :=
  zSt_c h (fun _ _ _ _ => rfl) (fun _ _ => rfl) (fun k q => f.1 _ _ (by omega) (by omega) (by omega)) (fun _ => f.1 _ _ (by omega) (by omega) (by omega)) (fun _ => f.1 _ _ (by omega) (by omega) (by omega))
theorem zMo_E {S : ZS} {τ τ' : ZM} (h : zMo τ S) (f : zFE τ τ') : zMo τ' S := ⟨fun t ht => by rw [f.1 _ _ (by omega) (by omega) (by omega)]; exact h.1 t ht, by rw [f.1 _ _ (by omega) (by omega) (by omega)]; exact h.2⟩
theorem zSt_I {m : Nat} {cs : List ZCl} {D : ZD} {σ τ τ' : ZM} (h : zSt m cs D σ τ) (f : zIn τ τ') : zSt m cs D σ τ' :=
  zSt_c h (fun _ _ _ _ => rfl) (fun _ _ => rfl) (fun k q => f.1 _ _ (by omega) (by omega) (by omega) (by omega)) (fun _ => f.1 _ _ (by omega) (by omega) (by omega) (by omega)) (fun _ => f.1 _ _ (by omega) (by omega) (by omega) (by omega))
theorem zIn_M {a b c : ZM} (h : zIn a b) (f : zFM b c) : zIn a c := ⟨fun o k n1 n2 n3 n4 => (f.1 o k n1 n3 (by omega)).trans (h.1 o k n1 n2 n3 n4), fun k hk => (f.1 _ _ (by omega) (by omega) (by omega)).trans (h.2.1 k hk), fun o k => (f.2.1 o k).trans (h.2.2.1 o k), fun o k => (f.2.2 o k).trans (h.2.2.2 o k)⟩
theorem zIn_H {a b c : ZM} (h : zIn a b) (f : zMH b c) : zIn a c := zIn_M h (zFM_H f)
theorem begin_M {S : ZS} {τ : ZM} (hr : zMo τ S) : ∃ τ', f_Model_begins τ = some ((), τ') ∧ zIn τ τ' ∧ zMo τ' S := by
  obtain ⟨τ', a1, a2, a3, a4⟩ := Mlays (a := 130) (b := 132) (by omega) (by omega) (by omega) τ
  have e : ∀ o k, ¬ o = 132 → zI τ' o k = zI τ o k := fun o k n => by rw [a4, if_neg (by omega)]
  refine ⟨τ', ?_, ⟨fun o k _ n _ _ => e o k n, fun k hk => by rw [a4, if_pos ⟨rfl, hk⟩], a3, a2⟩, fun t ht => by rw [e _ _ (by omega)]; exact hr.1 t ht, by rw [e _ _ (by omega)]; exact hr.2⟩
  unfold f_Model_begins
  rw [a1, zbd_s]
theorem end_M {τ0 τ : ZM} (h : zIn τ0 τ) : ∃ τ', f_Model_ends τ = some ((), τ') ∧ zFE τ0 τ' := by
  obtain ⟨τ', a1, a2, a3, a4⟩ := Mlays (a := 132) (b := 130) (by omega) (by omega) (by omega) τ
  refine ⟨τ', ?_, ⟨fun o k n1 n2 n3 => ?_, fun o k => (a3 o k).trans (h.2.2.1 o k), fun o k => (a2 o k).trans (h.2.2.2 o k)⟩⟩
  · unfold f_Model_ends
    rw [a1, zbd_s]
  · rw [a4]
    by_cases q : o = 130 ∧ k < 92
    · rw [if_pos q, h.2.1 k q.2, q.1]
    · rw [if_neg q]; exact h.1 o k n1 n2 n3 (by omega)
