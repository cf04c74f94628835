/-! PURE: from the memories to states and back; cold, bake, of -/
theorem nI_cl {x : Int32} {n : Nat} (e : x = nI n) (h : n < 2 ^ 31) : x.toNatClampNeg = n := by rw [e, nI_clamp h]
theorem zRel_St {σ τ : ZM} (h : zRel σ τ) : ∃ m n cs D S, zRs m n σ τ ∧ zSt m cs D σ τ ∧ zSB S ∧ zCo 33 σ S ∧ zMo τ S := by
  obtain ⟨cs, hd⟩ := held_e h
  obtain ⟨⟨m, n, hs⟩, -⟩ := id h
  have hm := hs.1.1
  refine ⟨m, n, cs, (fun i => (zI σ (51 + i) 3).toNatClampNeg, fun i => (zI σ (51 + i) 4).toNatClampNeg, fun i t => (zI σ (63 + i) t).toNatClampNeg, fun i t => (zI σ (75 + i) t).toNatClampNeg), (fun t => (zI σ 42 t).toNatClampNeg, (zI σ 33 1).toNatClampNeg), hs, ⟨hm, (zmany hs).2.2, fun i hi => ?_, hd⟩, ⟨fun t ht => ?_, ?_⟩, ⟨fun t ht => ?_, ?_⟩, fun t ht => ?_, ?_⟩
  · obtain ⟨k, hk, k1, k2⟩ := zkind hs hi
    obtain ⟨v, hv, v1, v2⟩ := zvee hs hi
    have K : (zI σ (51 + i) 3).toNatClampNeg = k := nI_cl k1 (by omega)
    have V : (zI σ (51 + i) 4).toNatClampNeg = v := nI_cl v1 (by omega)
    show zLf i σ τ (zI σ (51 + i) 3).toNatClampNeg (zI σ (51 + i) 4).toNatClampNeg (fun t => (zI σ (63 + i) t).toNatClampNeg) (fun t => (zI σ (75 + i) t).toNatClampNeg)
    rw [K, V]
    refine ⟨hs.2.2 i (by omega), hk, k1, k2, hv, v1, v2, fun t ht => ?_, fun t ht => ?_⟩
    · obtain ⟨g, hg, g1, g2⟩ := zgive hs hi ht
      have G : (zI σ (63 + i) t).toNatClampNeg = g := nI_cl g1 (by omega)
      show (zI σ (63 + i) t).toNatClampNeg ≤ 99 ∧ zI σ (63 + i) t = nI (zI σ (63 + i) t).toNatClampNeg ∧ zI τ 130 (10 + 10 * i + t) = nI (zI σ (63 + i) t).toNatClampNeg
      rw [G]
      exact ⟨hg, g1, g2⟩
    · obtain ⟨g, hg, g1, g2⟩ := zbear hs hi ht
      have G : (zI σ (75 + i) t).toNatClampNeg = g := nI_cl g1 (by omega)
      show (zI σ (75 + i) t).toNatClampNeg ≤ 99 ∧ zI σ (75 + i) t = nI (zI σ (75 + i) t).toNatClampNeg ∧ zI τ 130 (14 + 10 * i + t) = nI (zI σ (75 + i) t).toNatClampNeg
      rw [G]
      exact ⟨hg, g1, g2⟩
  · obtain ⟨g, hg, g1, g2⟩ := zheld hs ht
    show (zI σ 42 t).toNatClampNeg ≤ 9999
    rw [nI_cl g1 (by omega)]; exact hg
  · obtain ⟨g, hg, g1, g2⟩ := zhour hs
    show (zI σ 33 1).toNatClampNeg ≤ 9999
    rw [nI_cl g1 (by omega)]; exact hg
  · obtain ⟨g, hg, g1, g2⟩ := zheld hs ht
    show zI σ 42 t = nI (zI σ 42 t).toNatClampNeg
    rw [nI_cl g1 (by omega)]; exact g1
  · obtain ⟨g, hg, g1, g2⟩ := zhour hs
    show zI σ 33 1 = nI (zI σ 33 1).toNatClampNeg
    rw [nI_cl g1 (by omega)]; exact g1
  · obtain ⟨g, hg, g1, g2⟩ := zheld hs ht
    show zI τ 130 t = nI (zI σ 42 t).toNatClampNeg
    rw [nI_cl g1 (by omega)]; exact g2
  · obtain ⟨g, hg, g1, g2⟩ := zhour hs
    show zI τ 130 4 = nI (zI σ 33 1).toNatClampNeg
    rw [nI_cl g1 (by omega)]; exact g2
/-- what both may scratch -/
def zFK (σ σ' : ZM) : Prop := (∀ o k, ¬ (122 ≤ o ∧ o ≤ 128) → ¬ (35 ≤ o ∧ o ≤ 41) → ¬ (44 ≤ o ∧ o ≤ 50) → ¬ (21 ≤ o ∧ o ≤ 23) → ¬ o = 7 → zI σ' o k = zI σ o k) ∧ (∀ o k, zP σ' o k = zP σ o k) ∧ (∀ o k, zL σ' o k = zL σ o k)
def zFN (τ τ' : ZM) : Prop := (∀ o k, ¬ (o = 129 ∧ 9 ≤ k ∧ k ≤ 20) → ¬ (o = 129 ∧ k = 24) → ¬ o = 132 → ¬ o = 136 → ¬ o = 137 → ¬ o = 138 → zI τ' o k = zI τ o k) ∧ (∀ o k, zP τ' o k = zP τ o k) ∧ (∀ o k, zL τ' o k = zL τ o k)
theorem zFK_r (σ : ZM) : zFK σ σ := ⟨fun _ _ _ _ _ _ _ => rfl, fun _ _ => rfl, fun _ _ => rfl⟩
theorem zFK_t {a b c : ZM} (h : zFK a b) (h2 : zFK b c) : zFK a c := ⟨fun o k n1 n2 n3 n4 n5 => (h2.1 o k n1 n2 n3 n4 n5).trans (h.1 o k n1 n2 n3 n4 n5), fun o k => (h2.2.1 o k).trans (h.2.1 o k), fun o k => (h2.2.2 o k).trans (h.2.2 o k)⟩
theorem zFN_r (τ : ZM) : zFN τ τ := ⟨fun _ _ _ _ _ _ _ _ => rfl, fun _ _ => rfl, fun _ _ => rfl⟩
theorem zFN_t {a b c : ZM} (h : zFN a b) (h2 : zFN b c) : zFN a c := ⟨fun o k n1 n2 n3 n4 n5 n6 => (h2.1 o k n1 n2 n3 n4 n5 n6).trans (h.1 o k n1 n2 n3 n4 n5 n6), fun o k => (h2.2.1 o k).trans (h.2.1 o k), fun o k => (h2.2.2 o k).trans (h.2.2 o k)⟩
theorem zFK_C {X : Nat} {a b : ZM} (hX : 35 ≤ X ∧ X < 42) (h : zFC X a b) : zFK a b := ⟨fun o k n1 n2 n3 _ _ => h.1 o k n1 (by omega) (by omega), h.2.1, h.2.2⟩
theorem zFK_L {a b : ZM} (h : zLt a b) : zFK a b := ⟨fun o k n1 _ _ _ _ => h.1 o k n1, h.2.1, h.2.2⟩
theorem zFN_H {a b : ZM} (h : zMH a b) : zFN a b := ⟨fun o k n1 _ _ _ _ _ => h.1 o k n1, h.2.1, h.2.2⟩
theorem zRel_F {σ σ' τ τ' : ZM} (h : zRel σ τ) (hσ : zFK σ σ') (hτ : zFN τ τ') : zRel σ' τ' := by
  obtain ⟨⟨m, n, hs⟩, hi, ht, ha, hp, hk⟩ := h
  have no : ∀ o, (cS o = true ∨ cI o = true ∨ cK o = true ∨ cA o = true ∨ cP o = true) → ¬ (122 ≤ o ∧ o ≤ 128) ∧ ¬ (35 ≤ o ∧ o ≤ 41) ∧ ¬ (44 ≤ o ∧ o ≤ 50) ∧ ¬ (21 ≤ o ∧ o ≤ 23) ∧ ¬ o = 7 := by
    intro o ho
    simp only [cS, cI, cK, cA, cP, Bool.or_eq_true, Bool.and_eq_true, beq_iff_eq, decide_eq_true_eq] at ho
    omega
  have eC : ∀ o, (cS o = true ∨ cI o = true ∨ cK o = true ∨ cA o = true ∨ cP o = true) → ∀ k, zI σ' o k = zI σ o k := fun o ho k => by
    obtain ⟨a, b, c, d, e⟩ := no o ho
    exact hσ.1 o k a b c d e
  have eM : ∀ o k, ¬ (o = 129 ∧ 9 ≤ k ∧ k ≤ 20) → ¬ (o = 129 ∧ k = 24) → (o = 129 ∨ o = 130 ∨ o = 131 ∨ (133 ≤ o ∧ o ≤ 135) ∨ 139 ≤ o) → zI τ' o k = zI τ o k := fun o k a b c => hτ.1 o k a b (by omega) (by omega) (by omega) (by omega)
  exact ⟨⟨m, n, zRs_c hs (fun o k ho => eC o (Or.inl ho) k) (fun k _ => eM _ _ (by omega) (by omega) (by omega))⟩, zRi_c hi (fun o k ho => eC o (Or.inr (Or.inl ho)) k) (fun k _ => eM _ _ (by omega) (by omega) (by omega)) (eM _ _ (by omega) (by omega) (by omega)), zRt_c ht (hσ.1 _ _ (by omega) (by omega) (by omega) (by omega) (by omega)) (eM _ _ (by omega) (by omega) (by omega)) (fun k _ => hσ.1 _ _ (by omega) (by omega) (by omega) (by omega) (by omega)) (fun k _ => eM _ _ (by omega) (by omega) (by omega)), zRa_c ha (fun o k ho => eC o (Or.inr (Or.inr (Or.inr (Or.inl ho)))) k) (eM _ _ (by omega) (by omega) (by omega)) (fun k _ => eM _ _ (by omega) (by omega) (by omega)), zRp_c hp (fun o k ho => eC o (Or.inr (Or.inr (Or.inr (Or.inr ho)))) k) (fun o k _ => hσ.2.2 o k) (fun k _ => eM _ _ (by omega) (by omega) (by omega)) (fun k _ => eM _ _ (by omega) (by omega) (by omega)) (fun k _ => hτ.2.2 _ _), zRk_c hk (fun o k ho => eC o (Or.inr (Or.inr (Or.inl ho))) k) (hσ.2.1 _ _) (fun k _ => eM _ _ (by omega) (by omega) (by omega)) (fun k _ => eM _ _ (by omega) (by omega) (by omega)) (eM _ _ (by omega) (by omega) (by omega)) (eM _ _ (by omega) (by omega) (by omega)) (eM _ _ (by omega) (by omega) (by omega)) (eM _ _ (by omega) (by omega) (by omega))⟩
theorem zlo_hi : ∀ p, p < 92 → 5 ≤ p → ¬ (zlo 0 p = 42 ∧ zlk p < 4) ∧ ¬ (zlo 0 p = 33 ∧ zlk p = 1) := by decide +kernel
theorem zlo_low : ∀ p, p < 4 → zlo 0 p = 42 ∧ zlk p = p ∧ zmx p = 9999 := by decide +kernel
/-- the oven that is changes, and the row's first places -/
theorem zRel_B {σ σ' τ τ' : ZM} {S : ZS} (h : zRel σ τ) (f : zFC 33 σ σ') (g : zFM τ τ') (hS : zSB S) (hc : zCo 33 σ' S) (hr : zMo τ' S) : zRel σ' τ' := by
  obtain ⟨⟨m, n, ⟨a1, a2, a3, a4, a5⟩, ⟨b1, b2⟩, c⟩, -⟩ := id h
  have h1 : zRs m n (zCst 33 σ S) (zMst τ S) := by
    refine ⟨⟨a1, a2, ?_, ?_, fun p hp => ?_⟩, ⟨?_, fun p hp hv => ?_⟩, fun i hi => ?_⟩
    · rw [zMst_e, if_neg (by omega), if_neg (by omega)]; exact a3
    · rw [zMst_e, if_neg (by omega), if_neg (by omega)]; exact a4
    · by_cases q : p < 4
      · rw [zMst_e, if_pos ⟨rfl, q⟩]
        exact zok_n (by omega) (by rw [(zlo_low p q).2.2]; exact hS.1 p q)
      · by_cases q4 : p = 4
        · rw [zMst_e, if_neg (by omega), if_pos ⟨rfl, q4⟩]
          exact zok_n (by omega) (by rw [q4]; exact hS.2)
        · rw [zMst_e, if_neg (by omega), if_neg (by omega)]
          exact a5 p hp
    · rw [zMst_e, if_neg (by omega), if_neg (by omega), zCst_e, if_neg (by omega), if_neg (by omega)]; exact b1
    · by_cases q : p < 4
      · obtain ⟨e1, e2, -⟩ := zlo_low p q
        rw [e1, e2, zMst_e, if_pos ⟨rfl, q⟩, zCst_e, if_pos ⟨rfl, q⟩]
      · by_cases q4 : p = 4
        · subst q4
          rw [zMst_e, if_neg (by omega), if_pos ⟨rfl, rfl⟩]; rfl
        · obtain ⟨e1, e2⟩ := zlo_hi p (zva_lt a1 hv) (by omega)
          rw [zMst_e, if_neg (by omega), if_neg (by omega), zCst_e, if_neg e1, if_neg e2]
          exact b2 p hp hv
    · rw [zCst_e, if_neg (by omega), if_neg (by omega)]; exact c i hi
  have h2 : zRel (zCst 33 σ S) (zMst τ S) := zRel_S h h1 (fun o k ho => by
      rw [zCst_e, if_neg (by rintro ⟨rfl, -⟩; cases ho), if_neg (by rintro ⟨rfl, -⟩; cases ho)]) (fun _ _ => rfl) (fun _ _ => rfl) (fun o k ho => by rw [zMst_e, if_neg (by omega), if_neg (by omega)]) (fun _ _ => rfl) (by rw [zMst_e, if_neg (by omega), if_neg (by omega)])
  refine zRel_F h2 ⟨fun o k n1 _ _ _ _ => ?_, f.2.1, f.2.2⟩ ⟨fun o k n1 _ _ n4 _ _ => ?_, g.2.1, g.2.2⟩
  · rw [zCst_e]
    by_cases q : o = 33 + 9 ∧ k < 4
    · rw [if_pos q, q.1]; exact hc.1 k q.2
    · rw [if_neg q]
      by_cases q1 : o = 33 ∧ k = 1
      · rw [if_pos q1, q1.1, q1.2]; exact hc.2
      · rw [if_neg q1]; exact f.1 o k n1 q1 q
  · rw [zMst_e]
    by_cases q : o = 130 ∧ k < 4
    · rw [if_pos q, q.1]; exact hr.1 k q.2
    · rw [if_neg q]
      by_cases q1 : o = 130 ∧ k = 4
      · rw [if_pos q1, q1.1, q1.2]; exact hr.2
      · rw [if_neg q1]; exact g.1 o k n1 n4 (by omega)
theorem op_cold {σ τ : ZM} (h : zRel σ τ) : zOK (f_BB_cold σ) (f_Model_cold τ) := by
  obtain ⟨m, n, cs, D, S, hs, st, hS, hc, hr⟩ := zRel_St h
  obtain ⟨σ', e1, f1, g1⟩ := chill_C st (by omega) hS hc
  obtain ⟨τ', e2, f2, g2⟩ := cool_M st hS hr
  unfold f_BB_cold f_Model_cold
  rw [e1, e2, zbd_s, zbd_s, zck_of (show zin (4 : Int32) 92 = true by decide), show (4 : Int32).toNatClampNeg = 4 from rfl, g1.2, g2.2]
  exact ⟨_, _, _, rfl, rfl, zRel_B h f1 f2 (pCl_B cs S) g1 g2⟩
theorem flag_e (b : Bool) (σ : ZM) : f_BB_flag (zbI b) σ = some (zbI b, σ) := by cases b <;> rfl
theorem op_bake {σ τ : ZM} (h : zRel σ τ) (x1 : Int32) : zOK (f_BB_bake x1 σ) (f_Model_bake x1 τ) := by
  obtain ⟨m, n, cs, D, S, hs, st, hS, hc, hr⟩ := zRel_St h
  obtain ⟨hm, m1, m2⟩ := zmany hs
  unfold f_BB_bake f_Model_bake
  simp only [Bloaf_e (show m < 2 ^ 31 by omega) m1, Mloaf_e (show m < 2 ^ 31 by omega) m2, zbd_s, zif]
  cases hz : zin x1 m with
  | false => exact zOK_s h
  | true =>
    obtain ⟨i, hi, hi2, rfl⟩ := zin_t hz
    obtain ⟨σ', e1, f1, g1⟩ := bake_C st (by omega) hS hc hi
    obtain ⟨τ', e2, f2, g2⟩ := bake_M st hS hr hi
    rw [if_pos rfl, if_pos rfl, nI_clamp hi2, zel25, zck_nI (by omega) hi2, zck_of (zRl (by omega)), e1, e2, zbd_s, zbd_s, flag_e, zbd_s]
    refine ⟨zbI (pSp cs D S.1 S.2 i 0 4), σ', τ', rfl, ?_, zRel_B h f1 f2 (pBk_B cs D i S) g1 g2⟩
    cases pSp cs D S.1 S.2 i 0 4 <;> rfl
