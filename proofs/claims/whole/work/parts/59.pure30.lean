/-! PURE: fees -/
theorem fee_b {m X s o i : Nat} {cs : List ZCl} {D : ZD} {H : Nat → Nat} {σ τ : ZM} (h : zBk m X s cs σ τ D H o) (hi : i < m) :
    ∃ σ', f_Baker_feeOf (51 + i) (nI o) σ = some (nI (1 + zsmB (zlq i (D.1 i) (D.2.1 i) 0 (H 0) o 1) 3 cs), σ') ∧ zLt σ σ' := by
  obtain ⟨hm, -, lf, -, ⟨hb, ⟨j, hj, ej⟩, hg, -⟩⟩ := id h
  obtain ⟨σ', e, f1, f2, f3, f4⟩ := look_e (a := 0) (d := 0) (i7 := j) (i := i) (l := i) (x2 := 99) (x3 := 99) (x4 := nI o) (σ := σ) hj (zRl (by omega)) (lf i hi).n0 (by omega)
  rw [ej] at hb
  have hb2 : zKB σ' (87 + j) cs := zKB_c hb (fun k => f1 _ _ (by omega)) (fun k => f1 _ _ (by omega)) (fun k => f1 _ _ (by omega)) (fun k => f1 _ _ (by omega)) (fun k => f1 _ _ (by omega))
  unfold f_Baker_feeOf
  rw [zck_of (zRl (by omega)), ej, zck_of (zRkn hj), e, zbd_s, f2, ej, zck_of (zRkn hj), show (3 : Int32) = nI 3 from rfl, sum_e (lam := zlq i (D.1 i) (D.2.1 i) 0 (H 0) o 1) hj hb2 hg (by decide) (by decide) (fun li hli => by
    rw [f4 li hli]
    unfold zlq
    rw [(lf i hi).k1, (lf i hi).v1]
    rfl), zbd_s, show (1 : Int32) = nI 1 from rfl, nI_add]
  exact ⟨_, rfl, ⟨fun o k n => f1 o k (by omega), f2, f3⟩⟩
theorem fee_m {m X s o i : Nat} {cs : List ZCl} {D : ZD} {H : Nat → Nat} {σ τ : ZM} (h : zBk m X s cs σ τ D H o) (hi : i < m) :
    ∃ τ', f_Model_feeOf (nI i) τ = some (nI (1 + zsmB (zlq i (D.1 i) (D.2.1 i) 0 (H 0) o 1) 3 cs), τ') ∧ zMH τ τ' := by
  obtain ⟨hm, m2, lf, -, ⟨hb, -, hg, hr⟩⟩ := id h
  obtain ⟨τ', e1, f1, r1, r2, r3⟩ := hr i 0 τ (by omega) (by omega) (fun _ => rfl) (fun _ => rfl) rfl
  have m0 : ¬ zI τ 130 5 = 0 := by rw [m2]; exact nI_ne0 (by omega) (by omega)
  unfold f_Model_feeOf
  rw [show (0 : Int32) = nI 0 from rfl, e1, zbd_s, (r3 m0).2.2, zlm_n h hi (by omega)]
  exact ⟨_, rfl, f1⟩
