/-! PURE: told a kiln -/
theorem zpA_t {T : Nat → Nat} {L : Nat} : ∀ (n a : Nat), (zpA T L n a).1 = true → (zpA T L n a).2.1 = L
  | 0, a, h => by cases h
  | n + 1, a, h => by
    unfold zpA at *
    dsimp only at *
    by_cases q : (zpC T L a).1 = false
    · rw [if_pos q] at h; cases h
    · rw [if_neg q] at h ⊢
      by_cases l : (zpC T L a).2.1 = L
      · rw [if_pos l]
      · rw [if_neg l] at h ⊢
        by_cases b : n = 0 ∨ ¬ zhr T L (zpC T L a).2.1 = 59
        · rw [if_pos b] at h; cases h
        · rw [if_neg b] at h ⊢
          exact zpA_t n _ h
theorem zpA_L {T : Nat → Nat} {L : Nat} : ∀ (n a : Nat), a ≤ L → (zpA T L n a).2.1 ≤ L
  | 0, a, h => h
  | n + 1, a, h => by
    obtain ⟨g1, g2, -⟩ := zpC_G (T := T) h
    unfold zpA
    dsimp only
    by_cases q : (zpC T L a).1 = false
    · rw [if_pos q]; exact g2
    · rw [if_neg q]
      by_cases l : (zpC T L a).2.1 = L
      · rw [if_pos l]; exact Nat.le_refl _
      · rw [if_neg l]
        by_cases b : n = 0 ∨ ¬ zhr T L (zpC T L a).2.1 = 59
        · rw [if_pos b]; exact g2
        · rw [if_neg b]; exact zpA_L n _ (by omega)
def zKc (K o : Nat) : Prop := o = K ∨ o = K + 7 ∨ o = K + 14 ∨ o = K + 21 ∨ o = K + 28
theorem into_e {T : Nat → Nat} {L i : Nat} {σ : ZM} (hi : i < 6) (t : zTx T L σ) :
    ∃ σ', f_Reader_readInto (87 + i) σ = some (if (zpA T L 10 0).1 = true then -1 else nI (zpA T L 10 0).2.1, σ') ∧ (∀ o k, ¬ o = 3 → ¬ zKc (87 + i) o → zI σ' o k = zI σ o k) ∧ (∀ o k, ¬ o = 3 → zP σ' o k = zP σ o k) ∧ (∀ o k, zL σ' o k = zL σ o k) ∧ zI σ' 3 1 = 0 ∧ ((zpA T L 10 0).1 = true → zKB σ' (87 + i) (zpA T L 10 0).2.2) := by
  unfold f_Reader_readInto f_Kiln_empty
  have eP : zP (zsP σ 3 4 (87 + i)) 3 4 = 87 + i := by rw [zP_sP, if_pos ⟨rfl, rfl⟩]
  rw [eP, zck_of (zRkn (by omega)), zck_of (zRkn (by omega)), zck_of (zRkn (by omega)), zbd_s]
  generalize hs : zsI (zsI (zsI (zsI (zsI (zsP σ 3 4 (87 + i)) (87 + i) 5 0) (87 + i) 6 0) (87 + i) 7 0) (87 + i) 8 50) 3 2 0 = σ1
  have g : ∀ o k, ¬ (o = 3 ∧ k = 2) → ¬ o = 87 + i → zI σ1 o k = zI σ o k := fun o k n1 n2 => by
    rw [← hs, zI_sI, if_neg n1, zI_sI, if_neg (fun q => n2 q.1), zI_sI, if_neg (fun q => n2 q.1), zI_sI, if_neg (fun q => n2 q.1), zI_sI, if_neg (fun q => n2 q.1), zI_sP]
  have gP : ∀ o k, ¬ (o = 3 ∧ k = 4) → zP σ1 o k = zP σ o k := fun o k n => by
    rw [← hs, zP_sI, zP_sI, zP_sI, zP_sI, zP_sI, zP_sP, if_neg n]
  have gP4 : zP σ1 3 4 = 87 + i := by rw [← hs, zP_sI, zP_sI, zP_sI, zP_sI, zP_sI]; exact eP
  have gL : ∀ o k, zL σ1 o k = zL σ o k := fun o k => by rw [← hs]; rfl
  have k0 : zKT σ1 (87 + i) [] := by
    refine ⟨⟨by decide, ?_, ?_, ?_, by decide, (fun j c hj => by simp at hj), (fun j c hj => by simp [zsteps] at hj)⟩, ?_⟩
    · rw [← hs, zI_sI, if_neg (by omega), zI_sI, if_neg (by omega), zI_sI, if_neg (by omega), zI_sI, if_neg (by omega), zI_sI, if_pos ⟨rfl, rfl⟩]; rfl
    · rw [← hs, zI_sI, if_neg (by omega), zI_sI, if_neg (by omega), zI_sI, if_pos ⟨rfl, rfl⟩]; rfl
    · rw [← hs, zI_sI, if_neg (by omega), zI_sI, if_pos ⟨rfl, rfl⟩]; rfl
    · rw [← hs, zI_sI, if_neg (by omega), zI_sI, if_neg (by omega), zI_sI, if_neg (by omega), zI_sI, if_pos ⟨rfl, rfl⟩]; rfl
  have t1 : zTx T L σ1 := ⟨t.1, (g 3 1 (by omega) (by omega)).trans t.2.1, fun k hk => ⟨(t.2.2 k hk).1, (g 4 k (by omega) (by omega)).trans (t.2.2 k hk).2⟩⟩
  have a0 : zI σ1 3 2 = nI 0 := by rw [← hs, zI_sI, if_pos ⟨rfl, rfl⟩]; rfl
  obtain ⟨σ', e, ⟨c1, c2, c3⟩, z, k⟩ := clauses_e hi 9 2000 0 [] σ1 rfl (by omega) t1 gP4 k0 (by omega) (by decide) a0
  refine ⟨σ', e, fun o k n1 n2 => ?_, fun o k n1 => (c2 o k).trans (gP o k (fun q => n1 q.1)), fun o k => (c3 o k).trans (gL o k), z, fun z => (k z).1⟩
  simp only [zKc, not_or] at n2
  exact (c1 o k (fun q => n1 q.1) n2.1 n2.2.1 n2.2.2.1 n2.2.2.2.1 n2.2.2.2.2).trans (g o k (fun q => n1 q.1) n2.1)
/-- the relation behind a kiln that was told -/
theorem zRel_K {σ σ' τ τ' : ZM} {c v : Nat} (h : zRel σ τ) (hc : c < 6) (hσ : ∀ o k, ¬ o = 3 → ¬ (o = 0 ∧ k = 10) → ¬ (o = 1 ∧ k = 4) → ¬ zKc (87 + c) o → zI σ' o k = zI σ o k) (hL : ∀ o k, zL σ' o k = zL σ o k)
    (hτ : ∀ o k, ¬ (o = 129 ∧ 7 ≤ k ∧ k ≤ 20) → ¬ (o = 130 ∧ k = 6) → ¬ o = 134 → ¬ o = 135 → zI τ' o k = zI τ o k) (hτL : ∀ o k, zL τ' o k = zL τ o k)
    (z1 : zI σ' 3 1 = 0) (z2 : zI τ' 129 7 = 0) (hv : v ≤ 6) (v1 : zI τ' 130 6 = nI v) (v2 : zI σ' 1 4 = nI v - 1) (hk : zRk σ' τ') : zRel σ' τ' := by
  obtain ⟨⟨m, n, ⟨a, b, i5, i7, iv⟩, ⟨h2, h3⟩, h4⟩, hi, -, ha, hp, -⟩ := h
  have kS : ∀ o, (cS o = true ∨ (cI o = true) ∨ cA o = true ∨ cP o = true) → ¬ o = 3 ∧ ¬ zKc (87 + c) o := by
    intro o ho
    simp only [cS, cI, cA, cP, Bool.or_eq_true, Bool.and_eq_true, beq_iff_eq, decide_eq_true_eq, zKc] at *
    omega
  have t6 : ∀ k, k < 92 → ¬ k = 6 → zI τ' 130 k = zI τ 130 k := fun k _ h6 => hτ _ _ (by omega) (by omega) (by omega) (by omega)
  refine ⟨⟨m, n, ⟨a, b, by rw [t6 _ (by omega) (by omega)]; exact i5, by rw [t6 _ (by omega) (by omega)]; exact i7, fun p hpv => ?_⟩, ⟨by rw [v1]; exact v2, fun p hp6 hpv => ?_⟩, fun i hi => ?_⟩, ?_, ⟨0, by omega, z1, z2, fun k hk => by omega⟩, zRa_c ha (fun o k ho => ?_) (hτ _ _ (by omega) (by omega) (by omega) (by omega)) (fun k _ => hτ _ _ (by omega) (by omega) (by omega) (by omega)), zRp_c hp (fun o k ho => ?_) (fun o k _ => hL o k) (fun k _ => hτ _ _ (by omega) (by omega) (by omega) (by omega)) (fun k _ => hτ _ _ (by omega) (by omega) (by omega) (by omega)) (fun k _ => hτL _ _), hk⟩
  · have hl := zva_lt a hpv
    by_cases q : p = 6
    · subst q; rw [v1]; exact Or.inl ⟨v, hv, rfl, fun q => by omega⟩
    · rw [t6 p hl q]; exact iv p hpv
  · have hl := zva_lt a hpv
    obtain ⟨x1, x2⟩ := kS _ (Or.inl (zlo_S p hl))
    rw [t6 p hl hp6, hσ _ _ x1 (fun q => by have := zlo_S p hl; rw [q.1] at this; cases this) (fun q => hp6 (zlo_inj p hl 6 (by omega) q.1 q.2)) x2]
    exact h3 p hp6 hpv
  · rw [hσ _ _ (by omega) (by omega) (by omega) (by simp only [zKc]; omega)]; exact h4 i hi
  · have s11 : zI σ' 0 11 = zI σ 0 11 := hσ _ _ (by omega) (by omega) (by omega) (by simp only [zKc]; omega)
    have s3 : zI τ' 129 3 = zI τ 129 3 := hτ _ _ (by omega) (by omega) (by omega) (by omega)
    rcases hi with ⟨w1, w2⟩ | ⟨w1, w2, m', n', w3, w4, w5⟩
    · exact Or.inl ⟨s11.trans w1, s3.trans w2⟩
    · refine Or.inr ⟨s11.trans w1, s3.trans w2, m', n', zInv_c w3 (fun k _ => hτ _ _ (by omega) (by omega) (by omega) (by omega)), ?_, fun p hp6 hpv => ?_⟩
      · rw [hσ 2 4 (by omega) (by omega) (by omega) (by simp only [zKc]; omega), hτ 131 6 (by omega) (by omega) (by omega) (by omega)]; exact w4
      · have hl := zva_lt w3.1 hpv
        have hI := zlo_I p hl
        obtain ⟨x1, x2⟩ := kS _ (Or.inr (Or.inl hI))
        rw [hσ _ _ x1 (fun q => absurd q.1 ((by decide +kernel : ∀ p, p < 92 → zlo 1 p ≠ 0) p hl)) (fun q => by rw [q.1] at hI; cases hI) x2, hτ 131 p (by omega) (by omega) (by omega) (by omega)]
        exact w5 p hp6 hpv
  · obtain ⟨x1, x2⟩ := kS _ (Or.inr (Or.inr (Or.inl ho)))
    exact hσ _ _ x1 (fun q => by rw [q.1] at ho; cases ho) (fun q => by rw [q.1] at ho; cases ho) x2
  · obtain ⟨x1, x2⟩ := kS _ (Or.inr (Or.inr (Or.inr ho)))
    exact hσ _ _ x1 (fun q => by rw [q.1] at ho; cases ho) (fun q => by rw [q.1] at ho; cases ho) x2
theorem mk14_u (N : Nat) (x : Int32) (σ : ZM) : F_Model_kiln_14 (N + 1) (x, σ) = f_Model_kiln_14 (F_Model_kiln_14 N) x σ := rfl
theorem mcopy {c n : Nat} (hc : c < 6) (hn : n ≤ 100) : ∀ (d k N : Nat) (τ : ZM), k + d = n → d < N → zI τ 129 7 = nI n → zI τ 129 8 = nI c →
    ∃ (τ' : ZM) (K : Int32 × ZM → Option (Int32 × ZM)), F_Model_kiln_14 N (nI k, τ) = f_Model_kiln_14 K (nI n) τ' ∧ (∀ o j, zI τ' o j = if o = 134 ∧ 100 * c + k ≤ j ∧ j < 100 * c + n then zI τ 133 (j - 100 * c) else zI τ o j) ∧ (∀ o j, zP τ' o j = zP τ o j) ∧ (∀ o j, zL τ' o j = zL τ o j) := by
  intro d
  induction d with
  | zero =>
    intro k N τ hk hN h7 h8
    obtain ⟨N, rfl⟩ : ∃ M, N = M + 1 := ⟨N - 1, by omega⟩
    obtain rfl : k = n := by omega
    exact ⟨τ, _, mk14_u _ _ _, fun o j => by rw [if_neg (by omega)], fun _ _ => rfl, fun _ _ => rfl⟩
  | succ d ih =>
    intro k N τ hk hN h7 h8
    obtain ⟨N, rfl⟩ : ∃ M, N = M + 1 := ⟨N - 1, by omega⟩
    have e : F_Model_kiln_14 (N + 1) (nI k, τ) = F_Model_kiln_14 N (nI (k + 1), zsI τ 134 (100 * c + k) (zI τ 133 k)) := by
      rw [mk14_u]
      unfold f_Model_kiln_14
      rw [h7, if_neg (nI_ge (by omega) (by omega)), h8, show (100 : Int32) * nI c = nI (100 * c) from nI_mul 100 c, nI_add, show nI k + (1 : Int32) = nI (k + 1) from nI_add _ 1, zck_nI (by omega) (by omega), zck_nI (by omega) (by omega), nI_clamp (by omega), nI_clamp (by omega)]
    obtain ⟨τ', K, a1, a2, a3, a4⟩ := ih (k + 1) N (zsI τ 134 (100 * c + k) (zI τ 133 k)) (by omega) (by omega) (by rw [zI_sI, if_neg (by omega)]; exact h7) (by rw [zI_sI, if_neg (by omega)]; exact h8)
    refine ⟨τ', K, e.trans a1, fun o j => ?_, a3, a4⟩
    rw [a2]
    by_cases q : o = 134 ∧ 100 * c + k ≤ j ∧ j < 100 * c + n
    · rw [if_pos q]
      by_cases w : j = 100 * c + k
      · rw [if_neg (by omega), zI_sI, if_pos ⟨q.1, w⟩, w, Nat.add_sub_cancel_left]
      · rw [if_pos (by omega), zI_sI, if_neg (by omega)]
    · rw [if_neg q, if_neg (by omega), zI_sI, if_neg (by omega)]
