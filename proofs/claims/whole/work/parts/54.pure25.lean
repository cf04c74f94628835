/-! PURE: the kiln that holds -/
def zGc (c : ZCl) : Prop := c.1 < 4 ∧ c.2.1 ≤ 99 ∧ zVS c.2.2 ∧ (¬ c.1 = 2 → zOKS 11 c.2.2)
theorem zpC_good {T : Nat → Nat} {L a : Nat} (ha : a ≤ L) (h : (zpC T L a).1 = true) : zGc (zpC T L a).2.2 := by
  obtain ⟨-, -, g⟩ := zpC_G (T := T) ha
  rcases g h with ⟨-, -, a1, a2, a3, a4⟩ | ⟨a1, -, a2, a3⟩
  · exact ⟨a1, a2, a3, fun _ => a4⟩
  · exact ⟨by omega, a3, (by rw [a1]; intro s hs; cases hs), fun q => absurd a2 q⟩
theorem zpA_good {T : Nat → Nat} {L : Nat} : ∀ (n a : Nat), a ≤ L → (zpA T L n a).1 = true → ∀ c ∈ (zpA T L n a).2.2, zGc c
  | 0, a, _, h => by cases h
  | n + 1, a, ha, h => by
    have g := zpC_good (T := T) ha
    obtain ⟨g1, g2, -⟩ := zpC_G (T := T) ha
    unfold zpA at *
    dsimp only at *
    by_cases q : (zpC T L a).1 = false
    · rw [if_pos q] at h; cases h
    · rw [if_neg q] at h ⊢
      have g := g (by simpa using q)
      by_cases l : (zpC T L a).2.1 = L
      · rw [if_pos l]
        intro c hc
        rw [List.mem_singleton.mp hc]; exact g
      · rw [if_neg l] at h ⊢
        by_cases b : n = 0 ∨ ¬ zhr T L (zpC T L a).2.1 = 59
        · rw [if_pos b] at h; cases h
        · rw [if_neg b] at h ⊢
          intro c hc
          rcases List.mem_cons.mp hc with rfl | hc
          · exact g
          · exact zpA_good n _ (by omega) h c hc
/-- the memories go on together when only the class's letters and the reference's readings change -/
theorem zRel_L {σ σ' τ τ' : ZM} (h : zRel σ τ) (hσ : ∀ o k, ¬ (122 ≤ o ∧ o ≤ 128) → zI σ' o k = zI σ o k) (hP : ∀ o k, zP σ' o k = zP σ o k) (hL : ∀ o k, zL σ' o k = zL σ o k) (hτ : zMH τ τ') : zRel σ' τ' := by
  obtain ⟨⟨m, n, hs⟩, hi, ht, ha, hp, hk⟩ := h
  have no : ∀ o, (cS o = true ∨ cI o = true ∨ cK o = true ∨ cA o = true ∨ cP o = true) → ¬ (122 ≤ o ∧ o ≤ 128) := by
    intro o ho
    simp only [cS, cI, cK, cA, cP, Bool.or_eq_true, Bool.and_eq_true, beq_iff_eq, decide_eq_true_eq] at ho
    omega
  exact ⟨⟨m, n, zRs_c hs (fun o k ho => hσ o k (no o (Or.inl ho))) (fun k _ => hτ.1 _ _ (by omega))⟩, zRi_c hi (fun o k ho => hσ o k (no o (Or.inr (Or.inl ho)))) (fun k _ => hτ.1 _ _ (by omega)) (hτ.1 _ _ (by omega)), zRt_c ht (hσ _ _ (by omega)) (hτ.1 _ _ (by omega)) (fun k _ => hσ _ _ (by omega)) (fun k _ => hτ.1 _ _ (by omega)), zRa_c ha (fun o k ho => hσ o k (no o (Or.inr (Or.inr (Or.inr (Or.inl ho)))))) (hτ.1 _ _ (by omega)) (fun k _ => hτ.1 _ _ (by omega)), zRp_c hp (fun o k ho => hσ o k (no o (Or.inr (Or.inr (Or.inr (Or.inr ho)))))) (fun o k _ => hL o k) (fun k _ => hτ.1 _ _ (by omega)) (fun k _ => hτ.1 _ _ (by omega)) (fun k _ => hτ.2.2 _ _), zRk_c hk (fun o k ho => hσ o k (no o (Or.inr (Or.inr (Or.inl ho))))) (hP _ _) (fun k _ => hτ.1 _ _ (by omega)) (fun k _ => hτ.1 _ _ (by omega)) (hτ.1 _ _ (by omega)) (hτ.1 _ _ (by omega)) (hτ.1 _ _ (by omega)) (hτ.1 _ _ (by omega))⟩
/-- what both know of the kiln that holds: its clauses -/
def zHd (σ τ : ZM) (cs : List ZCl) : Prop :=
  zKB σ (zP σ 5 0) cs ∧ (∃ j, j < 7 ∧ zP σ 5 0 = 87 + j) ∧ (∀ c ∈ cs, zGc c) ∧ ∀ (l t : Nat) (τ2 : ZM), l < 6 → t < 4 → (∀ k, zI τ2 134 k = zI τ 134 k) → (∀ k, zI τ2 135 k = zI τ 135 k) → zI τ2 130 6 = zI τ 130 6 →
    ∃ τ', f_Model_readsNow (nI l) (nI t) τ2 = some ((), τ') ∧ zMH τ2 τ' ∧ zRd τ2 l t cs τ'
theorem held_e {σ τ : ZM} (h : zRel σ τ) : ∃ cs, zHd σ τ cs := by
  obtain ⟨-, -, -, -, -, c, hh, c1, c2, c3, c4, c5, c6, c7, c8, c9⟩ := h
  by_cases q : hh = 0
  · subst q
    refine ⟨[], by rw [c8]; exact c5, ⟨6, by omega, c8⟩, (fun c hc => by cases hc), fun l t τ2 hl ht e4 e5 e6 => ?_⟩
    obtain ⟨τ', a1, a2, a3⟩ := reads_0 (τ := τ2) hl ht
    refine ⟨τ', ?_, a2, a3⟩
    unfold f_Model_readsNow
    rw [zck_of (show zin 6 92 = true by decide), show (6 : Int32).toNatClampNeg = 6 from rfl, e6, c7, show nI 0 - (1 : Int32) = -1 by decide, a1]; rfl
  · obtain ⟨L, T, cs, d1, d2, d3, d4, d5⟩ := c4 (hh - 1) (by omega)
    have ek : zkid hh = 87 + (hh - 1) := by simp only [zkid, if_neg q]; omega
    have dz : (zpA T L 10 0).1 = true := by rw [d4]
    have dc : (zpA T L 10 0).2.2 = cs := by rw [d4]
    refine ⟨cs, by rw [c8, ek]; exact d5, ⟨hh - 1, by omega, by rw [c8, ek]⟩, fun c hc => zpA_good (T := T) (L := L) 10 0 (by omega) dz c (by rw [dc]; exact hc), fun l t τ2 hl ht e4 e5 e6 => ?_⟩
    obtain ⟨τ', a1, a2, -, -, a3⟩ := reads_p (T := T) (L := L) (i := hh - 1) (τ := τ2) (by omega) hl ht d1 (by rw [e5]; exact d2) (fun k hk => ⟨(d3 k hk).1, by rw [e4]; exact (d3 k hk).2⟩)
    refine ⟨τ', ?_, a2, by rw [← dc]; exact a3 dz⟩
    unfold f_Model_readsNow
    rw [zck_of (show zin 6 92 = true by decide), show (6 : Int32).toNatClampNeg = 6 from rfl, e6, c7, show nI hh - (1 : Int32) = nI (hh - 1) from nI_subE (b := 1) (by omega), a1]; rfl
theorem op_told {σ τ : ZM} (h : zRel σ τ) (x1 : Int32) : zOK (f_BB_told x1 σ) (f_Model_told x1 τ) := by
  obtain ⟨cs, hb, ⟨j, hj, ej⟩, -, hr⟩ := held_e h
  obtain ⟨⟨m, n, hs⟩, -⟩ := id h
  obtain ⟨τ', e1, f1, r1, r2, -⟩ := hr 0 0 τ (by omega) (by omega) (fun _ => rfl) (fun _ => rfl) rfl
  have h' : zRel σ τ' := zRel_L h (fun _ _ _ => rfl) (fun _ _ => rfl) (fun _ _ => rfl) f1
  unfold f_BB_told f_Model_told
  simp only [isInM_e (M := 5) x1 5 rfl (by omega), Btaste_e, zbd_s, zif]
  rw [show (0 : Int32) = nI 0 from rfl, e1, zbd_s]
  rcases zc3 x1 6 with hx | ⟨p, hp, hp2, rfl⟩ | ⟨p, hp, hp2, rfl⟩
  · have n4 : ¬ x1 = 4 := fun q => by rw [q] at hx; exact absurd hx (by decide)
    have n5 : ¬ x1 = 5 := fun q => by rw [q] at hx; exact absurd hx (by decide)
    rw [zin_neg hx, zin_neg hx, if_neg (show ¬ false = true by decide), if_neg (show ¬ false = true by decide), if_neg n4, if_neg n5]; exact zOK_s h
  · rw [zin_nI hp2, zin_nI hp2, decide_eq_true hp, if_pos (show true = true from rfl)]
    by_cases q : p < 4
    · rw [decide_eq_true q, if_pos (show true = true from rfl), if_neg (fun q2 => by have := (nI_eq (a := p) (b := 5) (by omega) (by omega)).mp q2; omega), zck_t, zck_nI (by omega) hp2, nI_clamp hp2]
      refine ⟨_, _, _, rfl, ?_, h'⟩
      rw [f1.1 130 p (by omega)]
      have e := hs.2.1.2 p (by omega) (by simp only [zva, Bool.or_eq_true, decide_eq_true_eq]; omega)
      have e2 : zlo 0 p = 42 := by unfold zlo; rw [if_pos q]
      have e3 : zlk p = p := by unfold zlk; rw [if_pos q]
      rw [e2, e3] at e
      rw [e]
    · rw [decide_eq_false q, if_neg (show ¬ false = true by decide)]
      have : p = 4 ∨ p = 5 := by omega
      rcases this with rfl | rfl
      · rw [if_pos (show nI 4 = 4 from rfl), if_neg (show ¬ nI 4 = 5 by decide), zck_of (show zin (nI 4) 92 = true by decide), show (nI 4).toNatClampNeg = 4 from rfl]
        refine ⟨_, _, _, rfl, ?_, h'⟩
        rw [f1.1 130 4 (by omega)]
        have e := hs.2.1.2 4 (by omega) rfl
        rw [show zI σ 33 1 = zI τ 130 4 from e]
      · rw [if_neg (show ¬ nI 5 = 4 by decide), if_pos (show nI 5 = 5 from rfl), if_pos (show nI 5 = 5 from rfl), ej, zck_of (zRkn hj)]
        rw [ej] at hb
        refine ⟨_, _, _, rfl, ?_, h'⟩
        rw [r2, hb.2.2.2.1]
  · have n4 : ¬ nI p = 4 := fun q => by have := (nI_eq (a := p) (b := 4) (by omega) (by omega)).mp q; omega
    have n5 : ¬ nI p = 5 := fun q => by have := (nI_eq (a := p) (b := 5) (by omega) (by omega)).mp q; omega
    rw [zin_nI hp2, zin_nI hp2, decide_eq_false (show ¬ p < 4 by omega), decide_eq_false (show ¬ p < 6 by omega), if_neg (show ¬ false = true by decide), if_neg (show ¬ false = true by decide), if_neg n4, if_neg n5]; exact zOK_s h
