/-! THE LAW: its loop -/
theorem land63 (x : Int32) : ∃ j, j < 64 ∧ x &&& 63 = nI j := by
  refine ⟨(x &&& 63).toBitVec.toNat, ?_, ?_⟩
  · rw [Int32.toBitVec_and, BitVec.toNat_and]
    exact Nat.lt_of_le_of_lt Nat.and_le_right (by decide)
  · apply Int32.toBitVec_inj.mp
    show _ = BitVec.ofNat 32 _
    rw [BitVec.ofNat_toNat, BitVec.setWidth_eq]
theorem lw_out : ∀ j, j < 64 → 34 ≤ j → 33 < (nI j).toInt := by decide +kernel
theorem lw_more {L i : Nat} (hL : L ≤ 3072) (h1 : i ≤ 3072) (h : ¬ Int32.ofNat L - 6 < nI i) : i + 6 ≤ L := by
  by_cases h6 : 6 ≤ L
  · have e : Int32.ofNat L - 6 = nI (L - 6) := by
      have h2 : nI (L - 6) + nI 6 = nI L := by rw [nI_add, Nat.sub_add_cancel h6]
      show nI L - nI 6 = nI (L - 6)
      rw [← h2, Int32.add_sub_cancel]
    rw [e] at h
    by_cases h3 : i + 6 ≤ L
    · exact h3
    · exact absurd (nI_lt (a := L - 6) (b := i) (by omega) (by omega)) h
  · exfalso
    refine h (Int32.lt_of_lt_of_le (b := 0) ?_ (nI_pos' (by omega)))
    rcases (show L = 0 ∨ L = 1 ∨ L = 2 ∨ L = 3 ∨ L = 4 ∨ L = 5 by omega) with rfl | rfl | rfl | rfl | rfl | rfl <;> decide +kernel
section LLOOP
variable {l : Launch} {θ : ZT} {b0 L : Nat} {xs : Nat → Int32} {σ τ : ZM}
theorem lw_body (hL : L ≤ 3072) {i : Nat} (hi : i + 6 ≤ L) (hR : zRel σ τ) (g : ∀ σ' τ', zRel σ' τ' → WL l θ b0 L xs σ' τ' (zLv θ b0 i) 1285 []) : WL l θ b0 L xs σ τ (zLv θ b0 i) 27 [] := by
  have hc : (nI i).toNatClampNeg = i := nI_clamp (by omega)
  refine l_aload_n 3 d_law_27 rfl rfl (l_iload_n 0 d_law_28 rfl rfl (l_iald (by
    rintro (q | q)
    · exact absurd q (nI_pos (by omega))
    · rw [hc] at q; omega) d_law_29 ?_))
  refine l_bipush (v := 63) d_law_30 (by decide +kernel) (l_iand d_law_32 ?_)
  obtain ⟨j, hj, hx⟩ := land63 (xs (nI i).toNatClampNeg)
  by_cases h0 : j = 0
  · subst h0; exact l_tableIn (k := nI 0) (off := 151) (tgt := 184) d_law_33 hx (by decide +kernel) (lw_case_0 hL hi hR g)
  by_cases h1 : j = 1
  · subst h1; exact l_tableIn (k := nI 1) (off := 184) (tgt := 217) d_law_33 hx (by decide +kernel) (lw_case_1 hL hi hR g)
  by_cases h2 : j = 2
  · subst h2; exact l_tableIn (k := nI 2) (off := 237) (tgt := 270) d_law_33 hx (by decide +kernel) (lw_case_2 hL hi hR g)
  by_cases h3 : j = 3
  · subst h3; exact l_tableIn (k := nI 3) (off := 270) (tgt := 303) d_law_33 hx (by decide +kernel) (lw_case_3 hL hi hR g)
  by_cases h4 : j = 4
  · subst h4; exact l_tableIn (k := nI 4) (off := 303) (tgt := 336) d_law_33 hx (by decide +kernel) (lw_case_4 hL hi hR g)
  by_cases h5 : j = 5
  · subst h5; exact l_tableIn (k := nI 5) (off := 326) (tgt := 359) d_law_33 hx (by decide +kernel) (lw_case_5 hL hi hR g)
  by_cases h6 : j = 6
  · subst h6; exact l_tableIn (k := nI 6) (off := 339) (tgt := 372) d_law_33 hx (by decide +kernel) (lw_case_6 hL hi hR g)
  by_cases h7 : j = 7
  · subst h7; exact l_tableIn (k := nI 7) (off := 362) (tgt := 395) d_law_33 hx (by decide +kernel) (lw_case_7 hL hi hR g)
  by_cases h8 : j = 8
  · subst h8; exact l_tableIn (k := nI 8) (off := 385) (tgt := 418) d_law_33 hx (by decide +kernel) (lw_case_8 hL hi hR g)
  by_cases h9 : j = 9
  · subst h9; exact l_tableIn (k := nI 9) (off := 398) (tgt := 431) d_law_33 hx (by decide +kernel) (lw_case_9 hL hi hR g)
  by_cases h10 : j = 10
  · subst h10; exact l_tableIn (k := nI 10) (off := 441) (tgt := 474) d_law_33 hx (by decide +kernel) (lw_case_10 hL hi hR g)
  by_cases h11 : j = 11
  · subst h11; exact l_tableIn (k := nI 11) (off := 474) (tgt := 507) d_law_33 hx (by decide +kernel) (lw_case_11 hL hi hR g)
  by_cases h12 : j = 12
  · subst h12; exact l_tableIn (k := nI 12) (off := 507) (tgt := 540) d_law_33 hx (by decide +kernel) (lw_case_12 hL hi hR g)
  by_cases h13 : j = 13
  · subst h13; exact l_tableIn (k := nI 13) (off := 540) (tgt := 573) d_law_33 hx (by decide +kernel) (lw_case_13 hL hi hR g)
  by_cases h14 : j = 14
  · subst h14; exact l_tableIn (k := nI 14) (off := 563) (tgt := 596) d_law_33 hx (by decide +kernel) (lw_case_14 hL hi hR g)
  by_cases h15 : j = 15
  · subst h15; exact l_tableIn (k := nI 15) (off := 586) (tgt := 619) d_law_33 hx (by decide +kernel) (lw_case_15 hL hi hR g)
  by_cases h16 : j = 16
  · subst h16; exact l_tableIn (k := nI 16) (off := 609) (tgt := 642) d_law_33 hx (by decide +kernel) (lw_case_16 hL hi hR g)
  by_cases h17 : j = 17
  · subst h17; exact l_tableIn (k := nI 17) (off := 632) (tgt := 665) d_law_33 hx (by decide +kernel) (lw_case_17 hL hi hR g)
  by_cases h18 : j = 18
  · subst h18; exact l_tableIn (k := nI 18) (off := 685) (tgt := 718) d_law_33 hx (by decide +kernel) (lw_case_18 hL hi hR g)
  by_cases h19 : j = 19
  · subst h19; exact l_tableIn (k := nI 19) (off := 728) (tgt := 761) d_law_33 hx (by decide +kernel) (lw_case_19 hL hi hR g)
  by_cases h20 : j = 20
  · subst h20; exact l_tableIn (k := nI 20) (off := 762) (tgt := 795) d_law_33 hx (by decide +kernel) (lw_case_20 hL hi hR g)
  by_cases h21 : j = 21
  · subst h21; exact l_tableIn (k := nI 21) (off := 796) (tgt := 829) d_law_33 hx (by decide +kernel) (lw_case_21 hL hi hR g)
  by_cases h22 : j = 22
  · subst h22; exact l_tableIn (k := nI 22) (off := 845) (tgt := 878) d_law_33 hx (by decide +kernel) (lw_case_22 hL hi hR g)
  by_cases h23 : j = 23
  · subst h23; exact l_tableIn (k := nI 23) (off := 858) (tgt := 891) d_law_33 hx (by decide +kernel) (lw_case_23 hL hi hR g)
  by_cases h24 : j = 24
  · subst h24; exact l_tableIn (k := nI 24) (off := 891) (tgt := 924) d_law_33 hx (by decide +kernel) (lw_case_24 hL hi hR g)
  by_cases h25 : j = 25
  · subst h25; exact l_tableIn (k := nI 25) (off := 904) (tgt := 937) d_law_33 hx (by decide +kernel) (lw_case_25 hL hi hR g)
  by_cases h26 : j = 26
  · subst h26; exact l_tableIn (k := nI 26) (off := 917) (tgt := 950) d_law_33 hx (by decide +kernel) (lw_case_26 hL hi hR g)
  by_cases h27 : j = 27
  · subst h27; exact l_tableIn (k := nI 27) (off := 960) (tgt := 993) d_law_33 hx (by decide +kernel) (lw_case_27 hL hi hR g)
  by_cases h28 : j = 28
  · subst h28; exact l_tableIn (k := nI 28) (off := 983) (tgt := 1016) d_law_33 hx (by decide +kernel) (lw_case_28 hL hi hR g)
  by_cases h29 : j = 29
  · subst h29; exact l_tableIn (k := nI 29) (off := 1016) (tgt := 1049) d_law_33 hx (by decide +kernel) (lw_case_29 hL hi hR g)
  by_cases h30 : j = 30
  · subst h30; exact l_tableIn (k := nI 30) (off := 1039) (tgt := 1072) d_law_33 hx (by decide +kernel) (lw_case_30 hL hi hR g)
  by_cases h31 : j = 31
  · subst h31; exact l_tableIn (k := nI 31) (off := 1082) (tgt := 1115) d_law_33 hx (by decide +kernel) (lw_case_31 hL hi hR g)
  by_cases h32 : j = 32
  · subst h32; exact l_tableIn (k := nI 32) (off := 1155) (tgt := 1188) d_law_33 hx (by decide +kernel) (lw_case_32 hL hi hR g)
  by_cases h33 : j = 33
  · subst h33; exact l_tableIn (k := nI 33) (off := 1189) (tgt := 1222) d_law_33 hx (by decide +kernel) (lw_case_33 hL hi hR g)
  refine l_tableOut (tgt := 1285) d_law_33 (Or.inr ?_) (by decide) (g _ _ hR)
  rw [hx]; exact lw_out j hj (by omega)
theorem lw_loop (hL : L ≤ 3072) : ∀ (n i : Nat) (σ τ : ZM), i ≤ 3072 → L ≤ i + 6 * n → zRel σ τ → WL l θ b0 L xs σ τ (zLv θ b0 i) 18 [] := by
  intro n
  induction n with
  | zero =>
    intro i σ τ h1 h2 hR
    refine l_iload_n 0 d_law_18 rfl rfl (l_aload_n 3 d_law_19 rfl rfl (l_alen d_law_20 (l_bipush (v := 6) d_law_21 (by decide +kernel) (l_isub d_law_23 ?_))))
    refine l_gt (tgt := 1291) d_law_24 (by decide) (fun _ => l_iconst (v := 1) d_law_1291 (by decide +kernel) (l_end d_law_1292)) (fun h => ?_)
    exact absurd (lw_more hL h1 h) (by omega)
  | succ n ih =>
    intro i σ τ h1 h2 hR
    refine l_iload_n 0 d_law_18 rfl rfl (l_aload_n 3 d_law_19 rfl rfl (l_alen d_law_20 (l_bipush (v := 6) d_law_21 (by decide +kernel) (l_isub d_law_23 ?_))))
    refine l_gt (tgt := 1291) d_law_24 (by decide) (fun _ => l_iconst (v := 1) d_law_1291 (by decide +kernel) (l_end d_law_1292)) (fun h => ?_)
    have hi := lw_more hL h1 h
    refine lw_body hL hi hR (fun σ' τ' hR' => ?_)
    refine l_iinc (i := 3) (v := nI (i + 6)) (lv' := zLv θ b0 (i + 6)) 0 d_law_1285 rfl ?_ (by decide) rfl ?_
    · exact (nI_add i 6)
    · exact l_goto (tgt := 18) d_law_1288 (by decide) (ih (i + 6) σ' τ' (by omega) (by omega) hR')
end LLOOP
