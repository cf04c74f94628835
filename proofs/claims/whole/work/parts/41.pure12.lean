/-! PURE: what the image kept comes back; shifting -/
theorem op_undo {σ τ : ZM} (h : zRel σ τ) : zOK (f_BB_undo σ) (f_Model_undo τ) := by
  obtain ⟨⟨m0, n0, hs⟩, hi, ht, ha, hp, hk⟩ := id h
  unfold f_BB_undo f_Model_undo f_Stand_become f_BB_undo_54
  rcases hi with ⟨i1, i2⟩ | ⟨i1, i2, m, n, hA, hB⟩
  · rw [i1, i2, if_pos (show nI 0 = 0 from rfl), if_pos (show nI 0 = 0 from rfl)]; exact zOK_s h
  · rw [i1, i2, if_neg (show ¬ nI 1 = 0 by decide), if_neg (show ¬ nI 1 = 0 by decide)]
    obtain ⟨hm, hn, hA5, hA7, hAr⟩ := id hA
    have m1 : zI σ (1 + 1) 3 = nI m := (hB.2 5 (by omega) rfl).trans hA5
    have n1 : zI σ (27 + 1) 2 = nI n := (hB.2 7 (by omega) rfl).trans hA7
    obtain ⟨σ1, a1, a2, a3, a4⟩ := Sb_loop (dx := 0) (dy := 1) (Or.inl ⟨rfl, rfl⟩) hm hn m 0 2000 σ (by omega) (by omega) m1 n1 (zbook hA hB (by omega))
    obtain ⟨τ1, b1, b2, b3, b4⟩ := Mlays (a := 131) (b := 130) (by omega) (by omega) (by omega) τ
    have hcp : zCp 0 1 m n σ σ1 := a4
    have out : ∀ {o j : Nat}, cS o = false → zI σ1 o j = zI σ o j := fun {o j} ho => zCp_out hm hcp (by
      simp only [cS, Bool.or_eq_false_iff, Bool.and_eq_false_iff, beq_eq_false_iff_ne, decide_eq_false_iff_not] at ho
      omega)
    have z12 : zck (zR 0 129 1 20 0) (zck (zR 0 129 2 20 0) (F_Stand_become_2 2000 (1, 2, 0, σ))) = some ((), σ1) := a1
    obtain ⟨c, hh0, c1, c2, c3, c4, c5, c6, c7, c8, c9⟩ := hk
    obtain ⟨hh, hc, hA6⟩ := c9 i2
    have s14 : zI σ1 1 4 = nI hh - 1 := by
      rw [hcp, if_pos ⟨rfl, rfl⟩]; exact hB.1.trans (by rw [hA6])
    rw [z12, b1, zbd_s, zbd_s, zck_of (show zin 5 92 = true by decide), s14]
    have e13 : ∀ y, zI (zsP σ1 5 0 y) 1 3 = nI m := fun y => by
      rw [zI_sP, hcp, if_neg (by omega), if_neg (by omega), if_neg (by omega), if_neg (by omega), if_neg (by omega), if_neg (by omega), if_pos (by omega)]
    have e5 : zI τ1 130 (5 : Int32).toNatClampNeg = nI m := by
      show zI τ1 130 5 = _
      rw [b4, if_pos (by omega)]; exact hA5
    have key : zRel (zsP σ1 5 0 (zkid hh)) τ1 := by
      have oK : ∀ {o : Nat}, (cI o = true ∨ cK o = true ∨ cA o = true ∨ cP o = true ∨ o = 3 ∨ o = 4) → cS o = false := by
        intro o ho
        simp only [cS, cI, cK, cA, cP, Bool.or_eq_true, Bool.and_eq_true, beq_iff_eq, decide_eq_true_eq, Bool.or_eq_false_iff, Bool.and_eq_false_iff, beq_eq_false_iff_ne, decide_eq_false_iff_not] at ho ⊢
        omega
      refine ⟨⟨m, n, zInv_c hA (fun k hk => by rw [b4, if_pos ⟨rfl, hk⟩]), ⟨?_, fun p hp6 hv => ?_⟩, fun i hi => ?_⟩, Or.inr ⟨?_, ?_, m, n, zInv_c hA (fun k hk => ?_), ⟨?_, fun p hp6 hv => ?_⟩⟩, zRt_c ht ?_ ?_ (fun k _ => ?_) (fun k _ => ?_), zRa_c ha (fun o k ho => ?_) ?_ (fun k _ => ?_), zRp_c hp (fun o k ho => ?_) (fun o k _ => a2 o k) (fun k _ => ?_) (fun k _ => ?_) (fun k _ => b2 _ _), ?_⟩
      · rw [zI_sP, s14, b4, if_pos (by omega), hA6]
      · rw [zI_sP, zCp_at (Or.inl ⟨rfl, rfl⟩) hm hcp m1 n1 hp6 hv, b4, if_pos ⟨rfl, zva_lt hm hv⟩]
        exact hB.2 p hp6 hv
      · rw [zI_sP, hcp, if_neg (by omega), if_neg (by omega), if_neg (by omega), if_neg (by omega), if_neg (by omega), if_neg (by omega), if_neg (by omega), if_neg (by omega), if_neg (by omega), if_neg (by omega)]; exact hs.2.2 i hi
      · rw [zI_sP, out rfl]; exact i1
      · rw [b4, if_neg (by omega)]; exact i2
      · rw [b4, if_neg (by omega)]
      · rw [zI_sP, out rfl, b4, if_neg (by omega)]; exact hB.1
      · have hl := zva_lt hm hv
        rw [zI_sP, out (oK (Or.inl (zlo_I p hl))), b4, if_neg (by omega)]; exact hB.2 p hp6 hv
      · rw [zI_sP]; exact out rfl
      · rw [b4, if_neg (by omega)]
      · rw [zI_sP]; exact out rfl
      · rw [b4, if_neg (by omega)]
      · rw [zI_sP]; exact out (oK (Or.inr (Or.inr (Or.inl ho))))
      · rw [b4, if_neg (by omega)]
      · rw [b4, if_neg (by omega)]
      · rw [zI_sP]; exact out (oK (Or.inr (Or.inr (Or.inr (Or.inl ho)))))
      · rw [b4, if_neg (by omega)]
      · rw [b4, if_neg (by omega)]
      · have hKK : ∀ o k, cK o = true → zI (zsP σ1 5 0 (zkid hh)) o k = zI σ o k := fun o k ho => by
          rw [zI_sP]; exact out (oK (Or.inr (Or.inl ho)))
        refine ⟨c, hh, c1, by rw [hKK _ _ rfl]; exact c2, by rw [b4, if_neg (by omega)]; exact c3, fun i hi => zKR_c (c4 i hi) (by omega) hKK (fun k _ => by rw [b4, if_neg (by omega)]) (fun k _ => by rw [b4, if_neg (by omega)]), zKB_k c5 (by omega) hKK, hc, by rw [b4, if_pos (by omega)]; exact hA6, by rw [zP_sP, if_pos ⟨rfl, rfl⟩], fun _ => ⟨hh, hc, by rw [b4, if_neg (by omega)]; exact hA6⟩⟩
    by_cases q : hh = 0
    · subst q
      rw [if_neg (show ¬ (0 : Int32) ≤ nI 0 - 1 by decide), e13, e5]
      exact ⟨_, _, _, rfl, rfl, key⟩
    · have e : nI hh - 1 = nI (hh - 1) := nI_subE (a := hh) (b := 1) (by omega)
      rw [e, if_pos (nI_pos' (by omega))]
      simp (disch := omega) only [nI_clamp, zck_nI, zel20]
      rw [zck_of (zRkn (by omega)), e13, e5]
      have ek : zkid hh = 87 + (hh - 1) := by simp only [zkid, if_neg q]; omega
      rw [ek] at key
      exact ⟨_, _, _, rfl, rfl, key⟩
theorem Mz_u (N : Nat) (a b c d e f : Int32) (σ : ZM) : F_Model_shift_102 (N + 1) (a, b, c, d, e, f, σ) = f_Model_shift_102 (F_Model_shift_102 N) a b c d e f σ := rfl
/-- the row after k of n places have come, from the front (b false) or from the back -/
theorem Mz_loop {s t i j n : Nat} (hs : s < 6) (ht : t < 6) (hi : i + n ≤ 60) (hj : j + n ≤ 60) : ∀ (d k : Nat) (N : Nat) (σ σ0 : ZM), k + d = n → d < N →
    (∀ p, zL σ 141 p = if (i ≤ j ∧ 60 * t + j + (n - k) ≤ p ∧ p < 60 * t + j + n) ∨ (¬ i ≤ j ∧ 60 * t + j ≤ p ∧ p < 60 * t + j + k) then zL σ0 141 (60 * s + i + (p - (60 * t + j))) else zL σ0 141 p) →
    ∃ σ', F_Model_shift_102 N (nI s, nI i, nI t, nI j, nI n, nI k, σ) = some (nI n, σ') ∧ (∀ o p, zI σ' o p = zI σ o p) ∧ (∀ o p, zP σ' o p = zP σ o p) ∧ (∀ p, zL σ' 141 p = if 60 * t + j ≤ p ∧ p < 60 * t + j + n then zL σ0 141 (60 * s + i + (p - (60 * t + j))) else zL σ0 141 p) := by
  intro d
  induction d with
  | zero =>
    intro k N σ σ0 hk hN hL
    obtain ⟨N, rfl⟩ : ∃ K, N = K + 1 := ⟨N - 1, by omega⟩
    refine ⟨σ, ?_, fun _ _ => rfl, fun _ _ => rfl, fun p => ?_⟩
    · rw [Mz_u]
      unfold f_Model_shift_102
      rw [if_pos (nI_le (by omega) (by omega))]
    · rw [hL p]
      by_cases q : 60 * t + j ≤ p ∧ p < 60 * t + j + n
      · rw [if_pos q, if_pos (by omega)]
      · rw [if_neg q, if_neg (by omega)]
  | succ d ih =>
    intro k N σ σ0 hk hN hL
    obtain ⟨N, rfl⟩ : ∃ K, N = K + 1 := ⟨N - 1, by omega⟩
    by_cases c : i ≤ j
    · obtain ⟨σ', a1, a2, a3, a4⟩ := ih (k + 1) N (zsL σ 141 (60 * t + j + (n - 1 - k)) (zL σ 141 (60 * s + i + (n - 1 - k)))) σ0 (by omega) (by omega) (fun p => by
        rw [zL_sL, hL p, hL]
        by_cases q : p = 60 * t + j + (n - 1 - k)
        · rw [if_pos ⟨rfl, q⟩, if_neg (by
            intro w
            rcases Nat.lt_trichotomy s t with z | z | z
            · omega
            · subst z; omega
            · omega), if_pos (by omega)]
          congr 1; omega
        · rw [if_neg (fun z => q z.2)]
          by_cases w : (i ≤ j ∧ 60 * t + j + (n - k) ≤ p ∧ p < 60 * t + j + n)
          · rw [if_pos (Or.inl w), if_pos (by omega)]
          · rw [if_neg (by omega), if_neg (by omega)])
      refine ⟨σ', ?_, a2, a3, a4⟩
      rw [← a1, Mz_u]
      unfold f_Model_shift_102 f_Model_shift_127
      rw [if_neg (nI_ge (by omega) (by omega)), if_pos (nI_le c (by omega)), show (1 : Int32) = nI 1 from rfl, nI_subE (by omega), nI_subE (by omega)]
      simp (disch := omega) only [zbd_s, zck_t, zlit, nI_add, nI_mul, nI_clamp, zck_nI, zbl_0, zbl_1]
    · obtain ⟨σ', a1, a2, a3, a4⟩ := ih (k + 1) N (zsL σ 141 (60 * t + j + k) (zL σ 141 (60 * s + i + k))) σ0 (by omega) (by omega) (fun p => by
        rw [zL_sL, hL p, hL]
        by_cases q : p = 60 * t + j + k
        · rw [if_pos ⟨rfl, q⟩, if_neg (by
            intro w
            rcases Nat.lt_trichotomy s t with z | z | z
            · omega
            · subst z; omega
            · omega), if_pos (by omega)]
          congr 1; omega
        · rw [if_neg (fun z => q z.2)]
          by_cases w : (¬ i ≤ j ∧ 60 * t + j ≤ p ∧ p < 60 * t + j + k)
          · rw [if_pos (Or.inr w), if_pos (by omega)]
          · rw [if_neg (by omega), if_neg (by omega)])
      refine ⟨σ', ?_, a2, a3, a4⟩
      rw [← a1, Mz_u]
      unfold f_Model_shift_102 f_Model_shift_127
      rw [if_neg (nI_ge (by omega) (by omega)), if_neg (nI_ge (by omega) (by omega))]
      simp (disch := omega) only [zbd_s, zck_t, zlit, nI_add, nI_mul, nI_clamp, zck_nI, zbl_0, zbl_1]
theorem subneg (L n : Nat) (hL : L ≤ 60) (hn : n < 2 ^ 31) : (nI L - nI n).toInt = (L : Int) - n := by
  rw [Int32.toInt_sub, nI_toInt (by omega), nI_toInt hn]
  unfold Int.bmod
  have e : ((L : Int) - n) % ((2 ^ 32 : Nat) : Int) = if n ≤ L then (L : Int) - n else (L : Int) - n + 2 ^ 32 := by
    split
    · exact Int.emod_eq_of_lt (by omega) (by omega)
    · rw [show ((L : Int) - n) = ((L : Int) - n + 2 ^ 32) + (-1) * ((2 ^ 32 : Nat) : Int) by omega, Int.add_mul_emod_self_right]
      rw [show ((L : Int) - n + 2 ^ 32) + (-1) * ((2 ^ 32 : Nat) : Int) + 2 ^ 32 = (L : Int) - n + 2 ^ 32 by omega]
      exact Int.emod_eq_of_lt (by omega) (by omega)
  rw [e]
  split
  all_goals
    dsimp only
    split <;> omega
theorem op_shift {σ τ : ZM} (h : zRel σ τ) (x1 x2 x3 x4 x5 : Int32) : zOK (f_BB_shift x1 x2 x3 x4 x5 σ) (f_Model_shift x1 x2 x3 x4 x5 τ) := by
  unfold f_BB_shift f_Model_shift f_Tapes_move
  simp only [Btape_e, Mtape_e, zbd_s, zif, zbd_id]
  obtain ⟨-, -, -, -, hp, -⟩ := id h
  cases hz : zin x1 6 with
  | false => exact zOK_s h
  | true =>
    cases hy : zin x3 6 with
    | false => exact zOK_s h
    | true =>
      obtain ⟨s, hs, hs2, rfl⟩ := zin_t hz
      obtain ⟨t, ht, ht2, rfl⟩ := zin_t hy
      obtain ⟨⟨e1, e2⟩, ⟨L, hL, e3, e4⟩, e5⟩ := hp s hs
      obtain ⟨⟨g1, g2⟩, ⟨M, hM, g3, g4⟩, g5⟩ := hp t ht
      simp (config := { maxSteps := 4000000 }) (disch := omega) only [if_true, nI_clamp, zck_nI, zck_t, e1, e3, e4, g1, g3, g4]
      rcases e2 with e2 | ⟨a, ha, e2⟩
      · rw [e2, if_pos rfl, if_pos nm1_lt]; exact zOK_s h
      · rw [e2, if_neg (nI_nm1 (by omega)), if_neg (nI_pos (by omega))]
        rcases g2 with g2 | ⟨b, hb, g2⟩
        · rw [g2, if_pos rfl, if_neg nm1_nle]; exact zOK_s h
        · rw [g2, if_neg (nI_nm1 (by omega)), if_pos (nI_pos' (by omega))]
          by_cases c : nI a = nI b
          · rw [if_pos c, if_pos c]
            by_cases c1 : x5 < 0
            · rw [if_pos c1, if_pos c1]; exact zOK_s h
            · rw [if_neg c1, if_neg c1]
              by_cases c2 : x2 < 0
              · rw [if_pos c2, if_pos c2]; exact zOK_s h
              · rw [if_neg c2, if_neg c2]
                by_cases c3 : x4 < 0
                · rw [if_pos c3, if_pos c3]; exact zOK_s h
                · rw [if_neg c3, if_neg c3]
                  obtain ⟨n, hn, rfl⟩ := nI_of c1
                  obtain ⟨i, hi, rfl⟩ := nI_of c2
                  obtain ⟨j, hj, rfl⟩ := nI_of c3
                  by_cases d1 : nI L - nI n < nI i
                  · have d1' : nI L - nI i < nI n := by
                      rw [Int32.lt_iff_toInt_lt, subneg _ _ hL (by omega), nI_toInt (by omega)] at *
                      omega
                    rw [if_pos d1, if_pos d1']; exact zOK_s h
                  · have d1' : ¬ nI L - nI i < nI n := by
                      rw [Int32.lt_iff_toInt_lt, subneg _ _ hL (by omega), nI_toInt (by omega)] at *
                      omega
                    have q1 : i + n ≤ L := by
                      rw [Int32.lt_iff_toInt_lt, subneg _ _ hL (by omega), nI_toInt (by omega)] at d1
                      omega
                    rw [if_neg d1, if_neg d1']
                    by_cases d2 : nI j ≤ nI M - nI n
                    · have d2' : nI n ≤ nI M - nI j := by
                        rw [Int32.le_iff_toInt_le, subneg _ _ hM (by omega), nI_toInt (by omega)] at *
                        omega
                      have q2 : j + n ≤ M := by
                        rw [Int32.le_iff_toInt_le, subneg _ _ hM (by omega), nI_toInt (by omega)] at d2
                        omega
                      rw [if_pos d2, if_pos d2']
                      have hck : zcpok (nI i) (nI j) (nI n) 60 60 = true := by
                        simp only [zcpok, Bool.and_eq_true, decide_eq_true_eq, nI_clamp hi, nI_clamp hj, nI_clamp hn]
                        exact ⟨nI_pos' hi, nI_pos' hj, nI_pos' hn, by omega, by omega⟩
                      simp (disch := omega) only [zck_of hck, zel11, zck_r]
                      obtain ⟨τ1, b1, b2, b3, b4⟩ := Mz_loop (s := s) (t := t) (i := i) (j := j) (n := n) hs ht (by omega) (by omega) n 0 2000 τ τ (by omega) (by omega) (fun p => by rw [if_neg (by omega)])
                      rw [show (0 : Int32) = nI 0 from rfl, b1]
                      refine ⟨_, _, _, rfl, rfl, zRel_P h (fun u hu => ?_) (fun _ _ _ => rfl) (fun _ _ => rfl) (fun o k _ _ => b2 o k)⟩
                      obtain ⟨w1, w2, w3⟩ := hp u hu
                      refine ⟨by rw [b2]; exact w1, by rw [b2]; exact w2, fun k hk => ?_⟩
                      rw [b4, nI_clamp hi, nI_clamp hj, nI_clamp hn]
                      show (if 14 + u = 14 + t then va_cpy (σ.2.1 (14 + s)) (σ.2.1 (14 + u)) i j n else σ.2.1 (14 + u)) k = _
                      by_cases qu : u = t
                      · subst qu
                        rw [if_pos rfl]
                        unfold va_cpy
                        by_cases qk : j ≤ k ∧ k < j + n
                        · rw [if_pos qk, if_pos (by omega)]
                          exact (e5 (i + (k - j)) (by omega)).trans (by congr 1; omega)
                        · rw [if_neg qk, if_neg (by omega)]; exact w3 k hk
                      · rw [if_neg (by omega), if_neg (by omega)]; exact w3 k hk
                    · have d2' : ¬ nI n ≤ nI M - nI j := by
                        rw [Int32.le_iff_toInt_le, subneg _ _ hM (by omega), nI_toInt (by omega)] at *
                        omega
                      rw [if_neg d2, if_neg d2']; exact zOK_s h
          · rw [if_neg c, if_neg c]; exact zOK_s h
