/-! PURE: kiln, told -/
theorem m6_e {τ : ZM} {m n : Nat} (a : zInv m n (zI τ 130)) : ∃ v, v ≤ 6 ∧ zI τ 130 6 = nI v := by
  rcases a.2.2.2.2 6 rfl with ⟨v, hv, e, -⟩ | ⟨h, -⟩
  · exact ⟨v, hv, e⟩
  · omega
theorem op_kiln {σ τ : ZM} (h : zRel σ τ) : zOK (f_BB_kiln σ) (f_Model_kiln τ) := by
  obtain ⟨⟨m, n, hs⟩, hi, ⟨L, hL, t1, t2, t3⟩, ha, hp, hk⟩ := id h
  obtain ⟨c, hh, c1, c2, c3, c4, c5, c6, c7, c8, c9⟩ := id hk
  unfold f_BB_kiln f_Model_kiln
  by_cases hc : c = 6
  · subst hc
    rw [c2, c3, if_neg (show ¬ nI 6 < 6 by decide), if_pos (show nI 6 = 6 from rfl)]; exact zOK_s h
  · have hc6 : c < 6 := by omega
    have n6 : ¬ nI c = (6 : Int32) := fun q => hc ((nI_eq (a := c) (b := 6) (by omega) (by omega)).mp q)
    rw [c2, c3, if_pos (show nI c < (6 : Int32) from nI_lt (b := 6) hc6 (by omega)), if_neg n6, zck_nI hc6 (by omega), nI_clamp (by omega), zel20, zck_of (zRkn (by omega))]
    let T : Nat → Nat := fun k => (zI τ 133 k).toNatClampNeg
    have eT : ∀ k, k < L → T k < 128 ∧ zI τ 133 k = nI (T k) := fun k hk => by
      obtain ⟨-, b, hb, e⟩ := t3 k hk
      have : T k = b := by show (zI τ 133 k).toNatClampNeg = b; rw [e, nI_clamp (by omega)]
      rw [this]; exact ⟨hb, e⟩
    have tx : zTx T L σ := ⟨hL, t1, fun k hk => ⟨(eT k hk).1, (t3 k hk).1.trans (eT k hk).2⟩⟩
    obtain ⟨σ1, e1, s1, s2, s3, s4, s5⟩ := into_e (T := T) hc6 tx
    obtain ⟨τ1, K14, e2, m1, m2, m3⟩ := mcopy (c := c) hc6 hL L 0 2000 τ (by omega) (by omega) t2 c3
    rw [e1, zbd_s, show (0 : Int32) = nI 0 from rfl, e2]
    have q7 : zI τ1 129 7 = nI L := by rw [m1, if_neg (by omega)]; exact t2
    have q8 : zI τ1 129 8 = nI c := by rw [m1, if_neg (by omega)]; exact c3
    unfold f_Model_kiln_14
    rw [q7, if_pos (nI_le (Nat.le_refl _) (by omega)), q8, zck_nI hc6 (by omega), nI_clamp (by omega)]
    have u1 : ∀ o j, ¬ (o = 135 ∧ j = c) → ¬ (o = 129 ∧ j = 7) → zI (zsI (zsI τ1 135 c (nI L)) 129 7 0) o j = zI τ1 o j := fun o j n1 n2 => by rw [zI_sI, if_neg n2, zI_sI, if_neg n1]
    have u2 : zI (zsI (zsI τ1 135 c (nI L)) 129 7 0) 135 c = nI L := by rw [zI_sI, if_neg (by omega), zI_sI, if_pos ⟨rfl, rfl⟩]
    have u3 : zI (zsI (zsI τ1 135 c (nI L)) 129 7 0) 129 7 = 0 := by rw [zI_sI, if_pos ⟨rfl, rfl⟩]
    have u4 : ∀ o j, zP (zsI (zsI τ1 135 c (nI L)) 129 7 0) o j = zP τ o j := fun o j => m2 o j
    have u5 : ∀ o j, zL (zsI (zsI τ1 135 c (nI L)) 129 7 0) o j = zL τ o j := fun o j => m3 o j
    generalize zsI (zsI τ1 135 c (nI L)) 129 7 0 = τ2 at *
    have w1 : ∀ o j, ¬ (o = 134 ∧ 100 * c ≤ j ∧ j < 100 * c + L) → ¬ (o = 135 ∧ j = c) → ¬ (o = 129 ∧ j = 7) → zI τ2 o j = zI τ o j := fun o j n1 n2 n3 => by
      rw [u1 o j n2 n3, m1, if_neg (by omega)]
    have wT : ∀ k, k < L → T k < 128 ∧ zI τ2 134 (100 * c + k) = nI (T k) := fun k hk => by
      rw [u1 _ _ (by omega) (by omega), m1, if_pos ⟨rfl, by omega, by omega⟩, Nat.add_sub_cancel_left]; exact eT k hk
    rw [w1 129 8 (by omega) (by omega) (by omega), c3]
    obtain ⟨τ3, e3, ⟨r1, r2, r3⟩, r4, r5, -⟩ := reads_p (l := 0) (t := 0) hc6 (by omega) (by omega) hL u2 wT
    rw [show (nI 0 : Int32) = 0 from rfl] at *
    rw [e3, zbd_s, r5, r4]
    have x1 : ∀ o j, ¬ (o = 134 ∧ 100 * c ≤ j ∧ j < 100 * c + L) → ¬ (o = 135 ∧ j = c) → ¬ (o = 129 ∧ 7 ≤ j ∧ ¬ j = 8 ∧ j ≤ 20) → zI τ3 o j = zI τ o j := fun o j n1 n2 n3 => by
      rw [r1 o j (by omega)]; exact w1 o j n1 n2 (by omega)
    have x7 : zI τ3 129 7 = 0 := (r1 _ _ (by omega)).trans u3
    have x8 : zI τ3 129 8 = nI c := (x1 _ _ (by omega) (by omega) (by omega)).trans c3
    have kn : ∀ i, i < 7 → ¬ i = c → ∀ o, (o = 87 + i ∨ o = 87 + i + 7 ∨ o = 87 + i + 14 ∨ o = 87 + i + 21 ∨ o = 87 + i + 28) → ¬ o = 3 ∧ ¬ zKc (87 + c) o := by
      intro i hi hic o ho
      simp only [zKc]
      omega
    have kk : ∀ i, i < 7 → ¬ i = c → ∀ cs, zKB σ (87 + i) cs → zKB σ1 (87 + i) cs := fun i hi hic cs hb =>
      have z := kn i hi hic
      zKB_c hb (fun k => s1 _ _ (z _ (by omega)).1 (z _ (by omega)).2) (fun k => s1 _ _ (z _ (by omega)).1 (z _ (by omega)).2) (fun k => s1 _ _ (z _ (by omega)).1 (z _ (by omega)).2) (fun k => s1 _ _ (z _ (by omega)).1 (z _ (by omega)).2) (fun k => s1 _ _ (z _ (by omega)).1 (z _ (by omega)).2)
    have kr : ∀ i, i < c → zKR σ1 τ3 i := fun i hi => by
      obtain ⟨L', T', cs, d1, d2, d3, d4, d5⟩ := c4 i hi
      exact ⟨L', T', cs, d1, by rw [x1 _ _ (by omega) (by omega) (by omega)]; exact d2, fun k hk => ⟨(d3 k hk).1, by rw [x1 _ _ (by omega) (by omega) (by omega)]; exact (d3 k hk).2⟩, d4, kk i (by omega) (by omega) cs d5⟩
    by_cases z : (zpA T L 10 0).1 = true
    · rw [z, if_pos rfl, if_pos (show (-1 : Int32) < 0 by decide), if_pos (show zbI (!true) = 0 from rfl), zck_of (show zin 6 92 = true by decide), show (6 : Int32).toNatClampNeg = 6 from rfl]
      have b10 : zI σ1 0 10 = nI c := (s1 _ _ (by omega) (by simp only [zKc]; omega)).trans c2
      have b10' : zI (zsI σ1 1 4 (nI c)) 0 10 = nI c := by rw [zI_sI, if_neg (by omega)]; exact b10
      rw [b10, b10', zck_nI hc6 (by omega), nI_clamp (by omega), zel20, zck_of (zRkn (by omega)), zI_sP, b10', show nI c + (1 : Int32) = nI (c + 1) from nI_add c 1, x8, show nI c + (1 : Int32) = nI (c + 1) from nI_add c 1]
      have y1 : zI (zsI (zsP (zsI σ1 1 4 (nI c)) 5 0 (87 + c)) 0 10 (nI (c + 1))) 1 4 = nI c := by rw [zI_sI, if_neg (by omega), zI_sP, zI_sI, if_pos ⟨rfl, rfl⟩]
      have y2 : zI (zsI τ3 129 8 (nI (c + 1))) 129 8 = nI (c + 1) := by rw [zI_sI, if_pos ⟨rfl, rfl⟩]
      have y3 : zI (zsI (zsI τ3 129 8 (nI (c + 1))) 130 6 (nI (c + 1))) 129 8 = nI (c + 1) := by rw [zI_sI, if_neg (by omega), y2]
      have y4 : nI (c + 1) - (1 : Int32) = nI c := nI_pred c
      rw [y1, y2, y3, y4]
      have g1 : ∀ o k, ¬ (o = 0 ∧ k = 10) → ¬ (o = 1 ∧ k = 4) → zI (zsI (zsP (zsI σ1 1 4 (nI c)) 5 0 (87 + c)) 0 10 (nI (c + 1))) o k = zI σ1 o k := fun o k n1 n2 => by rw [zI_sI, if_neg n1, zI_sP, zI_sI, if_neg n2]
      have g2 : ∀ o k, ¬ (o = 129 ∧ k = 8) → ¬ (o = 130 ∧ k = 6) → zI (zsI (zsI τ3 129 8 (nI (c + 1))) 130 6 (nI (c + 1))) o k = zI τ3 o k := fun o k n1 n2 => by rw [zI_sI, if_neg n2, zI_sI, if_neg n1]
      have g3 : zI (zsI (zsI τ3 129 8 (nI (c + 1))) 130 6 (nI (c + 1))) 130 6 = nI (c + 1) := by rw [zI_sI, if_pos ⟨rfl, rfl⟩]
      have g4 : zI (zsI (zsP (zsI σ1 1 4 (nI c)) 5 0 (87 + c)) 0 10 (nI (c + 1))) 0 10 = nI (c + 1) := by rw [zI_sI, if_pos ⟨rfl, rfl⟩]
      have g5 : zP (zsI (zsP (zsI σ1 1 4 (nI c)) 5 0 (87 + c)) 0 10 (nI (c + 1))) 5 0 = 87 + c := by rw [zP_sI, zP_sP, if_pos ⟨rfl, rfl⟩]
      have g6 : ∀ o k, zL (zsI (zsP (zsI σ1 1 4 (nI c)) 5 0 (87 + c)) 0 10 (nI (c + 1))) o k = zL σ1 o k := fun o k => by rw [zL_sI, zL_sP, zL_sI]
      generalize zsI (zsP (zsI σ1 1 4 (nI c)) 5 0 (87 + c)) 0 10 (nI (c + 1)) = σ2 at *
      have g7 : ∀ o k, zL (zsI (zsI τ3 129 8 (nI (c + 1))) 130 6 (nI (c + 1))) o k = zL τ3 o k := fun o k => by rw [zL_sI, zL_sI]
      generalize zsI (zsI τ3 129 8 (nI (c + 1))) 130 6 (nI (c + 1)) = τ4 at *
      have kb2 : ∀ i cs, i < 7 → zKB σ1 (87 + i) cs → zKB σ2 (87 + i) cs := fun i cs hi hb => zKB_c hb (fun k => g1 _ _ (by omega) (by omega)) (fun k => g1 _ _ (by omega) (by omega)) (fun k => g1 _ _ (by omega) (by omega)) (fun k => g1 _ _ (by omega) (by omega)) (fun k => g1 _ _ (by omega) (by omega))
      refine ⟨_, _, _, rfl, rfl, zRel_K (c := c) (v := c + 1) h hc6 (fun o k n1 n2 n3 n4 => (g1 o k n2 n3).trans (s1 o k n1 n4)) (fun o k => (g6 o k).trans (s3 o k)) (fun o k n1 n2 n3 n4 => (g2 o k (by omega) (by omega)).trans (x1 o k (by omega) (by omega) (by omega))) (fun o k => (g7 o k).trans ((r3 o k).trans (u5 o k))) ((g1 _ _ (by omega) (by omega)).trans s4) ((g2 _ _ (by omega) (by omega)).trans x7) (by omega) g3 (by rw [y1, y4]) ?_⟩
      refine ⟨c + 1, c + 1, by omega, g4, by rw [y3], fun i hi => ?_, ?_, by omega, g3, ?_, fun h3 => ?_⟩
      · by_cases q : i = c
        · subst q
          refine ⟨L, T, (zpA T L 10 0).2.2, hL, ?_, fun k hk => ⟨(wT k hk).1, ?_⟩, ?_, kb2 i _ (by omega) (s5 z)⟩
          · rw [g2 _ _ (by omega) (by omega), r1 _ _ (by omega)]; exact u2
          · rw [g2 _ _ (by omega) (by omega), r1 _ _ (by omega)]; exact (wT k hk).2
          · exact Prod.ext z (Prod.ext (zpA_t 10 0 z) rfl)
        · obtain ⟨L', T', cs, d1, d2, d3, d4, d5⟩ := kr i (by omega)
          exact ⟨L', T', cs, d1, by rw [g2 _ _ (by omega) (by omega)]; exact d2, fun k hk => ⟨(d3 k hk).1, by rw [g2 _ _ (by omega) (by omega)]; exact (d3 k hk).2⟩, d4, kb2 i cs (by omega) d5⟩
      · exact kb2 6 [] (by omega) (kk 6 (by omega) (by omega) [] c5)
      · rw [g5]; simp only [zkid, Nat.add_eq_zero_iff, Nat.one_ne_zero, and_false, if_false]; omega
      · obtain ⟨j, j1, j2⟩ := c9 (by rw [← h3, g2 _ _ (by omega) (by omega)]; exact (x1 _ _ (by omega) (by omega) (by omega)).symm)
        exact ⟨j, by omega, by rw [g2 _ _ (by omega) (by omega), x1 _ _ (by omega) (by omega) (by omega)]; exact j2⟩
    · have z' : (zpA T L 10 0).1 = false := Bool.eq_false_iff.mpr z
      have zl := zpA_L (T := T) (L := L) 10 0 (by omega)
      rw [if_neg z, z', if_neg (nI_pos (by omega)), if_neg (show ¬ zbI (!false) = 0 by decide)]
      obtain ⟨v, hv, ev⟩ := m6_e hs.1
      refine ⟨_, _, _, rfl, rfl, zRel_K (c := c) (v := v) h hc6 (fun o k n1 n2 n3 n4 => s1 o k n1 n4) s3 (fun o k n1 n2 n3 n4 => x1 o k (by omega) (by omega) (by omega)) (fun o k => (r3 o k).trans (u5 o k)) s4 x7 hv ((x1 _ _ (by omega) (by omega) (by omega)).trans ev) ((s1 _ _ (by omega) (by simp only [zKc]; omega)).trans (by rw [hs.2.1.1, ev])) ?_⟩
      refine ⟨c, hh, c1, (s1 _ _ (by omega) (by simp only [zKc]; omega)).trans c2, x8, kr, kk 6 (by omega) (by omega) [] c5, c6, (x1 _ _ (by omega) (by omega) (by omega)).trans c7, (s2 _ _ (by omega)).trans c8, fun h3 => ?_⟩
      obtain ⟨j, j1, j2⟩ := c9 (by rw [← h3]; exact (x1 _ _ (by omega) (by omega) (by omega)).symm)
      exact ⟨j, j1, (x1 _ _ (by omega) (by omega) (by omega)).trans j2⟩
