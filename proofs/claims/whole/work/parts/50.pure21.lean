/-! PURE: the reference reads a kiln -/
theorem m35_e (w : Nat) (hw : w < 4) (σ : ZM) : f_Model_readsClause_35 (nI (zwch w)) σ = f_Model_readsClause_81 (nI (zwch w)) (w + 4) (zsI σ 129 11 (zI σ 129 11 + 1)) := by
  have : w = 0 ∨ w = 1 ∨ w = 2 ∨ w = 3 := by omega
  rcases this with rfl | rfl | rfl | rfl <;> rfl
theorem m0_e (w : Nat) (hw : w < 4) (σ : ZM) (X : Option (Unit × ZM)) : (if nI (zwch w) = 116 then f_Model_readsClause_35 (nI (zwch w)) σ else if nI (zwch w) = 109 then f_Model_readsClause_35 (nI (zwch w)) σ else if nI (zwch w) = 99 then f_Model_readsClause_35 (nI (zwch w)) σ else if nI (zwch w) = 102 then f_Model_readsClause_35 (nI (zwch w)) σ else X) = f_Model_readsClause_35 (nI (zwch w)) σ := by
  have : w = 0 ∨ w = 1 ∨ w = 2 ∨ w = 3 := by omega
  generalize f_Model_readsClause_35 (nI (zwch w)) σ = Y
  rcases this with rfl | rfl | rfl | rfl
  · exact if_pos rfl
  · rw [if_neg (by decide), if_pos (by decide)]
  · rw [if_neg (by decide), if_neg (by decide), if_pos (by decide)]
  · rw [if_neg (by decide), if_neg (by decide), if_neg (by decide), if_pos (by decide)]
/-- behind a number -/
theorem m81_t (w : Nat) (hw : w < 4) (v : Int32) (σ : ZM) (h0 : ¬ zI σ 129 14 = 0) : ∃ σ', (if nI (zwch w) = 99 then some ((), zsI σ 129 19 v) else zbd (f_Model_takes 32 σ) fun v8 s9 => if v8 = 0 then some ((), s9) else if nI (zwch w) = 102 then f_Model_readsClause_123 (nI (zwch w)) v 1 s9 else f_Model_readsClause_123 (nI (zwch w)) v 0 s9) = some ((), σ') ∧ zMG σ σ' ∧ zI σ' 129 11 = zI σ 129 11 ∧ zI σ' 129 14 = zI σ 129 14 := by
  rw [takes_w h0, zbd_s, if_pos (show nI 0 = 0 from rfl)]
  split
  · exact ⟨_, rfl, zMG_s _ _ (by omega), by rw [zI_sI, if_neg (by omega)], by rw [zI_sI, if_neg (by omega)]⟩
  · exact ⟨_, rfl, zMG_F (zMF_r _), rfl, rfl⟩
theorem zwch_lt : ∀ w, w < 4 → zwch w < 128 := by decide
theorem mclause_e {T : Nat → Nat} {L a : Nat} {σ : ZM} (t : zMT T L σ) (ha : a ≤ L) (h2 : zI σ 129 11 = nI a) (h0 : zI σ 129 14 = 0) :
    ∃ σ', f_Model_readsClause σ = some ((), σ') ∧ zMG σ σ' ∧ zI σ' 129 11 = nI (zpC T L a).2.1 ∧ zI σ' 129 14 = zbI (!(zpC T L a).1) ∧
      ((zpC T L a).1 = true → ∃ b, zAd (zpC T L a).2.2.1 (zpC T L a).2.2.2.1 b σ σ' ∧ (¬ zI σ 130 5 = 0 → ¬ (zpC T L a).2.2.1 = 2 → b = zevB (mlm σ (if (zpC T L a).2.2.1 = 3 then 1 else 0)) (zpC T L a).2.2.2.2)) := by
  have hL := t.1
  have hc := zmr_c t a
  unfold f_Model_readsClause zpC
  dsimp only
  rw [mhere_e t ha h2, zbd_s]
  by_cases w9 : zwd0 (zhr T L a) = 9
  · have n1 : ¬ zhr T L a = 116 := fun q => by rw [q] at w9; exact absurd w9 (by decide)
    have n2 : ¬ zhr T L a = 109 := fun q => by rw [q] at w9; exact absurd w9 (by decide)
    have n3 : ¬ zhr T L a = 99 := fun q => by rw [q] at w9; exact absurd w9 (by decide)
    have n4 : ¬ zhr T L a = 102 := fun q => by rw [q] at w9; exact absurd w9 (by decide)
    rw [if_neg (show ¬ zhv (zhr T L a) = (116 : Int32) from zhv_n (d := 116) hc (by omega) n1), if_neg (show ¬ zhv (zhr T L a) = (109 : Int32) from zhv_n (d := 109) hc (by omega) n2), if_neg (show ¬ zhv (zhr T L a) = (99 : Int32) from zhv_n (d := 99) hc (by omega) n3), if_neg (show ¬ zhv (zhr T L a) = (102 : Int32) from zhv_n (d := 102) hc (by omega) n4), if_pos w9]
    exact ⟨_, rfl, zMG_s _ _ (by omega), by rw [zI_sI, if_neg (by omega)]; exact h2, by rw [zI_sI, if_pos ⟨rfl, rfl⟩]; rfl, fun q => by cases q⟩
  · have hw := zwd_lt w9
    have ec := zwd_c w9
    rw [if_neg w9]
    have l1 : a < L := zhr_lt (T := T) (by intro e; rw [e] at w9; exact w9 rfl)
    generalize hwe : zwd0 (zhr T L a) = w at *
    have ev : zhv (zhr T L a) = nI (zwch w) := zhv_y (zwch_lt w hw) ec
    have es : zpS T L (zspell w) a = zpS T L (zspell w).tail (a + 1) := by
      rw [zsp_hd w hw]; exact if_pos ec
    rw [ev, m0_e w hw, m35_e w hw, h2, show nI a + (1 : Int32) = nI (a + 1) from nI_add a 1, es]
    have f1 : zMF σ (zsI σ 129 11 (nI (a + 1))) := zMF_11 _ _
    have p1 : zI (zsI σ 129 11 (nI (a + 1))) 129 11 = nI (a + 1) := by rw [zI_sI, if_pos ⟨rfl, rfl⟩]
    have w1 : zI (zsI σ 129 11 (nI (a + 1))) 129 14 = 0 := by rw [zI_sI, if_neg (by omega)]; exact h0
    generalize zsI σ 129 11 (nI (a + 1)) = σ1 at *
    obtain ⟨σ2, e2, f2, p2, w2⟩ := mspell_e hw (zMT_F t f1) l1 p1 w1
    have g2 := zMF_t f1 f2
    have t2 := zMT_F t g2
    obtain ⟨gl, gu⟩ := zpS_G (T := T) (L := L) (zspell w).tail (a + 1) (fun c hc => (by decide : ∀ w, w < 4 → ∀ c ∈ (zspell w).tail, c ≠ 999) w hw c hc) l1
    unfold f_Model_readsClause_81
    rw [e2, zbd_s]
    by_cases s : (zpS T L (zspell w).tail (a + 1)).1 = true
    · rw [s] at w2
      rw [if_neg (by rw [s]; decide)]
      generalize (zpS T L (zspell w).tail (a + 1)).2 = a1 at *
      obtain ⟨v, σ3, e3, ⟨f3, p3, w3⟩, v3⟩ := mnum_e t2 gu p2 w2
      obtain ⟨n1, n2, n3, n4⟩ := zpN_G (T := T) (L := L) (a := a1) gu
      have g3 := zMF_t g2 f3
      rw [e3, zbd_s]
      by_cases n : (zpN T L a1).1 = true
      · rw [n] at w3
        have v4 := v3 n
        subst v4
        rw [if_neg (show ¬ (zpN T L a1).1 = false by rw [n]; decide)]
        generalize (zpN T L a1).2.1 = a2 at *
        generalize (zpN T L a1).2.2 = nu at *
        by_cases w2c : w = 2
        · subst w2c
          rw [if_pos (show nI (zwch 2) = 99 from rfl), if_pos rfl]
          refine ⟨_, rfl, zMG_t (zMG_F g3) (zMG_s _ _ (by omega)), by rw [zI_sI, if_neg (by omega)]; exact p3, by rw [zI_sI, if_neg (by omega)]; exact w3, fun _ => ⟨false, ⟨?_, ?_, ?_, ?_, ?_⟩, fun _ q => absurd rfl q⟩⟩
          · rw [zI_sI, if_neg (by omega), g3.1 129 17 (by omega)]; exact (Int32.add_zero _).symm
          · rw [zI_sI, if_pos ⟨rfl, rfl⟩]; rfl
          · rw [zI_sI, if_neg (by omega), g3.1 129 16 (by omega)]; exact (Int32.add_zero _).symm
          · rw [zI_sI, if_neg (by omega), g3.1 129 18 (by omega)]; exact (Int32.add_zero _).symm
          · rw [zI_sI, if_neg (by omega), g3.1 129 20 (by omega)]; exact (Int32.add_zero _).symm
        · have hw3 : w = 0 ∨ w = 1 ∨ w = 3 := by omega
          have n99 : ¬ nI (zwch w) = 99 := by rcases hw3 with rfl | rfl | rfl <;> decide
          rw [if_neg n99, if_neg w2c, show (32 : Int32) = nI 32 from rfl, takes_e (zMT_F t g3) n2 p3 w3 (by omega)]
          by_cases b : zhr T L a2 = 32
          · have l3 : a2 < L := zhr_lt (T := T) (by omega)
            rw [if_pos b, if_pos b, zbd_s, if_neg (show ¬ nI 1 = 0 by decide)]
            have f4 : zMF σ3 (zsI σ3 129 11 (nI (a2 + 1))) := zMF_11 _ _
            have p4 : zI (zsI σ3 129 11 (nI (a2 + 1))) 129 11 = nI (a2 + 1) := by rw [zI_sI, if_pos ⟨rfl, rfl⟩]
            have w4 : zI (zsI σ3 129 11 (nI (a2 + 1))) 129 14 = 0 := by rw [zI_sI, if_neg (by omega)]; exact w3
            generalize zsI σ3 129 11 (nI (a2 + 1)) = σ4 at *
            have g4 := zMF_t g3 f4
            have ef : (if nI (zwch w) = 102 then f_Model_readsClause_123 (nI (zwch w)) (nI nu) 1 σ4 else f_Model_readsClause_123 (nI (zwch w)) (nI nu) 0 σ4) = f_Model_readsClause_123 (nI (zwch w)) (nI nu) (nI (if w = 3 then 1 else 0)) σ4 := by
              rcases hw3 with rfl | rfl | rfl <;> rfl
            rw [ef]
            unfold f_Model_readsClause_123
            rw [zck_of (show zbl (nI (if w = 3 then 1 else 0)) = true by split <;> rfl)]
            have g5 : zMG σ (zsI σ4 129 15 (nI (if w = 3 then 1 else 0))) := zMG_t (zMG_F g4) (zMG_s _ _ (by omega))
            have p5 : zI (zsI σ4 129 15 (nI (if w = 3 then 1 else 0))) 129 11 = nI (a2 + 1) := by rw [zI_sI, if_neg (by omega)]; exact p4
            have w5 : zI (zsI σ4 129 15 (nI (if w = 3 then 1 else 0))) 129 14 = 0 := by rw [zI_sI, if_neg (by omega)]; exact w4
            have m5 : mlam (zsI σ4 129 15 (nI (if w = 3 then 1 else 0))) = mlm σ (if w = 3 then 1 else 0) := mlm_G (zMG_F g4) _
            have k5 : zI (zsI σ4 129 15 (nI (if w = 3 then 1 else 0))) 130 5 = zI σ 130 5 := g5.1 130 5 (by omega)
            have adq : ∀ k, 16 ≤ k → k ≤ 20 → zI (zsI σ4 129 15 (nI (if w = 3 then 1 else 0))) 129 k = zI σ 129 k := fun k k1 k2 => by rw [zI_sI, if_neg (by omega)]; exact g4.1 129 k (by omega)
            generalize zsI σ4 129 15 (nI (if w = 3 then 1 else 0)) = σ5 at *
            obtain ⟨bb, σ6, e6, ⟨f6, p6, w6⟩, s6⟩ := mE_e (mF_e 4 8 0 (by omega) (by omega)) (fun a ha => zpF_G (T := T) (L := L) 4 a ha) (a2 + 1) σ5 (zMT_G t g5) l3 p5 w5
            rw [show (0 : Int32) = nI 0 from rfl, e6, zbd_s]
            have eg : (if nI (zwch w) = 116 then f_Model_readsClause_148 (nI (zwch w)) (nI nu) (zbI bb) 1 (zI σ6 129 17) σ6 else f_Model_readsClause_148 (nI (zwch w)) (nI nu) (zbI bb) (nI 0) (zI σ6 129 17) σ6) = f_Model_readsClause_148 (nI (zwch w)) (nI nu) (zbI bb) (if w = 0 then 1 else 0) (zI σ6 129 17) σ6 := by
              rcases hw3 with rfl | rfl | rfl <;> rfl
            rw [eg]
            obtain ⟨σ7, e7, g7, p7, w7, d1, d2, d3, d4, d5⟩ := add_e w nu hw3 bb σ6
            rw [e7]
            have ad : zAd w nu bb σ σ7 := by
              refine ⟨?_, ?_, ?_, ?_, ?_⟩
              · rw [d1, f6.1 129 17 (by omega), adq 17 (by omega) (by omega)]
              · rw [d2, f6.1 129 19 (by omega), adq 19 (by omega) (by omega)]
              · rw [d3, f6.1 129 16 (by omega), adq 16 (by omega) (by omega)]
              · rw [d4, f6.1 129 18 (by omega), adq 18 (by omega) (by omega)]
              · rw [d5, f6.1 129 20 (by omega), adq 20 (by omega) (by omega)]
            have g8 := zMG_t g5 (zMG_t (zMG_F f6) g7)
            by_cases z : (zpE T L (zpF T L 4) (a2 + 1)).1 = true
            · rw [if_pos z]
              rw [z] at w6
              refine ⟨_, rfl, g8, p7.trans p6, w7.trans w6, fun _ => ⟨bb, ad, fun m _ => ?_⟩⟩
              have s7 := s6 z (by rw [k5]; exact m) []
              rw [m5] at s7
              unfold zevB
              dsimp only
              rw [s7]; rfl
            · have z' : (zpE T L (zpF T L 4) (a2 + 1)).1 = false := Bool.eq_false_iff.mpr z
              rw [if_neg z]
              rw [z'] at w6
              exact ⟨_, rfl, g8, p7.trans p6, w7.trans w6, fun q => by cases q⟩
          · rw [if_neg b, if_neg b, zbd_s, if_pos (show nI 0 = 0 from rfl)]
            exact ⟨_, rfl, zMG_F (zMF_t g3 (zMF_14 _ _)), by rw [zI_sI, if_neg (by omega)]; exact p3, by rw [zI_sI, if_pos ⟨rfl, rfl⟩]; rfl, fun q => by cases q⟩
      · have n' : (zpN T L a1).1 = false := Bool.eq_false_iff.mpr n
        rw [n'] at w3
        rw [if_pos n']
        obtain ⟨σ4, e4, g4, p4, w4⟩ := m81_t w hw v σ3 (by rw [w3]; decide)
        rw [e4]
        exact ⟨_, rfl, zMG_t (zMG_F g3) g4, p4.trans p3, w4.trans w3, fun q => by cases q⟩
    · have s' : (zpS T L (zspell w).tail (a + 1)).1 = false := Bool.eq_false_iff.mpr s
      rw [s'] at w2
      rw [if_pos s', mnum_w (by rw [w2]; decide), zbd_s]
      obtain ⟨σ4, e4, g4, p4, w4⟩ := m81_t w hw 0 σ2 (by rw [w2]; decide)
      rw [e4]
      exact ⟨_, rfl, zMG_t (zMG_F g2) g4, p4.trans p2, w4.trans w2, fun q => by cases q⟩
