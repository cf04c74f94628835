/-! PURE: the image; shifting -/
theorem Ob_u (N a b : Nat) (x : Int32) (σ : ZM) : F_Oven_become_2 (N + 1) (a, b, x, σ) = f_Oven_become_2 (F_Oven_become_2 N) a b x σ := rfl
theorem zRov {j : Nat} (h : 33 ≤ j ∧ j < 42) : zR 0 129 j 17 0 = true := (by decide +kernel : ∀ j, j < 42 → 33 ≤ j → zR 0 129 j 17 0 = true) j h.2 h.1
/-- an oven becomes another -/
theorem Obec {a b : Nat} (ha : 33 ≤ a ∧ a < 42) (hb : 33 ≤ b ∧ b < 42) (hab : a ≠ b) (σ : ZM) : ∃ σ', f_Oven_become a b σ = some ((), σ') ∧ (∀ o j, zL σ' o j = zL σ o j) ∧ (∀ o j, zP σ' o j = zP σ o j) ∧ (∀ o j, zI σ' o j = if o = a ∧ j = 1 then zI σ b 1 else if o = a + 9 ∧ j < 4 then zI σ (b + 9) j else zI σ o j) := by
  unfold f_Oven_become
  rw [zck_of (zRov ha), zck_of (zRov hb)]
  simp (disch := omega) only [Ob_u, f_Oven_become_2, ↓reduceIte, Nat.reduceAdd, Nat.reduceMul, Nat.reduceSub, Nat.reduceLeDiff, Nat.reduceLT, Nat.reduceEqDiff, nI_leI, nI_ltI, nI_eq, zbd_s, zck_t, zlit, nI_add, nI_mul, nI_clamp, zck_nI, zbl_0, zbl_1]
  refine ⟨_, rfl, fun _ _ => rfl, fun _ _ => rfl, fun o j => ?_⟩
  simp only [zI_sI]
  by_cases h0 : o = a ∧ j = 1
  · rw [if_pos h0, if_pos h0]
    repeat rw [if_neg (by omega)]
  · rw [if_neg h0, if_neg h0]
    by_cases h1 : o = a + 9 ∧ j < 4
    · rw [if_pos h1]
      obtain ⟨rfl, h2⟩ := h1
      have hne : ¬ (b + 9 = a + 9) := by omega
      rcases (by omega : j = 0 ∨ j = 1 ∨ j = 2 ∨ j = 3) with rfl | rfl | rfl | rfl <;> simp [hne]
    · rw [if_neg h1]
      repeat rw [if_neg (by omega)]
theorem Lb_u (N a b : Nat) (x : Int32) (σ : ZM) : F_Loaf_become_18 (N + 1) (a, b, x, σ) = f_Loaf_become_18 (F_Loaf_become_18 N) a b x σ := rfl
theorem Lbec {i j : Nat} (hi : i < 12) (hj : j < 12) (hij : i ≠ j) (σ : ZM) : ∃ σ', f_Loaf_become (51 + i) (51 + j) σ = some ((), σ') ∧ (∀ o k, zL σ' o k = zL σ o k) ∧ (∀ o k, zP σ' o k = zP σ o k) ∧ (∀ o k, zI σ' o k = if o = 51 + i ∧ (k = 3 ∨ k = 4) then zI σ (51 + j) k else if o = 63 + i ∧ k < 4 then zI σ (63 + j) k else if o = 75 + i ∧ k < 4 then zI σ (75 + j) k else zI σ o k) := by
  unfold f_Loaf_become
  rw [zck_of (zRl hi), zck_of (zRl hj)]
  simp (disch := omega) only [Lb_u, f_Loaf_become_18, ↓reduceIte, Nat.reduceAdd, Nat.reduceMul, Nat.reduceSub, Nat.reduceLeDiff, Nat.reduceLT, Nat.reduceEqDiff, nI_leI, nI_ltI, nI_eq, zbd_s, zck_t, zlit, nI_add, nI_mul, nI_clamp, zck_nI, zbl_0, zbl_1]
  refine ⟨_, rfl, fun _ _ => rfl, fun _ _ => rfl, fun o k => ?_⟩
  simp only [zI_sI]
  by_cases h0 : o = 51 + i ∧ (k = 3 ∨ k = 4)
  · rw [if_pos h0]
    obtain ⟨rfl, h1⟩ := h0
    rcases h1 with rfl | rfl
    · repeat rw [if_neg (by omega)]
      rw [if_pos (by omega)]
    · repeat rw [if_neg (by omega)]
      rw [if_pos (by omega)]
      repeat rw [if_neg (by omega)]
  · rw [if_neg h0]
    by_cases h1 : o = 63 + i ∧ k < 4
    · rw [if_pos h1]
      obtain ⟨rfl, h2⟩ := h1
      have e1 : ¬ (51 + j + 12 = 51 + i + 12) := by omega
      have e2 : 63 + i = 51 + i + 12 := by omega
      have e3 : 63 + j = 51 + j + 12 := by omega
      rcases (by omega : k = 0 ∨ k = 1 ∨ k = 2 ∨ k = 3) with rfl | rfl | rfl | rfl <;> simp [e2, e3, e1] <;> (repeat' split) <;> first | rfl | omega
    · rw [if_neg h1]
      by_cases h3 : o = 75 + i ∧ k < 4
      · rw [if_pos h3]
        obtain ⟨rfl, h2⟩ := h3
        have e1 : ¬ (51 + j + 24 = 51 + i + 24) := by omega
        have e2 : 75 + i = 51 + i + 24 := by omega
        have e3 : 75 + j = 51 + j + 24 := by omega
        rcases (by omega : k = 0 ∨ k = 1 ∨ k = 2 ∨ k = 3) with rfl | rfl | rfl | rfl <;> simp [e2, e3, e1] <;> (repeat' split) <;> first | rfl | omega
      · rw [if_neg h3]
        repeat rw [if_neg (by omega)]
theorem Bb_loop {a b n : Nat} (ha : a = 27 ∧ b = 28 ∨ a = 28 ∧ b = 27) (hn : n ≤ 12) : ∀ (d k : Nat) (N : Nat) (σ : ZM), k + d = n → d < N → zI σ b 2 = nI n → (∀ j, j < n → zI σ (b + 4) j = nI 0 ∨ zI σ (b + 4) j = nI 1) → ∃ σ', F_Book_become_2 N (a, b, nI k, σ) = some ((), σ') ∧ (∀ o j, zL σ' o j = zL σ o j) ∧ (∀ o j, zP σ' o j = zP σ o j) ∧ (∀ o j, zI σ' o j = if o = a ∧ j = 2 then nI n else if o = a + 2 ∧ k ≤ j ∧ j < n then zI σ (b + 2) j else if o = a + 4 ∧ k ≤ j ∧ j < n then zI σ (b + 4) j else zI σ o j) := by
  intro d
  induction d with
  | zero =>
    intro k N σ hk hN h2 h4
    obtain ⟨N, rfl⟩ : ∃ K, N = K + 1 := ⟨N - 1, by omega⟩
    refine ⟨zsI σ a 2 (nI n), ?_, fun _ _ => rfl, fun _ _ => rfl, fun o j => ?_⟩
    · show f_Book_become_2 (F_Book_become_2 N) a b (nI k) σ = _
      unfold f_Book_become_2
      rw [h2, if_pos (nI_le (by omega) (by omega))]
    · rw [zI_sI]
      by_cases q : o = a ∧ j = 2
      · rw [if_pos q, if_pos q]
      · rw [if_neg q, if_neg q, if_neg (by omega), if_neg (by omega)]
  | succ d ih =>
    intro k N σ hk hN h2 h4
    obtain ⟨N, rfl⟩ : ∃ K, N = K + 1 := ⟨N - 1, by omega⟩
    have e4 : zI (zsI σ (a + 2) k (zI σ (b + 2) k)) (b + 4) k = zI σ (b + 4) k := by rw [zI_sI, if_neg (by omega)]
    obtain ⟨σ', a1, a2, a3, a4⟩ := ih (k + 1) N (zsI (zsI σ (a + 2) k (zI σ (b + 2) k)) (a + 4) k (zI σ (b + 4) k)) (by omega) (by omega) (by rw [zI_sI, if_neg (by omega), zI_sI, if_neg (by omega)]; exact h2) (fun j hj => by rw [zI_sI, if_neg (by omega), zI_sI, if_neg (by omega)]; exact h4 j hj)
    refine ⟨σ', ?_, a2, a3, fun o j => ?_⟩
    · rw [← a1]
      show f_Book_become_2 (F_Book_become_2 N) a b (nI k) σ = _
      unfold f_Book_become_2
      rw [h2, if_neg (nI_ge (by omega) (by omega))]
      have hz : zbl (zI σ (b + 4) k) = true := by rcases h4 k (by omega) with q | q <;> rw [q] <;> rfl
      simp (disch := omega) only [zbd_s, zck_t, zlit, nI_add, nI_mul, nI_clamp, zck_nI, zbl_0, zbl_1, e4, zck_of hz]
    · rw [a4]
      simp only [zI_sI]
      by_cases q : o = a ∧ j = 2
      · rw [if_pos q, if_pos q]
      · rw [if_neg q, if_neg q]
        by_cases q1 : o = a + 2 ∧ k ≤ j ∧ j < n
        · rw [if_pos q1]
          by_cases q2 : j = k
          · rw [if_neg (by omega), if_neg (by omega), if_neg (by omega), if_pos (by omega), q2]
          · rw [if_pos (by omega), if_neg (by omega), if_neg (by omega)]
        · rw [if_neg q1, if_neg (by omega)]
          by_cases q3 : o = a + 4 ∧ k ≤ j ∧ j < n
          · rw [if_pos q3]
            by_cases q2 : j = k
            · rw [if_neg (by omega), if_pos (by omega), q2]
            · rw [if_pos (by omega), if_neg (by omega), if_neg (by omega)]
          · rw [if_neg q3, if_neg (by omega), if_neg (by omega), if_neg (by omega)]
/-- a stand becomes the other: x 1 now, 2 kept -/
theorem Sb_loop {dx dy m n : Nat} (hd : dx = 0 ∧ dy = 1 ∨ dx = 1 ∧ dy = 0) (hm : m ≤ 6) (hn : n ≤ 12) : ∀ (d k : Nat) (N : Nat) (σ : ZM), k + d = m → d < N → zI σ (1 + dy) 3 = nI m → zI σ (27 + dy) 2 = nI n → (∀ j, j < n → zI σ (31 + dy) j = nI 0 ∨ zI σ (31 + dy) j = nI 1) →
    ∃ σ', F_Stand_become_2 N (1 + dx, 1 + dy, nI k, σ) = some ((), σ') ∧ (∀ o j, zL σ' o j = zL σ o j) ∧ (∀ o j, zP σ' o j = zP σ o j) ∧
      (∀ o j, zI σ' o j = if o = 1 + dx ∧ j = 4 then zI σ (1 + dy) 4 else if o = 27 + dx ∧ j = 2 then nI n else if o = 29 + dx ∧ j < n then zI σ (29 + dy) j else if o = 31 + dx ∧ j < n then zI σ (31 + dy) j else if o = 33 + dx ∧ j = 1 then zI σ (33 + dy) 1 else if o = 42 + dx ∧ j < 4 then zI σ (42 + dy) j else if o = 1 + dx ∧ j = 3 then nI m else
        if 51 + 6 * dx + k ≤ o ∧ o < 51 + 6 * dx + m ∧ (j = 3 ∨ j = 4) then zI σ (o + 6 * dy - 6 * dx) j else if 63 + 6 * dx + k ≤ o ∧ o < 63 + 6 * dx + m ∧ j < 4 then zI σ (o + 6 * dy - 6 * dx) j else if 75 + 6 * dx + k ≤ o ∧ o < 75 + 6 * dx + m ∧ j < 4 then zI σ (o + 6 * dy - 6 * dx) j else zI σ o j) := by
  intro d
  induction d with
  | zero =>
    intro k N σ hk hN h3 h2 h4
    obtain ⟨N, rfl⟩ : ∃ K, N = K + 1 := ⟨N - 1, by omega⟩
    obtain ⟨σ1, a1, a2, a3, a4⟩ := Obec (a := 33 + dx) (b := 33 + dy) (by omega) (by omega) (by omega) (zsI σ (1 + dx) 3 (nI m))
    obtain ⟨σ2, b1, b2, b3, b4⟩ := Bb_loop (a := 27 + dx) (b := 27 + dy) (n := n) (by omega) hn n 0 2000 σ1 (by omega) (by omega) (by rw [a4, if_neg (by omega), if_neg (by omega), zI_sI, if_neg (by omega)]; exact h2) (fun j hj => by rw [a4, if_neg (by omega), if_neg (by omega), zI_sI, if_neg (by omega), show 27 + dy + 4 = 31 + dy by omega]; exact h4 j hj)
    refine ⟨zsI σ2 (1 + dx) 4 (zI σ (1 + dy) 4), ?_, fun o j => (b2 o j).trans (a2 o j), fun o j => (b3 o j).trans (a3 o j), fun o j => ?_⟩
    · show f_Stand_become_2 (F_Stand_become_2 N) (1 + dx) (1 + dy) (nI k) σ = _
      unfold f_Stand_become_2 f_Book_become
      rw [h3, if_pos (nI_le (by omega) (by omega)), show 1 + dx + 32 = 33 + dx by omega, show 1 + dy + 32 = 33 + dy by omega, a1, zbd_s, show 1 + dx + 26 = 27 + dx by omega, show 1 + dy + 26 = 27 + dy by omega]
      rw [zck_of (show zR 0 129 (27 + dx) 14 0 = true by rcases hd with ⟨rfl, -⟩ | ⟨rfl, -⟩ <;> decide), zck_of (show zR 0 129 (27 + dy) 14 0 = true by rcases hd with ⟨-, rfl⟩ | ⟨-, rfl⟩ <;> decide), show (0 : Int32) = nI 0 from rfl, b1, zbd_s]
      rw [b4, if_neg (by omega), if_neg (by omega), if_neg (by omega), a4, if_neg (by omega), if_neg (by omega), zI_sI, if_neg (by omega)]
    · rw [zI_sI]
      by_cases q1 : o = 1 + dx ∧ j = 4
      · rw [if_pos q1, if_pos q1]
      · rw [if_neg q1, if_neg q1, b4]
        by_cases q2 : o = 27 + dx ∧ j = 2
        · rw [if_pos q2, if_pos q2]
        · rw [if_neg q2, if_neg q2]
          by_cases q3 : o = 29 + dx ∧ j < n
          · rw [if_pos q3, if_pos (by omega), a4, if_neg (by omega), if_neg (by omega), zI_sI, if_neg (by omega), show 27 + dy + 2 = 29 + dy by omega]
          · rw [if_neg q3, if_neg (by omega)]
            by_cases q4 : o = 31 + dx ∧ j < n
            · rw [if_pos q4, if_pos (by omega), a4, if_neg (by omega), if_neg (by omega), zI_sI, if_neg (by omega), show 27 + dy + 4 = 31 + dy by omega]
            · rw [if_neg q4, if_neg (by omega), a4]
              by_cases q5 : o = 33 + dx ∧ j = 1
              · rw [if_pos q5, if_pos q5, zI_sI, if_neg (by omega)]
              · rw [if_neg q5, if_neg q5]
                by_cases q6 : o = 42 + dx ∧ j < 4
                · rw [if_pos q6, if_pos (by omega), zI_sI, if_neg (by omega), show 33 + dy + 9 = 42 + dy by omega]
                · rw [if_neg q6, if_neg (by omega), zI_sI]
                  by_cases q7 : o = 1 + dx ∧ j = 3
                  · rw [if_pos q7, if_pos q7]
                  · rw [if_neg q7, if_neg q7, if_neg (by omega), if_neg (by omega), if_neg (by omega)]
  | succ d ih =>
    intro k N σ hk hN h3 h2 h4
    obtain ⟨N, rfl⟩ : ∃ K, N = K + 1 := ⟨N - 1, by omega⟩
    obtain ⟨σ1, a1, a2, a3, a4⟩ := Lbec (i := 6 * dx + k) (j := 6 * dy + k) (by omega) (by omega) (by omega) σ
    have keep : ∀ o j, ¬ (51 ≤ o) → zI σ1 o j = zI σ o j := fun o j h => by rw [a4, if_neg (by omega), if_neg (by omega), if_neg (by omega)]
    obtain ⟨σ', b1, b2, b3, b4⟩ := ih (k + 1) N σ1 (by omega) (by omega) (by rw [keep _ _ (by omega)]; exact h3) (by rw [keep _ _ (by omega)]; exact h2) (fun j hj => by rw [keep _ _ (by omega)]; exact h4 j hj)
    refine ⟨σ', ?_, fun o j => (b2 o j).trans (a2 o j), fun o j => (b3 o j).trans (a3 o j), fun o j => ?_⟩
    · rw [← b1]
      show f_Stand_become_2 (F_Stand_become_2 N) (1 + dx) (1 + dy) (nI k) σ = _
      unfold f_Stand_become_2
      have z1 : zel (1 + dx + 24) k = 51 + (6 * dx + k) := by rcases hd with ⟨rfl, -⟩ | ⟨rfl, -⟩ <;> simp [zel] <;> omega
      have z2 : zel (1 + dy + 24) k = 51 + (6 * dy + k) := by rcases hd with ⟨-, rfl⟩ | ⟨-, rfl⟩ <;> simp [zel] <;> omega
      rw [h3, if_neg (nI_ge (by omega) (by omega))]
      simp (disch := omega) only [zbd_s, zck_t, zlit, nI_add, nI_mul, nI_clamp, zck_nI, zbl_0, zbl_1, z1, z2, zck_l, a1]
    · rw [b4]
      simp only [keep _ _ (show ¬ 51 ≤ 1 + dy by omega), keep _ _ (show ¬ 51 ≤ 29 + dy by omega), keep _ _ (show ¬ 51 ≤ 31 + dy by omega), keep _ _ (show ¬ 51 ≤ 33 + dy by omega), keep _ _ (show ¬ 51 ≤ 42 + dy by omega)]
      by_cases q0 : o < 51
      · have k1 : ∀ z, ¬ (51 + 6 * dx + z ≤ o ∧ o < 51 + 6 * dx + m ∧ (j = 3 ∨ j = 4)) := by intro z; omega
        have k2 : ∀ z, ¬ (63 + 6 * dx + z ≤ o ∧ o < 63 + 6 * dx + m ∧ j < 4) := by intro z; omega
        have k3 : ∀ z, ¬ (75 + 6 * dx + z ≤ o ∧ o < 75 + 6 * dx + m ∧ j < 4) := by intro z; omega
        simp only [if_neg (k1 _), if_neg (k2 _), if_neg (k3 _), keep o j (show ¬ 51 ≤ o by omega)]
      · have n1 : ¬ (o = 1 + dx ∧ j = 4) := by omega
        have n2 : ¬ (o = 27 + dx ∧ j = 2) := by omega
        have n3 : ¬ (o = 29 + dx ∧ j < n) := by omega
        have n4 : ¬ (o = 31 + dx ∧ j < n) := by omega
        have n5 : ¬ (o = 33 + dx ∧ j = 1) := by omega
        have n6 : ¬ (o = 42 + dx ∧ j < 4) := by omega
        have n7 : ¬ (o = 1 + dx ∧ j = 3) := by omega
        simp only [if_neg n1, if_neg n2, if_neg n3, if_neg n4, if_neg n5, if_neg n6, if_neg n7]
        rw [a4 o j, a4 (o + 6 * dy - 6 * dx) j]
        rcases hd with ⟨rfl, rfl⟩ | ⟨rfl, rfl⟩
        all_goals
          repeat' split
          all_goals first | rfl | (exfalso; omega) | (congr 1; omega)
