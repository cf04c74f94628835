/-! PURE: how the two memories go together -/
def zAG (S : Nat → Bool) (σ σ' : ZM) : Prop := (∀ o k, S o = true → zI σ' o k = zI σ o k) ∧ (∀ o k, S o = true → zL σ' o k = zL σ o k) ∧ (∀ o k, S o = true → zP σ' o k = zP σ o k)
/-- what stands in the model's row of 92 -/
def zInv (A : Nat → Int32) : Prop :=
  ∃ m n hr : Nat, (m ≤ 6 ∧ A 5 = nI m) ∧ (n ≤ 12 ∧ A 7 = nI n) ∧ (hr ≤ 9999 ∧ A 4 = nI hr) ∧
    (∀ t, t < 4 → ∃ h, h ≤ 9999 ∧ A t = nI h) ∧
    (∀ i, i < m → (∃ k, k < 7 ∧ A (8 + 10 * i) = nI k) ∧ (∃ v, v ≤ 9 ∧ A (9 + 10 * i) = nI v) ∧ (∀ t, t < 4 → ∃ g, g ≤ 99 ∧ A (10 + 10 * i + t) = nI g) ∧ (∀ t, t < 4 → ∃ b, b ≤ 99 ∧ A (14 + 10 * i + t) = nI b)) ∧
    (∀ k, k < n → (A (68 + 2 * k) = -2 ∨ ∃ j, j < m ∧ A (68 + 2 * k) = nI j) ∧ (A (69 + 2 * k) = nI 0 ∨ A (69 + 2 * k) = nI 1))
/-- the oven's stand d (0 now, 1 kept) is told by the row A -/
def zBS (σ : ZM) (d : Nat) (A : Nat → Int32) : Prop :=
  zI σ (1 + d) 3 = A 5 ∧ zI σ (1 + d) 4 = A 6 - 1 ∧ zI σ (27 + d) 2 = A 7 ∧ zI σ (33 + d) 1 = A 4 ∧ (∀ t, t < 4 → zI σ (42 + d) t = A t) ∧
    (∀ i, i < (A 5).toNatClampNeg → zI σ (51 + 6 * d + i) 3 = A (8 + 10 * i) ∧ zI σ (51 + 6 * d + i) 4 = A (9 + 10 * i) ∧ (∀ t, t < 4 → zI σ (63 + 6 * d + i) t = A (10 + 10 * i + t)) ∧ (∀ t, t < 4 → zI σ (75 + 6 * d + i) t = A (14 + 10 * i + t))) ∧
    (∀ k, k < (A 7).toNatClampNeg → zI σ (29 + d) k = A (68 + 2 * k) ∧ zI σ (31 + d) k = A (69 + 2 * k))
def zRs (σ τ : ZM) : Prop := zInv (zI τ 130) ∧ zBS σ 0 (zI τ 130) ∧ ∀ i, i < 6 → zI σ (51 + i) 0 = nI i
def zRi (σ τ : ZM) : Prop := (zI σ 0 11 = nI 0 ∧ zI τ 129 3 = nI 0) ∨ (zI σ 0 11 = nI 1 ∧ zI τ 129 3 = nI 1 ∧ zInv (zI τ 131) ∧ zBS σ 1 (zI τ 131))
def zRt (σ τ : ZM) : Prop := ∃ n : Nat, n ≤ 100 ∧ zI σ 3 1 = nI n ∧ zI τ 129 7 = nI n ∧ ∀ k, k < n → zI σ 4 k = zI τ 133 k ∧ ∃ b, b < 128 ∧ zI τ 133 k = nI b
def zRa (σ τ : ZM) : Prop := ∃ r : Nat, r ≤ 1000 ∧ zI σ 8 1 = nI r ∧ zI τ 129 29 = nI r ∧ ∀ k, k < r → k < 20 → zI σ 9 k = zI τ 142 k
def zRp (σ τ : ZM) : Prop := ∀ t, t < 6 → (zI σ 12 t = zI τ 139 t ∧ (zI τ 139 t = -1 ∨ ∃ s, s ≤ 4 ∧ zI τ 139 t = nI s)) ∧ (∃ L, L ≤ 60 ∧ zI σ 13 t = nI L ∧ zI τ 140 t = nI L) ∧ ∀ i, i < 60 → zL σ (14 + t) i = zL τ 141 (60 * t + i)
def zkid (h : Nat) : Nat := if h = 0 then 93 else 86 + h
def cS (o : Nat) : Bool := o == 1 || o == 27 || o == 29 || o == 31 || o == 33 || o == 42 || (51 ≤ o && o < 57) || (63 ≤ o && o < 69) || (75 ≤ o && o < 81)
def cI (o : Nat) : Bool := o == 0 || o == 2 || o == 28 || o == 30 || o == 32 || o == 34 || o == 43 || (57 ≤ o && o < 63) || (69 ≤ o && o < 75) || (81 ≤ o && o < 87)
def cK (o : Nat) : Bool := o == 0 || o == 5 || (87 ≤ o && o < 122)
def cA (o : Nat) : Bool := o == 8 || o == 9
def cP (o : Nat) : Bool := o == 12 || o == 13 || (14 ≤ o && o < 20)
theorem zBS_c {σ σ' : ZM} {A A' : Nat → Int32} (h : zBS σ 0 A) (hs : ∀ o k, cS o = true → zI σ' o k = zI σ o k) (hA : ∀ k, k < 92 → A' k = A k) (hm : (A 5).toNatClampNeg ≤ 6) (hn : (A 7).toNatClampNeg ≤ 12) : zBS σ' 0 A' := by
  obtain ⟨h1, h2, h3, h4, h5, h6, h7⟩ := h
  have e5 := hA 5 (by omega)
  have e7 := hA 7 (by omega)
  refine ⟨by rw [hs _ _ rfl, h1, e5], by rw [hs _ _ rfl, h2, hA 6 (by omega)], by rw [hs _ _ rfl, h3, e7], by rw [hs _ _ rfl, h4, hA 4 (by omega)], fun t ht => by rw [hs _ _ rfl, h5 t ht, hA t (by omega)], fun i hi => ?_, fun k hk => ?_⟩
  · rw [e5] at hi
    obtain ⟨a, b, c, d⟩ := h6 i hi
    refine ⟨by rw [hs _ _ (by simp [cS]; omega), a, hA _ (by omega)], by rw [hs _ _ (by simp [cS]; omega), b, hA _ (by omega)], fun t ht => by rw [hs _ _ (by simp [cS]; omega), c t ht, hA _ (by omega)], fun t ht => by rw [hs _ _ (by simp [cS]; omega), d t ht, hA _ (by omega)]⟩
  · rw [e7] at hk
    obtain ⟨a, b⟩ := h7 k hk
    exact ⟨by rw [hs _ _ rfl, a, hA _ (by omega)], by rw [hs _ _ rfl, b, hA _ (by omega)]⟩
theorem zInv_c {A A' : Nat → Int32} (h : zInv A) (hA : ∀ k, k < 92 → A' k = A k) : zInv A' := by
  obtain ⟨m, n, hr, ⟨m1, m2⟩, ⟨n1, n2⟩, ⟨r1, r2⟩, ht, hi, hk⟩ := h
  refine ⟨m, n, hr, ⟨m1, by rw [hA _ (by omega), m2]⟩, ⟨n1, by rw [hA _ (by omega), n2]⟩, ⟨r1, by rw [hA _ (by omega), r2]⟩, fun t h => by rw [hA _ (by omega)]; exact ht t h, fun i h => ?_, fun k h => ?_⟩
  · obtain ⟨a, b, c, d⟩ := hi i h
    exact ⟨by rw [hA _ (by omega)]; exact a, by rw [hA _ (by omega)]; exact b, fun t ht => by rw [hA _ (by omega)]; exact c t ht, fun t ht => by rw [hA _ (by omega)]; exact d t ht⟩
  · rw [hA _ (by omega), hA _ (by omega)]; exact hk k h
theorem zInv_m {A : Nat → Int32} (h : zInv A) : ∃ m, m ≤ 6 ∧ A 5 = nI m ∧ (A 5).toNatClampNeg = m := by
  obtain ⟨m, n, hr, ⟨m1, m2⟩, -⟩ := h
  exact ⟨m, m1, m2, by rw [m2, nI_clamp (by omega)]⟩
theorem zInv_n {A : Nat → Int32} (h : zInv A) : ∃ n, n ≤ 12 ∧ A 7 = nI n ∧ (A 7).toNatClampNeg = n := by
  obtain ⟨m, n, hr, ⟨m1, m2⟩, ⟨n1, n2⟩, -⟩ := h
  exact ⟨n, n1, n2, by rw [n2, nI_clamp (by omega)]⟩
theorem zRs_c {σ σ' τ τ' : ZM} (h : zRs σ τ) (hs : ∀ o k, cS o = true → zI σ' o k = zI σ o k) (ht : ∀ k, k < 92 → zI τ' 130 k = zI τ 130 k) : zRs σ' τ' := by
  obtain ⟨h1, h2, h3⟩ := h
  obtain ⟨m, m1, m2, m3⟩ := zInv_m h1
  obtain ⟨n, n1, n2, n3⟩ := zInv_n h1
  exact ⟨zInv_c h1 ht, zBS_c h2 hs ht (by omega) (by omega), fun i hi => by rw [hs _ _ (by simp [cS]; omega)]; exact h3 i hi⟩
theorem zRi_c {σ σ' τ τ' : ZM} (h : zRi σ τ) (hs : ∀ o k, cI o = true → zI σ' o k = zI σ o k) (ht : ∀ k, k < 92 → zI τ' 131 k = zI τ 131 k) (h3 : zI τ' 129 3 = zI τ 129 3) : zRi σ' τ' := by
  rcases h with ⟨a, b⟩ | ⟨a, b, c, d⟩
  · exact Or.inl ⟨by rw [hs _ _ rfl]; exact a, by rw [h3]; exact b⟩
  · refine Or.inr ⟨by rw [hs _ _ rfl]; exact a, by rw [h3]; exact b, zInv_c c ht, ?_⟩
    obtain ⟨m, m1, m2, m3⟩ := zInv_m c
    obtain ⟨n, n1, n2, n3⟩ := zInv_n c
    obtain ⟨h1, h2, h3, h4, h5, h6, h7⟩ := d
    have e5 := ht 5 (by omega)
    have e7 := ht 7 (by omega)
    refine ⟨by rw [hs _ _ rfl, h1, e5], by rw [hs _ _ rfl, h2, ht 6 (by omega)], by rw [hs _ _ rfl, h3, e7], by rw [hs _ _ rfl, h4, ht 4 (by omega)], fun t htt => by rw [hs _ _ rfl, h5 t htt, ht t (by omega)], fun i hi => ?_, fun k hk => ?_⟩
    · rw [e5] at hi
      obtain ⟨a, b, c, d⟩ := h6 i hi
      refine ⟨by rw [hs _ _ (by simp [cI]; omega), a, ht _ (by omega)], by rw [hs _ _ (by simp [cI]; omega), b, ht _ (by omega)], fun t htt => by rw [hs _ _ (by simp [cI]; omega), c t htt, ht _ (by omega)], fun t htt => by rw [hs _ _ (by simp [cI]; omega), d t htt, ht _ (by omega)]⟩
    · rw [e7] at hk
      obtain ⟨a, b⟩ := h7 k hk
      exact ⟨by rw [hs _ _ rfl, a, ht _ (by omega)], by rw [hs _ _ rfl, b, ht _ (by omega)]⟩
theorem zRt_c {σ σ' τ τ' : ZM} (h : zRt σ τ) (h1 : zI σ' 3 1 = zI σ 3 1) (h2 : zI τ' 129 7 = zI τ 129 7) (h3 : ∀ k, k < 100 → zI σ' 4 k = zI σ 4 k) (h4 : ∀ k, k < 100 → zI τ' 133 k = zI τ 133 k) : zRt σ' τ' := by
  obtain ⟨n, a, b, c, d⟩ := h
  exact ⟨n, a, by rw [h1]; exact b, by rw [h2]; exact c, fun k hk => by rw [h3 k (by omega), h4 k (by omega)]; exact d k hk⟩
theorem zRa_c {σ σ' τ τ' : ZM} (h : zRa σ τ) (hs : ∀ o k, cA o = true → zI σ' o k = zI σ o k) (h2 : zI τ' 129 29 = zI τ 129 29) (h4 : ∀ k, k < 20 → zI τ' 142 k = zI τ 142 k) : zRa σ' τ' := by
  obtain ⟨n, a, b, c, d⟩ := h
  exact ⟨n, a, by rw [hs _ _ rfl]; exact b, by rw [h2]; exact c, fun k hk hk2 => by rw [hs _ _ rfl, h4 k hk2]; exact d k hk hk2⟩
theorem zRp_c {σ σ' τ τ' : ZM} (h : zRp σ τ) (hs : ∀ o k, cP o = true → zI σ' o k = zI σ o k) (hL : ∀ o k, cP o = true → zL σ' o k = zL σ o k) (h2 : ∀ k, k < 6 → zI τ' 139 k = zI τ 139 k) (h3 : ∀ k, k < 6 → zI τ' 140 k = zI τ 140 k) (h4 : ∀ k, k < 360 → zL τ' 141 k = zL τ 141 k) : zRp σ' τ' := by
  intro t ht
  obtain ⟨⟨a, b⟩, c, d⟩ := h t ht
  refine ⟨⟨by rw [hs _ _ rfl, h2 t ht]; exact a, by rw [h2 t ht]; exact b⟩, by rw [hs _ _ rfl, h3 t ht]; exact c, fun i hi => by rw [hL _ _ (by simp [cP]; omega), h4 _ (by omega)]; exact d i hi⟩
