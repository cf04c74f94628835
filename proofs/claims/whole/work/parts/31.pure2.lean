/-! PURE: how the two memories go together -/
def zAG (S : Nat → Bool) (σ σ' : ZM) : Prop := (∀ o k, S o = true → zI σ' o k = zI σ o k) ∧ (∀ o k, S o = true → zL σ' o k = zL σ o k) ∧ (∀ o k, S o = true → zP σ' o k = zP σ o k)
def cS (o : Nat) : Bool := o == 1 || o == 27 || o == 29 || o == 31 || o == 33 || o == 42 || (51 ≤ o && o < 57) || (63 ≤ o && o < 69) || (75 ≤ o && o < 81)
def cI (o : Nat) : Bool := o == 0 || o == 2 || o == 28 || o == 30 || o == 32 || o == 34 || o == 43 || (57 ≤ o && o < 63) || (69 ≤ o && o < 75) || (81 ≤ o && o < 87)
def cK (o : Nat) : Bool := o == 0 || o == 5 || (87 ≤ o && o < 122)
def cA (o : Nat) : Bool := o == 8 || o == 9
def cP (o : Nat) : Bool := o == 12 || o == 13 || (14 ≤ o && o < 20)
/-- the greatest number in a place of the model's row of 92 -/
def zmx (p : Nat) : Nat := if p < 5 then 9999 else if p < 7 then 6 else if p = 7 then 12 else if p < 68 then (if (p - 8) % 10 = 0 then 6 else if (p - 8) % 10 = 1 then 9 else 99) else 1
/-- the places that are in use: m loaves, n rows of the book -/
def zva (m n p : Nat) : Bool := decide (p < 8) || (decide (p < 68) && decide ((p - 8) / 10 < m)) || (decide (68 ≤ p) && (decide (p < 92) && decide ((p - 68) / 2 < n)))
/-- the row's place p holds what it may -/
def zok (m p : Nat) (v : Int32) : Prop := (∃ g, g ≤ zmx p ∧ v = nI g ∧ (68 ≤ p → p % 2 = 1)) ∨ (68 ≤ p ∧ p % 2 = 0 ∧ (v = -2 ∨ ∃ j, j < m ∧ v = nI j))
def zInv (m n : Nat) (A : Nat → Int32) : Prop := m ≤ 6 ∧ n ≤ 12 ∧ A 5 = nI m ∧ A 7 = nI n ∧ ∀ p, zva m n p = true → zok m p (A p)
/-- where the class keeps what the model keeps in place p (d 0 now, 1 in the image) -/
def zlo (d p : Nat) : Nat := if p < 4 then 42 + d else if p = 4 then 33 + d else if p < 7 then 1 + d else if p = 7 then 27 + d else if p < 68 then (if (p - 8) % 10 < 2 then 51 + 6 * d + (p - 8) / 10 else if (p - 8) % 10 < 6 then 63 + 6 * d + (p - 8) / 10 else 75 + 6 * d + (p - 8) / 10) else (if p % 2 = 0 then 29 + d else 31 + d)
def zlk (p : Nat) : Nat := if p < 4 then p else if p = 4 then 1 else if p = 5 then 3 else if p = 6 then 4 else if p = 7 then 2 else if p < 68 then (if (p - 8) % 10 < 2 then 3 + (p - 8) % 10 else if (p - 8) % 10 < 6 then (p - 8) % 10 - 2 else (p - 8) % 10 - 6) else (p - 68) / 2
def zBS (m n : Nat) (σ : ZM) (d : Nat) (A : Nat → Int32) : Prop := zI σ (1 + d) 4 = A 6 - 1 ∧ ∀ p, p ≠ 6 → zva m n p = true → zI σ (zlo d p) (zlk p) = A p
def zRs (m n : Nat) (σ τ : ZM) : Prop := zInv m n (zI τ 130) ∧ zBS m n σ 0 (zI τ 130) ∧ ∀ i, i < 6 → zI σ (51 + i) 0 = nI i
def zRi (σ τ : ZM) : Prop := (zI σ 0 11 = nI 0 ∧ zI τ 129 3 = nI 0) ∨ (zI σ 0 11 = nI 1 ∧ zI τ 129 3 = nI 1 ∧ ∃ m n, zInv m n (zI τ 131) ∧ zBS m n σ 1 (zI τ 131))
theorem zva_lt {m n p : Nat} (hm : m ≤ 6) (h : zva m n p = true) : p < 92 := by
  simp only [zva, Bool.or_eq_true, Bool.and_eq_true, decide_eq_true_eq] at h
  omega
theorem zlo_S : ∀ p, p < 92 → cS (zlo 0 p) = true := by decide +kernel
theorem zlo_I : ∀ p, p < 92 → cI (zlo 1 p) = true := by decide +kernel
theorem zlo_inj : ∀ p, p < 92 → ∀ q, q < 92 → zlo 0 p = zlo 0 q → zlk p = zlk q → p = q := by decide +kernel
theorem zlo_inj1 : ∀ p, p < 92 → ∀ q, q < 92 → zlo 1 p = zlo 1 q → zlk p = zlk q → p = q := by decide +kernel
theorem zlo_num : ∀ p, p < 92 → zlk p = 0 → ¬ (51 ≤ zlo 0 p ∧ zlo 0 p < 57) := by decide +kernel
def zRt (σ τ : ZM) : Prop := ∃ n : Nat, n ≤ 100 ∧ zI σ 3 1 = nI n ∧ zI τ 129 7 = nI n ∧ ∀ k, k < n → zI σ 4 k = zI τ 133 k ∧ ∃ b, b < 128 ∧ zI τ 133 k = nI b
def zRa (σ τ : ZM) : Prop := ∃ r : Nat, r ≤ 1000 ∧ zI σ 8 1 = nI r ∧ zI τ 129 29 = nI r ∧ ∀ k, k < r → k < 20 → zI σ 9 k = zI τ 142 k
def zRp (σ τ : ZM) : Prop := ∀ t, t < 6 → (zI σ 12 t = zI τ 139 t ∧ (zI τ 139 t = -1 ∨ ∃ s, s ≤ 4 ∧ zI τ 139 t = nI s)) ∧ (∃ L, L ≤ 60 ∧ zI σ 13 t = nI L ∧ zI τ 140 t = nI L) ∧ ∀ i, i < 60 → zL σ (14 + t) i = zL τ 141 (60 * t + i)
def zkid (h : Nat) : Nat := if h = 0 then 93 else 86 + h
theorem zInv_c {m n : Nat} {A A' : Nat → Int32} (h : zInv m n A) (hA : ∀ k, k < 92 → A' k = A k) : zInv m n A' := by
  obtain ⟨a, b, c, d, e⟩ := h
  exact ⟨a, b, by rw [hA _ (by omega)]; exact c, by rw [hA _ (by omega)]; exact d, fun p hp => by rw [hA _ (zva_lt a hp)]; exact e p hp⟩
theorem zRs_c {m n : Nat} {σ σ' τ τ' : ZM} (h : zRs m n σ τ) (hs : ∀ o k, cS o = true → zI σ' o k = zI σ o k) (ht : ∀ k, k < 92 → zI τ' 130 k = zI τ 130 k) : zRs m n σ' τ' := by
  obtain ⟨h1, ⟨h2, h3⟩, h4⟩ := h
  exact ⟨zInv_c h1 ht, ⟨by rw [hs _ _ rfl, ht 6 (by omega)]; exact h2, fun p hp hv => by rw [hs _ _ (zlo_S p (zva_lt h1.1 hv)), ht _ (zva_lt h1.1 hv)]; exact h3 p hp hv⟩, fun i hi => by rw [hs _ _ (by simp [cS]; omega)]; exact h4 i hi⟩
theorem zRi_c {σ σ' τ τ' : ZM} (h : zRi σ τ) (hs : ∀ o k, cI o = true → zI σ' o k = zI σ o k) (ht : ∀ k, k < 92 → zI τ' 131 k = zI τ 131 k) (h3 : zI τ' 129 3 = zI τ 129 3) : zRi σ' τ' := by
  rcases h with ⟨a, b⟩ | ⟨a, b, m, n, c, d⟩
  · exact Or.inl ⟨by rw [hs _ _ rfl]; exact a, by rw [h3]; exact b⟩
  · exact Or.inr ⟨by rw [hs _ _ rfl]; exact a, by rw [h3]; exact b, m, n, zInv_c c ht, by rw [hs _ _ rfl, ht 6 (by omega)]; exact d.1, fun p hp hv => by rw [hs _ _ (zlo_I p (zva_lt c.1 hv)), ht _ (zva_lt c.1 hv)]; exact d.2 p hp hv⟩
/-- one place of the row changes, and its cell in the class -/
theorem zRs_put {m n p : Nat} {v : Int32} {σ σ' τ τ' : ZM} (h : zRs m n σ τ) (hp : p < 92) (h5 : p ≠ 5) (h6 : p ≠ 6) (h7 : p ≠ 7) (hv : zva m n p = true → zok m p v) (hs : ∀ o k, cS o = true → zI σ' o k = if o = zlo 0 p ∧ k = zlk p then v else zI σ o k) (ht : ∀ k, k < 92 → zI τ' 130 k = if k = p then v else zI τ 130 k) : zRs m n σ' τ' := by
  obtain ⟨⟨a, b, c, d, e⟩, ⟨h2, h3⟩, h4⟩ := h
  refine ⟨⟨a, b, by rw [ht _ (by omega), if_neg (Ne.symm h5)]; exact c, by rw [ht _ (by omega), if_neg (Ne.symm h7)]; exact d, fun q hq => ?_⟩, ⟨?_, fun q hq6 hq => ?_⟩, fun i hi => ?_⟩
  · have hl := zva_lt a hq
    rw [ht _ hl]
    by_cases hqp : q = p
    · rw [if_pos hqp, hqp]; exact hv (hqp ▸ hq)
    · rw [if_neg hqp]; exact e q hq
  · rw [hs _ _ rfl, if_neg, ht 6 (by omega), if_neg (Ne.symm h6)]
    · exact h2
    · intro z
      exact h6 (zlo_inj p hp 6 (by omega) z.1.symm z.2.symm)
  · have hl := zva_lt a hq
    rw [hs _ _ (zlo_S q hl), ht _ hl]
    by_cases hqp : q = p
    · rw [if_pos hqp, if_pos (by rw [hqp]; exact ⟨rfl, rfl⟩)]
    · rw [if_neg hqp, if_neg (fun z => hqp (zlo_inj q hl p hp z.1 z.2))]; exact h3 q hq6 hq
  · rw [hs _ _ (by simp [cS]; omega), if_neg (fun z => zlo_num p hp z.2.symm (by omega))]; exact h4 i hi
theorem zRt_c {σ σ' τ τ' : ZM} (h : zRt σ τ) (h1 : zI σ' 3 1 = zI σ 3 1) (h2 : zI τ' 129 7 = zI τ 129 7) (h3 : ∀ k, k < 100 → zI σ' 4 k = zI σ 4 k) (h4 : ∀ k, k < 100 → zI τ' 133 k = zI τ 133 k) : zRt σ' τ' := by
  obtain ⟨n, a, b, c, d⟩ := h
  exact ⟨n, a, by rw [h1]; exact b, by rw [h2]; exact c, fun k hk => by rw [h3 k (by omega), h4 k (by omega)]; exact d k hk⟩
theorem zRa_c {σ σ' τ τ' : ZM} (h : zRa σ τ) (hs : ∀ o k, cA o = true → zI σ' o k = zI σ o k) (h2 : zI τ' 129 29 = zI τ 129 29) (h4 : ∀ k, k < 20 → zI τ' 142 k = zI τ 142 k) : zRa σ' τ' := by
  obtain ⟨n, a, b, c, d⟩ := h
  exact ⟨n, a, by rw [hs _ _ rfl]; exact b, by rw [h2]; exact c, fun k hk hk2 => by rw [hs _ _ rfl, h4 k hk2]; exact d k hk hk2⟩
theorem zRp_c {σ σ' τ τ' : ZM} (h : zRp σ τ) (hs : ∀ o k, cP o = true → zI σ' o k = zI σ o k) (hL : ∀ o k, cP o = true → zL σ' o k = zL σ o k) (h2 : ∀ k, k < 6 → zI τ' 139 k = zI τ 139 k) (h3 : ∀ k, k < 6 → zI τ' 140 k = zI τ 140 k) (h4 : ∀ k, k < 360 → zL τ' 141 k = zL τ 141 k) : zRp σ' τ' := by
  intro t ht
  obtain ⟨⟨a, b⟩, c, d⟩ := h t ht
  refine ⟨⟨by rw [hs _ _ rfl, h2 t ht]; exact a, by rw [h2 t ht]; exact b⟩, by rw [hs _ _ rfl, h3 t ht]; exact c, fun i hi => by rw [hL _ _ (by simp [cP]; omega), h4 _ (by omega)]; exact d i hi⟩
