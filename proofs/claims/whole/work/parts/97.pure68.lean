/-! THE START: the addresses are apart; the first memories go together -/
set_option maxRecDepth 20000 in
theorem kw_B1 (θ : ZT) (h : Nat) (u : Nat → Nat) : (kw_BB θ h u).map Prod.fst = (List.range 129).map (zad h u) := rfl
theorem kw_M1 (θ : ZT) (h : Nat) (u : Nat → Nat) : (kw_Model θ h u).map Prod.fst = (List.range 14).map (zad h u) := rfl
theorem kw_at {ws : va_W} {n h : Nat} {u : Nat → Nat} (e : ws.map Prod.fst = (List.range n).map (zad h u)) {k : Nat} (hk : k < n) : ∃ x, ws[k]? = some (zad h u k, x) := by
  have h1 : (ws.map Prod.fst)[k]? = some (zad h u k) := by rw [e]; simp [hk]
  rw [List.getElem?_map] at h1
  cases hq : ws[k]? with
  | none => rw [hq] at h1; cases h1
  | some q =>
    rw [hq] at h1
    obtain ⟨a, x⟩ := q
    have h2 : a = zad h u k := by simpa using h1
    exact ⟨x, by rw [h2]⟩
def zix (o : Nat) : Nat := if o < 129 then zpi.getD o 0 else 129 + zpi.getD o 0
theorem zix_B : ∀ o, o < 129 → zpi.getD o 0 < 129 := by decide +kernel
theorem zix_M : ∀ o, o < 143 → ¬ o < 129 → zpi.getD o 0 < 14 := by decide +kernel
theorem zix_inj : ∀ i, i < 143 → ∀ j, j < 143 → zix i = zix j → i = j := by decide +kernel
section ZJS
variable {θ : ZT} {hB : Nat} {uB : Nat → Nat} {hM : Nat} {uM : Nat → Nat} {A : Nat → Prop}
theorem zw_at {o : Nat} (ho : o < 143) : ∃ x, (kw_BB θ hB uB ++ kw_Model θ hM uM)[zix o]? = some (za (zth θ hB uB hM uM) o, x) := by
  have hlB : (kw_BB θ hB uB).length = 129 := rfl
  by_cases h : o < 129
  · obtain ⟨x, hx⟩ := kw_at (kw_B1 θ hB uB) (zix_B o h)
    refine ⟨x, ?_⟩
    have e1 : zix o = zpi.getD o 0 := if_pos h
    have e2 : za (zth θ hB uB hM uM) o = zad hB uB (zpi.getD o 0) := if_pos h
    rw [e1, e2, List.getElem?_append_left (by rw [hlB]; exact zix_B o h)]
    exact hx
  · obtain ⟨x, hx⟩ := kw_at (kw_M1 θ hM uM) (zix_M o ho h)
    refine ⟨x, ?_⟩
    have e1 : zix o = 129 + zpi.getD o 0 := if_neg h
    have e2 : za (zth θ hB uB hM uM) o = zad hM uM (zpi.getD o 0) := if_neg h
    rw [e1, e2, List.getElem?_append_right (by rw [hlB]; omega), hlB, Nat.add_sub_cancel_left]
    exact hx
theorem zw_J (hD : va_D A (kw_BB θ hB uB ++ kw_Model θ hM uM)) : zJ (zth θ hB uB hM uM) := by
  intro i j hi hj h
  obtain ⟨x, hx⟩ := zw_at (θ := θ) (hB := hB) (uB := uB) (hM := hM) (uM := uM) hi
  obtain ⟨y, hy⟩ := zw_at (θ := θ) (hB := hB) (uB := uB) (hM := hM) (uM := uM) hj
  exact zix_inj i hi j hj (hD.1 _ _ _ _ hx hy h)
theorem zw_A (hD : va_D A (kw_BB θ hB uB ++ kw_Model θ hM uM)) : ∀ o, o < 143 → A (za (zth θ hB uB hM uM) o) := by
  intro o ho
  obtain ⟨x, hx⟩ := zw_at (θ := θ) (hB := hB) (uB := uB) (hM := hM) (uM := uM) ho
  exact hD.2 _ _ hx
end ZJS
theorem zR0 : zRel zs0 zt0 := by
  refine ⟨⟨0, 0, ⟨by decide, by decide, rfl, rfl, fun p hp => ?_⟩, ⟨by decide +kernel, fun p h6 hp => ?_⟩, fun i hi => ?_⟩, Or.inl ⟨rfl, rfl⟩, ⟨0, by decide, rfl, rfl, fun k hk => absurd hk (Nat.not_lt_zero k)⟩, ⟨0, by decide, rfl, rfl, fun k hk => absurd hk (Nat.not_lt_zero k)⟩, fun t ht => ?_, ⟨0, 0, by decide, rfl, rfl, fun i hi => absurd hi (Nat.not_lt_zero i), ⟨by decide, rfl, rfl, rfl, by decide, (fun i c h => (by cases h)), (fun j s h => (by cases h))⟩, by decide, rfl, rfl, fun h => absurd h (by decide +kernel)⟩⟩
  · refine Or.inl ⟨0, Nat.zero_le _, rfl, fun h => absurd hp ?_⟩
    have : ∀ p, 68 ≤ p → ¬ zva 0 0 p = true := by
      intro p h
      simp only [zva, Bool.or_eq_true, Bool.and_eq_true, decide_eq_true_eq]
      omega
    exact this p h
  · have hp8 : p < 8 := by
      simp only [zva, Bool.or_eq_true, Bool.and_eq_true, decide_eq_true_eq] at hp
      omega
    rcases (show p = 0 ∨ p = 1 ∨ p = 2 ∨ p = 3 ∨ p = 4 ∨ p = 5 ∨ p = 7 by omega) with rfl | rfl | rfl | rfl | rfl | rfl | rfl <;> rfl
  · rcases (show i = 0 ∨ i = 1 ∨ i = 2 ∨ i = 3 ∨ i = 4 ∨ i = 5 by omega) with rfl | rfl | rfl | rfl | rfl | rfl <;> rfl
  · refine ⟨?_, ⟨0, by decide, rfl, rfl⟩, fun i hi => ?_⟩
    · rcases (show t = 0 ∨ t = 1 ∨ t = 2 ∨ t = 3 ∨ t = 4 ∨ t = 5 by omega) with rfl | rfl | rfl | rfl | rfl | rfl <;> exact ⟨rfl, Or.inl rfl⟩
    · rfl
