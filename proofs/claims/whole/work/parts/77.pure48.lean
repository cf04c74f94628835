/-! PURE: sets as bits; rows gone through -/
def pB (s : Nat) : Nat := (if Nat.testBit s 0 = true then 1 else 0) + (if Nat.testBit s 1 = true then 1 else 0) + (if Nat.testBit s 2 = true then 1 else 0) + (if Nat.testBit s 3 = true then 1 else 0) + (if Nat.testBit s 4 = true then 1 else 0) + (if Nat.testBit s 5 = true then 1 else 0)
theorem pB_le (s : Nat) : pB s ≤ 6 := by
  unfold pB
  repeat' split
  all_goals omega
theorem pB_0 : ∀ s, s < 64 → (pB s = 0 ↔ s = 0) := by decide +kernel
theorem pB_h : ∀ s, s < 64 → pB s = s % 2 + pB (s / 2) ∧ nI s &&& (1 : Int32) = nI (s % 2) ∧ nI s >>> ((1 : Int32) &&& 31) = nI (s / 2) := by decide +kernel
theorem pB_m : ∀ s, s < 64 → ∀ l, l < 6 → Nat.testBit s l = true → pB (s - 2 ^ l) + 1 = pB s ∧ nI s &&& (((1 : Int32) <<< (nI l &&& 31)) ^^^ (-1 : Int32)) = nI (s - 2 ^ l) := by decide +kernel
theorem bcount_e (s : Nat) (hs : s < 64) (σ : ZM) : f_Integer_bitCount (nI s) σ = some (nI (pB s), σ) := by
  have key : ∀ s, s < 64 → ∀ x : Int32, x = nI s → (((f_Integer_bitCount x ((fun _ _ => 0), (fun _ _ => 0), fun _ _ => 0)).map Prod.fst) = some (nI (pB s))) := by
    have k0 : ∀ s, s < 64 → (((f_Integer_bitCount (nI s) ((fun _ _ => 0), (fun _ _ => 0), fun _ _ => 0)).map Prod.fst) = some (nI (pB s))) := by decide +kernel
    intro s hs x hx
    rw [hx]; exact k0 s hs
  have k1 := key s hs (nI s) rfl
  unfold f_Integer_bitCount at *
  rw [Option.map_some] at k1
  have k2 := Option.some.inj k1
  rw [show ∀ (a : Int32) (b c : Int32 × ZM), a = b.1 → some (a, σ) = some (b.1, σ) from fun a b c h => by rw [h]]
  · exact congrArg (fun z => some (z, σ)) k2
  · exact (0, σ)
  · rfl
theorem bits_u (N : Nat) (a b : Int32) (σ : ZM) : F_Model_bits_4 (N + 1) (a, b, σ) = f_Model_bits_4 (F_Model_bits_4 N) a b σ := rfl
theorem bits_l (τ : ZM) : ∀ (n s a N : Nat), s < 2 ^ n → n ≤ 6 → n < N → F_Model_bits_4 N (nI a, nI s, τ) = some (nI (a + pB s), τ)
  | 0, s, a, N, hs, hn, hN => by
    obtain ⟨N, rfl⟩ : ∃ M, N = M + 1 := ⟨N - 1, by omega⟩
    have e : (2 : Nat) ^ 0 = 1 := rfl
    obtain rfl : s = 0 := by omega
    rfl
  | n + 1, s, a, N, hs, hn, hN => by
    obtain ⟨N, rfl⟩ : ∃ M, N = M + 1 := ⟨N - 1, by omega⟩
    have e2 : (2 : Nat) ^ (n + 1) = 2 * 2 ^ n := by rw [Nat.pow_succ]; omega
    have e6 : (2 : Nat) ^ (n + 1) ≤ 2 ^ 6 := Nat.pow_le_pow_right (by omega) hn
    have e7 : (2 : Nat) ^ 6 = 64 := rfl
    rw [bits_u]
    unfold f_Model_bits_4
    by_cases q : s = 0
    · subst q
      rw [if_pos (show nI 0 ≤ 0 from Int32.le_refl _)]; rfl
    · obtain ⟨h1, h2, h3⟩ := pB_h s (by omega)
      rw [if_neg (show ¬ nI s ≤ (0 : Int32) from nI_ge (a := 0) (by omega) (by omega)), h2, h3, nI_add, bits_l τ n (s / 2) (a + s % 2) N (by omega) (by omega) (by omega), h1, Nat.add_assoc]
theorem bits_e (s : Nat) (hs : s < 64) (τ : ZM) : f_Model_bits (nI s) τ = some (nI (pB s), τ) := by
  have := bits_l τ 6 s 0 2000 hs (by omega) (by omega)
  rw [Nat.zero_add] at this
  exact this
abbrev ZB : Type := Option (Nat × List Nat)
def pUp (B : ZB) (v : Nat) (pre : List Nat) : ZB := match B with
  | none => some (v, pre)
  | some q => if v < q.1 then some (v, pre) else some q
def pOl (g : Nat → ZB → ZB) (s : Nat) : Nat → Nat → ZB → ZB
  | 0, _, B => B
  | d + 1, l, B => pOl g s d (l + 1) (if Nat.testBit s l = true then g l B else B)
theorem pOl_s (g : Nat → ZB → ZB) (s d l : Nat) (B : ZB) : pOl g s (d + 1) l B = pOl g s d (l + 1) (if Nat.testBit s l = true then g l B else B) := rfl
def pO (cs : List ZCl) (D : ZD) (m : Nat) (S : ZS) : Nat → Nat → List Nat → ZB → ZB
  | 0, _, pre, B => pUp B (pLs cs D pre S) pre
  | r + 1, s, pre, B => pOl (fun l B => pO cs D m S r (s - 2 ^ l) (pre ++ [l]) B) s m 0 B
theorem pO_0 (cs : List ZCl) (D : ZD) (m : Nat) (S : ZS) (s : Nat) (pre : List Nat) (B : ZB) : pO cs D m S 0 s pre B = pUp B (pLs cs D pre S) pre := rfl
theorem pO_s (cs : List ZCl) (D : ZD) (m : Nat) (S : ZS) (r s : Nat) (pre : List Nat) (B : ZB) : pO cs D m S (r + 1) s pre B = pOl (fun l B => pO cs D m S r (s - 2 ^ l) (pre ++ [l]) B) s m 0 B := rfl
def pSt (cs : List ZCl) (D : ZD) : List Nat → ZS → ZS
  | [], S => S
  | i :: r, S => pSt cs D r (pBk cs D i S)
theorem pSt_a (cs : List ZCl) (D : ZD) (l : Nat) : ∀ (pre : List Nat) (S : ZS), pSt cs D (pre ++ [l]) S = pBk cs D l (pSt cs D pre S) ∧ pLs cs D (pre ++ [l]) S = pLs cs D pre S + (if pSp cs D (pSt cs D pre S).1 (pSt cs D pre S).2 l 0 4 = true then 1 else 0)
  | [], S => ⟨rfl, by show (if pSp cs D S.1 S.2 l 0 4 = true then 1 else 0) + 0 = 0 + (if pSp cs D S.1 S.2 l 0 4 = true then 1 else 0); omega⟩
  | i :: r, S => by
    obtain ⟨a, b⟩ := pSt_a cs D l r (pBk cs D i S)
    refine ⟨a, ?_⟩
    rw [List.cons_append, pLs_c, pLs_c, b]
    show _ = _ + (if pSp cs D (pSt cs D r (pBk cs D i S)).1 (pSt cs D r (pBk cs D i S)).2 l 0 4 = true then 1 else 0)
    omega
theorem pSt_B (cs : List ZCl) (D : ZD) : ∀ (pre : List Nat) (S : ZS), zSB S → zSB (pSt cs D pre S)
  | [], _, h => h
  | i :: r, S, _ => pSt_B cs D r _ (pBk_B cs D i S)
/-- nothing better comes of a row that is no better -/
theorem pOl_id (g : Nat → ZB → ZB) (s : Nat) (B : ZB) : ∀ (d l : Nat), (∀ k, l ≤ k → k < l + d → Nat.testBit s k = true → g k B = B) → pOl g s d l B = B
  | 0, _, _ => rfl
  | d + 1, l, h => by
    rw [pOl_s]
    by_cases q : Nat.testBit s l = true
    · rw [if_pos q, h l (by omega) (by omega) q]
      exact pOl_id g s B d (l + 1) (fun k h1 h2 => h k (by omega) (by omega))
    · rw [if_neg q]
      exact pOl_id g s B d (l + 1) (fun k h1 h2 => h k (by omega) (by omega))
theorem pO_id (cs : List ZCl) (D : ZD) (m : Nat) (S : ZS) (q : Nat × List Nat) : ∀ (r s : Nat) (pre : List Nat), q.1 ≤ pLs cs D pre S → pO cs D m S r s pre (some q) = some q
  | 0, s, pre, h => by
    rw [pO_0]
    show (if pLs cs D pre S < q.1 then some (pLs cs D pre S, pre) else some q) = some q
    rw [if_neg (by omega)]
  | r + 1, s, pre, h => by
    rw [pO_s]
    refine pOl_id _ s (some q) m 0 (fun k _ _ _ => pO_id cs D m S q r _ _ ?_)
    rw [(pSt_a cs D k pre S).2]
    omega
theorem pOl_n (g : Nat → ZB → ZB) (s : Nat) (h : ∀ k B, B ≠ none → g k B ≠ none) : ∀ (d l : Nat) (B : ZB), B ≠ none → pOl g s d l B ≠ none
  | 0, _, B, hB => hB
  | d + 1, l, B, hB => by
    rw [pOl_s]
    refine pOl_n g s h d (l + 1) _ ?_
    split
    · exact h l B hB
    · exact hB
theorem pOl_e (g : Nat → ZB → ZB) (s : Nat) (h : ∀ k B, B ≠ none → g k B ≠ none) (h2 : ∀ k B, Nat.testBit s k = true → g k B ≠ none) : ∀ (d l : Nat) (B : ZB), (∃ k, l ≤ k ∧ k < l + d ∧ Nat.testBit s k = true) → pOl g s d l B ≠ none
  | 0, l, B, hk => by
    obtain ⟨k, k1, k2, -⟩ := hk
    omega
  | d + 1, l, B, hk => by
    rw [pOl_s]
    by_cases q : Nat.testBit s l = true
    · rw [if_pos q]
      exact pOl_n g s h d (l + 1) _ (h2 l B q)
    · rw [if_neg q]
      refine pOl_e g s h h2 d (l + 1) B ?_
      obtain ⟨k, k1, k2, k3⟩ := hk
      by_cases z : k = l
      · rw [z] at k3; exact absurd k3 q
      · exact ⟨k, by omega, by omega, k3⟩
theorem pO_n (cs : List ZCl) (D : ZD) (m : Nat) (S : ZS) : ∀ (r s : Nat) (pre : List Nat) (B : ZB), B ≠ none → pO cs D m S r s pre B ≠ none
  | 0, s, pre, B, h => by
    rw [pO_0]
    unfold pUp
    split
    · exact fun z => by cases z
    · split <;> exact fun z => by cases z
  | r + 1, s, pre, B, h => by
    rw [pO_s]
    exact pOl_n _ s (fun k B hB => pO_n cs D m S r _ _ B hB) m 0 B h
theorem set_has : ∀ m, m < 7 → ∀ s, s < 2 ^ m → ¬ pB s = 0 → ∃ k, k < m ∧ Nat.testBit s k = true := by decide +kernel
theorem set_lt : ∀ m, m < 7 → ∀ s, s < 2 ^ m → s < 64 ∧ ∀ l, l < 6 → Nat.testBit s l = true → l < m := by decide +kernel
theorem pO_e (cs : List ZCl) (D : ZD) (m : Nat) (hm : m ≤ 6) (S : ZS) : ∀ (r s : Nat) (pre : List Nat) (B : ZB), s < 2 ^ m → pB s = r → pO cs D m S r s pre B ≠ none
  | 0, s, pre, B, _, _ => by
    rw [pO_0]
    unfold pUp
    split
    · exact fun z => by cases z
    · split <;> exact fun z => by cases z
  | r + 1, s, pre, B, hs, hr => by
    rw [pO_s]
    obtain ⟨k, k1, k2⟩ := set_has m (by omega) s hs (by omega)
    obtain ⟨s64, -⟩ := set_lt m (by omega) s hs
    refine pOl_e _ s (fun k B hB => pO_n cs D m S r _ _ B hB) ?_ m 0 B ⟨k, by omega, by omega, k2⟩
    intro k B hk
    by_cases c : k < 6
    · obtain ⟨b1, -⟩ := pB_m s s64 k c hk
      exact pO_e cs D m hm S r (s - 2 ^ k) (pre ++ [k]) B (Nat.lt_of_le_of_lt (Nat.sub_le _ _) hs) (by omega)
    · exfalso
      have h1 := Nat.ge_two_pow_of_testBit hk
      have h2 : (2 : Nat) ^ 6 ≤ 2 ^ k := Nat.pow_le_pow_right (by omega) (by omega)
      have h3 : (2 : Nat) ^ 6 = 64 := rfl
      omega
