/-! PURE: the cold -/
def pCo (c d : Nat) : Nat := min (d * c / 100) 9999
theorem chb_u (N X : Nat) (t : Int32) (σ : ZM) : F_Baker_chill_2 (N + 1) (X, t, σ) = f_Baker_chill_2 (F_Baker_chill_2 N) X t σ := rfl
theorem strike_e {X o : Nat} {σ : ZM} (hX : 33 ≤ X ∧ X < 42) (ho : o ≤ 9999) (h : zI σ X 1 = nI o) : f_Oven_strike X σ = some ((), zsI σ X 1 (nI (min (o + 1) 9999))) := by
  unfold f_Oven_strike
  rw [zck_of (zRov hX), h, show nI o + (1 : Int32) = nI (o + 1) from nI_add o 1]
  by_cases q : o + 1 < 9999
  · rw [if_pos (show nI (o + 1) < (9999 : Int32) from nI_lt (b := 9999) q (by omega)), Nat.min_eq_left (by omega)]
  · rw [if_neg (show ¬ nI (o + 1) < (9999 : Int32) from nI_nlt (b := 9999) (by omega) (by omega)), Nat.min_eq_right (by omega)]; rfl
theorem cap_b {a : Nat} (h : a < 2 ^ 31) : (if nI a < (9999 : Int32) then nI a else (9999 : Int32)) = nI (min a 9999) := by
  by_cases q : a < 9999
  · rw [if_pos (show nI a < (9999 : Int32) from nI_lt (b := 9999) q (by omega)), Nat.min_eq_left (by omega)]
  · rw [if_neg (show ¬ nI a < (9999 : Int32) from nI_nlt (b := 9999) (by omega) (by omega)), Nat.min_eq_right (by omega)]; rfl
theorem ages_e {o : Nat} {τ : ZM} (ho : o ≤ 9999) (h : zI τ 130 4 = nI o) : f_Model_ages τ = some ((), zsI τ 130 4 (nI (min (o + 1) 9999))) := by
  unfold f_Model_ages f_Model_ages_24
  rw [zck_of (show zin 4 92 = true by decide), zck_of (show zin 4 92 = true by decide), show (4 : Int32).toNatClampNeg = 4 from rfl, h]
  by_cases q : 9999 ≤ o
  · obtain rfl : o = 9999 := by omega
    rw [if_pos (show (9999 : Int32) ≤ nI 9999 from Int32.le_refl _), zck_of (show zin 4 92 = true by decide)]; rfl
  · rw [if_neg (show ¬ (9999 : Int32) ≤ nI o from nI_ge (b := 9999) (by omega) (by omega)), zck_of (show zin 4 92 = true by decide), show nI o + (1 : Int32) = nI (o + 1) from nI_add o 1, Nat.min_eq_left (by omega)]
theorem chill_l {X j c o : Nat} {H : Nat → Nat} (hX : 33 ≤ X ∧ X < 42) (hj : j < 7) (hc : c ≤ 99) (hH : ∀ t, t < 4 → H t ≤ 9999) (ho : o ≤ 9999) : ∀ (n t N : Nat) (σ : ZM), t + n = 4 → n < N → zP σ 5 0 = 87 + j → zI σ (87 + j) 8 = nI c → zI σ X 1 = nI o → (∀ k, t ≤ k → k < 4 → zI σ (X + 9) k = nI (H k)) →
    ∃ σ', F_Baker_chill_2 N (X, nI t, σ) = some ((), σ') ∧ (∀ q k, zI σ' q k = if q = X ∧ k = 1 then nI (min (o + 1) 9999) else if q = X + 9 ∧ t ≤ k ∧ k < 4 then nI (pCo c (H k)) else zI σ q k) ∧ (∀ q k, zP σ' q k = zP σ q k) ∧ (∀ q k, zL σ' q k = zL σ q k) := by
  intro n
  induction n with
  | zero =>
    intro t N σ ht hN hP h8 h1 hh
    obtain ⟨N, rfl⟩ : ∃ M, N = M + 1 := ⟨N - 1, by omega⟩
    obtain rfl : t = 4 := by omega
    rw [chb_u]
    unfold f_Baker_chill_2
    rw [if_pos (show (4 : Int32) ≤ nI 4 from Int32.le_refl _), strike_e hX ho h1, zbd_s]
    refine ⟨_, rfl, fun q k => ?_, fun _ _ => rfl, fun _ _ => rfl⟩
    rw [zI_sI]
    by_cases z : q = X ∧ k = 1
    · rw [if_pos z, if_pos z]
    · rw [if_neg z, if_neg z, if_neg (show ¬ (q = X + 9 ∧ 4 ≤ k ∧ k < 4) by omega)]
  | succ n ih =>
    intro t N σ ht hN hP h8 h1 hh
    obtain ⟨N, rfl⟩ : ∃ M, N = M + 1 := ⟨N - 1, by omega⟩
    have hm : H t * c ≤ 9999 * 99 := Nat.mul_le_mul (hH t (by omega)) hc
    have e100 : nI (H t * c) / (100 : Int32) = nI (H t * c / 100) := nI_divE (b := 100) (by omega) (by omega)
    rw [chb_u]
    unfold f_Baker_chill_2
    rw [if_neg (show ¬ (4 : Int32) ≤ nI t from nI_ge (b := 4) (by omega) (by omega)), zck_nI (by omega) (by omega), hP, zck_of (zRkn hj), zck_nI (by omega) (by omega), nI_clamp (by omega), hh t (Nat.le_refl _) (by omega), h8, nI_mul, e100, cap_b (by omega), show nI t + (1 : Int32) = nI (t + 1) from nI_add t 1]
    obtain ⟨σ', a1, a2, a3, a4⟩ := ih (t + 1) N (zsI σ (X + 9) t (nI (min (H t * c / 100) 9999))) (by omega) (by omega) hP (by rw [zI_sI, if_neg (by omega)]; exact h8) (by rw [zI_sI, if_neg (by omega)]; exact h1) (fun k k1 k2 => by rw [zI_sI, if_neg (by omega)]; exact hh k (by omega) k2)
    refine ⟨σ', a1, fun q k => ?_, a3, a4⟩
    rw [a2, zI_sI]
    by_cases z : q = X ∧ k = 1
    · rw [if_pos z, if_pos z]
    · rw [if_neg z, if_neg z]
      by_cases w : q = X + 9 ∧ k = t
      · rw [if_neg (show ¬ (q = X + 9 ∧ t + 1 ≤ k ∧ k < 4) by omega), if_pos w, if_pos (show q = X + 9 ∧ t ≤ k ∧ k < 4 by omega), w.2]; rfl
      · by_cases y : q = X + 9 ∧ t + 1 ≤ k ∧ k < 4
        · rw [if_pos y, if_pos (show q = X + 9 ∧ t ≤ k ∧ k < 4 by omega)]
        · rw [if_neg y, if_neg w, if_neg (show ¬ (q = X + 9 ∧ t ≤ k ∧ k < 4) by omega)]
theorem com_u (N : Nat) (c t : Int32) (σ : ZM) : F_Model_cools_13 (N + 1) (c, t, σ) = f_Model_cools_13 (F_Model_cools_13 N) c t σ := rfl
theorem cool_l {c o : Nat} {H : Nat → Nat} (hc : c ≤ 99) (hH : ∀ t, t < 4 → H t ≤ 9999) (ho : o ≤ 9999) : ∀ (n t N : Nat) (τ : ZM), t + n = 4 → n < N → zI τ 130 4 = nI o → (∀ k, t ≤ k → k < 4 → zI τ 130 k = nI (H k)) →
    ∃ τ', F_Model_cools_13 N (nI c, nI t, τ) = some ((), τ') ∧ (∀ q k, zI τ' q k = if q = 130 ∧ k = 4 then nI (min (o + 1) 9999) else if q = 130 ∧ t ≤ k ∧ k < 4 then nI (pCo c (H k)) else zI τ q k) ∧ (∀ q k, zP τ' q k = zP τ q k) ∧ (∀ q k, zL τ' q k = zL τ q k) := by
  intro n
  induction n with
  | zero =>
    intro t N τ ht hN h1 hh
    obtain ⟨N, rfl⟩ : ∃ M, N = M + 1 := ⟨N - 1, by omega⟩
    obtain rfl : t = 4 := by omega
    rw [com_u]
    unfold f_Model_cools_13
    rw [if_pos (show (4 : Int32) ≤ nI 4 from Int32.le_refl _), ages_e ho h1, zbd_s]
    refine ⟨_, rfl, fun q k => ?_, fun _ _ => rfl, fun _ _ => rfl⟩
    rw [zI_sI]
    by_cases z : q = 130 ∧ k = 4
    · rw [if_pos z, if_pos z]
    · rw [if_neg z, if_neg z, if_neg (show ¬ (q = 130 ∧ 4 ≤ k ∧ k < 4) by omega)]
  | succ n ih =>
    intro t N τ ht hN h1 hh
    obtain ⟨N, rfl⟩ : ∃ M, N = M + 1 := ⟨N - 1, by omega⟩
    have hm : H t * c ≤ 9999 * 99 := Nat.mul_le_mul (hH t (by omega)) hc
    have e100 : nI (H t * c) / (100 : Int32) = nI (H t * c / 100) := nI_divE (b := 100) (by omega) (by omega)
    have key : F_Model_cools_13 (N + 1) (nI c, nI t, τ) = F_Model_cools_13 N (nI c, nI (t + 1), zsI τ 130 t (nI (min (H t * c / 100) 9999))) := by
      rw [com_u]
      unfold f_Model_cools_13 f_Model_cools_49
      rw [if_neg (show ¬ (4 : Int32) ≤ nI t from nI_ge (b := 4) (by omega) (by omega)), zck_nI (by omega) (by omega), nI_clamp (by omega), hh t (Nat.le_refl _) (by omega), nI_mul, Nat.mul_comm c (H t), e100, zck_nI (by omega) (by omega), show nI t + (1 : Int32) = nI (t + 1) from nI_add t 1]
      by_cases q : H t * c / 100 ≤ 9999
      · rw [if_pos (show nI (H t * c / 100) ≤ (9999 : Int32) from nI_le (b := 9999) q (by omega)), Nat.min_eq_left q]
      · rw [if_neg (show ¬ nI (H t * c / 100) ≤ (9999 : Int32) from nI_ge (a := 9999) (by omega) (by omega)), Nat.min_eq_right (by omega), zck_nI (by omega) (by omega)]; rfl
    obtain ⟨τ', a1, a2, a3, a4⟩ := ih (t + 1) N (zsI τ 130 t (nI (min (H t * c / 100) 9999))) (by omega) (by omega) (by rw [zI_sI, if_neg (by omega)]; exact h1) (fun k k1 k2 => by rw [zI_sI, if_neg (by omega)]; exact hh k (by omega) k2)
    refine ⟨τ', key.trans a1, fun q k => ?_, a3, a4⟩
    rw [a2, zI_sI]
    by_cases z : q = 130 ∧ k = 4
    · rw [if_pos z, if_pos z]
    · rw [if_neg z, if_neg z]
      by_cases w : q = 130 ∧ k = t
      · rw [if_neg (show ¬ (q = 130 ∧ t + 1 ≤ k ∧ k < 4) by omega), if_pos w, if_pos (show q = 130 ∧ t ≤ k ∧ k < 4 by omega), w.2]; rfl
      · by_cases y : q = 130 ∧ t + 1 ≤ k ∧ k < 4
        · rw [if_pos y, if_pos (show q = 130 ∧ t ≤ k ∧ k < 4 by omega)]
        · rw [if_neg y, if_neg w, if_neg (show ¬ (q = 130 ∧ t ≤ k ∧ k < 4) by omega)]
