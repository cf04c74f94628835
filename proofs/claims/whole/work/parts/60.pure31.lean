/-! PURE: the cold -/
def pCo (c d : Nat) : Nat := min (d * c / 100) 9999
theorem chb_u (N X : Nat) (t : Int32) (σ : ZM) : F_Baker_chill_2 (N + 1) (X, t, σ) = f_Baker_chill_2 (F_Baker_chill_2 N) X t σ := rfl
theorem strike_e {X o : Nat} {σ : ZM} (hX : 33 ≤ X ∧ X < 42) (ho : o ≤ 9999) (h : zI σ X 1 = nI o) : f_Oven_strike X σ = some ((), zsI σ X 1 (nI (min (o + 1) 9999))) := by
  unfold f_Oven_strike
  rw [zck_of (zRov hX), h, show nI o + (1 : Int32) = nI (o + 1) from nI_add o 1]
  by_cases q : o + 1 < 9999
  · rw [if_pos (show nI (o + 1) < (9999 : Int32) from nI_lt (b := 9999) q (by omega)), Nat.min_eq_left (by omega)]
  · rw [if_neg (show ¬ nI (o + 1) < (9999 : Int32) from nI_nlt (b := 9999) (by omega) (by omega)), Nat.min_eq_right (by omega)]; rfl
theorem cap_b {a : Nat} (h : a < 2 ^ 31) : (if nI a < (9999 : Int32) then nI a else (9999 : Int32)) = nI (min a 9999) := by
  by_cases q : a < 9999
  · rw [if_pos (show nI a < (9999 : Int32) from nI_lt (b := 9999) q (by omega)), Nat.min_eq_left (by omega)]
  · rw [if_neg (show ¬ nI a < (9999 : Int32) from nI_nlt (b := 9999) (by omega) (by omega)), Nat.min_eq_right (by omega)]; rfl
theorem ages_e {o : Nat} {τ : ZM} (ho : o ≤ 9999) (h : zI τ 130 4 = nI o) : f_Model_ages τ = some ((), zsI τ 130 4 (nI (min (o + 1) 9999))) := by
  unfold f_Model_ages f_Model_ages_24
  rw [zck_of (show zin 4 92 = true by decide), zck_of (show zin 4 92 = true by decide), show (4 : Int32).toNatClampNeg = 4 from rfl, h]
  by_cases q : 9999 ≤ o
  · obtain rfl : o = 9999 := by omega
    rw [if_pos (show (9999 : Int32) ≤ nI 9999 from Int32.le_refl _), zck_of (show zin 4 92 = true by decide)]; rfl
  · rw [if_neg (show ¬ (9999 : Int32) ≤ nI o from nI_ge (b := 9999) (by omega) (by omega)), zck_of (show zin 4 92 = true by decide), show nI o + (1 : Int32) = nI (o + 1) from nI_add o 1, Nat.min_eq_left (by omega)]
