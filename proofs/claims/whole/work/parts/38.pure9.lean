/-! PURE: acts, both in step -/
def zAct (b : Nat) (σ0 τ0 σ τ : ZM) : Prop := (∃ r : Nat, r ≤ b ∧ zI σ 8 1 = nI r ∧ zI τ 129 29 = nI r ∧ ∀ k, k < r → k < 20 → zI σ 9 k = zI τ 142 k) ∧ (∀ o k, o ≠ 8 → o ≠ 9 → zI σ o k = zI σ0 o k) ∧ (∀ o k, zL σ o k = zL σ0 o k) ∧ (∀ o k, zP σ o k = zP σ0 o k) ∧ (∀ o k, o ≠ 142 → ¬ (o = 129 ∧ k = 29) → zI τ o k = zI τ0 o k) ∧ (∀ o k, zL τ o k = zL τ0 o k)
theorem act_note {b : Nat} {σ0 τ0 σ τ : ZM} (h : zAct b σ0 τ0 σ τ) (hb : b ≤ 900) (x : Int32) : ∃ σ' τ', f_Acts_note x σ = some ((), σ') ∧ f_Model_runs x τ = some ((), τ') ∧ zAct (b + 1) σ0 τ0 σ' τ' := by
  obtain ⟨⟨r, hr, h1, h2, h3⟩, h4, h5, h6, h7, h8⟩ := h
  unfold f_Acts_note f_Model_runs f_Acts_note_19 f_Model_runs_19
  rw [h1, h2, show (20 : Int32) = nI 20 from rfl]
  by_cases c : 20 ≤ r
  · rw [if_pos (nI_le c (by omega)), if_pos (nI_le c (by omega))]
    refine ⟨_, _, rfl, rfl, ⟨r + 1, by omega, by rw [zI_sI, if_pos ⟨rfl, rfl⟩]; exact nI_1 r, by rw [zI_sI, if_pos ⟨rfl, rfl⟩]; exact nI_1 r, fun k hk hk2 => ?_⟩, fun o k a b => ?_, h5, h6, fun o k a b => ?_, h8⟩
    · rw [zI_sI, if_neg (by omega), zI_sI, if_neg (by omega)]; exact h3 k (by omega) hk2
    · rw [zI_sI, if_neg (by omega)]; exact h4 o k a b
    · rw [zI_sI, if_neg b]; exact h7 o k a b
  · rw [if_neg (nI_ge (by omega) (by omega)), if_neg (nI_ge (by omega) (by omega)), zck_nI (by omega) (by omega), zck_nI (by omega) (by omega), nI_clamp (by omega)]
    refine ⟨_, _, rfl, rfl, ⟨r + 1, by omega, ?_, ?_, fun k hk hk2 => ?_⟩, fun o k a b => ?_, h5, h6, fun o k a b => ?_, h8⟩
    · rw [zI_sI, if_pos ⟨rfl, rfl⟩, zI_sI, if_neg (by omega), h1]; exact nI_1 r
    · rw [zI_sI, if_pos ⟨rfl, rfl⟩, zI_sI, if_neg (by omega), h2]; exact nI_1 r
    · by_cases q : k = r
      · subst q; simp [zI_sI]
      · simp [zI_sI, q]; exact h3 k (by omega) hk2
    · rw [zI_sI, if_neg (by omega), zI_sI, if_neg (by omega)]; exact h4 o k a b
    · rw [zI_sI, if_neg b, zI_sI, if_neg (by omega)]; exact h7 o k a b
def zbod (a f : Nat) : Nat := ([10, 11, 12, 10, 20, 12, 30, 11, 12, 10, 11, 40, 50, 51, 12, 30, 11, 60, 71, 70, 40] : List Nat).getD (3 * f + a) 0
theorem bodyOf_e {a f : Nat} (ha : a < 3) (hf : f < 7) (σ : ZM) : f_Acts_bodyOf (nI a) (nI f) σ = some (nI (zbod a f), σ) := by
  unfold f_Acts_bodyOf
  have e : ∀ N, F_Acts_bodyOf_4 (N + 3) (nI a, nI f, 0, σ) = some (nI (zbod a f), σ) := by
    intro N
    rcases (by omega : a = 0 ∨ a = 1 ∨ a = 2) with rfl | rfl | rfl <;> rcases (by omega : f = 0 ∨ f = 1 ∨ f = 2 ∨ f = 3 ∨ f = 4 ∨ f = 5 ∨ f = 6) with rfl | rfl | rfl | rfl | rfl | rfl | rfl <;> rfl
  exact e 1997
section ACT
variable {rec : Nat × Int32 × Int32 × Int32 × Int32 × ZM → Option (Int32 × ZM)} {i a f d : Nat} {x : Int32} {σ σ1 : ZM}
theorem Brun_10 (hi : i < 6) (hd : d ≤ 40) (ha : a < 3) (hf : f < 7) (hb : zbod a f = 10) (hn : f_Acts_note (nI 10) σ = some ((), σ1)) : f_Acts_run rec (51 + i) (nI a) (nI f) x (nI d) σ = some (x + zI σ1 (51 + i) 0, σ1) := by
  unfold f_Acts_run
  rw [zck_of (zRl (by omega)), if_pos (show nI d ≤ (40 : Int32) from nI_le (b := 40) hd (by omega)), bodyOf_e ha hf, zbd_s, hb, hn, zbd_s]
  rfl
theorem Brun_11 (hi : i < 6) (hd : d ≤ 40) (ha : a < 3) (hf : f < 7) (hb : zbod a f = 11) (hn : f_Acts_note (nI 11) σ = some ((), σ1)) : f_Acts_run rec (51 + i) (nI a) (nI f) x (nI d) σ = zbd (rec (51 + i, 0, zI σ1 (51 + i) 3, x, nI d + 1, σ1)) fun v s => some (v - zI s (51 + i) 4, s) := by
  unfold f_Acts_run
  rw [zck_of (zRl (by omega)), if_pos (show nI d ≤ (40 : Int32) from nI_le (b := 40) hd (by omega)), bodyOf_e ha hf, zbd_s, hb, hn, zbd_s]
  rfl
theorem Brun_12 (hi : i < 6) (hd : d ≤ 40) (ha : a < 3) (hf : f < 7) (hb : zbod a f = 12) (hn : f_Acts_note (nI 12) σ = some ((), σ1)) : f_Acts_run rec (51 + i) (nI a) (nI f) x (nI d) σ = zbd (rec (51 + i, 1, zI σ1 (51 + i) 3, x, nI d + 1, σ1)) fun v s => some (v * 2, s) := by
  unfold f_Acts_run
  rw [zck_of (zRl (by omega)), if_pos (show nI d ≤ (40 : Int32) from nI_le (b := 40) hd (by omega)), bodyOf_e ha hf, zbd_s, hb, hn, zbd_s]
  rfl
theorem Brun_20 (hi : i < 6) (hd : d ≤ 40) (ha : a < 3) (hf : f < 7) (hb : zbod a f = 20) (hn : f_Acts_note (nI 20) σ = some ((), σ1)) : f_Acts_run rec (51 + i) (nI a) (nI f) x (nI d) σ = zbd (rec (51 + i, 1, nI 0, x, nI d + 1, σ1)) fun v s => some (v ^^^ 6, s) := by
  unfold f_Acts_run
  rw [zck_of (zRl (by omega)), if_pos (show nI d ≤ (40 : Int32) from nI_le (b := 40) hd (by omega)), bodyOf_e ha hf, zbd_s, hb, hn, zbd_s]
  rfl
theorem Brun_30 (hi : i < 6) (hd : d ≤ 40) (ha : a < 3) (hf : f < 7) (hb : zbod a f = 30) (hn : f_Acts_note (nI 30) σ = some ((), σ1)) : f_Acts_run rec (51 + i) (nI a) (nI f) x (nI d) σ = zbd (rec (51 + i, 0, nI 0, x * 3, nI d + 1, σ1)) fun v s => some (v, s) := by
  unfold f_Acts_run
  rw [zck_of (zRl (by omega)), if_pos (show nI d ≤ (40 : Int32) from nI_le (b := 40) hd (by omega)), bodyOf_e ha hf, zbd_s, hb, hn, zbd_s]
  rfl
theorem Brun_40 (hi : i < 6) (hd : d ≤ 40) (ha : a < 3) (hf : f < 7) (hb : zbod a f = 40) (hn : f_Acts_note (nI 40) σ = some ((), σ1)) : f_Acts_run rec (51 + i) (nI a) (nI f) x (nI d) σ = zbd (rec (51 + i, 2, nI 0, x, nI d + 1, σ1)) fun v s => zbd (rec (51 + i, 1, zI σ1 (51 + i) 3, 1, nI d + 1, s)) fun v2 s2 => some (v + v2, s2) := by
  unfold f_Acts_run
  rw [zck_of (zRl (by omega)), if_pos (show nI d ≤ (40 : Int32) from nI_le (b := 40) hd (by omega)), bodyOf_e ha hf, zbd_s, hb, hn, zbd_s]
  rfl
theorem Brun_50 (hi : i < 6) (hd : d ≤ 40) (ha : a < 3) (hf : f < 7) (hb : zbod a f = 50) (hn : f_Acts_note (nI 50) σ = some ((), σ1)) : f_Acts_run rec (51 + i) (nI a) (nI f) x (nI d) σ = zbd (rec (51 + i, 0, nI 1, x, nI d + 1, σ1)) fun v s => some (-v, s) := by
  unfold f_Acts_run
  rw [zck_of (zRl (by omega)), if_pos (show nI d ≤ (40 : Int32) from nI_le (b := 40) hd (by omega)), bodyOf_e ha hf, zbd_s, hb, hn, zbd_s]
  rfl
theorem Brun_51 (hi : i < 6) (hd : d ≤ 40) (ha : a < 3) (hf : f < 7) (hb : zbod a f = 51) (hn : f_Acts_note (nI 51) σ = some ((), σ1)) : f_Acts_run rec (51 + i) (nI a) (nI f) x (nI d) σ = zbd (rec (51 + i, 1, nI 1, x + 1, nI d + 1, σ1)) fun v s => some (v, s) := by
  unfold f_Acts_run
  rw [zck_of (zRl (by omega)), if_pos (show nI d ≤ (40 : Int32) from nI_le (b := 40) hd (by omega)), bodyOf_e ha hf, zbd_s, hb, hn, zbd_s]
  rfl
theorem Brun_60 (hi : i < 6) (hd : d ≤ 40) (ha : a < 3) (hf : f < 7) (hb : zbod a f = 60) (hn : f_Acts_note (nI 60) σ = some ((), σ1)) : f_Acts_run rec (51 + i) (nI a) (nI f) x (nI d) σ = zbd (rec (51 + i, 2, nI 2, x - zI σ1 (51 + i) 0, nI d + 1, σ1)) fun v s => some (v, s) := by
  unfold f_Acts_run
  rw [zck_of (zRl (by omega)), if_pos (show nI d ≤ (40 : Int32) from nI_le (b := 40) hd (by omega)), bodyOf_e ha hf, zbd_s, hb, hn, zbd_s]
  rfl
theorem Brun_70 (hi : i < 6) (hd : d ≤ 40) (ha : a < 3) (hf : f < 7) (hb : zbod a f = 70) (hn : f_Acts_note (nI 70) σ = some ((), σ1)) : f_Acts_run rec (51 + i) (nI a) (nI f) x (nI d) σ = zbd (rec (51 + i, 1, nI 3, x, nI d + 1, σ1)) fun v s => zbd (rec (51 + i, 0, nI 3, 2, nI d + 1, s)) fun v2 s2 => some (v + v2, s2) := by
  unfold f_Acts_run
  rw [zck_of (zRl (by omega)), if_pos (show nI d ≤ (40 : Int32) from nI_le (b := 40) hd (by omega)), bodyOf_e ha hf, zbd_s, hb, hn, zbd_s]
  rfl
theorem Brun_71 (hi : i < 6) (hd : d ≤ 40) (ha : a < 3) (hf : f < 7) (hb : zbod a f = 71) (hn : f_Acts_note (nI 71) σ = some ((), σ1)) : f_Acts_run rec (51 + i) (nI a) (nI f) x (nI d) σ = zbd (rec (51 + i, 0, nI 3, x, nI d + 1, σ1)) fun v s => some (v ^^^ zI s (51 + i) 4, s) := by
  unfold f_Acts_run
  rw [zck_of (zRl (by omega)), if_pos (show nI d ≤ (40 : Int32) from nI_le (b := 40) hd (by omega)), bodyOf_e ha hf, zbd_s, hb, hn, zbd_s]
  rfl
end ACT
theorem Brun_u (N : Nat) (a : Nat) (b c x d : Int32) (σ : ZM) : F_Acts_run (N + 1) (a, b, c, x, d, σ) = f_Acts_run (F_Acts_run N) a b c x d σ := rfl
theorem Mri_u (N : Nat) (k x : Int32) (σ : ZM) : F_Model_rises (N + 1) (k, x, σ) = f_Model_rises (F_Model_rises N) k x σ := rfl
theorem Mba_u (N : Nat) (k x : Int32) (σ : ZM) : F_Model_bakesFrom (N + 1) (k, x, σ) = f_Model_bakesFrom (F_Model_bakesFrom N) k x σ := rfl
theorem Mte_u (N : Nat) (k x : Int32) (σ : ZM) : F_Model_tells (N + 1) (k, x, σ) = f_Model_tells (F_Model_tells N) k x σ := rfl
/-- what the acts of the loaf i rest on -/
def zAc0 (i k v : Nat) (σ0 τ0 : ZM) : Prop := i < 6 ∧ k < 7 ∧ zI σ0 (51 + i) 0 = nI i ∧ zI σ0 (51 + i) 3 = nI k ∧ zI σ0 (51 + i) 4 = nI v ∧ zI τ0 129 30 = nI i ∧ zI τ0 130 (8 + 10 * i) = nI k ∧ zI τ0 130 (9 + 10 * i) = nI v
theorem zAc_B {i k v b : Nat} {σ0 τ0 σ τ : ZM} (h0 : zAc0 i k v σ0 τ0) (h : zAct b σ0 τ0 σ τ) : zI σ (51 + i) 0 = nI i ∧ zI σ (51 + i) 3 = nI k ∧ zI σ (51 + i) 4 = nI v ∧ zI τ 129 30 = nI i ∧ zI τ 130 (8 + 10 * i) = nI k ∧ zI τ 130 (9 + 10 * i) = nI v := by
  obtain ⟨hi, hk, a, b, c, d, e, f⟩ := h0
  obtain ⟨-, h4, -, -, h7, -⟩ := h
  exact ⟨by rw [h4 _ _ (by omega) (by omega)]; exact a, by rw [h4 _ _ (by omega) (by omega)]; exact b, by rw [h4 _ _ (by omega) (by omega)]; exact c, by rw [h7 _ _ (by omega) (by omega)]; exact d, by rw [h7 _ _ (by omega) (by omega)]; exact e, by rw [h7 _ _ (by omega) (by omega)]; exact f⟩
/-- both runs come to the same -/
def zStep (b : Nat) (σ0 τ0 : ZM) (p q : Option (Int32 × ZM)) : Prop := ∃ r σ' τ', p = some (r, σ') ∧ q = some (r, τ') ∧ zAct b σ0 τ0 σ' τ'
theorem rises_0 {i k v f b N M d : Nat} {σ0 τ0 σ τ : ZM} {x : Int32} (h0 : zAc0 i k v σ0 τ0) (h : zAct b σ0 τ0 σ τ) (hb : b ≤ 800) (hd : d ≤ 30) (hf : f = 0 ∨ f = 1 ∨ f = 3) : zStep (b + 1) σ0 τ0 (F_Acts_run (N + 1) (51 + i, 0, nI f, x, nI d, σ)) (F_Model_rises (M + 1) (nI f, x, τ)) := by
  obtain ⟨σ1, τ1, n1, n2, n3⟩ := act_note h (by omega) (nI 10)
  have e := zAc_B h0 n3
  rw [Brun_u, Mri_u, show (0 : Int32) = nI 0 from rfl, Brun_10 (a := 0) h0.1 (by omega) (by omega) (by omega) (by rcases hf with rfl | rfl | rfl <;> rfl) n1]
  have em : f_Model_rises (F_Model_rises M) (nI f) x τ = some (x + zI τ1 129 30, τ1) := by
    have e87 : f_Model_rises_87 (F_Model_rises M) x τ = some (x + zI τ1 129 30, τ1) := by
      unfold f_Model_rises_87
      rw [show (10 : Int32) = nI 10 from rfl, n2, zbd_s]
    rw [← e87]
    rcases hf with rfl | rfl | rfl <;> rfl
  rw [em, e.1, e.2.2.2.1]
  exact ⟨_, _, _, rfl, rfl, n3⟩
theorem rises_ok {i k v f b N M d : Nat} {σ0 τ0 σ τ : ZM} {x : Int32} (h0 : zAc0 i k v σ0 τ0) (h : zAct b σ0 τ0 σ τ) (hb : b ≤ 700) (hd : d ≤ 25) (hf : f < 7) : zStep (b + 2) σ0 τ0 (F_Acts_run (N + 2) (51 + i, 0, nI f, x, nI d, σ)) (F_Model_rises (M + 2) (nI f, x, τ)) := by
  have mono : ∀ {p q}, zStep (b + 1) σ0 τ0 p q → zStep (b + 2) σ0 τ0 p q := by
    rintro p q ⟨r, s, t, a1, a2, ⟨r1, r2, r3⟩, a4⟩
    exact ⟨r, s, t, a1, a2, ⟨r1, by omega, r3⟩, a4⟩
  by_cases hf0 : f = 0 ∨ f = 1 ∨ f = 3
  · exact mono (rises_0 h0 h (by omega) (by omega) hf0)
  · rcases (by omega : f = 2 ∨ f = 5 ∨ f = 4 ∨ f = 6) with rfl | rfl | rfl | rfl
    · obtain ⟨σ1, τ1, n1, n2, n3⟩ := act_note h (by omega) (nI 30)
      obtain ⟨r, s, t, a1, a2, a3⟩ := rises_0 (N := N) (M := M) (f := 0) (d := d + 1) (x := x * 3) h0 n3 (by omega) (by omega) (Or.inl rfl)
      rw [show N + 2 = N + 1 + 1 from rfl, show M + 2 = M + 1 + 1 from rfl, Brun_u, Mri_u, show (0 : Int32) = nI 0 from rfl, Brun_30 (a := 0) h0.1 (by omega) (by omega) (by omega) rfl n1]
      have em : f_Model_rises (F_Model_rises (M + 1)) (nI 2) x τ = f_Model_rises_72 (F_Model_rises (M + 1)) x τ := rfl
      rw [em]
      unfold f_Model_rises_72
      rw [show (30 : Int32) = nI 30 from rfl, n2, zbd_s, nI_1, a1, show ((0 : Int32), x * 3, τ1) = (nI 0, x * 3, τ1) from rfl, a2, zbd_s, zbd_s]
      exact ⟨_, _, _, rfl, rfl, a3⟩
    · obtain ⟨σ1, τ1, n1, n2, n3⟩ := act_note h (by omega) (nI 30)
      obtain ⟨r, s, t, a1, a2, a3⟩ := rises_0 (N := N) (M := M) (f := 0) (d := d + 1) (x := x * 3) h0 n3 (by omega) (by omega) (Or.inl rfl)
      rw [show N + 2 = N + 1 + 1 from rfl, show M + 2 = M + 1 + 1 from rfl, Brun_u, Mri_u, show (0 : Int32) = nI 0 from rfl, Brun_30 (a := 0) h0.1 (by omega) (by omega) (by omega) rfl n1]
      have em : f_Model_rises (F_Model_rises (M + 1)) (nI 5) x τ = f_Model_rises_72 (F_Model_rises (M + 1)) x τ := rfl
      rw [em]
      unfold f_Model_rises_72
      rw [show (30 : Int32) = nI 30 from rfl, n2, zbd_s, nI_1, a1, show ((0 : Int32), x * 3, τ1) = (nI 0, x * 3, τ1) from rfl, a2, zbd_s, zbd_s]
      exact ⟨_, _, _, rfl, rfl, a3⟩
    · obtain ⟨σ1, τ1, n1, n2, n3⟩ := act_note h (by omega) (nI 50)
      obtain ⟨r, s, t, a1, a2, a3⟩ := rises_0 (N := N) (M := M) (f := 1) (d := d + 1) (x := x) h0 n3 (by omega) (by omega) (Or.inr (Or.inl rfl))
      rw [show N + 2 = N + 1 + 1 from rfl, show M + 2 = M + 1 + 1 from rfl, Brun_u, Mri_u, show (0 : Int32) = nI 0 from rfl, Brun_50 (a := 0) h0.1 (by omega) (by omega) (by omega) rfl n1]
      have em : f_Model_rises (F_Model_rises (M + 1)) (nI 4) x τ = zbd (f_Model_runs (nI 50) τ) fun _ s5 => zbd (F_Model_rises (M + 1) (nI 1, x, s5)) fun v7 s8 => some (-v7, s8) := rfl
      rw [em, n2, zbd_s, nI_1, a1, a2, zbd_s, zbd_s]
      exact ⟨_, _, _, rfl, rfl, a3⟩
    · obtain ⟨σ1, τ1, n1, n2, n3⟩ := act_note h (by omega) (nI 71)
      obtain ⟨r, s, t, a1, a2, a3⟩ := rises_0 (N := N) (M := M) (f := 3) (d := d + 1) (x := x) h0 n3 (by omega) (by omega) (Or.inr (Or.inr rfl))
      have e := zAc_B h0 a3
      rw [show N + 2 = N + 1 + 1 from rfl, show M + 2 = M + 1 + 1 from rfl, Brun_u, Mri_u, show (0 : Int32) = nI 0 from rfl, Brun_71 (a := 0) h0.1 (by omega) (by omega) (by omega) rfl n1]
      have em : f_Model_rises (F_Model_rises (M + 1)) (nI 6) x τ = zbd (f_Model_runs (nI 71) τ) fun _ s5 => zbd (F_Model_rises (M + 1) (nI 3, x, s5)) fun v7 s8 => zbd (f_Model_number (zI s8 129 30) s8) fun v18 s19 => some (v7 ^^^ v18, s19) := rfl
      rw [em, n2, zbd_s, nI_1, a1, a2, zbd_s, zbd_s, e.2.2.2.1, Mnumber_e h0.1, zbd_s, e.2.2.1, e.2.2.2.2.2]
      exact ⟨_, _, _, rfl, rfl, a3⟩

theorem bakes_0 {i k v f b N M d : Nat} {σ0 τ0 σ τ : ZM} {x : Int32} (h0 : zAc0 i k v σ0 τ0) (h : zAct b σ0 τ0 σ τ) (hb : b ≤ 600) (hd : d ≤ 20) (hf : f = 0 ∨ f = 2 ∨ f = 3 ∨ f = 5) : zStep (b + 3) σ0 τ0 (F_Acts_run (N + 3) (51 + i, 1, nI f, x, nI d, σ)) (F_Model_bakesFrom (M + 1) (nI f, x, τ)) := by
  obtain ⟨σ1, τ1, n1, n2, n3⟩ := act_note h (by omega) (nI 11)
  have e := zAc_B h0 n3
  obtain ⟨r, s, t, a1, a2, a3⟩ := rises_ok (N := N) (M := 4) (f := k) (d := d + 1) (x := x) h0 n3 (by omega) (by omega) h0.2.1
  have e2 := zAc_B h0 a3
  rw [show N + 3 = N + 2 + 1 from rfl, Brun_u, Mba_u, show (1 : Int32) = nI 1 from rfl, Brun_11 (a := 1) h0.1 (by omega) (by omega) (by omega) (by rcases hf with rfl | rfl | rfl | rfl <;> rfl) n1]
  have em : f_Model_bakesFrom (F_Model_bakesFrom M) (nI f) x τ = zbd (f_Model_runs (nI 11) τ) fun _ s26 => zbd (f_Model_kind (zI s26 129 30) s26) fun v28 s29 => zbd (F_Model_rises 6 (v28, x, s29)) fun v31 s32 => zbd (f_Model_number (zI s32 129 30) s32) fun v34 s35 => some (v31 - v34, s35) := by rcases hf with rfl | rfl | rfl | rfl <;> rfl
  rw [em, n2, zbd_s, e.2.2.2.1, Mkind_e h0.1, zbd_s, e.2.2.2.2.1, show (6 : Nat) = 4 + 2 from rfl, a2, zbd_s, e2.2.2.2.1, Mnumber_e h0.1, zbd_s, e.2.1, nI_1, a1, zbd_s, e2.2.2.1, e2.2.2.2.2.2]
  exact ⟨_, _, _, rfl, rfl, a3⟩
theorem zStep_m {b c : Nat} {σ0 τ0 : ZM} {p q : Option (Int32 × ZM)} (h : zStep b σ0 τ0 p q) (hc : b ≤ c) : zStep c σ0 τ0 p q := by
  obtain ⟨r, s, t, a1, a2, ⟨r1, r2, r3⟩, a4⟩ := h
  exact ⟨r, s, t, a1, a2, ⟨r1, by omega, r3⟩, a4⟩
theorem bakes_1 {i k v f b N M d : Nat} {σ0 τ0 σ τ : ZM} {x : Int32} (h0 : zAc0 i k v σ0 τ0) (h : zAct b σ0 τ0 σ τ) (hb : b ≤ 500) (hd : d ≤ 19) (hf : f = 0 ∨ f = 1 ∨ f = 2 ∨ f = 3 ∨ f = 5) : zStep (b + 4) σ0 τ0 (F_Acts_run (N + 4) (51 + i, 1, nI f, x, nI d, σ)) (F_Model_bakesFrom (M + 2) (nI f, x, τ)) := by
  by_cases hf1 : f = 1
  · subst hf1
    obtain ⟨σ1, τ1, n1, n2, n3⟩ := act_note h (by omega) (nI 20)
    obtain ⟨r, s, t, a1, a2, a3⟩ := bakes_0 (N := N) (M := M) (f := 0) (d := d + 1) (x := x) h0 n3 (by omega) (by omega) (Or.inl rfl)
    rw [show N + 4 = N + 3 + 1 from rfl, show M + 2 = M + 1 + 1 from rfl, Brun_u, Mba_u, show (1 : Int32) = nI 1 from rfl, Brun_20 (a := 1) h0.1 (by omega) (by omega) (by omega) rfl n1]
    have em : f_Model_bakesFrom (F_Model_bakesFrom (M + 1)) (nI 1) x τ = zbd (f_Model_runs (nI 20) τ) fun _ s3 => zbd (F_Model_bakesFrom (M + 1) (nI 0, x, s3)) fun v5 s6 => some (v5 ^^^ 6, s6) := rfl
    rw [em, n2, zbd_s, nI_1, a1, a2, zbd_s, zbd_s]
    exact zStep_m ⟨_, _, _, rfl, rfl, a3⟩ (by omega)
  · have := bakes_0 (N := N + 1) (M := M + 1) (d := d) (x := x) h0 h (by omega) (by omega) (show f = 0 ∨ f = 2 ∨ f = 3 ∨ f = 5 by omega)
    exact zStep_m this (by omega)
theorem bakes_ok {i k v f b N M d : Nat} {σ0 τ0 σ τ : ZM} {x : Int32} (h0 : zAc0 i k v σ0 τ0) (h : zAct b σ0 τ0 σ τ) (hb : b ≤ 400) (hd : d ≤ 18) (hf : f < 7) : zStep (b + 8) σ0 τ0 (F_Acts_run (N + 5) (51 + i, 1, nI f, x, nI d, σ)) (F_Model_bakesFrom (M + 3) (nI f, x, τ)) := by
  by_cases hf1 : f = 4
  · subst hf1
    obtain ⟨σ1, τ1, n1, n2, n3⟩ := act_note h (by omega) (nI 51)
    obtain ⟨r, s, t, a1, a2, a3⟩ := bakes_1 (N := N) (M := M) (f := 1) (d := d + 1) (x := x + 1) h0 n3 (by omega) (by omega) (by omega)
    rw [show N + 5 = N + 4 + 1 from rfl, show M + 3 = M + 2 + 1 from rfl, Brun_u, Mba_u, show F_Acts_run (N + 4) = F_Acts_run (N + 4) from rfl, show f_Acts_run (F_Acts_run (N + 4)) (51 + i) 1 (nI 4) x (nI d) σ = _ from Brun_51 (a := 1) h0.1 (by omega) (by omega) (by omega) rfl n1]
    have em : f_Model_bakesFrom (F_Model_bakesFrom (M + 2)) (nI 4) x τ = zbd (f_Model_runs (nI 51) τ) fun _ s3 => zbd (F_Model_bakesFrom (M + 2) (nI 1, x + 1, s3)) fun v5 s6 => some (v5, s6) := rfl
    rw [em, n2, zbd_s, nI_1, a1, a2, zbd_s, zbd_s]
    exact zStep_m ⟨_, _, _, rfl, rfl, a3⟩ (by omega)
  · by_cases hf2 : f = 6
    · subst hf2
      obtain ⟨σ1, τ1, n1, n2, n3⟩ := act_note h (by omega) (nI 70)
      obtain ⟨r, s, t, a1, a2, a3⟩ := bakes_1 (N := N) (M := M) (f := 3) (d := d + 1) (x := x) h0 n3 (by omega) (by omega) (by omega)
      obtain ⟨r2, s2, t2, b1, b2, b3⟩ := rises_ok (N := N + 2) (M := 4) (f := 3) (d := d + 1) (x := 2) h0 a3 (by omega) (by omega) (by omega)
      rw [show N + 5 = N + 4 + 1 from rfl, show M + 3 = M + 2 + 1 from rfl, Brun_u, Mba_u, show f_Acts_run (F_Acts_run (N + 4)) (51 + i) 1 (nI 6) x (nI d) σ = _ from Brun_70 (a := 1) h0.1 (by omega) (by omega) (by omega) rfl n1]
      have em : f_Model_bakesFrom (F_Model_bakesFrom (M + 2)) (nI 6) x τ = zbd (f_Model_runs (nI 70) τ) fun _ s3 => zbd (F_Model_bakesFrom (M + 2) (nI 3, x, s3)) fun v5 s6 => zbd (F_Model_rises 6 (nI 3, 2, s6)) fun v22 s23 => some (v5 + v22, s23) := rfl
      rw [em, n2, zbd_s, nI_1, a1, a2, zbd_s, zbd_s, show (6 : Nat) = 4 + 2 from rfl, b2, zbd_s, show N + 4 = N + 2 + 2 from rfl, b1, zbd_s]
      exact zStep_m ⟨_, _, _, rfl, rfl, b3⟩ (by omega)
    · have := bakes_1 (N := N + 1) (M := M + 1) (d := d) (x := x) h0 h (by omega) (by omega) (show f = 0 ∨ f = 1 ∨ f = 2 ∨ f = 3 ∨ f = 5 by omega)
      exact zStep_m this (by omega)
theorem tells_0 {i k v f b N M d : Nat} {σ0 τ0 σ τ : ZM} {x : Int32} (h0 : zAc0 i k v σ0 τ0) (h : zAct b σ0 τ0 σ τ) (hb : b ≤ 300) (hd : d ≤ 17) (hf : f = 0 ∨ f = 1 ∨ f = 2 ∨ f = 4) : zStep (b + 9) σ0 τ0 (F_Acts_run (N + 6) (51 + i, 2, nI f, x, nI d, σ)) (F_Model_tells (M + 1) (nI f, x, τ)) := by
  obtain ⟨σ1, τ1, n1, n2, n3⟩ := act_note h (by omega) (nI 12)
  have e := zAc_B h0 n3
  obtain ⟨r, s, t, a1, a2, a3⟩ := bakes_ok (N := N) (M := 5) (f := k) (d := d + 1) (x := x) h0 n3 (by omega) (by omega) h0.2.1
  rw [show N + 6 = N + 5 + 1 from rfl, Brun_u, Mte_u, show f_Acts_run (F_Acts_run (N + 5)) (51 + i) 2 (nI f) x (nI d) σ = _ from Brun_12 (a := 2) h0.1 (by omega) (by omega) (by omega) (by rcases hf with rfl | rfl | rfl | rfl <;> rfl) n1]
  have em : f_Model_tells (F_Model_tells M) (nI f) x τ = f_Model_tells_79 (F_Model_tells M) x τ := by rcases hf with rfl | rfl | rfl | rfl <;> rfl
  rw [em]
  unfold f_Model_tells_79
  rw [show (12 : Int32) = nI 12 from rfl, n2, zbd_s, e.2.2.2.1, Mkind_e h0.1, zbd_s, e.2.2.2.2.1, show (8 : Nat) = 5 + 3 from rfl, a2, zbd_s, e.2.1, nI_1, a1, zbd_s]
  exact zStep_m ⟨_, _, _, rfl, rfl, a3⟩ (by omega)
theorem tells_ok {i k v f b N M d : Nat} {σ0 τ0 σ τ : ZM} {x : Int32} (h0 : zAc0 i k v σ0 τ0) (h : zAct b σ0 τ0 σ τ) (hb : b ≤ 200) (hd : d ≤ 16) (hf : f < 7) : zStep (b + 20) σ0 τ0 (F_Acts_run (N + 7) (51 + i, 2, nI f, x, nI d, σ)) (F_Model_tells (M + 2) (nI f, x, τ)) := by
  by_cases hf1 : f = 5
  · subst hf1
    obtain ⟨σ1, τ1, n1, n2, n3⟩ := act_note h (by omega) (nI 60)
    have e := zAc_B h0 n3
    obtain ⟨r, s, t, a1, a2, a3⟩ := tells_0 (N := N) (M := M) (f := 2) (d := d + 1) (x := x - nI i) h0 n3 (by omega) (by omega) (by omega)
    rw [show N + 7 = N + 6 + 1 from rfl, show M + 2 = M + 1 + 1 from rfl, Brun_u, Mte_u, show f_Acts_run (F_Acts_run (N + 6)) (51 + i) 2 (nI 5) x (nI d) σ = _ from Brun_60 (a := 2) h0.1 (by omega) (by omega) (by omega) rfl n1]
    have em : f_Model_tells (F_Model_tells (M + 1)) (nI 5) x τ = zbd (f_Model_runs (nI 60) τ) fun _ s3 => zbd (F_Model_tells (M + 1) (nI 2, x - zI s3 129 30, s3)) fun v5 s6 => some (v5, s6) := rfl
    rw [em, n2, zbd_s, nI_1, e.1, e.2.2.2.1, a1, a2, zbd_s, zbd_s]
    exact zStep_m ⟨_, _, _, rfl, rfl, a3⟩ (by omega)
  · by_cases hf2 : f = 3 ∨ f = 6
    · obtain ⟨σ1, τ1, n1, n2, n3⟩ := act_note h (by omega) (nI 40)
      have e := zAc_B h0 n3
      obtain ⟨r, s, t, a1, a2, a3⟩ := tells_0 (N := N) (M := M) (f := 0) (d := d + 1) (x := x) h0 n3 (by omega) (by omega) (by omega)
      have e2 := zAc_B h0 a3
      obtain ⟨r2, s2, t2, b1, b2, b3⟩ := bakes_ok (N := N + 1) (M := 5) (f := k) (d := d + 1) (x := 1) h0 a3 (by omega) (by omega) h0.2.1
      rw [show N + 7 = N + 6 + 1 from rfl, show M + 2 = M + 1 + 1 from rfl, Brun_u, Mte_u, show f_Acts_run (F_Acts_run (N + 6)) (51 + i) 2 (nI f) x (nI d) σ = _ from Brun_40 (a := 2) h0.1 (by omega) (by omega) (by omega) (by rcases hf2 with rfl | rfl <;> rfl) n1]
      have em : f_Model_tells (F_Model_tells (M + 1)) (nI f) x τ = f_Model_tells_50 (F_Model_tells (M + 1)) x τ := by rcases hf2 with rfl | rfl <;> rfl
      rw [em]
      unfold f_Model_tells_50
      rw [show (40 : Int32) = nI 40 from rfl, n2, zbd_s, show ((0 : Int32), x, τ1) = (nI 0, x, τ1) from rfl, a2, zbd_s, e2.2.2.2.1, Mkind_e h0.1, zbd_s, e2.2.2.2.2.1, show (8 : Nat) = 5 + 3 from rfl, b2, zbd_s, nI_1, a1, zbd_s, e.2.1, show N + 6 = N + 1 + 5 from rfl, b1, zbd_s]
      exact zStep_m ⟨_, _, _, rfl, rfl, b3⟩ (by omega)
    · have := tells_0 (N := N + 1) (M := M + 1) (d := d) (x := x) h0 h (by omega) (by omega) (show f = 0 ∨ f = 1 ∨ f = 2 ∨ f = 4 by omega)
      exact zStep_m this (by omega)
/-- acts change alone -/
theorem zRel_A {σ σ' τ τ' : ZM} (h : zRel σ τ) (ha : zRa σ' τ') (hσ : ∀ o k, o ≠ 8 → o ≠ 9 → zI σ' o k = zI σ o k) (hL : ∀ o k, zL σ' o k = zL σ o k) (hP : ∀ o k, zP σ' o k = zP σ o k) (hτ : ∀ o k, o ≠ 142 → ¬ (o = 129 ∧ k = 29) → ¬ (o = 129 ∧ k = 30) → zI τ' o k = zI τ o k) (hτL : ∀ o k, zL τ' o k = zL τ o k) : zRel σ' τ' := by
  obtain ⟨⟨m, n, h1⟩, h2, h3, -, h5, h7⟩ := h
  have n8 : ∀ {o : Nat}, (cS o = true ∨ cI o = true ∨ cK o = true ∨ cP o = true) → o ≠ 8 ∧ o ≠ 9 := by
    intro o ho
    simp only [cP, cS, cI, cK, Bool.or_eq_true, Bool.and_eq_true, beq_iff_eq, decide_eq_true_eq] at ho
    omega
  exact ⟨⟨m, n, zRs_c h1 (fun o k ho => hσ o k (n8 (Or.inl ho)).1 (n8 (Or.inl ho)).2) (fun k _ => hτ _ _ (by omega) (by omega) (by omega))⟩, zRi_c h2 (fun o k ho => hσ o k (n8 (Or.inr (Or.inl ho))).1 (n8 (Or.inr (Or.inl ho))).2) (fun k _ => hτ _ k (by omega) (by omega) (by omega)) (hτ _ _ (by omega) (by omega) (by omega)), zRt_c h3 (hσ _ _ (by omega) (by omega)) (hτ _ _ (by omega) (by omega) (by omega)) (fun k _ => hσ _ _ (by omega) (by omega)) (fun k _ => hτ _ _ (by omega) (by omega) (by omega)), ha, zRp_c h5 (fun o k ho => hσ o k (n8 (Or.inr (Or.inr (Or.inr ho)))).1 (n8 (Or.inr (Or.inr (Or.inr ho)))).2) (fun o k _ => hL o k) (fun k _ => hτ _ _ (by omega) (by omega) (by omega)) (fun k _ => hτ _ _ (by omega) (by omega) (by omega)) (fun k _ => hτL _ _), zRk_c h7 (fun o k ho => hσ o k (n8 (Or.inr (Or.inr (Or.inl ho)))).1 (n8 (Or.inr (Or.inr (Or.inl ho)))).2) (hP _ _) (fun k _ => hτ _ _ (by omega) (by omega) (by omega)) (fun k _ => hτ _ _ (by omega) (by omega) (by omega)) (hτ _ _ (by omega) (by omega) (by omega)) (hτ _ _ (by omega) (by omega) (by omega)) (hτ _ _ (by omega) (by omega) (by omega)) (hτ _ _ (by omega) (by omega) (by omega))⟩
theorem act_end {σ τ σ0 τ0 : ZM} {p q : Option (Int32 × ZM)} (h : zRel σ τ) (hσ : ∀ o k, o ≠ 8 → o ≠ 9 → zI σ0 o k = zI σ o k) (hL : ∀ o k, zL σ0 o k = zL σ o k) (hP : ∀ o k, zP σ0 o k = zP σ o k) (hτ : ∀ o k, o ≠ 142 → ¬ (o = 129 ∧ k = 29) → ¬ (o = 129 ∧ k = 30) → zI τ0 o k = zI τ o k) (hτL : ∀ o k, zL τ0 o k = zL τ o k) (hs : zStep 900 σ0 τ0 p q) : zOK p q := by
  obtain ⟨r, s, t, a1, a2, ⟨r1, q1, q2, q3, q4⟩, a4, a5, a6, a7, a8⟩ := hs
  exact ⟨r, s, t, a1, a2, zRel_A h ⟨r1, by omega, q2, q3, q4⟩ (fun o k x y => (a4 o k x y).trans (hσ o k x y)) (fun o k => (a5 o k).trans (hL o k)) (fun o k => (a6 o k).trans (hP o k)) (fun o k x y z => (a7 o k x y).trans (hτ o k x y z)) (fun o k => (a8 o k).trans (hτL o k))⟩
theorem op_act {σ τ : ZM} (h : zRel σ τ) (x1 x2 x3 : Int32) : zOK (f_BB_act x1 x2 x3 σ) (f_Model_act x1 x2 x3 τ) := by
  obtain ⟨⟨m, n, hs⟩, -⟩ := id h
  obtain ⟨hm, m1, m2⟩ := zmany hs
  have hr0 : zRel (zsI σ 8 1 0) (zsI τ 129 29 0) := by
    refine zRel_A h ⟨0, by omega, by rw [zI_sI, if_pos ⟨rfl, rfl⟩]; rfl, by rw [zI_sI, if_pos ⟨rfl, rfl⟩]; rfl, fun k hk => by omega⟩ (fun o k a b => by rw [zI_sI, if_neg (by omega)]) (fun _ _ => rfl) (fun _ _ => rfl) (fun o k a b c => by rw [zI_sI, if_neg b]) (fun _ _ => rfl)
  have m1' : zI (zsI σ 8 1 0) 1 3 = nI m := by rw [zI_sI, if_neg (by omega)]; exact m1
  have m2' : zI (zsI τ 129 29 0) 130 5 = nI m := by rw [zI_sI, if_neg (by omega)]; exact m2
  unfold f_BB_act f_Model_act f_Acts_play
  simp only [Bloaf_e (show m < 2 ^ 31 by omega) m1', Mloaf_e (show m < 2 ^ 31 by omega) m2', zbd_s, zif, zbd_id, isInM_e (M := 2) x2 2 rfl (by omega), zrng (M := 2) 2 rfl (by omega)]
  cases hz : zin x1 m with
  | false => exact zOK_s hr0
  | true =>
    cases hy : zin x2 3 with
    | false => exact zOK_s hr0
    | true =>
      obtain ⟨i, hi, hi2, rfl⟩ := zin_t hz
      obtain ⟨a, ha, ha2, rfl⟩ := zin_t hy
      obtain ⟨k, hk, k1, k2⟩ := zkind hs hi
      obtain ⟨v, hv, v1, v2⟩ := zvee hs hi
      have nb := hs.2.2 i (by omega)
      have e3 : ∀ w, zI (zsI σ 8 1 w) (51 + i) 3 = nI k := fun w => by rw [zI_sI, if_neg (by omega)]; exact k1
      have e0 : zAc0 i k v (zsI (zsI σ 8 1 0) 8 1 0) (zsI (zsI τ 129 29 0) 129 30 (nI i)) := by
        refine ⟨by omega, hk, ?_, ?_, ?_, ?_, ?_, ?_⟩
        · rw [zI_sI, if_neg (by omega), zI_sI, if_neg (by omega)]; exact nb
        · rw [zI_sI, if_neg (by omega), zI_sI, if_neg (by omega)]; exact k1
        · rw [zI_sI, if_neg (by omega), zI_sI, if_neg (by omega)]; exact v1
        · rw [zI_sI, if_pos ⟨rfl, rfl⟩]
        · rw [zI_sI, if_neg (by omega), zI_sI, if_neg (by omega)]; exact k2
        · rw [zI_sI, if_neg (by omega), zI_sI, if_neg (by omega)]; exact v2
      have e1 : zAct 0 (zsI (zsI σ 8 1 0) 8 1 0) (zsI (zsI τ 129 29 0) 129 30 (nI i)) (zsI (zsI σ 8 1 0) 8 1 0) (zsI (zsI τ 129 29 0) 129 30 (nI i)) :=
        ⟨⟨0, by omega, by rw [zI_sI, if_pos ⟨rfl, rfl⟩]; rfl, by rw [zI_sI, if_neg (by omega), zI_sI, if_pos ⟨rfl, rfl⟩]; rfl, fun k hk => by omega⟩, fun _ _ _ _ => rfl, fun _ _ => rfl, fun _ _ => rfl, fun _ _ _ _ => rfl, fun _ _ => rfl⟩
      have e4 : zI (zsI (zsI σ 8 1 0) 8 1 0) (51 + i) 3 = nI k := e0.2.2.2.1
      have e5 := e0.2.2.2.2.2.2.1
      have fin : ∀ {p q}, zStep 900 (zsI (zsI σ 8 1 0) 8 1 0) (zsI (zsI τ 129 29 0) 129 30 (nI i)) p q → zOK p q := fun hs => act_end (σ0 := zsI (zsI σ 8 1 0) 8 1 0) (τ0 := zsI (zsI τ 129 29 0) 129 30 (nI i)) h (fun o k a b => by rw [zI_sI, if_neg (by omega), zI_sI, if_neg (by omega)]) (fun _ _ => rfl) (fun _ _ => rfl) (fun o k a b c => by rw [zI_sI, if_neg c, zI_sI, if_neg b]) (fun _ _ => rfl) hs
      simp (disch := omega) only [if_true, zck_nI, nI_clamp, zel25, zck_l, Mkind_e, zbd_s, e4, e5]
      rcases (by omega : a = 0 ∨ a = 1 ∨ a = 2) with rfl | rfl | rfl
      · rw [if_pos (show nI 0 = 0 from rfl)]
        exact fin (zStep_m (rises_ok (N := 14) (M := 4) (d := 0) e0 e1 (by omega) (by omega) hk) (by omega))
      · rw [if_neg (show ¬ nI 1 = 0 by decide), if_pos (show nI 1 = 1 from rfl)]
        exact fin (zStep_m (bakes_ok (N := 11) (M := 5) (d := 0) e0 e1 (by omega) (by omega) hk) (by omega))
      · rw [if_neg (show ¬ nI 2 = 0 by decide), if_neg (show ¬ nI 2 = 1 by decide)]
        exact fin (zStep_m (tells_ok (N := 9) (M := 6) (d := 0) e0 e1 (by omega) (by omega) hk) (by omega))

