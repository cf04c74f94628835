/-! PURE: numbers, the memory read behind writes, ends of checks -/
theorem zlit (k : Nat) : (OfNat.ofNat k : Int32) = nI k := rfl
theorem nI_mul (a b : Nat) : nI a * nI b = nI (a * b) := by
  simp [nI, Int32.ofNat_mul]
theorem nI_subE {a b : Nat} (h : b ≤ a) : nI a - nI b = nI (a - b) := by
  have e : nI a = nI (a - b) + nI b := by rw [nI_add]; congr 1; omega
  rw [e, Int32.add_sub_cancel]
theorem nI_divE {a b : Nat} (ha : a < 2 ^ 31) (hb : b < 2 ^ 31) : nI a / nI b = nI (a / b) := by
  apply Int32.toInt_inj.mp
  have h1 : a / b ≤ a := Nat.div_le_self a b
  have h2 : a / b < 2 ^ 31 := by omega
  rw [nI_toInt h2, Int32.toInt_div, nI_toInt ha, nI_toInt hb]
  have e : ((a : Int).tdiv (b : Int)) = ((a / b : Nat) : Int) := rfl
  rw [e]
  generalize a / b = q at *
  have e2 : ((q : Int) % ((2 ^ 32 : Nat) : Int)) = q := Int.emod_eq_of_lt (by omega) (by omega)
  unfold Int.bmod
  rw [e2, if_pos (by omega)]
theorem zc3 (x : Int32) (N : Nat) : x < 0 ∨ (∃ j, j < N ∧ j < 2 ^ 31 ∧ x = nI j) ∨ (∃ j, N ≤ j ∧ j < 2 ^ 31 ∧ x = nI j) := by
  by_cases h : x < 0
  · exact Or.inl h
  · obtain ⟨j, hj, e⟩ := nI_of h
    by_cases hN : j < N
    · exact Or.inr (Or.inl ⟨j, hN, hj, e⟩)
    · exact Or.inr (Or.inr ⟨j, Nat.not_lt.mp hN, hj, e⟩)
theorem zin_nI {n N : Nat} (h : n < 2 ^ 31) : zin (nI n) N = decide (n < N) := by
  simp [zin, nI_clamp h, nI_pos' h]
theorem zck_nI {α : Type} {n N : Nat} {k : Option α} (h : n < N) (hN : n < 2 ^ 31) : zck (zin (nI n) N) k = k := by
  rw [zin_nI hN, decide_eq_true h]; rfl
theorem zck_t {α : Type} {k : Option α} : zck true k = k := rfl
theorem zck_of {α : Type} {b : Bool} {k : Option α} (h : b = true) : zck b k = k := by rw [h]; rfl
theorem zbd_s {α β : Type} {x : α} {σ : ZM} {k : α → ZM → Option β} : zbd (some (x, σ)) k = k x σ := rfl
theorem zlp_s {α β : Type} {body : (α → Option β) → α → Option β} {n : Nat} {a : α} : zlp body (n + 1) a = body (zlp body n) a := rfl
theorem zbl_0 : zbl (nI 0) = true := rfl
theorem zbl_1 : zbl (nI 1) = true := rfl
theorem zI_sI {σ : ZM} {o k a b : Nat} {v : Int32} : zI (zsI σ o k v) a b = if a = o ∧ b = k then v else zI σ a b := by
  unfold zI zsI upd
  by_cases h : a = o
  · subst h
    by_cases h2 : b = k
    · simp [h2]
    · simp [h2]
  · simp [h]
theorem zI_sL {σ : ZM} {o k a b : Nat} {v : Int64} : zI (zsL σ o k v) a b = zI σ a b := rfl
theorem zI_sP {σ : ZM} {o k a b v : Nat} : zI (zsP σ o k v) a b = zI σ a b := rfl
theorem zL_sI {σ : ZM} {o k a b : Nat} {v : Int32} : zL (zsI σ o k v) a b = zL σ a b := rfl
theorem zP_sI {σ : ZM} {o k a b : Nat} {v : Int32} : zP (zsI σ o k v) a b = zP σ a b := rfl
theorem zL_sP {σ : ZM} {o k a b v : Nat} : zL (zsP σ o k v) a b = zL σ a b := rfl
theorem zP_sL {σ : ZM} {o k a b : Nat} {v : Int64} : zP (zsL σ o k v) a b = zP σ a b := rfl
theorem zL_sL {σ : ZM} {o k a b : Nat} {v : Int64} : zL (zsL σ o k v) a b = if a = o ∧ b = k then v else zL σ a b := by
  unfold zL zsL vp_updL
  by_cases h : a = o
  · subst h
    by_cases h2 : b = k
    · simp [h2]
    · simp [h2]
  · simp [h]
theorem zP_sP {σ : ZM} {o k a b v : Nat} : zP (zsP σ o k v) a b = if a = o ∧ b = k then v else zP σ a b := by
  unfold zP zsP va_up
  by_cases h : a = o
  · subst h
    by_cases h2 : b = k
    · simp [h2]
    · simp [h2]
  · simp [h]
theorem nlt0 {x : Int32} (h : x < 0) : ¬ (0 ≤ x) := Int32.not_le.mpr h
theorem zin_neg {x : Int32} {N : Nat} (h : x < 0) : zin x N = false := by simp [zin, Int32.not_le.mpr h]
theorem neg_le {x : Int32} {n : Nat} (h : x < 0) (hn : n < 2 ^ 31) : x < nI n := by
  rw [Int32.lt_iff_toInt_lt] at *
  rw [nI_toInt hn]
  have : (0 : Int32).toInt = 0 := rfl
  omega
