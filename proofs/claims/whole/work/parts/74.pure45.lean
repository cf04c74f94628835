/-! PURE: span: numbers -/
theorem pAm_mono (k v b p : Nat) {x y : Nat} (h : x ≤ y) : pAm k v b p x ≤ pAm k v b p y := by
  have h1 : p * x / 100 ≤ p * y / 100 := Nat.div_le_div_right (Nat.mul_le_mul_left p h)
  unfold pAm
  generalize p * x / 100 = u at *
  generalize p * y / 100 = w at *
  have h2 : u / 2 ≤ w / 2 := Nat.div_le_div_right h1
  by_cases k1 : k = 1
  · rw [if_pos k1, if_pos k1]; exact h
  rw [if_neg k1, if_neg k1]
  by_cases k2 : k = 2
  · rw [if_pos k2, if_pos k2]; omega
  rw [if_neg k2, if_neg k2]
  by_cases k3 : k = 3
  · rw [if_pos k3, if_pos k3]; omega
  rw [if_neg k3, if_neg k3]
  by_cases k4 : k = 4
  · rw [if_pos k4, if_pos k4]; omega
  rw [if_neg k4, if_neg k4]
  by_cases k5 : k = 5
  · rw [if_pos k5, if_pos k5]; omega
  rw [if_neg k5, if_neg k5]
  by_cases k6 : k = 6
  · rw [if_pos k6, if_pos k6]
    have h3 : min b u / 2 ≤ min b w / 2 := Nat.div_le_div_right (by omega)
    omega
  rw [if_neg k6, if_neg k6]; omega
/-- steps that see the same tell the same -/
theorem zbs_c {lam mu : Nat → Int32} {s : Int32} (h : ztv lam s = ztv mu s) (st : List Bool) : zbs lam st s = zbs mu st s := by
  unfold zbs
  rw [h]
theorem zbs_k {lam mu : Nat → Int32} {s : Int32} (h : s = -1 ∨ s = -2 ∨ s = -3) (st : List Bool) : zbs lam st s = zbs mu st s := by
  unfold zbs
  by_cases h1 : s = -1
  · rw [if_pos h1, if_pos h1]
  · rw [if_neg h1, if_neg h1]
    by_cases h2 : s = -2
    · rw [if_pos h2, if_pos h2]
    · rw [if_neg h2, if_neg h2]
      by_cases h3 : s = -3
      · rw [if_pos h3, if_pos h3]
      · rcases h with h | h | h
        · exact absurd h h1
        · exact absurd h h2
        · exact absurd h h3
theorem zev_c {lam mu : Nat → Int32} (S : List Int32) : ∀ (st : List Bool), (∀ s ∈ S, ztv lam s = ztv mu s ∨ s = -1 ∨ s = -2 ∨ s = -3) → S.foldl (zbs lam) st = S.foldl (zbs mu) st := by
  induction S with
  | nil => intro _ _; rw [List.foldl_nil, List.foldl_nil]
  | cons s S ih =>
    intro st h
    have e : zbs lam st s = zbs mu st s := by
      rcases h s List.mem_cons_self with q | q
      · exact zbs_c q st
      · exact zbs_k q st
    rw [List.foldl_cons, List.foldl_cons, e]
    exact ih _ (fun t ht => h t (List.mem_cons_of_mem _ ht))
theorem zsm_c {lam mu : Nat → Int32} (w : Nat) (cs : List ZCl) : ∀ (a : Nat), (∀ c ∈ cs, zevB lam c.2.2 = zevB mu c.2.2) → cs.foldl (fun a c => if c.1 = w ∧ zevB lam c.2.2 = true then a + c.2.1 else a) a = cs.foldl (fun a c => if c.1 = w ∧ zevB mu c.2.2 = true then a + c.2.1 else a) a := by
  induction cs with
  | nil => intro _ _; rw [List.foldl_nil, List.foldl_nil]
  | cons c cs ih =>
    intro a h
    rw [List.foldl_cons, List.foldl_cons, h c List.mem_cons_self]
    exact ih _ (fun d hd => h d (List.mem_cons_of_mem _ hd))
theorem ztv_b {lam mu : Nat → Int32} {s : Int32} (h : (ztv lam s = true) = (ztv mu s = true)) : ztv lam s = ztv mu s := by
  cases e1 : ztv lam s <;> cases e2 : ztv mu s <;> simp_all
/-- from a hundred tens on a part stays -/
theorem pPart_far {cs : List ZCl} (hg : ∀ c ∈ cs, zGc c) {i k v t o d e : Nat} (hd : 1000 ≤ d ∧ d < 10000) (he : 1000 ≤ e ∧ e < 10000) : pPart cs (zlq i k v t d o 0) = pPart cs (zlq i k v t e o 0) := by
  have far : ∀ x, 1000 ≤ x ∧ x < 10000 → zlq i k v t x o 0 5 = nI (x / 10) := by
    intro x hx
    show nI x / 10 = nI (x / 10)
    exact nI_divE (b := 10) (by omega) (by omega)
  have near : ∀ li, li < 5 → zlq i k v t d o 0 li = zlq i k v t e o 0 li := by
    intro li hli
    have : li = 0 ∨ li = 1 ∨ li = 2 ∨ li = 3 ∨ li = 4 := by omega
    rcases this with rfl | rfl | rfl | rfl | rfl <;> rfl
  unfold pPart zsmB
  rw [zsm_c 0 cs 0 (fun c hc => ?_)]
  unfold zevB
  rw [zev_c c.2.2 [] (fun s hs => ?_)]
  rcases (hg c hc).2.2.1 s hs with q | q | q | ⟨li, sg, nu, h1, h2, h3, rfl⟩
  · exact Or.inr (Or.inl q)
  · exact Or.inr (Or.inr (Or.inl q))
  · exact Or.inr (Or.inr (Or.inr q))
  · refine Or.inl (ztv_b ?_)
    rw [ztv_e h1 h2 h3, ztv_e h1 h2 h3]
    by_cases q : li < 5
    · rw [near li q]
    · obtain rfl : li = 5 := by omega
      rw [far d hd, far e he]
      have a1 : ¬ nI (d / 10) < nI nu := nI_nlt (by omega) (by omega)
      have a2 : ¬ nI (e / 10) < nI nu := nI_nlt (by omega) (by omega)
      have a3 : ¬ nI (d / 10) = nI nu := nI_ne (by omega) (by omega) (by omega)
      have a4 : ¬ nI (e / 10) = nI nu := nI_ne (by omega) (by omega) (by omega)
      have a5 : nI nu < nI (d / 10) := nI_lt (by omega) (by omega)
      have a6 : nI nu < nI (e / 10) := nI_lt (by omega) (by omega)
      simp only [a1, a2, a3, a4, a5, a6]
/-- what is taken of x -/
def pAx (cs : List ZCl) (D : ZD) (o i t x : Nat) : Nat := pAm (D.1 i) (D.2.1 i) (D.2.2.2 i t) (pPart cs (zlq i (D.1 i) (D.2.1 i) t (10 * (x / 10)) o 0)) x
/-- the answer: the least or the greatest -/
def zSpR (a : Bool) (A : Nat → Nat) (q : Nat) (r : Int32) : Prop := (r = -5 ∧ ∀ x, x < 10000 → A x ≠ q) ∨ ∃ x, r = nI x ∧ x < 10000 ∧ A x = q ∧ ∀ y, y < 10000 → (if a = true then x < y else y < x) → A y ≠ q
theorem zSpR_u {a : Bool} {A : Nat → Nat} {q : Nat} {r s : Int32} (h : zSpR a A q r) (g : zSpR a A q s) : r = s := by
  rcases h with ⟨h1, h2⟩ | ⟨x, h1, h2, h3, h4⟩
  · rcases g with ⟨g1, -⟩ | ⟨y, -, g2, g3, -⟩
    · rw [h1, g1]
    · exact absurd g3 (h2 y g2)
  · rcases g with ⟨-, g2⟩ | ⟨y, g1, g2, g3, g4⟩
    · exact absurd h3 (g2 x h2)
    · rw [h1, g1]
      have e1 := h4 y g2
      have e2 := g4 x h2
      cases a with
      | true =>
        rw [if_pos rfl] at e1 e2
        have : x = y := by
          rcases Nat.lt_trichotomy x y with z | z | z
          · exact absurd g3 (e1 z)
          · exact z
          · exact absurd h3 (e2 z)
        rw [this]
      | false =>
        rw [if_neg (by decide)] at e1 e2
        have : x = y := by
          rcases Nat.lt_trichotomy x y with z | z | z
          · exact absurd h3 (e2 z)
          · exact z
          · exact absurd g3 (e1 z)
        rw [this]
/-! the reference scans -/
def zSp (A : Nat → Nat) (q X : Nat) (lo hi : Int32) : Prop := (lo = -5 ∧ hi = -5 ∧ ∀ x, x < X → A x ≠ q) ∨ ∃ a b, lo = nI a ∧ hi = nI b ∧ a < X ∧ b < X ∧ A a = q ∧ A b = q ∧ (∀ y, y < a → A y ≠ q) ∧ ∀ y, b < y → y < X → A y ≠ q
theorem zSp_n {A : Nat → Nat} {q X : Nat} {lo hi : Int32} (h : zSp A q X lo hi) (n : A X ≠ q) : zSp A q (X + 1) lo hi := by
  rcases h with ⟨h1, h2, h3⟩ | ⟨a, b, h1, h2, h3, h4, h5, h6, h7, h8⟩
  · refine Or.inl ⟨h1, h2, fun x hx => ?_⟩
    by_cases z : x = X
    · rw [z]; exact n
    · exact h3 x (by omega)
  · refine Or.inr ⟨a, b, h1, h2, by omega, by omega, h5, h6, h7, fun y hy hx => ?_⟩
    by_cases z : y = X
    · rw [z]; exact n
    · exact h8 y hy (by omega)
theorem zSp_y {A : Nat → Nat} {q X : Nat} {lo hi : Int32} (h : zSp A q X lo hi) (hX : X < 10000) (n : A X = q) : zSp A q (X + 1) (if 0 ≤ lo then lo else nI X) (nI X) := by
  rcases h with ⟨h1, h2, h3⟩ | ⟨a, b, h1, h2, h3, h4, h5, h6, h7, h8⟩
  · rw [h1, if_neg (by decide)]
    exact Or.inr ⟨X, X, rfl, rfl, by omega, by omega, n, n, fun y hy => h3 y hy, fun y h1 h2 => by omega⟩
  · rw [h1, if_pos (nI_pos' (by omega))]
    exact Or.inr ⟨a, X, rfl, rfl, by omega, by omega, h5, n, h7, fun y h1 h2 => by omega⟩
theorem zSp_R {A : Nat → Nat} {q : Nat} {lo hi : Int32} (a : Bool) (h : zSp A q 10000 lo hi) : zSpR a A q (if a = true then hi else lo) := by
  rcases h with ⟨h1, h2, h3⟩ | ⟨x, y, h1, h2, h3, h4, h5, h6, h7, h8⟩
  · left
    refine ⟨?_, h3⟩
    cases a
    · exact h1
    · exact h2
  · right
    cases a with
    | true => exact ⟨y, h2, h4, h6, fun z hz hy => h8 z (by rw [if_pos rfl] at hy; exact hy) hz⟩
    | false => exact ⟨x, h1, h3, h5, fun z hz hy => h7 z (by rw [if_neg (by decide)] at hy; exact hy)⟩
