/-! PURE: the grammar, told once: a text of bytes T, L of them; each step answers (well, the place behind or the FAULT, what it read) -/
def zhr (T : Nat → Nat) (L at_ : Nat) : Nat := if at_ < L then T at_ else 999
abbrev ZR : Type := Bool × Nat × List Int32
def zdig (c : Nat) : Bool := decide (48 ≤ c) && decide (c ≤ 57)
def zpN (T : Nat → Nat) (L a : Nat) : Bool × Nat × Nat :=
  if zdig (zhr T L a) = true then (if zdig (zhr T L (a + 1)) = true then (true, a + 2, 10 * (zhr T L a - 48) + (zhr T L (a + 1) - 48)) else (true, a + 1, zhr T L a - 48)) else (false, a, 0)
def zli (c : Nat) : Nat := if c = 108 then 0 else if c = 107 then 1 else if c = 116 then 2 else if c = 118 then 3 else if c = 104 then 4 else if c = 111 then 5 else 9
def zpX (T : Nat → Nat) (L a : Nat) : ZR :=
  if zli (zhr T L a) = 9 then (false, a, []) else
  if 60 ≤ zhr T L (a + 1) ∧ zhr T L (a + 1) ≤ 62 then
    (if (zpN T L (a + 2)).1 = true then (true, (zpN T L (a + 2)).2.1, [nI (512 * zli (zhr T L a) + 128 * (zhr T L (a + 1) - 60) + (zpN T L (a + 2)).2.2)]) else (false, (zpN T L (a + 2)).2.1, []))
  else (false, a + 1, [])
/-- further parts behind a sign c, each followed by the step k -/
def zpL (T : Nat → Nat) (L c : Nat) (k : Int32) (p : Nat → ZR) : Nat → ZR → ZR
  | 0, r => r
  | n + 1, r => if r.1 = true ∧ zhr T L r.2.1 = c then zpL T L c k p n ((p (r.2.1 + 1)).1, (p (r.2.1 + 1)).2.1, r.2.2 ++ (p (r.2.1 + 1)).2.2 ++ [k]) else r
def zpT (T : Nat → Nat) (L : Nat) (p : Nat → ZR) (a : Nat) : ZR := zpL T L 38 (-2) p 100 (p a)
def zpE (T : Nat → Nat) (L : Nat) (p : Nat → ZR) (a : Nat) : ZR := zpL T L 124 (-3) (zpT T L p) 100 (zpT T L p a)
def zpF (T : Nat → Nat) (L : Nat) : Nat → Nat → ZR
  | 0, a => if zhr T L a = 33 ∨ zhr T L a = 40 then (false, a, []) else zpX T L a
  | r + 1, a =>
    if zhr T L a = 33 then ((zpF T L r (a + 1)).1, (zpF T L r (a + 1)).2.1, (zpF T L r (a + 1)).2.2 ++ [-1]) else
    if zhr T L a = 40 then
      (if (zpE T L (zpF T L r) (a + 1)).1 = true then (if zhr T L (zpE T L (zpF T L r) (a + 1)).2.1 = 41 then (true, (zpE T L (zpF T L r) (a + 1)).2.1 + 1, (zpE T L (zpF T L r) (a + 1)).2.2) else (false, (zpE T L (zpF T L r) (a + 1)).2.1, [])) else (false, (zpE T L (zpF T L r) (a + 1)).2.1, []))
    else zpX T L a
def zpS (T : Nat → Nat) (L : Nat) : List Nat → Nat → Bool × Nat
  | [], a => (true, a)
  | c :: cs, a => if zhr T L a = c then zpS T L cs (a + 1) else (false, a)
def zwd0 (c : Nat) : Nat := if c = 116 then 0 else if c = 109 then 1 else if c = 99 then 2 else if c = 102 then 3 else 9
def zspell (w : Nat) : List Nat := if w = 0 then [116, 97, 107, 101, 32] else if w = 1 then [109, 111, 114, 101, 32] else if w = 2 then [99, 111, 108, 100, 32] else [102, 101, 101, 32]
/-- a clause: its word, its number, its steps -/
abbrev ZCl : Type := Nat × Nat × List Int32
def zpC (T : Nat → Nat) (L a : Nat) : Bool × Nat × ZCl :=
  let w := zwd0 (zhr T L a)
  if w = 9 then (false, a, (0, 0, [])) else
  let s := zpS T L (zspell w) a
  if s.1 = false then (false, s.2, (0, 0, [])) else
  let n := zpN T L s.2
  if n.1 = false then (false, n.2.1, (0, 0, [])) else
  if w = 2 then (true, n.2.1, (2, n.2.2, [])) else
  if zhr T L n.2.1 = 32 then
    (let e := zpE T L (zpF T L 4) (n.2.1 + 1)
     if e.1 = true then (true, e.2.1, (w, n.2.2, e.2.2)) else (false, e.2.1, (0, 0, [])))
  else (false, n.2.1, (0, 0, []))
/-- n clauses more may come -/
def zpA (T : Nat → Nat) (L : Nat) : Nat → Nat → Bool × Nat × List ZCl
  | 0, a => (false, a, [])
  | n + 1, a =>
    let q := zpC T L a
    if q.1 = false then (false, q.2.1, []) else
    if q.2.1 = L then (true, L, [q.2.2]) else
    if n = 0 ∨ ¬ zhr T L q.2.1 = 59 then (false, q.2.1, []) else
    let z := zpA T L n (q.2.1 + 1)
    (z.1, z.2.1, q.2.2 :: z.2.2)
/-! what a kiln's clauses say -/
/-- a step on the operands that wait as bits, the latest lowest, as the class tells it -/
def zstep (lam : Nat → Int32) (w : Int64) (s : Int32) : Int64 :=
  if s = -1 then w ^^^ 1 else if s = -2 then (w >>> ((1 : Int32).toInt64 &&& 63)) &&& ((w &&& 1) ||| (-2)) else if s = -3 then (w >>> ((1 : Int32).toInt64 &&& 63)) ||| (w &&& 1) else
  (w <<< ((1 : Int32).toInt64 &&& 63)) ||| (if (if (s >>> ((7 : Int32) &&& 31)) &&& 3 = 0 then lam (s >>> ((9 : Int32) &&& 31)).toNatClampNeg < s &&& 127 else if (s >>> ((7 : Int32) &&& 31)) &&& 3 = 1 then lam (s >>> ((9 : Int32) &&& 31)).toNatClampNeg = s &&& 127 else s &&& 127 < lam (s >>> ((9 : Int32) &&& 31)).toNatClampNeg) then 1 else 0)
def zev (lam : Nat → Int32) (ss : List Int32) : Bool := (ss.foldl (zstep lam) 0) &&& 1 == 1
def zsum (lam : Nat → Int32) (word : Nat) (cs : List ZCl) : Nat := cs.foldl (fun a c => if c.1 = word ∧ zev lam c.2.2 = true then a + c.2.1 else a) 0
def zcnt (cs : List ZCl) : Nat := (cs.filter (fun c => c.1 == 0)).length
def zcold (cs : List ZCl) : Nat := cs.foldl (fun a c => if c.1 = 2 then c.2.1 else a) 50
def zsteps (cs : List ZCl) : List Int32 := cs.flatMap (fun c => c.2.2)
/-- the kiln K of the class holds these clauses -/
def zKB (σ : ZM) (K : Nat) (cs : List ZCl) : Prop :=
  cs.length ≤ 10 ∧ zI σ K 5 = nI cs.length ∧ zI σ K 7 = nI (zcnt cs) ∧ zI σ K 8 = nI (zcold cs) ∧ (zsteps cs).length ≤ 100 ∧
    (∀ i c, cs[i]? = some c → c.1 < 4 ∧ c.2.1 ≤ 99 ∧ zI σ (K + 7) i = nI c.1 ∧ zI σ (K + 14) i = nI c.2.1 ∧ zI σ (K + 21) i = nI (zsteps (cs.take (i + 1))).length) ∧
    (∀ j s, (zsteps cs)[j]? = some s → zI σ (K + 28) j = s)
/-- the kiln i is the same to both -/
def zKR (σ τ : ZM) (i : Nat) : Prop := ∃ (L : Nat) (T : Nat → Nat) (cs : List ZCl), L ≤ 100 ∧ zI τ 135 i = nI L ∧ (∀ k, k < L → T k < 128 ∧ zI τ 134 (100 * i + k) = nI (T k)) ∧ zpA T L 10 0 = (true, L, cs) ∧ zKB σ (87 + i) cs
def zRk (σ τ : ZM) : Prop := ∃ c h : Nat, c ≤ 6 ∧ zI σ 0 10 = nI c ∧ zI τ 129 8 = nI c ∧ (∀ i, i < c → zKR σ τ i) ∧ zKB σ 93 [] ∧ h ≤ c ∧ zI τ 130 6 = nI h ∧ zP σ 5 0 = zkid h ∧ (zI τ 129 3 = nI 1 → ∃ h, h ≤ c ∧ zI τ 131 6 = nI h)
def zRel (σ τ : ZM) : Prop := (∃ m n, zRs m n σ τ) ∧ zRi σ τ ∧ zRt σ τ ∧ zRa σ τ ∧ zRp σ τ ∧ zRk σ τ
theorem zKB_c {σ σ' : ZM} {K : Nat} {cs : List ZCl} (h : zKB σ K cs) (hs : ∀ k, zI σ' K k = zI σ K k) (h1 : ∀ k, zI σ' (K + 7) k = zI σ (K + 7) k) (h2 : ∀ k, zI σ' (K + 14) k = zI σ (K + 14) k) (h3 : ∀ k, zI σ' (K + 21) k = zI σ (K + 21) k) (h4 : ∀ k, zI σ' (K + 28) k = zI σ (K + 28) k) : zKB σ' K cs := by
  obtain ⟨a, b, c, d, e, f, g⟩ := h
  exact ⟨a, by rw [hs]; exact b, by rw [hs]; exact c, by rw [hs]; exact d, e, fun i c hi => by rw [h1, h2, h3]; exact f i c hi, fun j s hj => by rw [h4]; exact g j s hj⟩
theorem zKB_k {σ σ' : ZM} {K : Nat} {cs : List ZCl} (h : zKB σ K cs) (hK : 87 ≤ K ∧ K < 94) (hs : ∀ o k, cK o = true → zI σ' o k = zI σ o k) : zKB σ' K cs :=
  zKB_c h (fun k => hs _ k (by simp [cK]; omega)) (fun k => hs _ k (by simp [cK]; omega)) (fun k => hs _ k (by simp [cK]; omega)) (fun k => hs _ k (by simp [cK]; omega)) (fun k => hs _ k (by simp [cK]; omega))
theorem zKR_c {σ σ' τ τ' : ZM} {i : Nat} (h : zKR σ τ i) (hi : i < 6) (hs : ∀ o k, cK o = true → zI σ' o k = zI σ o k) (h1 : ∀ k, k < 6 → zI τ' 135 k = zI τ 135 k) (h2 : ∀ k, k < 600 → zI τ' 134 k = zI τ 134 k) : zKR σ' τ' i := by
  obtain ⟨L, T, cs, a, b, c, d, e⟩ := h
  exact ⟨L, T, cs, a, by rw [h1 i hi]; exact b, fun k hk => by rw [h2 _ (by omega)]; exact c k hk, d, zKB_k e (by omega) hs⟩
theorem zRk_c {σ σ' τ τ' : ZM} (h : zRk σ τ) (hs : ∀ o k, cK o = true → zI σ' o k = zI σ o k) (hP : zP σ' 5 0 = zP σ 5 0) (h1 : ∀ k, k < 6 → zI τ' 135 k = zI τ 135 k) (h2 : ∀ k, k < 600 → zI τ' 134 k = zI τ 134 k) (h3 : zI τ' 129 8 = zI τ 129 8) (h4 : zI τ' 129 3 = zI τ 129 3) (h5 : zI τ' 130 6 = zI τ 130 6) (h6 : zI τ' 131 6 = zI τ 131 6) : zRk σ' τ' := by
  obtain ⟨c, h, a, b, d, e, f, g, i, j, k⟩ := h
  exact ⟨c, h, a, by rw [hs _ _ rfl]; exact b, by rw [h3]; exact d, fun i hi => zKR_c (e i hi) (by omega) hs h1 h2, zKB_k f (by omega) hs, g, by rw [h5]; exact i, by rw [hP]; exact j, by rw [h4, h6]; exact k⟩
/-- both answer alike, and the memories go together behind it -/
def zOK {α : Type} (a b : Option (α × ZM)) : Prop := ∃ (r : α) (σ' τ' : ZM), a = some (r, σ') ∧ b = some (r, τ') ∧ zRel σ' τ'
/-! small methods -/
theorem isIn_e (x a b : Int32) (σ : ZM) : f_Model_isIn x a b σ = some (if x < a then (0 : Int32) else if b < x then 0 else 1, σ) := by
  unfold f_Model_isIn
  split
  · rfl
  · split <;> rfl
def zbI (b : Bool) : Int32 := if b then 1 else 0
theorem zbl_bI (b : Bool) : zbl (zbI b) = true := by cases b <;> rfl
theorem zbI_z (b : Bool) : (zbI b = 0) = (b = false) := by cases b <;> simp [zbI]
theorem isInN_e (x : Int32) (N : Nat) (h : N < 2 ^ 31) (σ : ZM) : f_Model_isIn x 0 (nI N) σ = some (zbI (zin x (N + 1)), σ) := by
  rw [isIn_e]
  rcases zc3 x (N + 1) with hx | ⟨j, hj, hj2, rfl⟩ | ⟨j, hj, hj2, rfl⟩
  · rw [if_pos hx, zin_neg hx]; rfl
  · rw [if_neg (nI_pos hj2), zin_nI hj2, if_neg (nI_nlt (by omega) h), decide_eq_true hj]; rfl
  · rw [if_neg (nI_pos hj2), zin_nI hj2, if_pos (nI_lt (by omega) hj2), decide_eq_false (by omega)]; rfl
theorem Bloaf_e {σ : ZM} {m : Nat} (hm : m < 2 ^ 31) (h : zI σ 1 3 = nI m) (x : Int32) : f_BB_isLoaf x σ = some (zbI (zin x m), σ) := by
  unfold f_BB_isLoaf
  rw [h]
  rcases zc3 x m with hx | ⟨j, hj, hj2, rfl⟩ | ⟨j, hj, hj2, rfl⟩
  · rw [if_pos hx, zin_neg hx]; rfl
  · rw [if_neg (nI_pos hj2), zin_nI hj2, if_neg (nI_ge hj hm), decide_eq_true hj]; rfl
  · rw [if_neg (nI_pos hj2), zin_nI hj2, if_pos (nI_le hj hj2), decide_eq_false (by omega)]; rfl
theorem Btaste_e (x : Int32) (σ : ZM) : f_BB_isTaste x σ = some (zbI (zin x 4), σ) := by
  unfold f_BB_isTaste
  rw [show (4 : Int32) = nI 4 from rfl]
  rcases zc3 x 4 with hx | ⟨j, hj, hj2, rfl⟩ | ⟨j, hj, hj2, rfl⟩
  · rw [if_pos hx, zin_neg hx]; rfl
  · rw [if_neg (nI_pos hj2), zin_nI hj2, if_neg (nI_ge hj (by omega)), decide_eq_true hj]; rfl
  · rw [if_neg (nI_pos hj2), zin_nI hj2, if_pos (nI_le hj hj2), decide_eq_false (by omega)]; rfl
theorem Btape_e (x : Int32) (σ : ZM) : f_Tapes_isTape x σ = some (zbI (zin x 6), σ) := by
  unfold f_Tapes_isTape
  rw [show (6 : Int32) = nI 6 from rfl]
  rcases zc3 x 6 with hx | ⟨j, hj, hj2, rfl⟩ | ⟨j, hj, hj2, rfl⟩
  · rw [if_pos hx, zin_neg hx]; rfl
  · rw [if_neg (nI_pos hj2), zin_nI hj2, if_neg (nI_ge hj (by omega)), decide_eq_true hj]; rfl
  · rw [if_neg (nI_pos hj2), zin_nI hj2, if_pos (nI_le hj hj2), decide_eq_false (by omega)]; rfl
theorem Mtaste_e (x : Int32) (σ : ZM) : f_Model_isTaste x σ = some (zbI (zin x 4), σ) := by
  unfold f_Model_isTaste
  rw [show (3 : Int32) = nI 3 from rfl, isInN_e x 3 (by omega), zbd_s, zbl_bI]; rfl
theorem Mtape_e (x : Int32) (σ : ZM) : f_Model_isTape x σ = some (zbI (zin x 6), σ) := by
  unfold f_Model_isTape
  rw [show (5 : Int32) = nI 5 from rfl, isInN_e x 5 (by omega), zbd_s, zbl_bI]; rfl
theorem Mloaf_e {τ : ZM} {m : Nat} (hm : m < 2 ^ 31) (h : zI τ 130 5 = nI m) (x : Int32) : f_Model_isLoaf x τ = some (zbI (zin x m), τ) := by
  unfold f_Model_isLoaf
  rw [zck_of (show zin 5 92 = true by decide), show (5 : Int32).toNatClampNeg = 5 from rfl, h]
  cases m with
  | zero =>
    rw [isIn_e]
    have e : zin x 0 = false := by simp [zin]
    rw [e]
    have hl : (nI 0 - 1 : Int32) = -1 := rfl
    rw [hl]
    by_cases hx : x < 0
    · rw [if_pos hx]; rfl
    · rw [if_neg hx, if_pos (by have := Int32.not_lt.mp hx; rw [Int32.le_iff_toInt_le] at this; rw [Int32.lt_iff_toInt_lt]; have a : (-1 : Int32).toInt = -1 := rfl; have b : (0 : Int32).toInt = 0 := rfl; omega)]; rfl
  | succ k =>
    rw [show (nI (k + 1) - 1 : Int32) = nI k from nI_pred k, isInN_e x k (by omega), zbd_s, zbl_bI]; rfl
