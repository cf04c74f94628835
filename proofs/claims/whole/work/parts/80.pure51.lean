/-! PURE: colds: numbers -/
def pMs (s : Nat) : List Nat := pFl (Nat.testBit s) 6 0
def pLw (s : Nat) : Nat → Nat → Nat
  | 0, j => j
  | d + 1, j => if Nat.testBit s j = true then j else pLw s d (j + 1)
theorem pLw_s (s d j : Nat) : pLw s (d + 1) j = if Nat.testBit s j = true then j else pLw s d (j + 1) := rfl
theorem pMs_c : ∀ s, s < 64 → ¬ s = 0 → pMs s = pLw s 5 0 :: pMs (s - 2 ^ pLw s 5 0) ∧ Nat.testBit s (pLw s 5 0) = true ∧ pLw s 5 0 < 6 := by decide +kernel
theorem pMs_l : ∀ s, s < 64 → (pMs s).length = pB s := by decide +kernel
theorem pMs_0 : pMs 0 = [] := by decide +kernel
theorem pMs_m : ∀ m, m < 7 → ∀ s, s < 2 ^ m → ∀ i ∈ pMs s, i < m := by decide +kernel
def pMm (s : Nat) : Nat → Nat → Nat → Nat
  | 0, _, l => l
  | d + 1, k, l => if Nat.testBit s l = true then (if k = 0 then l else pMm s d (k - 1) (l + 1)) else pMm s d k (l + 1)
theorem pMm_s (s d k l : Nat) : pMm s (d + 1) k l = if Nat.testBit s l = true then (if k = 0 then l else pMm s d (k - 1) (l + 1)) else pMm s d k (l + 1) := rfl
def pCt (s : Nat) : Nat → Nat → Nat
  | 0, _ => 0
  | d + 1, l => (if Nat.testBit s l = true then 1 else 0) + pCt s d (l + 1)
theorem pCt_s (s d l : Nat) : pCt s (d + 1) l = (if Nat.testBit s l = true then 1 else 0) + pCt s d (l + 1) := rfl
theorem pMm_e : ∀ s, s < 64 → pCt s 6 0 = pB s ∧ ∀ k, k < 6 → k < pB s → (pMs s)[k]? = some (pMm s 6 k 0) := by decide +kernel
theorem low_u (N : Nat) (a b : Int32) (σ : ZM) : F_Search_lowestOf_2 (N + 1) (a, b, σ) = f_Search_lowestOf_2 (F_Search_lowestOf_2 N) a b σ := rfl
theorem low_l {s : Nat} (hs : s < 64) (σ : ZM) : ∀ (d j N : Nat), j + d = 5 → d < N → F_Search_lowestOf_2 N (nI s, nI j, σ) = some (nI (pLw s d j), σ) := by
  intro d
  induction d with
  | zero =>
    intro j N hj hN
    obtain ⟨N, rfl⟩ : ∃ M, N = M + 1 := ⟨N - 1, by omega⟩
    obtain rfl : j = 5 := by omega
    rfl
  | succ d ih =>
    intro j N hj hN
    obtain ⟨N, rfl⟩ : ∃ M, N = M + 1 := ⟨N - 1, by omega⟩
    rw [low_u]
    unfold f_Search_lowestOf_2
    rw [if_neg (show ¬ (5 : Int32) ≤ nI j from nI_ge (b := 5) (by omega) (by omega)), bit_e s j hs (by omega), zif, show nI j + (1 : Int32) = nI (j + 1) from nI_add j 1, pLw_s]
    cases Nat.testBit s j with
    | false => rw [if_neg (by decide), if_neg (by decide)]; exact ih (j + 1) N (by omega) (by omega)
    | true => rw [if_pos rfl, if_pos rfl]
theorem low_e {s : Nat} (hs : s < 64) (σ : ZM) : f_Search_lowestOf (nI s) σ = some (nI (pLw s 5 0), σ) := low_l hs σ 5 0 2000 (by omega) (by omega)
theorem mem_u4 (N : Nat) (a b c : Int32) (σ : ZM) : F_Model_memberOf_4 (N + 1) (a, b, c, σ) = f_Model_memberOf_4 (F_Model_memberOf_4 N) a b c σ := rfl
theorem mem_l {s : Nat} (hs : s < 64) (τ : ZM) : ∀ (d k l N : Nat), l + d = 6 → d < N → k < pCt s d l → k < 64 → F_Model_memberOf_4 N (nI s, nI k, nI l, τ) = some (nI (pMm s d k l), τ) := by
  intro d
  induction d with
  | zero =>
    intro k l N hl hN hk hk2
    have : pCt s 0 l = 0 := rfl
    omega
  | succ d ih =>
    intro k l N hl hN hk hk2
    obtain ⟨N, rfl⟩ : ∃ M, N = M + 1 := ⟨N - 1, by omega⟩
    rw [mem_u4]
    unfold f_Model_memberOf_4 f_Model_memberOf_16
    rw [pCt_s] at hk
    rw [bit_e s l hs (by omega), zif, show nI l + (1 : Int32) = nI (l + 1) from nI_add l 1, pMm_s]
    cases hb : Nat.testBit s l with
    | false =>
      rw [hb, if_neg (by decide), Nat.zero_add] at hk
      rw [if_neg (by decide), if_neg (by decide), show nI k - zbI false = nI k from nI_subE (b := 0) (by omega)]
      exact ih k (l + 1) N (by omega) (by omega) hk hk2
    | true =>
      rw [hb, if_pos rfl] at hk
      rw [if_pos rfl, if_pos rfl]
      by_cases z : k = 0
      · subst z
        rw [if_pos (show nI 0 ≤ 0 from Int32.le_refl _), if_pos rfl]
      · rw [if_neg (show ¬ nI k ≤ (0 : Int32) from nI_ge (a := 0) (by omega) (by omega)), if_neg z, show nI k - zbI true = nI (k - 1) from nI_subE (b := 1) (by omega)]
        exact ih (k - 1) (l + 1) N (by omega) (by omega) (by omega) (by omega)
theorem mem_e {s k : Nat} (hs : s < 64) (hk : k < pB s) (τ : ZM) : ∃ l, (pMs s)[k]? = some l ∧ f_Model_memberOf (nI s) (nI k) τ = some (nI l, τ) := by
  obtain ⟨h1, h2⟩ := pMm_e s hs
  have pl := pB_le s
  exact ⟨_, h2 k (by omega) hk, mem_l hs τ 6 k 0 2000 (by omega) (by omega) (by omega) (by omega)⟩
def pCi (cs : List ZCl) (S : ZS) : Nat → ZS
  | 0 => S
  | c + 1 => pCl cs (pCi cs S c)
theorem pCi_s (cs : List ZCl) (S : ZS) (c : Nat) : pCi cs S (c + 1) = pCl cs (pCi cs S c) := rfl
theorem pCi_f (cs : List ZCl) (S : ZS) : ∀ c, pCi cs (pCl cs S) c = pCi cs S (c + 1)
  | 0 => rfl
  | c + 1 => by rw [pCi_s, pCi_f cs S c, ← pCi_s]
theorem pCi_B (cs : List ZCl) (S : ZS) (h : zSB S) : ∀ c, zSB (pCi cs S c)
  | 0 => h
  | c + 1 => pCl_B cs _
def pWl (cs : List ZCl) (D : ZD) : List Nat → List Nat → ZS → Bool
  | l :: ls, c :: ds, S => if pSp cs D (pCi cs S c).1 (pCi cs S c).2 l 0 4 = true then false else pWl cs D ls ds (pBk cs D l (pCi cs S c))
  | _, _, _ => true
theorem pWl_c (cs : List ZCl) (D : ZD) (l c : Nat) (ls ds : List Nat) (S : ZS) : pWl cs D (l :: ls) (c :: ds) S = if pSp cs D (pCi cs S c).1 (pCi cs S c).2 l 0 4 = true then false else pWl cs D ls ds (pBk cs D l (pCi cs S c)) := rfl
def pCx (g : Nat → ZB → ZB) : Nat → Nat → ZB → ZB
  | 0, _, B => B
  | d + 1, c, B => pCx g d (c + 1) (g c B)
theorem pCx_s (g : Nat → ZB → ZB) (d c : Nat) (B : ZB) : pCx g (d + 1) c B = pCx g d (c + 1) (g c B) := rfl
def pCc (cs : List ZCl) (D : ZD) : List Nat → ZS → Nat → List Nat → ZB → ZB
  | [], _, sum, pre, B => pUp B sum pre
  | l :: ls, S, sum, pre, B => pCx (fun c B => if pSp cs D (pCi cs S c).1 (pCi cs S c).2 l 0 4 = true then B else pCc cs D ls (pBk cs D l (pCi cs S c)) (sum + c) (pre ++ [c]) B) 5 0 B
theorem pCc_0 (cs : List ZCl) (D : ZD) (S : ZS) (sum : Nat) (pre : List Nat) (B : ZB) : pCc cs D [] S sum pre B = pUp B sum pre := rfl
theorem pCc_c (cs : List ZCl) (D : ZD) (l : Nat) (ls : List Nat) (S : ZS) (sum : Nat) (pre : List Nat) (B : ZB) : pCc cs D (l :: ls) S sum pre B = pCx (fun c B => if pSp cs D (pCi cs S c).1 (pCi cs S c).2 l 0 4 = true then B else pCc cs D ls (pBk cs D l (pCi cs S c)) (sum + c) (pre ++ [c]) B) 5 0 B := rfl
theorem pCx_id (g : Nat → ZB → ZB) (B : ZB) : ∀ (d c : Nat), (∀ k, c ≤ k → g k B = B) → pCx g d c B = B
  | 0, _, _ => rfl
  | d + 1, c, h => by
    rw [pCx_s, h c (Nat.le_refl _)]
    exact pCx_id g B d (c + 1) (fun k hk => h k (by omega))
theorem pCc_id (cs : List ZCl) (D : ZD) (q : Nat × List Nat) : ∀ (ls : List Nat) (S : ZS) (sum : Nat) (pre : List Nat), q.1 ≤ sum → pCc cs D ls S sum pre (some q) = some q
  | [], S, sum, pre, h => by
    rw [pCc_0]
    exact if_neg (show ¬ sum < q.1 by omega)
  | l :: ls, S, sum, pre, h => by
    rw [pCc_c]
    refine pCx_id _ (some q) 5 0 (fun k _ => ?_)
    show (if pSp cs D (pCi cs S k).1 (pCi cs S k).2 l 0 4 = true then some q else pCc cs D ls (pBk cs D l (pCi cs S k)) (sum + k) (pre ++ [k]) (some q)) = some q
    split
    · rfl
    · exact pCc_id cs D q ls _ _ _ (by omega)
/-! all rows of digits, in order -/
def pEnu : Nat → List (List Nat)
  | 0 => [[]]
  | n + 1 => [0, 1, 2, 3, 4].flatMap (fun c => (pEnu n).map (fun ds => c :: ds))
theorem fold_fm (f : ZB → List Nat → ZB) (E : List (List Nat)) : ∀ (xs : List Nat) (B : ZB), (xs.flatMap (fun c => E.map (fun ds => c :: ds))).foldl f B = xs.foldl (fun B c => E.foldl (fun B ds => f B (c :: ds)) B) B
  | [], B => rfl
  | x :: xs, B => by rw [List.flatMap_cons, List.foldl_append, List.foldl_cons, List.foldl_map, fold_fm f E xs]
theorem fold_id (E : List (List Nat)) : ∀ (B : ZB), E.foldl (fun B _ => B) B = B := by
  induction E with
  | nil => intro B; rfl
  | cons e E ih => intro B; rw [List.foldl_cons]; exact ih B
theorem pCc_e (cs : List ZCl) (D : ZD) : ∀ (ls : List Nat) (S : ZS) (sum : Nat) (pre : List Nat) (B : ZB), pCc cs D ls S sum pre B = (pEnu ls.length).foldl (fun B ds => if pWl cs D ls ds S = true then pUp B (sum + ds.sum) (pre ++ ds) else B) B
  | [], S, sum, pre, B => by
    rw [pCc_0]
    show pUp B sum pre = (if pWl cs D [] [] S = true then pUp B (sum + [].sum) (pre ++ []) else B)
    rw [if_pos (show pWl cs D [] [] S = true from rfl), List.append_nil]; rfl
  | l :: ls, S, sum, pre, B => by
    have key : ∀ (c : Nat) (B : ZB), (if pSp cs D (pCi cs S c).1 (pCi cs S c).2 l 0 4 = true then B else pCc cs D ls (pBk cs D l (pCi cs S c)) (sum + c) (pre ++ [c]) B) = (pEnu ls.length).foldl (fun B ds => if pWl cs D (l :: ls) (c :: ds) S = true then pUp B (sum + (c :: ds).sum) (pre ++ (c :: ds)) else B) B := by
      intro c B
      by_cases q : pSp cs D (pCi cs S c).1 (pCi cs S c).2 l 0 4 = true
      · rw [if_pos q]
        have : (fun (B : ZB) ds => if pWl cs D (l :: ls) (c :: ds) S = true then pUp B (sum + (c :: ds).sum) (pre ++ (c :: ds)) else B) = (fun (B : ZB) _ => B) := by
          funext B ds
          rw [pWl_c, if_pos q, if_neg (by decide)]
        rw [this, fold_id]
      · rw [if_neg q, pCc_e cs D ls (pBk cs D l (pCi cs S c)) (sum + c) (pre ++ [c]) B]
        congr 1
        funext B ds
        rw [pWl_c, if_neg q, List.sum_cons, Nat.add_assoc, List.append_assoc]
        rfl
    rw [pCc_c]
    show _ = ([0, 1, 2, 3, 4].flatMap (fun c => (pEnu ls.length).map (fun ds => c :: ds))).foldl _ B
    rw [fold_fm]
    show pCx _ 5 0 B = _
    simp only [key]
    rfl
def pDg : Nat → Nat → List Nat
  | 0, _ => []
  | n + 1, x => (x / 5 ^ n % 5) :: pDg n x
theorem pDg_s (n x : Nat) : pDg (n + 1) x = (x / 5 ^ n % 5) :: pDg n x := rfl
theorem pDg_l : ∀ n x, (pDg n x).length = n
  | 0, _ => rfl
  | n + 1, x => by rw [pDg_s, List.length_cons, pDg_l n x]
def pRg : Nat → Nat → List Nat
  | 0, _ => []
  | d + 1, a => a :: pRg d (a + 1)
theorem pRg_s (d a : Nat) : pRg (d + 1) a = a :: pRg d (a + 1) := rfl
theorem pDg_e : ∀ n, n < 5 → (pRg (5 ^ n) 0).map (pDg n) = pEnu n := by decide +kernel
def pSm : Nat → Nat → Nat → Nat
  | 0, a, _ => a
  | d + 1, a, x => if x = 0 then a else pSm d (a + x % 5) (x / 5)
theorem pSm_s (d a x : Nat) : pSm (d + 1) a x = if x = 0 then a else pSm d (a + x % 5) (x / 5) := rfl
theorem pSm_e : ∀ n, n < 5 → ∀ x, x < 5 ^ n → pSm n 0 x = (pDg n x).sum ∧ (pDg n x).sum ≤ 16 := by decide +kernel
theorem pow5 : ∀ n, n < 5 → 5 ^ n ≤ 625 ∧ 1 ≤ 5 ^ n := by decide +kernel
