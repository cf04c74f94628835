/-! PURE: colds, the reference -/
theorem nI_dec {x : Nat} (h : 0 < x) : nI x + (-1 : Int32) = nI (x - 1) := by
  rw [← Int32.sub_eq_add_neg]
  exact nI_subE (b := 1) (by omega)
theorem wl3_u (k13 : Int32 × Int32 × Int32 × Int32 × Int32 × ZM → Option (Int32 × ZM)) (N : Nat) (a b c d e : Int32) (σ : ZM) : F_Model_isWellBy_35 k13 (N + 1) (a, b, c, d, e, σ) = f_Model_isWellBy_35 k13 (F_Model_isWellBy_35 k13 N) a b c d e σ := rfl
theorem wl1_u (N : Nat) (a b c d e : Int32) (σ : ZM) : F_Model_isWellBy_13 (N + 1) (a, b, c, d, e, σ) = f_Model_isWellBy_13 (F_Model_isWellBy_13 N) a b c d e σ := rfl
theorem cm7_u (k64 : Int32 × Int32 × Int32 × Int32 × Int32 × Int32 × ZM → Option (Int32 × ZM)) (N : Nat) (a b c d e g h i : Int32) (σ : ZM) : F_Model_colds_77 k64 (N + 1) (a, b, c, d, e, g, h, i, σ) = f_Model_colds_77 k64 (F_Model_colds_77 k64 N) a b c d e g h i σ := rfl
theorem cm6_u (N : Nat) (a b c d e g : Int32) (σ : ZM) : F_Model_colds_64 (N + 1) (a, b, c, d, e, g, σ) = f_Model_colds_64 (F_Model_colds_64 N) a b c d e g σ := rfl
theorem cm3_u (N : Nat) (a b c d : Int32) (σ : ZM) : F_Model_colds_38 (N + 1) (a, b, c, d, σ) = f_Model_colds_38 (F_Model_colds_38 N) a b c d σ := rfl
theorem cmk_u (N : Nat) (a b c d : Int32) (σ : ZM) : F_Model_colds_173 (N + 1) (a, b, c, d, σ) = f_Model_colds_173 (F_Model_colds_173 N) a b c d σ := rfl
theorem five_s (r : Nat) : (5 : Nat) ^ (r + 1) / 5 = 5 ^ r := by
  rw [Nat.pow_succ]
  exact Nat.mul_div_cancel _ (by omega)
theorem digt_e {x r : Nat} (hx : x < 2 ^ 31) (hr : r < 4) : nI x / nI (5 ^ r) - nI x / nI (5 ^ r) / (5 : Int32) * (5 : Int32) = nI (x / 5 ^ r % 5) := by
  obtain ⟨h1, h2⟩ := pow5 r (by omega)
  have h3 : x / 5 ^ r ≤ x := Nat.div_le_self _ _
  rw [nI_divE hx (by omega)]
  exact nI_mod (f := 5) (by omega) (by omega)
section
variable {m : Nat} {cs : List ZCl} {D : ZD} {σ0 τ0 : ZM} {S0 : ZS}
theorem wl_l (w : xW m cs D σ0 τ0 S0) {s x : Nat} (hs : s < 2 ^ m) (hx : x < 2 ^ 31) (hn : pB s ≤ 4) : ∀ (r k N : Nat) (ls : List Nat) (τ : ZM) (S : ZS), k + r = pB s → r < N → ls.length = r → (∀ j, ls[j]? = (pMs s)[k + j]?) → xM τ0 τ S →
    ∃ τ', F_Model_isWellBy_13 N (nI s, nI x, 1, nI (5 ^ r / 5), nI k, τ) = some (zbI (pWl cs D ls (pDg r x) S), τ') ∧ zFE τ0 τ' := by
  have hm := w.1.1
  obtain ⟨s64, sl⟩ := set_lt m (by omega) s hs
  intro r
  induction r with
  | zero =>
    intro k N ls τ S hk hN hl hms c
    obtain ⟨N, rfl⟩ : ∃ M, N = M + 1 := ⟨N - 1, by omega⟩
    obtain ⟨τ1, e1, f1⟩ := xM_e c
    obtain rfl : ls = [] := List.eq_nil_of_length_eq_zero hl
    refine ⟨τ1, ?_, f1⟩
    rw [wl1_u]
    unfold f_Model_isWellBy_13 f_Model_isWellBy_82
    rw [bits_e s s64, zbd_s, if_pos (nI_le (by omega) (by omega)), e1, zbd_s]
    rfl
  | succ r ih =>
    intro k N ls τ S hk hN hl hms c
    obtain ⟨N, rfl⟩ : ∃ M, N = M + 1 := ⟨N - 1, by omega⟩
    obtain ⟨l, ls, rfl⟩ : ∃ l l2, ls = l :: l2 := by
      cases ls with
      | nil => cases hl
      | cons a b => exact ⟨a, b, rfl⟩
    simp only [List.length_cons] at hl
    obtain ⟨q1, q2⟩ := pow5 r (by omega)
    obtain ⟨l', ml1, ml2⟩ := mem_e (k := k) s64 (by omega) τ0
    have e0 := hms 0
    rw [Nat.add_zero, ml1] at e0
    obtain rfl : l = l' := Option.some.inj e0
    have hlm : l < m := pMs_m m (by omega) s hs l (List.mem_of_getElem? ml1)
    rw [wl1_u]
    unfold f_Model_isWellBy_13
    rw [bits_e s s64, zbd_s, if_neg (nI_ge (a := k) (b := pB s) (by omega) (by omega)), if_neg (show ¬ (1 : Int32) = 0 by decide), five_s, zck_of (nI_nz (by omega) (by omega)), digt_e hx (by omega), pDg_s]
    have hd : x / 5 ^ r % 5 < 5 := Nat.mod_lt _ (by omega)
    have hms' : ∀ j, ls[j]? = (pMs s)[k + 1 + j]? := fun j => by
      rw [show k + 1 + j = k + (j + 1) by omega]; exact hms (j + 1)
    have cool : ∀ (d K : Nat) (τ : ZM) (S' : ZS), d < 5 → d < K → xM τ0 τ S' → ∃ τ', F_Model_isWellBy_35 (F_Model_isWellBy_13 N) K (nI s, nI x, nI (5 ^ r), nI k, nI d, τ) = some (zbI (if pSp cs D (pCi cs S' d).1 (pCi cs S' d).2 l 0 4 = true then false else pWl cs D ls (pDg r x) (pBk cs D l (pCi cs S' d))), τ') ∧ zFE τ0 τ' := by
      intro d
      induction d with
      | zero =>
        intro K τ S' hd5 hK c
        obtain ⟨K, rfl⟩ : ∃ M, K = M + 1 := ⟨K - 1, by omega⟩
        obtain ⟨l2, ml3, ml4⟩ := mem_e (k := k) s64 (by omega) τ
        obtain rfl : l = l2 := Option.some.inj (ml1.symm.trans ml3)
        obtain ⟨τ1, e1, c1⟩ := xM_k w c hlm
        rw [wl3_u]
        unfold f_Model_isWellBy_35 f_Model_isWellBy_68
        rw [if_pos (show nI 0 ≤ 0 from Int32.le_refl _), ml4, zbd_s, e1, zbd_s, show nI k + (1 : Int32) = nI (k + 1) from nI_add k 1, show nI (5 ^ r) / (5 : Int32) = nI (5 ^ r / 5) from nI_divE (b := 5) (by omega) (by omega)]
        show ∃ τ', _ = some (zbI (if pSp cs D S'.1 S'.2 l 0 4 = true then false else pWl cs D ls (pDg r x) (pBk cs D l S')), τ') ∧ zFE τ0 τ'
        cases pSp cs D S'.1 S'.2 l 0 4 with
        | false =>
          rw [if_pos (show zbI false = 0 from rfl), if_neg (by decide)]
          exact ih (k + 1) N ls τ1 _ (by omega) (by omega) (by omega) hms' c1
        | true =>
          obtain ⟨N, rfl⟩ : ∃ M, N = M + 1 := ⟨N - 1, by omega⟩
          obtain ⟨τ2, e2, f2⟩ := xM_e c1
          rw [if_neg (show ¬ zbI true = 0 by decide), if_pos rfl, wl1_u]
          unfold f_Model_isWellBy_13 f_Model_isWellBy_82
          rw [bits_e s s64, zbd_s, if_pos (show (0 : Int32) = 0 from rfl), e2, zbd_s]
          split <;> exact ⟨τ2, rfl, f2⟩
      | succ d ihd =>
        intro K τ S' hd5 hK c
        obtain ⟨K, rfl⟩ : ∃ M, K = M + 1 := ⟨K - 1, by omega⟩
        obtain ⟨τ1, e1, c1⟩ := xM_c w c
        rw [wl3_u]
        unfold f_Model_isWellBy_35
        rw [if_neg (show ¬ nI (d + 1) ≤ (0 : Int32) from nI_ge (a := 0) (by omega) (by omega)), e1, zbd_s, nI_dec (by omega), Nat.add_sub_cancel, ← pCi_f]
        exact ihd K τ1 _ (by omega) (by omega) c1
    rw [pWl_c]
    exact cool _ 2000 τ S (by omega) (by omega) c
theorem wl_M (w : xW m cs D σ0 τ0 S0) {s x : Nat} (hs : s < 2 ^ m) (hx : x < 2 ^ 31) (hn : pB s ≤ 4) {τ : ZM} (f : zFE τ0 τ) : ∃ τ', f_Model_isWellBy (nI s) (nI x) (nI (5 ^ pB s / 5)) τ = some (zbI (pWl cs D (pMs s) (pDg (pB s) x) S0), τ') ∧ zFE τ0 τ' := by
  have hm := w.1.1
  obtain ⟨s64, -⟩ := set_lt m (by omega) s hs
  obtain ⟨τ1, e1, c1⟩ := xM_b w f
  obtain ⟨τ2, e2, f2⟩ := wl_l w hs hx hn (pB s) 0 2000 (pMs s) τ1 S0 (by omega) (by omega) (pMs_l s s64) (fun j => by rw [Nat.zero_add]) c1
  refine ⟨τ2, ?_, f2⟩
  unfold f_Model_isWellBy
  rw [e1, zbd_s]
  exact e2
/-- the digits of a number, and what the reference found -/
def pGs (cs : List ZCl) (D : ZD) (S : ZS) (s : Nat) (B : ZB) (x : Nat) : ZB := if pWl cs D (pMs s) (pDg (pB s) x) S = true then pUp B (pDg (pB s) x).sum (pDg (pB s) x) else B
def zBn (n : Nat) (fo le : Int32) (B : ZB) : Prop := (B = none ∧ fo = -5 ∧ le = -5) ∨ ∃ x, x < 5 ^ n ∧ B = some ((pDg n x).sum, pDg n x) ∧ fo = nI x ∧ le = nI (pDg n x).sum
def pMl (g : ZB → Nat → ZB) : Nat → Nat → ZB → ZB
  | 0, _, B => B
  | d + 1, x, B => pMl g d (x + 1) (g B x)
theorem pMl_s (g : ZB → Nat → ZB) (d x : Nat) (B : ZB) : pMl g (d + 1) x B = pMl g d (x + 1) (g B x) := rfl
theorem pMl_f (g : ZB → Nat → ZB) : ∀ (d x : Nat) (B : ZB), pMl g d x B = (pRg d x).foldl g B
  | 0, _, _ => rfl
  | d + 1, x, B => by rw [pMl_s, pRg_s, List.foldl_cons, pMl_f g d (x + 1)]
theorem pMl_e (cs : List ZCl) (D : ZD) (S : ZS) {s : Nat} (hs : s < 64) (hn : pB s ≤ 4) : pMl (pGs cs D S s) (5 ^ pB s) 0 none = pCc cs D (pMs s) S 0 [] none := by
  rw [pMl_f, pCc_e, pMs_l s hs, ← pDg_e (pB s) (by omega), List.foldl_map]
  congr 1
  funext B x
  unfold pGs
  rw [Nat.zero_add, List.nil_append]
theorem cm7_l (k64 : Int32 × Int32 × Int32 × Int32 × Int32 × Int32 × ZM → Option (Int32 × ZM)) (a b c d e g : Int32) (τ : ZM) : ∀ (n x acc N : Nat), x < 5 ^ n → n < 5 → n < N → F_Model_colds_77 k64 N (a, b, c, d, e, g, nI acc, nI x, τ) = (if d < 0 then f_Model_colds_112 k64 a b c d e g (nI (pSm n acc x)) τ else if e ≤ nI (pSm n acc x) then f_Model_colds_136 k64 a b c d e g τ else f_Model_colds_112 k64 a b c d e g (nI (pSm n acc x)) τ)
  | 0, x, acc, N, hx, hn, hN => by
    obtain ⟨N, rfl⟩ : ∃ M, N = M + 1 := ⟨N - 1, by omega⟩
    have e : (5 : Nat) ^ 0 = 1 := rfl
    obtain rfl : x = 0 := by omega
    rw [cm7_u]
    unfold f_Model_colds_77
    rw [if_pos (show nI 0 ≤ 0 from Int32.le_refl _)]
    rfl
  | n + 1, x, acc, N, hx, hn, hN => by
    obtain ⟨N, rfl⟩ : ∃ M, N = M + 1 := ⟨N - 1, by omega⟩
    obtain ⟨p1, p2⟩ := pow5 (n + 1) hn
    rw [cm7_u, pSm_s]
    unfold f_Model_colds_77
    by_cases z : x = 0
    · subst z
      rw [if_pos (show nI 0 ≤ 0 from Int32.le_refl _), if_pos rfl]
    · have h5 : x / 5 < 5 ^ n := by
        rw [Nat.pow_succ] at hx
        exact Nat.div_lt_of_lt_mul (by rw [Nat.mul_comm]; exact hx)
      rw [if_neg (show ¬ nI x ≤ (0 : Int32) from nI_ge (a := 0) (by omega) (by omega)), if_neg z, show nI x - nI x / (5 : Int32) * (5 : Int32) = nI (x % 5) from nI_mod (f := 5) (by omega) (by omega), show nI x / (5 : Int32) = nI (x / 5) from nI_divE (b := 5) (by omega) (by omega), nI_add]
      exact cm7_l k64 a b c d e g τ n (x / 5) (acc + x % 5) N h5 (by omega) (by omega)
theorem cmk_l (x : Nat) (hx : x < 625) (k : Nat) (hk : k < 5) (τ : ZM) : ∀ (d j r N : Nat), j + d = k → d < N → r < 4 → d ≤ r → F_Model_colds_173 N (nI k, nI x, nI (5 ^ r), nI j, τ) = some (nI (x / 5 ^ (r - d) % 5), τ) := by
  intro d
  induction d with
  | zero =>
    intro j r N hj hN hr hd
    obtain ⟨N, rfl⟩ : ∃ M, N = M + 1 := ⟨N - 1, by omega⟩
    obtain ⟨p1, p2⟩ := pow5 r (by omega)
    rw [cmk_u]
    unfold f_Model_colds_173
    rw [if_pos (nI_le (by omega) (by omega)), zck_of (nI_nz (by omega) (by omega)), digt_e (by omega) hr, Nat.sub_zero]
  | succ d ih =>
    intro j r N hj hN hr hd
    obtain ⟨N, rfl⟩ : ∃ M, N = M + 1 := ⟨N - 1, by omega⟩
    obtain ⟨p1, p2⟩ := pow5 r (by omega)
    obtain ⟨r, rfl⟩ : ∃ q, r = q + 1 := ⟨r - 1, by omega⟩
    rw [cmk_u]
    unfold f_Model_colds_173
    rw [if_neg (nI_ge (a := j) (b := k) (by omega) (by omega)), show nI (5 ^ (r + 1)) / (5 : Int32) = nI (5 ^ (r + 1) / 5) from nI_divE (b := 5) (by omega) (by omega), five_s, show nI j + (1 : Int32) = nI (j + 1) from nI_add j 1, ih (j + 1) r N (by omega) (by omega) (by omega) (by omega), Nat.add_sub_add_right]
theorem pDg_k (x : Nat) : ∀ (n k : Nat), k < n → (pDg n x).getD k 0 = x / 5 ^ (n - 1 - k) % 5
  | 0, k, h => by omega
  | n + 1, 0, h => by rw [pDg_s, List.getD_cons_zero, Nat.sub_zero, Nat.add_sub_cancel]
  | n + 1, k + 1, h => by
    rw [pDg_s, List.getD_cons_succ, pDg_k x n k (by omega), show n - 1 - k = n + 1 - 1 - (k + 1) by omega]
def pCa (k : Int32) (B : ZB) : Int32 := match B with
  | none => -5
  | some q => if k < 0 then nI q.1 else if nI q.2.length ≤ k then -5 else nI (q.2.getD k.toNatClampNeg 0)
theorem cm6_l (w : xW m cs D σ0 τ0 S0) {s : Nat} (hs : s < 2 ^ m) (hn : pB s ≤ 4) (k : Int32) : ∀ (d x N : Nat) (fo le : Int32) (B : ZB) (τ : ZM), x + d = 5 ^ pB s → d < N → zBn (pB s) fo le B → zFE τ0 τ → ∃ τ', F_Model_colds_64 N (nI s, k, nI (5 ^ pB s), fo, le, nI x, τ) = some (pCa k (pMl (pGs cs D S0 s) d x B), τ') ∧ zFE τ0 τ' := by
  have hm := w.1.1
  obtain ⟨s64, -⟩ := set_lt m (by omega) s hs
  obtain ⟨p1, p2⟩ := pow5 (pB s) (by omega)
  intro d
  induction d with
  | zero =>
    intro x N fo le B τ hx hN hB f
    obtain ⟨N, rfl⟩ : ∃ M, N = M + 1 := ⟨N - 1, by omega⟩
    obtain rfl : x = 5 ^ pB s := by omega
    refine ⟨τ, ?_, f⟩
    rw [cm6_u]
    unfold f_Model_colds_64
    rw [if_pos (nI_le (Nat.le_refl _) (by omega))]
    show _ = some (pCa k B, τ)
    rcases hB with ⟨rfl, h1, h2⟩ | ⟨y, hy, rfl, h1, h2⟩
    · rw [h1, h2, if_pos (show (-5 : Int32) < 0 by decide)]
      split <;> rfl
    · show _ = some ((if k < 0 then nI (pDg (pB s) y).sum else if nI (pDg (pB s) y).length ≤ k then -5 else nI ((pDg (pB s) y).getD k.toNatClampNeg 0)), τ)
      have hy6 : y < 625 := by omega
      rw [h1, h2, if_neg (nI_pos (show y < 2 ^ 31 by omega)), bits_e s s64, zbd_s, pDg_l]
      by_cases k0 : 0 ≤ k
      · obtain ⟨c, hc, rfl⟩ := nI_of (Int32.not_lt.mpr k0)
        rw [if_pos k0, if_neg (nI_pos hc)]
        by_cases z : pB s ≤ c
        · rw [if_neg (nI_nlt z hc), if_pos (nI_le z hc)]
        · obtain ⟨r, hr⟩ : ∃ r, pB s = r + 1 := ⟨pB s - 1, by omega⟩
          rw [if_pos (nI_lt (by omega) (by omega)), if_neg (nI_ge (by omega) (by omega)), nI_clamp hc, pDg_k y (pB s) c (by omega), hr]
          rw [hr] at p1 p2
          rw [show nI (5 ^ (r + 1)) / (5 : Int32) = nI (5 ^ (r + 1) / 5) from nI_divE (b := 5) (by omega) (by omega), five_s, show (0 : Int32) = nI 0 from rfl, cmk_l y hy6 c (by omega) τ c 0 r 2000 (by omega) (by omega) (by omega) (by omega), Nat.add_sub_cancel]
      · rw [if_neg k0, if_pos (Int32.not_le.mp k0)]
  | succ d ih =>
    intro x N fo le B τ hx hN hB f
    obtain ⟨N, rfl⟩ : ∃ M, N = M + 1 := ⟨N - 1, by omega⟩
    obtain ⟨sm1, sm2⟩ := pSm_e (pB s) (by omega) x (by omega)
    obtain ⟨τ1, e1, f1⟩ := wl_M w hs (show x < 2 ^ 31 by omega) hn f
    have go : f_Model_colds_112 (F_Model_colds_64 N) (nI s) k (nI (5 ^ pB s)) fo le (nI x) (nI (pDg (pB s) x).sum) τ = if pWl cs D (pMs s) (pDg (pB s) x) S0 = true then F_Model_colds_64 N (nI s, k, nI (5 ^ pB s), nI x, nI (pDg (pB s) x).sum, nI (x + 1), τ1) else F_Model_colds_64 N (nI s, k, nI (5 ^ pB s), fo, le, nI (x + 1), τ1) := by
      unfold f_Model_colds_112 f_Model_colds_136
      rw [show nI (5 ^ pB s) / (5 : Int32) = nI (5 ^ pB s / 5) from nI_divE (b := 5) (by omega) (by omega), e1, zbd_s, zif, show nI x + (1 : Int32) = nI (x + 1) from nI_add x 1]
    rw [cm6_u, pMl_s]
    unfold f_Model_colds_64
    rw [if_neg (nI_ge (a := x) (b := 5 ^ pB s) (by omega) (by omega)), show F_Model_colds_77 (F_Model_colds_64 N) 2000 (nI s, k, nI (5 ^ pB s), fo, le, nI x, 0, nI x, τ) = _ from cm7_l (F_Model_colds_64 N) (nI s) k (nI (5 ^ pB s)) fo le (nI x) τ (pB s) x 0 2000 (by omega) (by omega) (by omega), sm1]
    have newB : zBn (pB s) (nI x) (nI (pDg (pB s) x).sum) (some ((pDg (pB s) x).sum, pDg (pB s) x)) := Or.inr ⟨x, by omega, rfl, rfl, rfl⟩
    rcases id hB with ⟨rfl, h1, h2⟩ | ⟨y, hy, rfl, h1, h2⟩
    · rw [if_pos (show fo < 0 by rw [h1]; decide), go]
      by_cases z : pWl cs D (pMs s) (pDg (pB s) x) S0 = true
      · rw [if_pos z, show pGs cs D S0 s none x = some ((pDg (pB s) x).sum, pDg (pB s) x) from if_pos z]
        exact ih (x + 1) N _ _ _ τ1 (by omega) (by omega) newB f1
      · rw [if_neg z, show pGs cs D S0 s none x = none from if_neg z]
        exact ih (x + 1) N _ _ _ τ1 (by omega) (by omega) hB f1
    · obtain ⟨sy1, sy2⟩ := pSm_e (pB s) (by omega) y hy
      rw [if_neg (show ¬ fo < 0 by rw [h1]; exact nI_pos (by omega)), h2]
      by_cases q : (pDg (pB s) y).sum ≤ (pDg (pB s) x).sum
      · rw [if_pos (nI_le q (by omega)), show pGs cs D S0 s (some ((pDg (pB s) y).sum, pDg (pB s) y)) x = some ((pDg (pB s) y).sum, pDg (pB s) y) by
          unfold pGs
          split
          · exact if_neg (show ¬ (pDg (pB s) x).sum < (pDg (pB s) y).sum by omega)
          · rfl]
        unfold f_Model_colds_136
        rw [show nI x + (1 : Int32) = nI (x + 1) from nI_add x 1, ← h2]
        exact ih (x + 1) N _ _ _ τ (by omega) (by omega) hB f
      · rw [if_neg (nI_ge (by omega) (by omega)), ← h2, go]
        by_cases z : pWl cs D (pMs s) (pDg (pB s) x) S0 = true
        · rw [if_pos z, show pGs cs D S0 s (some ((pDg (pB s) y).sum, pDg (pB s) y)) x = some ((pDg (pB s) x).sum, pDg (pB s) x) by
            unfold pGs
            rw [if_pos z]
            exact if_pos (show (pDg (pB s) x).sum < (pDg (pB s) y).sum by omega)]
          exact ih (x + 1) N _ _ _ τ1 (by omega) (by omega) newB f1
        · rw [if_neg z, show pGs cs D S0 s (some ((pDg (pB s) y).sum, pDg (pB s) y)) x = some ((pDg (pB s) y).sum, pDg (pB s) y) from if_neg z]
          exact ih (x + 1) N _ _ _ τ1 (by omega) (by omega) hB f1
end
theorem cm3_l (a k : Int32) (τ : ZM) : ∀ (n e N : Nat), n + e < 5 → n < N → F_Model_colds_38 N (a, k, nI (5 ^ e), nI n, τ) = F_Model_colds_64 2000 (a, k, nI (5 ^ (e + n)), -5, -5, 0, τ)
  | 0, e, N, h, hN => by
    obtain ⟨N, rfl⟩ : ∃ M, N = M + 1 := ⟨N - 1, by omega⟩
    rfl
  | n + 1, e, N, h, hN => by
    obtain ⟨N, rfl⟩ : ∃ M, N = M + 1 := ⟨N - 1, by omega⟩
    rw [cm3_u]
    unfold f_Model_colds_38
    rw [if_neg (show ¬ nI (n + 1) ≤ (0 : Int32) from nI_ge (a := 0) (by omega) (by omega)), nI_dec (by omega), Nat.add_sub_cancel, show nI (5 ^ e) * (5 : Int32) = nI (5 ^ e * 5) from nI_mul (5 ^ e) 5, ← Nat.pow_succ, cm3_l a k τ n (e + 1) N (by omega) (by omega), show e + 1 + n = e + (n + 1) by omega]
theorem op_colds {σ τ : ZM} (h : zRel σ τ) (x1 x2 : Int32) : zOK (f_BB_colds x1 x2 σ) (f_Model_colds x1 x2 τ) := by
  obtain ⟨m, n, cs, D, S, hs, w⟩ := zRel_W h
  obtain ⟨hm, m1, m2⟩ := zmany hs
  obtain ⟨p1, p2, p3⟩ := pow_e m hm
  unfold f_BB_colds f_Model_colds
  rw [isIn_e, zbd_s]
  by_cases q1 : x2 < -1
  · rw [if_pos q1, if_pos q1, if_pos rfl]; exact zOK_s h
  rw [if_neg q1, if_neg q1]
  by_cases q2 : x2 ≤ 5
  · rw [if_pos q2, if_neg (Int32.not_lt.mpr q2), if_neg (show ¬ (1 : Int32) = 0 by decide), show (4 : Int32) = nI 4 from rfl, isSet_e hm m1 (by omega), zbd_s, zif, areL_e hm m2, zbd_s, zif]
    cases hz : zin x1 (2 ^ m) with
    | false => exact zOK_s h
    | true =>
      obtain ⟨s, hs1, hs2, rfl⟩ := zin_t hz
      have pl := pB_le s
      have s64 : s < 64 := by omega
      rw [nI_clamp hs2, Bool.true_and, if_pos (show true = true from rfl), bits_e s s64, zbd_s]
      by_cases y : pB s ≤ 4
      · rw [decide_eq_true y, if_pos rfl, if_pos (nI_le y (by omega)), bits_e s s64, zbd_s]
        obtain ⟨σ1, e1, f1, c1⟩ := become_C (X := 36) (Y := 33) (S := S) (σ := zsI (zsI σ 7 5 (nI (pB s))) 7 6 ((20 : Int32) + (1 : Int32))) (by omega) (by omega) (by omega) ⟨fun t ht => by rw [zI_sI, if_neg (by omega), zI_sI, if_neg (by omega)]; exact w.2.2.2.1.1 t ht, by rw [zI_sI, if_neg (by omega), zI_sI, if_neg (by omega)]; exact w.2.2.2.1.2⟩
        have g0 : zFK σ (zsI (zsI σ 7 5 (nI (pB s))) 7 6 ((20 : Int32) + (1 : Int32))) := ⟨fun o k _ _ _ _ n5 => by rw [zI_sI, if_neg (by omega), zI_sI, if_neg (by omega)], fun _ _ => rfl, fun _ _ => rfl⟩
        have g1 : zFK σ σ1 := zFK_t g0 (zFK_C (X := 36) (by omega) f1)
        have lms := pMs_l s s64
        obtain ⟨σ2, e2, f2, b2⟩ := co_C w y (pMs s) 8 s 0 [] none S σ1 (by omega) hs1 rfl (by rw [lms]; simp) (by omega) w.2.2.1 g1 ⟨by rw [f1.1 7 5 (by omega) (by omega) (by omega), zI_sI, if_neg (by omega), zI_sI, if_pos ⟨rfl, rfl⟩], (fun j i hj => by cases hj), c1, Or.inl ⟨rfl, by rw [f1.1 7 6 (by omega) (by omega) (by omega), zI_sI, if_pos ⟨rfl, rfl⟩]; rfl⟩⟩
        obtain ⟨τ2, e3, f3⟩ := cm6_l w hs1 y x2 (5 ^ pB s) 0 2000 (-5) (-5) none τ (by omega) (by have := pow5 (pB s) (by omega); omega) (Or.inl ⟨rfl, rfl, rfl⟩) (zFE_r τ)
        rw [pMl_e cs D S s64 y] at e3
        have k5 : zI σ2 7 5 = nI (pB s) := by rw [f2.1 7 5 (by omega) (by omega) (by omega) (by omega) (by omega) (by omega), f1.1 7 5 (by omega) (by omega) (by omega), zI_sI, if_neg (by omega), zI_sI, if_pos ⟨rfl, rfl⟩]
        have F1 : zFK σ σ2 := zFK_t g1 (zFK_P f2)
        have F2 : zFN τ τ2 := zFN_E f3
        have e5 : F_Model_colds_38 2000 (nI s, x2, 1, nI (pB s), τ) = some (pCa x2 (pCc cs D (pMs s) S 0 [] none), τ2) := by
          have := cm3_l (nI s) x2 τ (pB s) 0 2000 (by omega) (by omega)
          rw [Nat.zero_add] at this
          exact this.trans e3
        have e4 : f_Search_seekColds (nI s) σ = some (if (20 : Int32) < zI σ2 7 6 then 0 else 1, σ2) := by
          unfold f_Search_seekColds
          rw [bcount_e s s64, zbd_s, zck_of (show zin 0 6 = true by decide), show (0 : Int32).toNatClampNeg = 0 from rfl, zel24, zck_of (zRo6 (by omega)), e1, zbd_s, show F_Search_goOnColds 8 (nI s, 0, 0, σ1) = some ((), σ2) from e2, zbd_s]
          split <;> rfl
        rw [e4, zbd_s]
        refine zOK_F h (r := pCa x2 (pCc cs D (pMs s) S 0 [] none)) ?_ e5 F1 F2
        rcases b2 with ⟨b, b6⟩ | ⟨f, b, hB, b6, bf, bl, bb⟩
        · rw [b6, b, if_pos (show (20 : Int32) < nI 21 by decide), if_pos rfl]
          rfl
        · rw [b6, hB, if_neg (show ¬ (20 : Int32) < nI f from nI_nlt (a := 20) (by omega) (by omega)), if_neg (show ¬ (1 : Int32) = 0 by decide)]
          show _ = some ((if x2 < 0 then nI f else if nI b.length ≤ x2 then -5 else nI (b.getD x2.toNatClampNeg 0)), σ2)
          by_cases z : x2 = -1
          · rw [if_pos z, z, if_pos nm1_lt]
          · have z0 : ¬ x2 < 0 := fun c => by
              rcases zcm1 x2 with d | d | ⟨j, hj, rfl⟩
              · exact q1 d
              · exact z d
              · exact absurd c (nI_pos hj)
            obtain ⟨k, hk, rfl⟩ := nI_of z0
            have hk5 : k ≤ 5 := (nI_leI (a := k) (b := 5) hk (by omega)).mp q2
            rw [if_neg z, if_neg z0, k5, bl]
            by_cases c : pB s ≤ k
            · rw [if_pos (nI_le c hk), if_pos (nI_le c hk)]
            · have hb : b[k]? = some b[k] := List.getElem?_eq_getElem (by omega)
              rw [if_neg (nI_ge (by omega) (by omega)), if_neg (nI_ge (by omega) (by omega)), zck_nI (by omega) hk, nI_clamp hk, bb k _ hb, List.getD_eq_getElem?_getD, hb]
              rfl
      · rw [decide_eq_false y, if_neg (by decide), if_neg (nI_ge (by omega) (by omega))]
        exact zOK_s h
  · rw [if_neg q2, if_pos (Int32.not_le.mp q2), if_pos rfl]; exact zOK_s h
