/-! PURE: two ovens -/
theorem xW_F {m : Nat} {cs : List ZCl} {D : ZD} {σ0 σ τ0 τ : ZM} {S0 : ZS} (w : xW m cs D σ0 τ0 S0) (f : zFK σ0 σ) (g : zFN τ0 τ) : xW m cs D σ τ S0 := by
  obtain ⟨st, m1, hS, hc, hr⟩ := w
  exact ⟨zSt_c st (fun o k h1 h2 => f.1 _ _ (by omega) (by omega) (by omega) (by omega) (by omega)) f.2.1 (fun k _ => g.1 _ _ (by omega) (by omega) (by omega) (by omega) (by omega) (by omega)) (fun _ => g.1 _ _ (by omega) (by omega) (by omega) (by omega) (by omega) (by omega)) (fun _ => g.1 _ _ (by omega) (by omega) (by omega) (by omega) (by omega) (by omega)), by rw [f.1 _ _ (by omega) (by omega) (by omega) (by omega) (by omega)]; exact m1, hS, ⟨fun t ht => by rw [f.1 _ _ (by omega) (by omega) (by omega) (by omega) (by omega)]; exact hc.1 t ht, by rw [f.1 _ _ (by omega) (by omega) (by omega) (by omega) (by omega)]; exact hc.2⟩, ⟨fun t ht => by rw [g.1 _ _ (by omega) (by omega) (by omega) (by omega) (by omega) (by omega)]; exact hr.1 t ht, by rw [g.1 _ _ (by omega) (by omega) (by omega) (by omega) (by omega) (by omega)]; exact hr.2⟩⟩
def pLs (cs : List ZCl) (D : ZD) : List Nat → ZS → Nat
  | [], _ => 0
  | i :: r, S => (if pSp cs D S.1 S.2 i 0 4 = true then 1 else 0) + pLs cs D r (pBk cs D i S)
theorem pLs_c (cs : List ZCl) (D : ZD) (i : Nat) (r : List Nat) (S : ZS) : pLs cs D (i :: r) S = (if pSp cs D S.1 S.2 i 0 4 = true then 1 else 0) + pLs cs D r (pBk cs D i S) := rfl
theorem pLs_le (cs : List ZCl) (D : ZD) : ∀ (r : List Nat) (S : ZS), pLs cs D r S ≤ r.length
  | [], _ => Nat.le_refl _
  | i :: r, S => by
    have := pLs_le cs D r (pBk cs D i S)
    rw [pLs_c, List.length_cons]
    split <;> omega
def pFl (b : Nat → Bool) : Nat → Nat → List Nat
  | 0, _ => []
  | d + 1, l => if b l = true then l :: pFl b d (l + 1) else pFl b d (l + 1)
theorem pFl_s (b : Nat → Bool) (d l : Nat) : pFl b (d + 1) l = if b l = true then l :: pFl b d (l + 1) else pFl b d (l + 1) := rfl
theorem pFl_le (b : Nat → Bool) : ∀ d l, (pFl b d l).length ≤ d
  | 0, _ => Nat.le_refl _
  | d + 1, l => by
    have := pFl_le b d (l + 1)
    rw [pFl_s]
    split
    · rw [List.length_cons]; omega
    · omega
theorem sby_u (N : Nat) (a b c : Int32) (σ : ZM) : F_Model_spoiledBy_8 (N + 1) (a, b, c, σ) = f_Model_spoiledBy_8 (F_Model_spoiledBy_8 N) a b c σ := rfl
theorem sin_u (N : Nat) (a b c : Int32) (σ : ZM) : F_Model_spoiledIn_4 (N + 1) (a, b, c, σ) = f_Model_spoiledIn_4 (F_Model_spoiledIn_4 N) a b c σ := rfl
theorem sic_u (N : Nat) (a b c : Int32) (σ : ZM) : F_Asker_spoiledIn_18 (N + 1) (a, b, c, σ) = f_Asker_spoiledIn_18 (F_Asker_spoiledIn_18 N) a b c σ := rfl
theorem tw1_u (N : Nat) (a b c : Int32) (σ : ZM) : F_Asker_bestParting_12 (N + 1) (a, b, c, σ) = f_Asker_bestParting_12 (F_Asker_bestParting_12 N) a b c σ := rfl
theorem tw2_u (N : Nat) (a b c d e : Int32) (σ : ZM) : F_Asker_bestParting_49 (N + 1) (a, b, c, d, e, σ) = f_Asker_bestParting_49 (F_Asker_bestParting_49 N) a b c d e σ := rfl
theorem twm_u (N : Nat) (a b c d e : Int32) (σ : ZM) : F_Model_two_30 (N + 1) (a, b, c, d, e, σ) = f_Model_two_30 (F_Model_two_30 N) a b c d e σ := rfl
theorem bit_e (s l : Nat) (hs : s < 64) (hl : l < 6) : (nI s >>> (nI l &&& 31)) &&& (1 : Int32) = zbI (Nat.testBit s l) :=
  (by decide +kernel : ∀ s, s < 64 → ∀ l, l < 6 → (nI s >>> (nI l &&& 31)) &&& (1 : Int32) = zbI (Nat.testBit s l)) s hs l hl
theorem pow_e (m : Nat) (hm : m ≤ 6) : (1 : Int32) <<< (nI m &&& 31) = nI (2 ^ m) ∧ 2 ^ m ≤ 64 ∧ 1 ≤ 2 ^ m :=
  (by decide +kernel : ∀ m, m < 7 → (1 : Int32) <<< (nI m &&& 31) = nI (2 ^ m) ∧ 2 ^ m ≤ 64 ∧ 1 ≤ 2 ^ m) m (by omega)
theorem rest_e (m s : Nat) (hm : m ≤ 6) (hs : s < 2 ^ m) : nI (2 ^ m - 1) &&& (nI s ^^^ (-1 : Int32)) = nI (2 ^ m - 1 - s) :=
  (by decide +kernel : ∀ m, m < 7 → ∀ s, s < 2 ^ m → nI (2 ^ m - 1) &&& (nI s ^^^ (-1 : Int32)) = nI (2 ^ m - 1 - s)) m (by omega) s hs
section
variable {m : Nat} {cs : List ZCl} {D : ZD} {σ0 τ0 : ZM} {S0 : ZS}
/-- those on the line, in the reference's oven -/
theorem sby_Ml (w : xW m cs D σ0 τ0 S0) {n : Nat} (hn : n ≤ 6) : ∀ (r : List Nat) (k N a : Nat) (τ : ZM) (S : ZS), k + r.length = n → r.length < N → (∀ j i, r[j]? = some i → i < m ∧ zI τ0 137 (k + j) = nI i) → xM τ0 τ S → ∃ τ', F_Model_spoiledBy_8 N (nI n, nI a, nI k, τ) = some (nI (a + pLs cs D r S), τ') ∧ zFE τ0 τ'
  | [], k, N, a, τ, S, hk, hN, hr, c => by
    obtain ⟨N, rfl⟩ : ∃ M, N = M + 1 := ⟨N - 1, by omega⟩
    obtain ⟨τ1, e1, f1⟩ := xM_e c
    simp only [List.length_nil] at hk
    rw [sby_u]
    unfold f_Model_spoiledBy_8
    rw [if_pos (nI_le (by omega) (by omega)), e1, zbd_s]
    exact ⟨τ1, rfl, f1⟩
  | i :: r, k, N, a, τ, S, hk, hN, hr, c => by
    obtain ⟨N, rfl⟩ : ∃ M, N = M + 1 := ⟨N - 1, by omega⟩
    simp only [List.length_cons] at hk hN
    obtain ⟨hi, h137⟩ := hr 0 i rfl
    obtain ⟨τ1, e1, c1⟩ := xM_k w c hi
    rw [sby_u]
    unfold f_Model_spoiledBy_8 f_Model_spoiledBy_32
    rw [if_neg (nI_ge (a := k) (b := n) (by omega) (by omega)), zck_nI (by omega) (by omega), nI_clamp (by omega), c.1.1 137 k (by omega) (by omega) (by omega) (by omega), show zI τ0 137 k = nI i from h137, e1, zbd_s, show nI k + (1 : Int32) = nI (k + 1) from nI_add k 1, pLs_c]
    have next : ∀ a', ∃ τ', F_Model_spoiledBy_8 N (nI n, nI a', nI (k + 1), τ1) = some (nI (a' + pLs cs D r (pBk cs D i S)), τ') ∧ zFE τ0 τ' := fun a' =>
      sby_Ml w hn r (k + 1) N a' τ1 _ (by omega) (by omega) (fun j x hj => by rw [show k + 1 + j = k + (j + 1) by omega]; exact hr (j + 1) x hj) c1
    cases pSp cs D S.1 S.2 i 0 4 with
    | false =>
      rw [if_pos (show zbI false = 0 from rfl), if_neg (show ¬ false = true by decide), Int32.add_zero, Nat.zero_add]
      exact next a
    | true =>
      rw [if_neg (show ¬ zbI true = 0 by decide), if_pos (show true = true from rfl), show nI a + (1 : Int32) = nI (a + 1) from nI_add a 1, ← Nat.add_assoc]
      exact next (a + 1)
theorem sby_M (w : xW m cs D σ0 τ0 S0) {r : List Nat} (hn : r.length ≤ 6) (hr : ∀ j i, r[j]? = some i → i < m ∧ zI τ0 137 j = nI i) : ∃ τ', f_Model_spoiledBy (nI r.length) τ0 = some (nI (pLs cs D r S0), τ') ∧ zFE τ0 τ' := by
  obtain ⟨τ1, e1, c1⟩ := xM_b w (zFE_r τ0)
  obtain ⟨τ2, e2, f2⟩ := sby_Ml w hn r 0 2000 0 τ1 S0 (by omega) (by omega) (fun j i hj => by rw [Nat.zero_add]; exact hr j i hj) c1
  refine ⟨τ2, ?_, f2⟩
  unfold f_Model_spoiledBy
  rw [e1, zbd_s]
  rw [Nat.zero_add] at e2
  exact e2
theorem sin_Ml (w : xW m cs D σ0 τ0 S0) {s : Nat} (hs : s < 64) : ∀ (d l N : Nat) (pre : List Nat) (τ : ZM), l + d = m → d < N → pre.length ≤ l → (∀ j i, pre[j]? = some i → i < m ∧ zI τ 137 j = nI i) → zFN τ0 τ → ∃ τ', F_Model_spoiledIn_4 N (nI s, nI pre.length, nI l, τ) = some (nI (pLs cs D (pre ++ pFl (Nat.testBit s) d l) S0), τ') ∧ zFN τ0 τ' := by
  have hm := w.1.1
  intro d
  induction d with
  | zero =>
    intro l N pre τ hl hN hp hr f
    obtain ⟨N, rfl⟩ : ∃ M, N = M + 1 := ⟨N - 1, by omega⟩
    have w' := xW_F w (zFK_r σ0) f
    obtain ⟨τ1, e1, f1⟩ := sby_M w' (r := pre) (by omega) hr
    rw [sin_u]
    unfold f_Model_spoiledIn_4
    rw [zck_of (show zin 5 92 = true by decide), show (5 : Int32).toNatClampNeg = 5 from rfl, xE_m w' (zFE_r τ), if_pos (nI_le (by omega) (by omega)), e1, zbd_s]
    refine ⟨τ1, ?_, zFN_t f (zFN_E f1)⟩
    show _ = some (nI (pLs cs D (pre ++ []) S0), τ1)
    rw [List.append_nil]
  | succ d ih =>
    intro l N pre τ hl hN hp hr f
    obtain ⟨N, rfl⟩ : ∃ M, N = M + 1 := ⟨N - 1, by omega⟩
    have w' := xW_F w (zFK_r σ0) f
    rw [sin_u]
    unfold f_Model_spoiledIn_4 f_Model_spoiledIn_35
    rw [zck_of (show zin 5 92 = true by decide), show (5 : Int32).toNatClampNeg = 5 from rfl, xE_m w' (zFE_r τ), if_neg (nI_ge (a := l) (b := m) (by omega) (by omega)), bit_e s l hs (by omega), zif, show nI l + (1 : Int32) = nI (l + 1) from nI_add l 1, pFl_s]
    cases Nat.testBit s l with
    | false =>
      rw [if_neg (by decide), if_neg (by decide)]
      exact ih (l + 1) N pre τ (by omega) (by omega) (by omega) hr f
    | true =>
      rw [if_pos rfl, if_pos rfl, zck_nI (by omega) (by omega), nI_clamp (by omega), show nI pre.length + (1 : Int32) = nI (pre.length + 1) from nI_add _ 1]
      have r := ih (l + 1) N (pre ++ [l]) (zsI τ 137 pre.length (nI l)) (by omega) (by omega) (by simp only [List.length_append, List.length_cons, List.length_nil]; omega) (fun j i hj => by
        by_cases q : j < pre.length
        · rw [List.getElem?_append_left q] at hj
          rw [zI_sI, if_neg (by omega)]; exact hr j i hj
        · have hj2 := (List.getElem?_eq_some_iff.mp hj).1
          simp only [List.length_append, List.length_cons, List.length_nil] at hj2
          obtain rfl : j = pre.length := by omega
          rw [List.getElem?_append_right (Nat.le_refl _), Nat.sub_self] at hj
          obtain rfl : l = i := Option.some.inj hj
          rw [zI_sI, if_pos ⟨rfl, rfl⟩]
          exact ⟨by omega, rfl⟩) (zFN_t f ⟨fun o k _ _ _ _ n _ => by rw [zI_sI, if_neg (by omega)], fun _ _ => rfl, fun _ _ => rfl⟩)
      rw [List.append_assoc, List.length_append] at r
      exact r
theorem sin_M (w : xW m cs D σ0 τ0 S0) {s : Nat} (hs : s < 64) {τ : ZM} (f : zFN τ0 τ) : ∃ τ', f_Model_spoiledIn (nI s) τ = some (nI (pLs cs D (pFl (Nat.testBit s) m 0) S0), τ') ∧ zFN τ0 τ' :=
  sin_Ml w hs m 0 2000 [] τ (by omega) (by have := w.1.1; omega) (Nat.le_refl _) (fun j i hj => by cases hj) f
theorem sin_Cl (w : xW m cs D σ0 τ0 S0) {s : Nat} (hs : s < 64) : ∀ (d l N a : Nat) (σ : ZM) (S : ZS), l + d = m → d < N → xC σ0 σ S → ∃ σ', F_Asker_spoiledIn_18 N (nI s, nI a, nI l, σ) = some (nI (a + pLs cs D (pFl (Nat.testBit s) d l) S), σ') ∧ zFC 35 σ0 σ' := by
  have hm := w.1.1
  intro d
  induction d with
  | zero =>
    intro l N a σ S hl hN c
    obtain ⟨N, rfl⟩ : ∃ M, N = M + 1 := ⟨N - 1, by omega⟩
    rw [sic_u]
    unfold f_Asker_spoiledIn_18
    rw [xC_m w c.1, if_pos (nI_le (by omega) (by omega))]
    exact ⟨σ, rfl, c.1⟩
  | succ d ih =>
    intro l N a σ S hl hN c
    obtain ⟨N, rfl⟩ : ∃ M, N = M + 1 := ⟨N - 1, by omega⟩
    rw [sic_u]
    unfold f_Asker_spoiledIn_18 f_Asker_spoiledIn_64
    rw [xC_m w c.1, if_neg (nI_ge (a := l) (b := m) (by omega) (by omega)), bit_e s l hs (by omega), show nI l + (1 : Int32) = nI (l + 1) from nI_add l 1, pFl_s]
    cases Nat.testBit s l with
    | false =>
      rw [if_neg (show ¬ zbI false = (1 : Int32) by decide), if_neg (by decide)]
      exact ih (l + 1) N a σ S (by omega) (by omega) c
    | true =>
      obtain ⟨σ1, e1, c1⟩ := xC_k w c (show l < m by omega)
      rw [if_pos (show zbI true = (1 : Int32) from rfl), if_pos rfl, nI_clamp (by omega), zel25, zck_nI (by omega) (by omega), zck_of (zRl (by omega)), e1, zbd_s, pLs_c]
      cases pSp cs D S.1 S.2 l 0 4 with
      | false =>
        rw [if_pos (show zbI false = 0 from rfl), if_neg (show ¬ false = true by decide), Nat.zero_add]
        exact ih (l + 1) N a σ1 _ (by omega) (by omega) c1
      | true =>
        rw [if_neg (show ¬ zbI true = 0 by decide), if_pos (show true = true from rfl), show nI a + (1 : Int32) = nI (a + 1) from nI_add a 1, ← Nat.add_assoc]
        exact ih (l + 1) N (a + 1) σ1 _ (by omega) (by omega) c1
theorem sin_C (w : xW m cs D σ0 τ0 S0) {s : Nat} (hs : s < 64) : ∃ σ', f_Asker_spoiledIn (nI s) σ0 = some (nI (pLs cs D (pFl (Nat.testBit s) m 0) S0), σ') ∧ zFC 35 σ0 σ' := by
  have hm := w.1.1
  obtain ⟨σ1, e1, c1⟩ := xC_b w (zFC_r 35 σ0)
  obtain ⟨σ2, e2, f2⟩ := sin_Cl w hs m 0 2000 0 σ1 S0 (by omega) (by omega) c1
  refine ⟨σ2, ?_, f2⟩
  unfold f_Asker_spoiledIn
  rw [e1, zbd_s]
  rw [Nat.zero_add] at e2
  exact e2
def pV (cs : List ZCl) (D : ZD) (m : Nat) (S : ZS) (s : Nat) : Nat := pLs cs D (pFl (Nat.testBit s) m 0) S
theorem pV_le (cs : List ZCl) (D : ZD) (m : Nat) (S : ZS) (s : Nat) : pV cs D m S s ≤ m := Nat.le_trans (pLs_le cs D _ S) (pFl_le _ m 0)
def pTw (V : Nat → Nat) (s : Nat) : Nat → Nat → Nat × Nat → Nat × Nat
  | 0, _, q => q
  | d + 1, k, q => pTw V s d (k + 1) (if q.2 ≤ V k + V (s - 1 - k) then q else (k, V k + V (s - 1 - k)))
theorem pTw_s (V : Nat → Nat) (s d k : Nat) (q : Nat × Nat) : pTw V s (d + 1) k q = pTw V s d (k + 1) (if q.2 ≤ V k + V (s - 1 - k) then q else (k, V k + V (s - 1 - k))) := rfl
def pTa (a : Bool) (q : Nat × Nat) : Int32 := if a = true then nI q.1 else nI q.2
theorem tw2_l {V : Nat → Nat} {s : Nat} (hs : s ≤ 64) (hV : ∀ k, V k ≤ 6) (a : Bool) {σ : ZM} (h : ∀ k, k < s → zI σ 21 k = nI (V k)) : ∀ (d k N : Nat) (q : Nat × Nat), k + d = s → d < N → q.2 ≤ 12 → F_Asker_bestParting_49 N (zbI a, nI s, nI q.1, nI q.2, nI k, σ) = some (pTa a (pTw V s d k q), σ) := by
  intro d
  induction d with
  | zero =>
    intro k N q hk hN hq
    obtain ⟨N, rfl⟩ : ∃ M, N = M + 1 := ⟨N - 1, by omega⟩
    rw [tw2_u]
    unfold f_Asker_bestParting_49
    rw [if_pos (nI_le (by omega) (by omega)), zif]
    cases a <;> rfl
  | succ d ih =>
    intro k N q hk hN hq
    obtain ⟨N, rfl⟩ : ∃ M, N = M + 1 := ⟨N - 1, by omega⟩
    have v1 := hV k
    have v2 := hV (s - 1 - k)
    rw [tw2_u]
    unfold f_Asker_bestParting_49 f_Asker_bestParting_90
    rw [if_neg (nI_ge (a := k) (b := s) (by omega) (by omega)), show nI s - (1 : Int32) = nI (s - 1) from nI_subE (b := 1) (by omega), nI_subE (show k ≤ s - 1 by omega), zck_nI (by omega) (by omega), zck_nI (by omega) (by omega), nI_clamp (by omega), nI_clamp (by omega), h k (by omega), h (s - 1 - k) (by omega), nI_add, show nI k + (1 : Int32) = nI (k + 1) from nI_add k 1, pTw_s]
    by_cases z : q.2 ≤ V k + V (s - 1 - k)
    · rw [if_pos (nI_le z (by omega)), if_pos z]
      exact ih (k + 1) N q (by omega) (by omega) hq
    · rw [if_neg (nI_ge (by omega) (by omega)), if_neg z]
      exact ih (k + 1) N (k, V k + V (s - 1 - k)) (by omega) (by omega) (by show V k + V (s - 1 - k) ≤ 12; omega)
theorem tw1_l (w : xW m cs D σ0 τ0 S0) (a : Bool) : ∀ (d k N : Nat) (σ : ZM), k + d = 2 ^ m → d < N → zFK σ0 σ → (∀ j, j < k → zI σ 21 j = nI (pV cs D m S0 j)) → ∃ σ', F_Asker_bestParting_12 N (zbI a, nI (2 ^ m), nI k, σ) = some (pTa a (pTw (pV cs D m S0) (2 ^ m) (2 ^ m - 1) 1 (0, pV cs D m S0 (2 ^ m - 1))), σ') ∧ zFK σ0 σ' := by
  have hm := w.1.1
  obtain ⟨-, p2, p3⟩ := pow_e m hm
  have hV : ∀ k, pV cs D m S0 k ≤ 6 := fun k => Nat.le_trans (pV_le cs D m S0 k) hm
  intro d
  induction d with
  | zero =>
    intro k N σ hk hN f h
    obtain ⟨N, rfl⟩ : ∃ M, N = M + 1 := ⟨N - 1, by omega⟩
    have v := hV (2 ^ m - 1)
    rw [tw1_u]
    unfold f_Asker_bestParting_12
    rw [if_pos (nI_le (by omega) (by omega)), show nI (2 ^ m) - (1 : Int32) = nI (2 ^ m - 1) from nI_subE (b := 1) (by omega), zck_nI (by omega) (by omega), nI_clamp (by omega), h (2 ^ m - 1) (by omega)]
    exact ⟨σ, tw2_l p2 hV a (fun j hj => h j (by omega)) (2 ^ m - 1) 1 2000 (0, pV cs D m S0 (2 ^ m - 1)) (by omega) (by omega) (by show pV cs D m S0 (2 ^ m - 1) ≤ 12; omega), f⟩
  | succ d ih =>
    intro k N σ hk hN f h
    obtain ⟨N, rfl⟩ : ∃ M, N = M + 1 := ⟨N - 1, by omega⟩
    obtain ⟨σ1, e1, f1⟩ := sin_C (xW_F w f (zFN_r τ0)) (s := k) (by omega)
    rw [tw1_u]
    unfold f_Asker_bestParting_12
    rw [if_neg (nI_ge (a := k) (b := 2 ^ m) (by omega) (by omega)), e1, zbd_s, zck_nI (by omega) (by omega), nI_clamp (by omega), show nI k + (1 : Int32) = nI (k + 1) from nI_add k 1]
    refine ih (k + 1) N _ (by omega) (by omega) (zFK_t f (zFK_t (zFK_35 f1) ⟨fun o j _ _ _ n _ => by rw [zI_sI, if_neg (by omega)], fun _ _ => rfl, fun _ _ => rfl⟩)) (fun j hj => ?_)
    rw [zI_sI]
    by_cases q : j = k
    · rw [if_pos ⟨rfl, q⟩, q]; rfl
    · rw [if_neg (by omega), f1.1 _ _ (by omega) (by omega) (by omega)]
      exact h j (by omega)
theorem twm_l (w : xW m cs D σ0 τ0 S0) (a : Bool) : ∀ (d k N : Nat) (τ : ZM) (q : Nat × Nat), k + d = 2 ^ m → d < N → q.2 ≤ 12 → zFN τ0 τ → ∃ τ', F_Model_two_30 N (zbI a, nI (2 ^ m - 1), nI q.1, nI q.2, nI k, τ) = some (pTa a (pTw (pV cs D m S0) (2 ^ m) d k q), τ') ∧ zFN τ0 τ' := by
  have hm := w.1.1
  obtain ⟨-, p2, p3⟩ := pow_e m hm
  have hV : ∀ k, pV cs D m S0 k ≤ 6 := fun k => Nat.le_trans (pV_le cs D m S0 k) hm
  intro d
  induction d with
  | zero =>
    intro k N τ q hk hN hq f
    obtain ⟨N, rfl⟩ : ∃ M, N = M + 1 := ⟨N - 1, by omega⟩
    rw [twm_u]
    unfold f_Model_two_30
    rw [if_pos (nI_lt (by omega) (by omega)), zif]
    refine ⟨τ, ?_, f⟩
    cases a <;> rfl
  | succ d ih =>
    intro k N τ q hk hN hq f
    obtain ⟨N, rfl⟩ : ∃ M, N = M + 1 := ⟨N - 1, by omega⟩
    obtain ⟨τ1, e1, f1⟩ := sin_M w (s := k) (by omega) f
    obtain ⟨τ2, e2, f2⟩ := sin_M w (s := 2 ^ m - 1 - k) (by omega) f1
    have v1 := hV k
    have v2 := hV (2 ^ m - 1 - k)
    rw [twm_u]
    unfold f_Model_two_30 f_Model_two_70 f_Model_two_77
    rw [if_neg (show ¬ nI (2 ^ m - 1) < nI k from nI_nlt (by omega) (by omega)), e1, zbd_s, rest_e m k hm (by omega), e2, zbd_s, if_neg (nI_pos (by omega)), nI_add, show nI k + (1 : Int32) = nI (k + 1) from nI_add k 1, pTw_s]
    show ∃ τ', (if nI (pV cs D m S0 k + pV cs D m S0 (2 ^ m - 1 - k)) < nI q.2 then F_Model_two_30 N (zbI a, nI (2 ^ m - 1), nI k, nI (pV cs D m S0 k + pV cs D m S0 (2 ^ m - 1 - k)), nI (k + 1), τ2) else F_Model_two_30 N (zbI a, nI (2 ^ m - 1), nI q.1, nI q.2, nI (k + 1), τ2)) = _ ∧ _
    by_cases z : q.2 ≤ pV cs D m S0 k + pV cs D m S0 (2 ^ m - 1 - k)
    · rw [if_neg (nI_nlt z (by omega)), if_pos z]
      exact ih (k + 1) N τ2 q (by omega) (by omega) hq f2
    · rw [if_pos (nI_lt (by omega) (by omega)), if_neg z]
      exact ih (k + 1) N τ2 (k, pV cs D m S0 k + pV cs D m S0 (2 ^ m - 1 - k)) (by omega) (by omega) (by show pV cs D m S0 k + pV cs D m S0 (2 ^ m - 1 - k) ≤ 12; omega) f2
theorem pV_0 (cs : List ZCl) (D : ZD) (m : Nat) (S : ZS) : pV cs D m S 0 = 0 := by
  have : ∀ d l, pFl (Nat.testBit 0) d l = [] := by
    intro d
    induction d with
    | zero => intro l; rfl
    | succ d ih => intro l; rw [pFl_s, Nat.zero_testBit, if_neg (by decide), ih]
  unfold pV
  rw [this]; rfl
end
theorem op_two {σ τ : ZM} (h : zRel σ τ) (x1 : Int32) : zOK (f_BB_two x1 σ) (f_Model_two x1 τ) := by
  obtain ⟨m, n, cs, D, S, hs, w⟩ := zRel_W h
  obtain ⟨hm, m1, m2⟩ := zmany hs
  obtain ⟨p1, p2, p3⟩ := pow_e m hm
  have hV : ∀ k, pV cs D m S k ≤ 6 := fun k => Nat.le_trans (pV_le cs D m S k) hm
  unfold f_BB_two f_Model_two
  rw [isInM_e (M := 1) x1 1 rfl (by omega), zrng (M := 1) 1 rfl (by omega), zbd_s, zif]
  cases hz : zin x1 (1 + 1) with
  | false => exact zOK_s h
  | true =>
    obtain ⟨p, hp, hp2, rfl⟩ := zin_t hz
    rw [if_pos rfl, if_pos rfl, zck_of (show zin 5 92 = true by decide), show (5 : Int32).toNatClampNeg = 5 from rfl, m2, p1, show nI (2 ^ m) - (1 : Int32) = nI (2 ^ m - 1) from nI_subE (b := 1) (by omega)]
    have main : ∀ a : Bool, zOK (f_BB_two_25 (zbI a) σ) (F_Model_two_30 2000 (zbI a, nI (2 ^ m - 1), 0, -1, 0, τ)) := by
      intro a
      obtain ⟨σ1, e1, f1⟩ := tw1_l w a (2 ^ m) 0 2000 σ (by omega) (by omega) (zFK_r σ) (fun j hj => absurd hj (by omega))
      obtain ⟨τ1, e2, f2⟩ := sin_M w (s := 0) (by omega) (zFN_r τ)
      obtain ⟨τ2, e3, f3⟩ := sin_M w (s := 2 ^ m - 1 - 0) (by omega) f2
      obtain ⟨τ3, e4, f4⟩ := twm_l w a (2 ^ m - 1) 1 1999 τ2 (0, pV cs D m S (2 ^ m - 1)) (by omega) (by omega) (by show pV cs D m S (2 ^ m - 1) ≤ 12; have := hV (2 ^ m - 1); omega) f3
      unfold f_BB_two_25 f_Asker_bestParting
      rw [m1, p1]
      refine zOK_F h (r := pTa a (pTw (pV cs D m S) (2 ^ m) (2 ^ m - 1) 1 (0, pV cs D m S (2 ^ m - 1)))) ?_ ?_ f1 f4
      · exact (congrArg (fun q => zbd q fun v1 s2 => some (v1, s2)) e1).trans rfl
      · rw [← e4]
        show F_Model_two_30 (1999 + 1) (zbI a, nI (2 ^ m - 1), 0, -1, nI 0, τ) = _
        rw [twm_u]
        unfold f_Model_two_30 f_Model_two_70 f_Model_two_77
        rw [if_neg (show ¬ nI (2 ^ m - 1) < nI 0 from nI_nlt (by omega) (by omega)), e2, zbd_s, rest_e m 0 hm (by omega), e3, zbd_s, if_pos nm1_lt, show nI 0 + (1 : Int32) = nI 1 from rfl]
        show F_Model_two_30 1999 (zbI a, nI (2 ^ m - 1), nI 0, nI (pV cs D m S 0) + nI (pV cs D m S (2 ^ m - 1)), nI 1, τ2) = _
        rw [pV_0, nI_add, Nat.zero_add]
    have : p = 0 ∨ p = 1 := by omega
    rcases this with rfl | rfl
    · rw [if_neg (show ¬ nI 0 = (1 : Int32) by decide)]; exact main false
    · rw [if_pos (show nI 1 = (1 : Int32) from rfl)]; exact main true
