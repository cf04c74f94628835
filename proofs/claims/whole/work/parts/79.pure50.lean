/-! PURE: order, the reference -/
def zFQ (p : Nat) (τ τ' : ZM) : Prop := (∀ o k, ¬ (o = 129 ∧ 9 ≤ k ∧ k ≤ 20) → ¬ (o = 129 ∧ k = 24) → ¬ o = 132 → ¬ o = 136 → ¬ (o = 137 ∧ p ≤ k) → ¬ o = 138 → zI τ' o k = zI τ o k) ∧ (∀ o k, zP τ' o k = zP τ o k) ∧ (∀ o k, zL τ' o k = zL τ o k)
theorem zFQ_r (p : Nat) (σ : ZM) : zFQ p σ σ := ⟨fun _ _ _ _ _ _ _ _ => rfl, fun _ _ => rfl, fun _ _ => rfl⟩
theorem zFQ_t {p : Nat} {a b c : ZM} (h : zFQ p a b) (h2 : zFQ p b c) : zFQ p a c := ⟨fun o k n1 n2 n3 n4 n5 n6 => (h2.1 o k n1 n2 n3 n4 n5 n6).trans (h.1 o k n1 n2 n3 n4 n5 n6), fun o k => (h2.2.1 o k).trans (h.2.1 o k), fun o k => (h2.2.2 o k).trans (h.2.2 o k)⟩
theorem zFQ_u {p : Nat} {a b : ZM} (h : zFQ (p + 1) a b) : zFQ p a b := ⟨fun o k n1 n2 n3 n4 n5 n6 => h.1 o k n1 n2 n3 n4 (by omega) n6, h.2.1, h.2.2⟩
theorem zFQ_E {p : Nat} {a b : ZM} (h : zFE a b) : zFQ p a b := ⟨fun o k n1 _ n3 n4 _ _ => h.1 o k n1 n3 n4, h.2.1, h.2.2⟩
theorem zFN_Q {p : Nat} {a b : ZM} (h : zFQ p a b) : zFN a b := ⟨fun o k n1 n2 n3 n4 n5 n6 => h.1 o k n1 n2 n3 n4 (by omega) n6, h.2.1, h.2.2⟩
def zBm (n0 : Nat) (τ : ZM) (B : ZB) : Prop := (B = none ∧ zI τ 129 24 = -1) ∨ ∃ f b, B = some (f, b) ∧ zI τ 129 24 = nI f ∧ f ≤ 5 ∧ b.length = n0 ∧ ∀ j i, b[j]? = some i → zI τ 138 j = nI i
theorem zBm_c {n0 : Nat} {σ σ' : ZM} {B : ZB} (h : zBm n0 σ B) (h1 : zI σ' 129 24 = zI σ 129 24) (h2 : ∀ j, zI σ' 138 j = zI σ 138 j) : zBm n0 σ' B := by
  rcases h with ⟨a, b⟩ | ⟨f, b, c, d, e, g, i⟩
  · exact Or.inl ⟨a, h1.trans b⟩
  · exact Or.inr ⟨f, b, c, h1.trans d, e, g, fun j x hj => (h2 j).trans (i j x hj)⟩
theorem kpm_u (rec : Int32 × Int32 × Int32 × ZM → Option (Unit × ZM)) (N : Nat) (a b : Int32) (σ : ZM) : F_Model_orders_38 rec (N + 1) (a, b, σ) = f_Model_orders_38 rec (F_Model_orders_38 rec N) a b σ := rfl
theorem odr_u (N : Nat) (a b c : Int32) (σ : ZM) : F_Model_orders (N + 1) (a, b, c, σ) = f_Model_orders (F_Model_orders N) a b c σ := rfl
theorem odl_u (rec : Int32 × Int32 × Int32 × ZM → Option (Unit × ZM)) (N : Nat) (a b c d : Int32) (σ : ZM) : F_Model_orders_68 rec (N + 1) (a, b, c, d, σ) = f_Model_orders_68 rec (F_Model_orders_68 rec N) a b c d σ := rfl
theorem kpm_l (rec : Int32 × Int32 × Int32 × ZM → Option (Unit × ZM)) {n0 : Nat} (hn : n0 ≤ 5) : ∀ (d k N : Nat) (σ : ZM), k + d = n0 → d < N → ∃ σ', F_Model_orders_38 rec N (nI n0, nI k, σ) = some ((), σ') ∧ (∀ o j, zI σ' o j = if o = 138 ∧ k ≤ j ∧ j < n0 then zI σ 137 j else zI σ o j) ∧ (∀ o j, zP σ' o j = zP σ o j) ∧ (∀ o j, zL σ' o j = zL σ o j) := by
  intro d
  induction d with
  | zero =>
    intro k N σ hk hN
    obtain ⟨N, rfl⟩ : ∃ M, N = M + 1 := ⟨N - 1, by omega⟩
    refine ⟨σ, ?_, fun o j => by rw [if_neg (by omega)], fun _ _ => rfl, fun _ _ => rfl⟩
    rw [kpm_u]
    unfold f_Model_orders_38
    rw [if_pos (nI_le (by omega) (by omega))]
  | succ d ih =>
    intro k N σ hk hN
    obtain ⟨N, rfl⟩ : ∃ M, N = M + 1 := ⟨N - 1, by omega⟩
    obtain ⟨σ', a1, a2, a3, a4⟩ := ih (k + 1) N (zsI σ 138 k (zI σ 137 k)) (by omega) (by omega)
    refine ⟨σ', ?_, fun o j => ?_, a3, a4⟩
    · rw [kpm_u]
      unfold f_Model_orders_38
      rw [if_neg (nI_ge (a := k) (b := n0) (by omega) (by omega)), zck_nI (by omega) (by omega), zck_nI (by omega) (by omega), nI_clamp (by omega), show nI k + (1 : Int32) = nI (k + 1) from nI_add k 1]
      exact a1
    · rw [a2, zI_sI, zI_sI]
      by_cases z : o = 138 ∧ j = k
      · rw [if_neg (show ¬ (o = 138 ∧ k + 1 ≤ j ∧ j < n0) by omega), if_pos z, if_pos (show o = 138 ∧ k ≤ j ∧ j < n0 by omega), z.2]
      · rw [if_neg (show ¬ (137 = 138 ∧ j = k) by omega), if_neg z]
        by_cases y : o = 138 ∧ k + 1 ≤ j ∧ j < n0
        · rw [if_pos y, if_pos (show o = 138 ∧ k ≤ j ∧ j < n0 by omega)]
        · rw [if_neg y, if_neg (show ¬ (o = 138 ∧ k ≤ j ∧ j < n0) by omega)]
section
variable {m : Nat} {cs : List ZCl} {D : ZD} {σ0 τ0 : ZM} {S0 : ZS}
def zLne (m : Nat) (τ : ZM) (pre : List Nat) : Prop := ∀ j i, pre[j]? = some i → i < m ∧ zI τ 137 j = nI i
theorem zLne_a {m : Nat} {τ τ' : ZM} {pre : List Nat} {l : Nat} (h : zLne m τ pre) (hl : l < m) (h1 : ∀ j, j < pre.length → zI τ' 137 j = zI τ 137 j) (h2 : zI τ' 137 pre.length = nI l) : zLne m τ' (pre ++ [l]) := by
  intro j i hj
  by_cases q : j < pre.length
  · rw [List.getElem?_append_left q] at hj
    rw [h1 j q]; exact h j i hj
  · have hj2 := (List.getElem?_eq_some_iff.mp hj).1
    simp only [List.length_append, List.length_cons, List.length_nil] at hj2
    obtain rfl : j = pre.length := by omega
    rw [List.getElem?_append_right (Nat.le_refl _), Nat.sub_self] at hj
    obtain rfl : l = i := Option.some.inj hj
    exact ⟨hl, h2⟩
theorem or_M (w : xW m cs D σ0 τ0 S0) {n0 : Nat} (hn : n0 ≤ 5) : ∀ (r N s : Nat) (pre : List Nat) (B : ZB) (τ : ZM), r < N → s < 2 ^ m → pB s = r → pre.length + r = n0 → zFN τ0 τ → zLne m τ pre → zBm n0 τ B →
    ∃ τ', F_Model_orders N (nI s, nI pre.length, nI n0, τ) = some ((), τ') ∧ zFQ pre.length τ τ' ∧ zBm n0 τ' (pO cs D m S0 r s pre B) := by
  have hm := w.1.1
  intro r
  induction r with
  | zero =>
    intro N s pre B τ hN hs hr hp f hl hB
    obtain ⟨N, rfl⟩ : ∃ M, N = M + 1 := ⟨N - 1, by omega⟩
    have hv := pLs_le cs D pre S0
    obtain ⟨τ1, e1, f1⟩ := sby_M (xW_F w (zFK_r σ0) f) (r := pre) (by omega) hl
    have b1 := zBm_c hB (f1.1 129 24 (by omega) (by omega) (by omega)) (fun j => f1.1 138 j (by omega) (by omega) (by omega))
    have put : ∃ τ', f_Model_orders_29 (F_Model_orders N) (nI n0) (nI (pLs cs D pre S0)) τ1 = some ((), τ') ∧ zFQ pre.length τ τ' ∧ zBm n0 τ' (some (pLs cs D pre S0, pre)) := by
      obtain ⟨τ2, a1, a2, a3, a4⟩ := kpm_l (F_Model_orders N) hn n0 0 2000 (zsI τ1 129 24 (nI (pLs cs D pre S0))) (by omega) (by omega)
      refine ⟨τ2, a1, zFQ_t (zFQ_E f1) ⟨fun o k _ n2 _ _ _ n6 => ?_, a3, a4⟩, Or.inr ⟨_, pre, rfl, ?_, by omega, by omega, fun j i hj => ?_⟩⟩
      · rw [a2, if_neg (by omega), zI_sI, if_neg n2]
      · rw [a2, if_neg (by omega), zI_sI, if_pos ⟨rfl, rfl⟩]
      · have := (List.getElem?_eq_some_iff.mp hj).1
        rw [a2, if_pos ⟨rfl, Nat.zero_le _, by omega⟩, zI_sI, if_neg (by omega), f1.1 137 j (by omega) (by omega) (by omega)]
        exact (hl j i hj).2
    rw [odr_u]
    unfold f_Model_orders
    rw [if_pos (show nI pre.length = nI n0 by rw [show pre.length = n0 by omega]), e1, zbd_s, pO_0, show nI pre.length = nI n0 by rw [show pre.length = n0 by omega]]
    rcases id b1 with ⟨rfl, b6⟩ | ⟨g, b, rfl, b6, b5, b7, b8⟩
    · rw [b6, if_pos nm1_lt]
      exact put
    · rw [b6, if_neg (nI_pos (by omega))]
      by_cases q : pLs cs D pre S0 < g
      · rw [if_pos (nI_lt q (by omega)), show pUp (some (g, b)) (pLs cs D pre S0) pre = some (pLs cs D pre S0, pre) from if_pos q]
        exact put
      · rw [if_neg (nI_nlt (by omega) (by omega)), show pUp (some (g, b)) (pLs cs D pre S0) pre = some (g, b) from if_neg q]
        exact ⟨τ1, rfl, zFQ_E f1, b1⟩
  | succ r ih =>
    intro N s pre B τ hN hs hr hp f hl hB
    obtain ⟨N, rfl⟩ : ∃ M, N = M + 1 := ⟨N - 1, by omega⟩
    obtain ⟨s64, sl⟩ := set_lt m (by omega) s hs
    have loop : ∀ (d l K : Nat) (B : ZB) (τ : ZM), l + d = m → d < K → zFN τ0 τ → zLne m τ pre → zBm n0 τ B → ∃ τ', F_Model_orders_68 (F_Model_orders N) K (nI s, nI pre.length, nI n0, nI l, τ) = some ((), τ') ∧ zFQ pre.length τ τ' ∧ zBm n0 τ' (pOl (fun l B => pO cs D m S0 r (s - 2 ^ l) (pre ++ [l]) B) s d l B) := by
      intro d
      induction d with
      | zero =>
        intro l K B τ hd hK f hl hB
        obtain ⟨K, rfl⟩ : ∃ M, K = M + 1 := ⟨K - 1, by omega⟩
        rw [odl_u]
        unfold f_Model_orders_68
        rw [zck_of (show zin 5 92 = true by decide), show (5 : Int32).toNatClampNeg = 5 from rfl, xE_m (xW_F w (zFK_r σ0) f) (zFE_r τ), if_pos (nI_le (by omega) (by omega))]
        exact ⟨τ, rfl, zFQ_r _ τ, hB⟩
      | succ d ih2 =>
        intro l K B τ hd hK f hl hB
        obtain ⟨K, rfl⟩ : ∃ M, K = M + 1 := ⟨K - 1, by omega⟩
        rw [odl_u]
        unfold f_Model_orders_68 f_Model_orders_115
        rw [zck_of (show zin 5 92 = true by decide), show (5 : Int32).toNatClampNeg = 5 from rfl, xE_m (xW_F w (zFK_r σ0) f) (zFE_r τ), if_neg (nI_ge (a := l) (b := m) (by omega) (by omega)), bit_e s l s64 (by omega), zif, show nI l + (1 : Int32) = nI (l + 1) from nI_add l 1, show nI pre.length + (1 : Int32) = nI (pre.length + 1) from nI_add _ 1, pOl_s]
        cases hb : Nat.testBit s l with
        | false =>
          rw [if_neg (by decide), if_neg (by decide)]
          exact ih2 (l + 1) K B τ (by omega) (by omega) f hl hB
        | true =>
          obtain ⟨eb1, eb⟩ := pB_m s s64 l (by omega) hb
          have g1 : zFQ pre.length τ (zsI τ 137 pre.length (nI l)) := ⟨fun o k _ _ _ _ n5 _ => by rw [zI_sI, if_neg (by omega)], fun _ _ => rfl, fun _ _ => rfl⟩
          obtain ⟨τ1, e1, f1, b1⟩ := ih N (s - 2 ^ l) (pre ++ [l]) B (zsI τ 137 pre.length (nI l)) (by omega) (Nat.lt_of_le_of_lt (Nat.sub_le _ _) hs) (by omega) (by simp only [List.length_append, List.length_cons, List.length_nil]; omega) (zFN_t f (zFN_Q g1)) (zLne_a hl (by omega) (fun j hj => by rw [zI_sI, if_neg (by omega)]) (by rw [zI_sI, if_pos ⟨rfl, rfl⟩])) (zBm_c hB (by rw [zI_sI, if_neg (by omega)]) (fun j => by rw [zI_sI, if_neg (by omega)]))
          rw [List.length_append] at e1 f1
          have g2 : zFQ pre.length τ τ1 := zFQ_t g1 (zFQ_u f1)
          obtain ⟨τ2, e2, f2, b2⟩ := ih2 (l + 1) K _ τ1 (by omega) (by omega) (zFN_t f (zFN_Q g2)) (fun j i hj => by
            have hj2 := (List.getElem?_eq_some_iff.mp hj).1
            rw [g2.1 137 j (by omega) (by omega) (by omega) (by omega) (by omega) (by omega)]; exact hl j i hj) b1
          refine ⟨τ2, ?_, zFQ_t g2 f2, b2⟩
          rw [if_pos rfl, zck_nI (by omega) (by omega), nI_clamp (by omega), eb]
          exact (congrArg (fun q => zbd q fun v5 s6 => F_Model_orders_68 (F_Model_orders N) K (nI s, nI pre.length, nI n0, nI (l + 1), s6)) e1).trans e2
    obtain ⟨τ1, e1, f1, b1⟩ := loop m 0 2000 B τ (by omega) (by omega) f hl hB
    refine ⟨τ1, ?_, f1, b1⟩
    rw [odr_u]
    unfold f_Model_orders
    rw [if_neg (show ¬ nI pre.length = nI n0 from nI_ne (by omega) (by omega) (by omega))]
    exact e1
end
theorem isSet_e {σ : ZM} {m q : Nat} (hm : m ≤ 6) (m1 : zI σ 1 3 = nI m) (hq : q < 7) (x : Int32) : f_BB_isSet x (nI q) σ = some (zbI (zin x (2 ^ m) && decide (pB x.toNatClampNeg ≤ q)), σ) := by
  obtain ⟨p1, p2, p3⟩ := pow_e m hm
  unfold f_BB_isSet
  rw [m1, p1]
  rcases zc3 x (2 ^ m) with hx | ⟨j, hj, hj2, rfl⟩ | ⟨j, hj, hj2, rfl⟩
  · rw [if_pos hx, zin_neg hx]; rfl
  · have pl := pB_le j
    rw [if_neg (nI_pos hj2), zin_nI hj2, if_neg (nI_ge hj (by omega)), decide_eq_true hj, bcount_e j (by omega), zbd_s, nI_clamp hj2]
    by_cases z : pB j ≤ q
    · rw [if_neg (nI_nlt z (by omega)), decide_eq_true z]; rfl
    · rw [if_pos (nI_lt (by omega) (by omega)), decide_eq_false z]; rfl
  · rw [if_neg (nI_pos hj2), zin_nI hj2, if_pos (nI_le hj hj2), decide_eq_false (by omega)]; rfl
theorem areL_e {τ : ZM} {m : Nat} (hm : m ≤ 6) (m2 : zI τ 130 5 = nI m) (x : Int32) : f_Model_areLoaves x τ = some (zbI (zin x (2 ^ m)), τ) := by
  obtain ⟨p1, p2, p3⟩ := pow_e m hm
  unfold f_Model_areLoaves
  rw [zck_of (show zin 5 92 = true by decide), show (5 : Int32).toNatClampNeg = 5 from rfl, m2, p1, isInP_e (by omega), zbd_s, zbl_bI, zck_t]
theorem op_order {σ τ : ZM} (h : zRel σ τ) (x1 x2 : Int32) : zOK (f_BB_order x1 x2 σ) (f_Model_order x1 x2 τ) := by
  obtain ⟨m, n, cs, D, S, hs, w⟩ := zRel_W h
  obtain ⟨hm, m1, m2⟩ := zmany hs
  obtain ⟨p1, p2, p3⟩ := pow_e m hm
  unfold f_BB_order f_Model_order
  rw [isIn_e, zbd_s]
  by_cases q1 : x2 < -1
  · rw [if_pos q1, if_pos q1, if_pos rfl]; exact zOK_s h
  rw [if_neg q1, if_neg q1]
  by_cases q2 : x2 ≤ 5
  · rw [if_pos q2, if_neg (Int32.not_lt.mpr q2), if_neg (show ¬ (1 : Int32) = 0 by decide), show (5 : Int32) = nI 5 from rfl, isSet_e hm m1 (by omega), zbd_s, zif, areL_e hm m2, zbd_s, zif]
    cases hz : zin x1 (2 ^ m) with
    | false => exact zOK_s h
    | true =>
      obtain ⟨s, hs1, hs2, rfl⟩ := zin_t hz
      have pl := pB_le s
      rw [nI_clamp hs2, Bool.true_and, if_pos (show true = true from rfl), bits_e s (by omega), zbd_s]
      by_cases y : pB s ≤ 5
      · rw [decide_eq_true y, if_pos rfl, if_pos (nI_le y (by omega)), bits_e s (by omega), zbd_s]
        obtain ⟨σ1, e1, f1, c1⟩ := become_C (X := 36) (Y := 33) (S := S) (σ := zsI (zsI σ 7 5 (nI (pB s))) 7 6 (6 : Int32)) (by omega) (by omega) (by omega) ⟨fun t ht => by rw [zI_sI, if_neg (by omega), zI_sI, if_neg (by omega)]; exact w.2.2.2.1.1 t ht, by rw [zI_sI, if_neg (by omega), zI_sI, if_neg (by omega)]; exact w.2.2.2.1.2⟩
        have g0 : zFK σ (zsI (zsI σ 7 5 (nI (pB s))) 7 6 (6 : Int32)) := ⟨fun o k _ _ _ _ n5 => by rw [zI_sI, if_neg (by omega), zI_sI, if_neg (by omega)], fun _ _ => rfl, fun _ _ => rfl⟩
        have g1 : zFK σ σ1 := zFK_t g0 (zFK_C (X := 36) (by omega) f1)
        obtain ⟨σ2, e2, f2, b2⟩ := or_C w y (pB s) 8 s [] none σ1 (by omega) hs1 rfl (by simp) g1 ⟨by rw [f1.1 7 5 (by omega) (by omega) (by omega), zI_sI, if_neg (by omega), zI_sI, if_pos ⟨rfl, rfl⟩], (fun j i hj => by cases hj), c1, Or.inl ⟨rfl, by rw [f1.1 7 6 (by omega) (by omega) (by omega), zI_sI, if_pos ⟨rfl, rfl⟩]; rfl⟩⟩
        have g2 : zFN τ (zsI τ 129 24 (-1)) := ⟨fun o k _ n2 _ _ _ _ => by rw [zI_sI, if_neg n2], fun _ _ => rfl, fun _ _ => rfl⟩
        obtain ⟨τ2, e3, f3, b3⟩ := or_M w y (pB s) 8 s [] none (zsI τ 129 24 (-1)) (by omega) hs1 rfl (by simp) g2 (fun j i hj => by cases hj) (Or.inl ⟨rfl, by rw [zI_sI, if_pos ⟨rfl, rfl⟩]⟩)
        have ne := pO_e cs D m hm S (pB s) s [] none hs1 rfl
        have k5 : zI σ2 7 5 = nI (pB s) := by rw [f2.1 7 5 (by omega) (by omega) (by omega) (by omega) (by omega) (by omega), f1.1 7 5 (by omega) (by omega) (by omega), zI_sI, if_neg (by omega), zI_sI, if_pos ⟨rfl, rfl⟩]
        have F1 : zFK σ σ2 := zFK_t g1 (zFK_O f2)
        have F2 : zFN τ τ2 := zFN_t g2 (zFN_Q f3)
        have e4 : f_Search_seekOrder (nI s) σ = some ((), σ2) := by
          unfold f_Search_seekOrder
          rw [bcount_e s (by omega), zbd_s, zck_of (show zin 0 6 = true by decide), show (0 : Int32).toNatClampNeg = 0 from rfl, zel24, zck_of (zRo6 (by omega)), e1, zbd_s]
          exact (congrArg (fun q => zbd q fun v9 s10 => some ((), s10)) e2).trans rfl
        have e5 : F_Model_orders 8 (nI s, 0, nI (pB s), zsI τ 129 24 (-1)) = some ((), τ2) := e3
        rw [e4, zbd_s, e5, zbd_s, k5]
        rcases b2 with ⟨b, -⟩ | ⟨f, b, hB, b6, bf, bl, bb⟩
        · exact absurd b ne
        · rcases b3 with ⟨b', -⟩ | ⟨f', b', hB', b6', -, -, bb'⟩
          · exact absurd b' ne
          · rw [hB] at hB'
            obtain ⟨rfl, rfl⟩ := Prod.mk.inj (Option.some.inj hB')
            by_cases z : x2 = -1
            · rw [if_pos z, z, if_neg nm1_nle, b6, b6']
              exact zOK_F h rfl rfl F1 F2
            · have z0 : ¬ x2 < 0 := fun c => by
                rcases zcm1 x2 with d | d | ⟨j, hj, rfl⟩
                · exact q1 d
                · exact z d
                · exact absurd c (nI_pos hj)
              obtain ⟨k, hk, rfl⟩ := nI_of z0
              have hk5 : k ≤ 5 := (nI_leI (a := k) (b := 5) hk (by omega)).mp q2
              rw [if_neg z, if_pos (nI_pos' hk), bits_e s (by omega), zbd_s]
              by_cases c : pB s ≤ k
              · rw [if_pos (nI_le c hk), if_pos (nI_le c hk)]
                exact zOK_F h rfl rfl F1 F2
              · rw [if_neg (nI_ge (by omega) (by omega)), if_neg (nI_ge (by omega) (by omega)), zck_nI (by omega) hk, zck_nI (by omega) hk, nI_clamp hk]
                have hb : b[k]? = some b[k] := List.getElem?_eq_getElem (by omega)
                rw [bb k _ hb, bb' k _ hb]
                exact zOK_F h rfl rfl F1 F2
      · rw [decide_eq_false y, if_neg (by decide), if_neg (nI_ge (by omega) (by omega))]
        exact zOK_s h
  · rw [if_neg q2, if_pos (Int32.not_le.mp q2), if_pos rfl]; exact zOK_s h
