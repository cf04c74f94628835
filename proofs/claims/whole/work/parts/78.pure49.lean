/-! PURE: order, the class -/
theorem zRo24 {j : Nat} (h : j < 6) : zR 0 129 (36 + j) 17 0 = true := zRo6 h
def zFO (p : Nat) (σ σ' : ZM) : Prop := (∀ o k, ¬ (122 ≤ o ∧ o ≤ 128) → ¬ (36 + p < o ∧ o ≤ 41) → ¬ (45 + p < o ∧ o ≤ 50) → ¬ (o = 22 ∧ p ≤ k) → ¬ o = 23 → ¬ (o = 7 ∧ k = 6) → zI σ' o k = zI σ o k) ∧ (∀ o k, zP σ' o k = zP σ o k) ∧ (∀ o k, zL σ' o k = zL σ o k)
theorem zFO_r (p : Nat) (σ : ZM) : zFO p σ σ := ⟨fun _ _ _ _ _ _ _ _ => rfl, fun _ _ => rfl, fun _ _ => rfl⟩
theorem zFO_t {p : Nat} {a b c : ZM} (h : zFO p a b) (h2 : zFO p b c) : zFO p a c := ⟨fun o k n1 n2 n3 n4 n5 n6 => (h2.1 o k n1 n2 n3 n4 n5 n6).trans (h.1 o k n1 n2 n3 n4 n5 n6), fun o k => (h2.2.1 o k).trans (h.2.1 o k), fun o k => (h2.2.2 o k).trans (h.2.2 o k)⟩
theorem zFO_u {p : Nat} {a b : ZM} (h : zFO (p + 1) a b) : zFO p a b := ⟨fun o k n1 n2 n3 n4 n5 n6 => h.1 o k n1 (by omega) (by omega) (by omega) n5 n6, h.2.1, h.2.2⟩
theorem zFO_C {p : Nat} {a b : ZM} (hp : p < 5) (h : zFC (36 + (p + 1)) a b) : zFO p a b := ⟨fun o k n1 n2 n3 _ _ _ => h.1 o k n1 (by omega) (by omega), h.2.1, h.2.2⟩
theorem zFK_O {p : Nat} {a b : ZM} (h : zFO p a b) : zFK a b := ⟨fun o k n1 n2 n3 n4 n5 => h.1 o k n1 (by omega) (by omega) (by omega) (by omega) (by omega), h.2.1, h.2.2⟩
def zBc (n0 : Nat) (σ : ZM) (B : ZB) : Prop := (B = none ∧ zI σ 7 6 = nI 6) ∨ ∃ f b, B = some (f, b) ∧ zI σ 7 6 = nI f ∧ f ≤ 5 ∧ b.length = n0 ∧ ∀ j i, b[j]? = some i → zI σ 23 j = nI i
def zOc (n0 : Nat) (σ : ZM) (pre : List Nat) (B : ZB) (S : ZS) : Prop := zI σ 7 5 = nI n0 ∧ (∀ j i, pre[j]? = some i → zI σ 22 j = nI i) ∧ zCo (36 + pre.length) σ S ∧ zBc n0 σ B
theorem zBc_c {n0 : Nat} {σ σ' : ZM} {B : ZB} (h : zBc n0 σ B) (h1 : zI σ' 7 6 = zI σ 7 6) (h2 : ∀ j, zI σ' 23 j = zI σ 23 j) : zBc n0 σ' B := by
  rcases h with ⟨a, b⟩ | ⟨f, b, c, d, e, g, i⟩
  · exact Or.inl ⟨a, h1.trans b⟩
  · exact Or.inr ⟨f, b, c, h1.trans d, e, g, fun j x hj => (h2 j).trans (i j x hj)⟩
theorem kep_u (N : Nat) (a : Int32) (σ : ZM) : F_Search_keep_15 (N + 1) (a, σ) = f_Search_keep_15 (F_Search_keep_15 N) a σ := rfl
theorem ord_u (N : Nat) (a b c : Int32) (σ : ZM) : F_Search_goOnOrder (N + 1) (a, b, c, σ) = f_Search_goOnOrder (F_Search_goOnOrder N) a b c σ := rfl
theorem orl_u (rec : Int32 × Int32 × Int32 × ZM → Option (Unit × ZM)) (N : Nat) (a b c : Int32) (x y : Nat) (d : Int32) (σ : ZM) : F_Search_goOnOrder_37 rec (N + 1) (a, b, c, x, y, d, σ) = f_Search_goOnOrder_37 rec (F_Search_goOnOrder_37 rec N) a b c x y d σ := rfl
theorem kep_l {n0 : Nat} (hn : n0 ≤ 5) : ∀ (d k N : Nat) (σ : ZM), k + d = n0 → d < N → zI σ 7 5 = nI n0 → ∃ σ', F_Search_keep_15 N (nI k, σ) = some ((), σ') ∧ (∀ o j, zI σ' o j = if o = 23 ∧ k ≤ j ∧ j < n0 then zI σ 22 j else zI σ o j) ∧ (∀ o j, zP σ' o j = zP σ o j) ∧ (∀ o j, zL σ' o j = zL σ o j) := by
  intro d
  induction d with
  | zero =>
    intro k N σ hk hN h
    obtain ⟨N, rfl⟩ : ∃ M, N = M + 1 := ⟨N - 1, by omega⟩
    refine ⟨σ, ?_, fun o j => by rw [if_neg (by omega)], fun _ _ => rfl, fun _ _ => rfl⟩
    rw [kep_u]
    unfold f_Search_keep_15
    rw [h, if_pos (nI_le (by omega) (by omega))]
  | succ d ih =>
    intro k N σ hk hN h
    obtain ⟨N, rfl⟩ : ∃ M, N = M + 1 := ⟨N - 1, by omega⟩
    obtain ⟨σ', a1, a2, a3, a4⟩ := ih (k + 1) N (zsI σ 23 k (zI σ 22 k)) (by omega) (by omega) (by rw [zI_sI, if_neg (by omega)]; exact h)
    refine ⟨σ', ?_, fun o j => ?_, a3, a4⟩
    · rw [kep_u]
      unfold f_Search_keep_15
      rw [h, if_neg (nI_ge (a := k) (b := n0) (by omega) (by omega)), if_neg (show ¬ (5 : Int32) ≤ nI k from nI_ge (b := 5) (by omega) (by omega)), zck_nI (by omega) (by omega), zck_nI (by omega) (by omega), nI_clamp (by omega), show nI k + (1 : Int32) = nI (k + 1) from nI_add k 1]
      exact a1
    · rw [a2, zI_sI, zI_sI]
      by_cases z : o = 23 ∧ j = k
      · rw [if_neg (show ¬ (o = 23 ∧ k + 1 ≤ j ∧ j < n0) by omega), if_pos z, if_pos (show o = 23 ∧ k ≤ j ∧ j < n0 by omega), z.2]
      · rw [if_neg (show ¬ (22 = 23 ∧ j = k) by omega), if_neg z]
        by_cases y : o = 23 ∧ k + 1 ≤ j ∧ j < n0
        · rw [if_pos y, if_pos (show o = 23 ∧ k ≤ j ∧ j < n0 by omega)]
        · rw [if_neg y, if_neg (show ¬ (o = 23 ∧ k ≤ j ∧ j < n0) by omega)]
theorem kep_e {n0 v : Nat} {σ : ZM} {pre : List Nat} {B : ZB} (hn : n0 ≤ 5) (hv : v ≤ 5) (hl : pre.length = n0) (h5 : zI σ 7 5 = nI n0) (hr : ∀ j i, pre[j]? = some i → zI σ 22 j = nI i) (hB : zBc n0 σ B) (p : Nat) : ∃ σ', f_Search_keep (nI v) σ = some ((), σ') ∧ zFO p σ σ' ∧ zBc n0 σ' (pUp B v pre) := by
  have put : ∃ σ', F_Search_keep_15 2000 ((0 : Int32), zsI σ 7 6 (nI v)) = some ((), σ') ∧ zFO p σ σ' ∧ zBc n0 σ' (some (v, pre)) := by
    obtain ⟨σ', a1, a2, a3, a4⟩ := kep_l hn n0 0 2000 (zsI σ 7 6 (nI v)) (by omega) (by omega) (by rw [zI_sI, if_neg (by omega)]; exact h5)
    refine ⟨σ', a1, ⟨fun o k _ _ _ _ n5 n6 => ?_, a3, a4⟩, Or.inr ⟨v, pre, rfl, ?_, hv, hl, fun j i hj => ?_⟩⟩
    · rw [a2, if_neg (by omega), zI_sI, if_neg n6]
    · rw [a2, if_neg (by omega), zI_sI, if_pos ⟨rfl, rfl⟩]
    · have := (List.getElem?_eq_some_iff.mp hj).1
      rw [a2, if_pos ⟨rfl, Nat.zero_le _, by omega⟩, zI_sI, if_neg (by omega)]
      exact hr j i hj
  unfold f_Search_keep
  rcases id hB with ⟨rfl, b6⟩ | ⟨f, b, rfl, b6, b5, b7, b8⟩
  · rw [b6, if_neg (nI_ge (by omega) (by omega))]
    exact put
  · rw [b6]
    by_cases q : f ≤ v
    · rw [if_pos (nI_le q (by omega)), show pUp (some (f, b)) v pre = some (f, b) from if_neg (show ¬ v < f by omega)]
      exact ⟨σ, rfl, zFO_r p σ, hB⟩
    · rw [if_neg (nI_ge (by omega) (by omega)), show pUp (some (f, b)) v pre = some (v, pre) from if_pos (show v < f by omega)]
      exact put
section
variable {m : Nat} {cs : List ZCl} {D : ZD} {σ0 τ0 : ZM} {S0 : ZS}
theorem or_Cl (w : xW m cs D σ0 τ0 S0) {n0 r s : Nat} {pre : List Nat} (hn : n0 ≤ 5) (hs : s < 2 ^ m) (hr : pB s = r + 1) (hp : pre.length + (r + 1) = n0) (rec : Int32 × Int32 × Int32 × ZM → Option (Unit × ZM))
    (hrec : ∀ (l : Nat) (B : ZB) (σ : ZM), l < m → Nat.testBit s l = true → zFK σ0 σ → zOc n0 σ (pre ++ [l]) B (pSt cs D (pre ++ [l]) S0) → ∃ σ', rec (nI (s - 2 ^ l), nI (pre.length + 1), nI (pLs cs D (pre ++ [l]) S0), σ) = some ((), σ') ∧ zFO (pre.length + 1) σ σ' ∧ zBc n0 σ' (pO cs D m S0 r (s - 2 ^ l) (pre ++ [l]) B)) :
    ∀ (d l N : Nat) (B : ZB) (σ : ZM), l + d = m → d < N → zFK σ0 σ → zOc n0 σ pre B (pSt cs D pre S0) → ∃ σ', F_Search_goOnOrder_37 rec N (nI s, nI pre.length, nI (pLs cs D pre S0), 36 + pre.length, 36 + (pre.length + 1), nI l, σ) = some ((), σ') ∧ zFO pre.length σ σ' ∧ zBc n0 σ' (pOl (fun l B => pO cs D m S0 r (s - 2 ^ l) (pre ++ [l]) B) s d l B) := by
  have hm := w.1.1
  obtain ⟨s64, sl⟩ := set_lt m (by omega) s hs
  have hv := pLs_le cs D pre S0
  intro d
  induction d with
  | zero =>
    intro l N B σ hl hN f c
    obtain ⟨N, rfl⟩ : ∃ M, N = M + 1 := ⟨N - 1, by omega⟩
    rw [orl_u]
    unfold f_Search_goOnOrder_37
    rw [(xW_F w f (zFN_r τ0)).2.1, if_pos (nI_le (by omega) (by omega))]
    exact ⟨σ, rfl, zFO_r _ σ, c.2.2.2⟩
  | succ d ih =>
    intro l N B σ hl hN f c
    obtain ⟨N, rfl⟩ : ∃ M, N = M + 1 := ⟨N - 1, by omega⟩
    obtain ⟨c5, cr, co, cb⟩ := id c
    have w' := xW_F w f (zFN_r τ0)
    rw [orl_u]
    unfold f_Search_goOnOrder_37 f_Search_goOnOrder_127 f_Search_goOnOrder_130
    rw [w'.2.1, if_neg (nI_ge (a := l) (b := m) (by omega) (by omega)), bit_e s l s64 (by omega), show nI l + (1 : Int32) = nI (l + 1) from nI_add l 1, show nI pre.length + (1 : Int32) = nI (pre.length + 1) from nI_add _ 1]
    have cut : zI σ 7 6 ≤ nI (pLs cs D pre S0) → ∃ q, B = some q ∧ q.1 ≤ pLs cs D pre S0 := by
      intro h
      rcases cb with ⟨-, b6⟩ | ⟨g, b, rfl, b6, b5, -, -⟩
      · rw [b6, nI_leI (by omega) (by omega)] at h
        omega
      · rw [b6, nI_leI (by omega) (by omega)] at h
        exact ⟨(g, b), rfl, h⟩
    by_cases z : zI σ 7 6 ≤ nI (pLs cs D pre S0)
    · obtain ⟨q, rfl, hq⟩ := cut z
      rw [if_pos z]
      refine ⟨σ, rfl, zFO_r _ σ, ?_⟩
      rw [pOl_id _ s (some q) (d + 1) l (fun k _ _ _ => pO_id cs D m S0 q r _ _ (by rw [(pSt_a cs D k pre S0).2]; omega))]
      exact cb
    · rw [if_neg z, pOl_s]
      cases hb : Nat.testBit s l with
      | false =>
        rw [if_neg (show ¬ zbI false = (1 : Int32) by decide), if_neg (by decide)]
        exact ih (l + 1) N B σ (by omega) (by omega) f c
      | true =>
        obtain ⟨-, eb⟩ := pB_m s s64 l (by omega) hb
        obtain ⟨σ1, e1, f1, c1⟩ := become_C (X := 36 + (pre.length + 1)) (Y := 36 + pre.length) (S := pSt cs D pre S0) (σ := σ) (by omega) (by omega) (by omega) co
        have g1 : zFO pre.length σ (zsI σ1 22 pre.length (nI l)) := zFO_t (zFO_C (by omega) f1) ⟨fun o k _ _ _ n4 _ _ => by rw [zI_sI, if_neg (by omega)], fun _ _ => rfl, fun _ _ => rfl⟩
        have w1 := xW_F w' (zFK_O g1) (zFN_r τ0)
        have c1' : zCo (36 + (pre.length + 1)) (zsI σ1 22 pre.length (nI l)) (pSt cs D pre S0) := ⟨fun t ht => by rw [zI_sI, if_neg (by omega)]; exact c1.1 t ht, by rw [zI_sI, if_neg (by omega)]; exact c1.2⟩
        obtain ⟨σ2, e2, f2, c2⟩ := bake_C w1.1 (X := 36 + (pre.length + 1)) (by omega) (pSt_B cs D pre S0 w.2.2.1) c1' (show l < m by omega)
        have g2 : zFO pre.length σ σ2 := zFO_t g1 (zFO_C (by omega) f2)
        obtain ⟨st, sp⟩ := pSt_a cs D l pre S0
        have oc : zOc n0 σ2 (pre ++ [l]) B (pSt cs D (pre ++ [l]) S0) := by
          refine ⟨?_, fun j i hj => ?_, ?_, ?_⟩
          · rw [g2.1 7 5 (by omega) (by omega) (by omega) (by omega) (by omega) (by omega)]; exact c5
          · rw [f2.1 22 j (by omega) (by omega) (by omega), zI_sI]
            by_cases q : j < pre.length
            · rw [List.getElem?_append_left q] at hj
              rw [if_neg (by omega), f1.1 22 j (by omega) (by omega) (by omega)]; exact cr j i hj
            · have hj2 := (List.getElem?_eq_some_iff.mp hj).1
              simp only [List.length_append, List.length_cons, List.length_nil] at hj2
              obtain rfl : j = pre.length := by omega
              rw [List.getElem?_append_right (Nat.le_refl _), Nat.sub_self] at hj
              obtain rfl : l = i := Option.some.inj hj
              rw [if_pos ⟨rfl, rfl⟩]
          · rw [st, List.length_append]; exact c2
          · refine zBc_c cb ?_ (fun j => ?_)
            · rw [f2.1 7 6 (by omega) (by omega) (by omega), zI_sI, if_neg (by omega), f1.1 7 6 (by omega) (by omega) (by omega)]
            · rw [f2.1 23 j (by omega) (by omega) (by omega), zI_sI, if_neg (by omega), f1.1 23 j (by omega) (by omega) (by omega)]
        obtain ⟨σ3, e3, f3, b3⟩ := hrec l B σ2 (by omega) hb (zFK_t f (zFK_O g2)) oc
        have g3 : zFO pre.length σ σ3 := zFO_t g2 (zFO_u f3)
        obtain ⟨σ4, e4, f4, b4⟩ := ih (l + 1) N _ σ3 (by omega) (by omega) (zFK_t f (zFK_O g3)) ⟨by rw [g3.1 7 5 (by omega) (by omega) (by omega) (by omega) (by omega) (by omega)]; exact c5, fun j i hj => by
          have hj2 := (List.getElem?_eq_some_iff.mp hj).1
          rw [g3.1 22 j (by omega) (by omega) (by omega) (by omega) (by omega) (by omega)]; exact cr j i hj, ⟨fun t ht => by rw [g3.1 _ _ (by omega) (by omega) (by omega) (by omega) (by omega) (by omega)]; exact co.1 t ht, by rw [g3.1 _ _ (by omega) (by omega) (by omega) (by omega) (by omega) (by omega)]; exact co.2⟩, b3⟩
        refine ⟨σ4, ?_, zFO_t g3 f4, b4⟩
        rw [if_pos (show zbI true = (1 : Int32) from rfl), eb, e1, zbd_s, nI_clamp (by omega), nI_clamp (by omega), zel25, zck_nI (by omega) (by omega), zck_nI (by omega) (by omega), zck_of (zRl (by omega)), e2, zbd_s]
        cases hsp : pSp cs D (pSt cs D pre S0).1 (pSt cs D pre S0).2 l 0 4 with
        | false =>
          rw [hsp, if_neg (show ¬ false = true by decide), Nat.add_zero] at sp
          rw [sp] at e3
          rw [if_pos (show zbI false = 0 from rfl), e3, zbd_s]
          exact e4
        | true =>
          rw [hsp, if_pos (show true = true from rfl)] at sp
          rw [sp] at e3
          rw [if_neg (show ¬ zbI true = 0 by decide), show nI (pLs cs D pre S0) + (1 : Int32) = nI (pLs cs D pre S0 + 1) from nI_add _ 1, e3, zbd_s]
          exact e4
theorem or_C (w : xW m cs D σ0 τ0 S0) {n0 : Nat} (hn : n0 ≤ 5) : ∀ (r N s : Nat) (pre : List Nat) (B : ZB) (σ : ZM), r < N → s < 2 ^ m → pB s = r → pre.length + r = n0 → zFK σ0 σ → zOc n0 σ pre B (pSt cs D pre S0) →
    ∃ σ', F_Search_goOnOrder N (nI s, nI pre.length, nI (pLs cs D pre S0), σ) = some ((), σ') ∧ zFO pre.length σ σ' ∧ zBc n0 σ' (pO cs D m S0 r s pre B) := by
  have hm := w.1.1
  intro r
  induction r with
  | zero =>
    intro N s pre B σ hN hs hr hp f c
    obtain ⟨N, rfl⟩ : ∃ M, N = M + 1 := ⟨N - 1, by omega⟩
    obtain ⟨s64, -⟩ := set_lt m (by omega) s hs
    obtain rfl : s = 0 := (pB_0 s s64).mp hr
    have hv := pLs_le cs D pre S0
    obtain ⟨σ1, e1, f1, b1⟩ := kep_e (v := pLs cs D pre S0) (p := pre.length) hn (by omega) (by omega) c.1 c.2.1 c.2.2.2
    refine ⟨σ1, ?_, f1, b1⟩
    rw [ord_u]
    unfold f_Search_goOnOrder
    rw [if_pos (show nI 0 = 0 from rfl), e1, zbd_s]
  | succ r ih =>
    intro N s pre B σ hN hs hr hp f c
    obtain ⟨N, rfl⟩ : ∃ M, N = M + 1 := ⟨N - 1, by omega⟩
    obtain ⟨s64, -⟩ := set_lt m (by omega) s hs
    have s0 : ¬ s = 0 := fun q => by
      have := (pB_0 s s64).mpr q
      omega
    obtain ⟨σ1, e1, f1, b1⟩ := or_Cl w hn hs hr hp (F_Search_goOnOrder N) (fun l B σ hl hb f c => by
      obtain ⟨b1, -⟩ := pB_m s s64 l (by omega) hb
      have := ih N (s - 2 ^ l) (pre ++ [l]) B σ (by omega) (Nat.lt_of_le_of_lt (Nat.sub_le _ _) hs) (by omega) (by simp only [List.length_append, List.length_cons, List.length_nil]; omega) f c
      rw [List.length_append] at this
      exact this) m 0 2000 B σ (by omega) (by omega) f c
    refine ⟨σ1, ?_, f1, b1⟩
    rw [ord_u]
    unfold f_Search_goOnOrder
    rw [if_neg (nI_ne0 (by omega) (by omega)), if_pos (show nI pre.length < (5 : Int32) from nI_lt (b := 5) (by omega) (by omega)), show nI pre.length + (1 : Int32) = nI (pre.length + 1) from nI_add _ 1, nI_clamp (by omega), nI_clamp (by omega), zel24, zel24, zck_nI (by omega) (by omega), zck_of (zRo6 (by omega)), zck_nI (by omega) (by omega), zck_of (zRo6 (by omega))]
    exact e1
end
