/-! PURE: colds, the class -/
def zFP (p : Nat) (σ σ' : ZM) : Prop := (∀ o k, ¬ (122 ≤ o ∧ o ≤ 128) → ¬ (36 + p ≤ o ∧ o ≤ 41) → ¬ (45 + p ≤ o ∧ o ≤ 50) → ¬ (o = 22 ∧ p ≤ k) → ¬ o = 23 → ¬ (o = 7 ∧ k = 6) → zI σ' o k = zI σ o k) ∧ (∀ o k, zP σ' o k = zP σ o k) ∧ (∀ o k, zL σ' o k = zL σ o k)
theorem zFP_r (p : Nat) (σ : ZM) : zFP p σ σ := ⟨fun _ _ _ _ _ _ _ _ => rfl, fun _ _ => rfl, fun _ _ => rfl⟩
theorem zFP_t {p : Nat} {a b c : ZM} (h : zFP p a b) (h2 : zFP p b c) : zFP p a c := ⟨fun o k n1 n2 n3 n4 n5 n6 => (h2.1 o k n1 n2 n3 n4 n5 n6).trans (h.1 o k n1 n2 n3 n4 n5 n6), fun o k => (h2.2.1 o k).trans (h.2.1 o k), fun o k => (h2.2.2 o k).trans (h.2.2 o k)⟩
theorem zFP_u {p : Nat} {a b : ZM} (h : zFP (p + 1) a b) : zFP p a b := ⟨fun o k n1 n2 n3 n4 n5 n6 => h.1 o k n1 (by omega) (by omega) (by omega) n5 n6, h.2.1, h.2.2⟩
theorem zFP_C {p X : Nat} {a b : ZM} (hX : X = 36 + p ∨ X = 36 + (p + 1)) (hp : p < 5) (h : zFC X a b) : zFP p a b := ⟨fun o k n1 n2 n3 _ _ _ => h.1 o k n1 (by omega) (by omega), h.2.1, h.2.2⟩
theorem zFK_P {p : Nat} {a b : ZM} (h : zFP p a b) : zFK a b := ⟨fun o k n1 n2 n3 n4 n5 => h.1 o k n1 (by omega) (by omega) (by omega) (by omega) (by omega), h.2.1, h.2.2⟩
def zBd (n0 : Nat) (σ : ZM) (B : ZB) : Prop := (B = none ∧ zI σ 7 6 = nI 21) ∨ ∃ f b, B = some (f, b) ∧ zI σ 7 6 = nI f ∧ f ≤ 20 ∧ b.length = n0 ∧ ∀ j i, b[j]? = some i → zI σ 23 j = nI i
theorem zBd_c {n0 : Nat} {σ σ' : ZM} {B : ZB} (h : zBd n0 σ B) (h1 : zI σ' 7 6 = zI σ 7 6) (h2 : ∀ j, zI σ' 23 j = zI σ 23 j) : zBd n0 σ' B := by
  rcases h with ⟨a, b⟩ | ⟨f, b, c, d, e, g, i⟩
  · exact Or.inl ⟨a, h1.trans b⟩
  · exact Or.inr ⟨f, b, c, h1.trans d, e, g, fun j x hj => (h2 j).trans (i j x hj)⟩
theorem kep_d {n0 v : Nat} {σ : ZM} {pre : List Nat} {B : ZB} (hn : n0 ≤ 5) (hv : v ≤ 20) (hl : pre.length = n0) (h5 : zI σ 7 5 = nI n0) (hr : ∀ j i, pre[j]? = some i → zI σ 22 j = nI i) (hB : zBd n0 σ B) (p : Nat) : ∃ σ', f_Search_keep (nI v) σ = some ((), σ') ∧ zFP p σ σ' ∧ zBd n0 σ' (pUp B v pre) := by
  have put : ∃ σ', F_Search_keep_15 2000 ((0 : Int32), zsI σ 7 6 (nI v)) = some ((), σ') ∧ zFP p σ σ' ∧ zBd n0 σ' (some (v, pre)) := by
    obtain ⟨σ', a1, a2, a3, a4⟩ := kep_l hn n0 0 2000 (zsI σ 7 6 (nI v)) (by omega) (by omega) (by rw [zI_sI, if_neg (by omega)]; exact h5)
    refine ⟨σ', a1, ⟨fun o k _ _ _ _ n5 n6 => ?_, a3, a4⟩, Or.inr ⟨v, pre, rfl, ?_, hv, hl, fun j i hj => ?_⟩⟩
    · rw [a2, if_neg (by omega), zI_sI, if_neg n6]
    · rw [a2, if_neg (by omega), zI_sI, if_pos ⟨rfl, rfl⟩]
    · have := (List.getElem?_eq_some_iff.mp hj).1
      rw [a2, if_pos ⟨rfl, Nat.zero_le _, by omega⟩, zI_sI, if_neg (by omega)]
      exact hr j i hj
  unfold f_Search_keep
  rcases id hB with ⟨rfl, b6⟩ | ⟨f, b, rfl, b6, b5, b7, b8⟩
  · rw [b6, if_neg (nI_ge (by omega) (by omega))]
    exact put
  · rw [b6]
    by_cases q : f ≤ v
    · rw [if_pos (nI_le q (by omega)), show pUp (some (f, b)) v pre = some (f, b) from if_neg (show ¬ v < f by omega)]
      exact ⟨σ, rfl, zFP_r p σ, hB⟩
    · rw [if_neg (nI_ge (by omega) (by omega)), show pUp (some (f, b)) v pre = some (v, pre) from if_pos (show v < f by omega)]
      exact put
theorem cod_u (N : Nat) (a b c : Int32) (σ : ZM) : F_Search_goOnColds (N + 1) (a, b, c, σ) = f_Search_goOnColds (F_Search_goOnColds N) a b c σ := rfl
theorem col_u (rec : Int32 × Int32 × Int32 × ZM → Option (Unit × ZM)) (N : Nat) (a b c : Int32) (x y : Nat) (d e : Int32) (σ : ZM) : F_Search_goOnColds_43 rec (N + 1) (a, b, c, x, y, d, e, σ) = f_Search_goOnColds_43 rec (F_Search_goOnColds_43 rec N) a b c x y d e σ := rfl
def zOd (n0 : Nat) (σ : ZM) (pre : List Nat) (B : ZB) (S : ZS) : Prop := zI σ 7 5 = nI n0 ∧ (∀ j i, pre[j]? = some i → zI σ 22 j = nI i) ∧ zCo (36 + pre.length) σ S ∧ zBd n0 σ B
section
variable {m : Nat} {cs : List ZCl} {D : ZD} {σ0 τ0 : ZM} {S0 : ZS}
theorem co_Cl (w : xW m cs D σ0 τ0 S0) {n0 s l sum : Nat} {ls pre : List Nat} {S : ZS} (hn : n0 ≤ 4) (hs : s < 64) (hl : l < m) (hb : Nat.testBit s l = true) (hS : zSB S) (hp : pre.length + (ls.length + 1) = n0) (hsum : sum ≤ 4 * pre.length) (rec : Int32 × Int32 × Int32 × ZM → Option (Unit × ZM))
    (hrec : ∀ (c : Nat) (B : ZB) (σ : ZM), c < 5 → zFK σ0 σ → zOd n0 σ (pre ++ [c]) B (pBk cs D l (pCi cs S c)) → ∃ σ', rec (nI (s - 2 ^ l), nI (pre.length + 1), nI (sum + c), σ) = some ((), σ') ∧ zFP (pre.length + 1) σ σ' ∧ zBd n0 σ' (pCc cs D ls (pBk cs D l (pCi cs S c)) (sum + c) (pre ++ [c]) B)) :
    ∀ (d c N : Nat) (B : ZB) (σ : ZM), c + d = 5 → d < N → zFK σ0 σ → zOd n0 σ pre B (pCi cs S (c - 1)) → ∃ σ', F_Search_goOnColds_43 rec N (nI s, nI pre.length, nI sum, 36 + pre.length, 36 + (pre.length + 1), nI l, nI c, σ) = some ((), σ') ∧ zFP pre.length σ σ' ∧ zBd n0 σ' (pCx (fun c B => if pSp cs D (pCi cs S c).1 (pCi cs S c).2 l 0 4 = true then B else pCc cs D ls (pBk cs D l (pCi cs S c)) (sum + c) (pre ++ [c]) B) d c B) := by
  have hm := w.1.1
  intro d
  induction d with
  | zero =>
    intro c N B σ hd hN f x
    obtain ⟨N, rfl⟩ : ∃ M, N = M + 1 := ⟨N - 1, by omega⟩
    rw [col_u]
    unfold f_Search_goOnColds_43
    rw [if_pos (show (4 : Int32) < nI c from nI_lt (a := 4) (by omega) (by omega))]
    exact ⟨σ, rfl, zFP_r _ σ, x.2.2.2⟩
  | succ d ih =>
    intro c N B σ hd hN f x
    obtain ⟨N, rfl⟩ : ∃ M, N = M + 1 := ⟨N - 1, by omega⟩
    obtain ⟨c5, cr, co, cb⟩ := id x
    have main : ∀ σ1, zFP pre.length σ σ1 → zFC (36 + pre.length) σ σ1 → zCo (36 + pre.length) σ1 (pCi cs S c) → ∃ σ', f_Search_goOnColds_74 rec (F_Search_goOnColds_43 rec N) (nI s) (nI pre.length) (nI sum) (36 + pre.length) (36 + (pre.length + 1)) (nI l) (nI c) σ1 = some ((), σ') ∧ zFP pre.length σ σ' ∧ zBd n0 σ' (pCx (fun c B => if pSp cs D (pCi cs S c).1 (pCi cs S c).2 l 0 4 = true then B else pCc cs D ls (pBk cs D l (pCi cs S c)) (sum + c) (pre ++ [c]) B) (d + 1) c B) := by
      intro σ1 f1 f1c co1
      obtain ⟨-, eb⟩ := pB_m s hs l (by omega) hb
      obtain ⟨σ2, e2, f2, c2⟩ := become_C (X := 36 + (pre.length + 1)) (Y := 36 + pre.length) (S := pCi cs S c) (σ := σ1) (by omega) (by omega) (by omega) co1
      have g2 : zFP pre.length σ (zsI σ2 22 pre.length (nI c)) := zFP_t f1 (zFP_t (zFP_C (Or.inr rfl) (by omega) f2) ⟨fun o k _ _ _ n4 _ _ => by rw [zI_sI, if_neg (by omega)], fun _ _ => rfl, fun _ _ => rfl⟩)
      have w2 := xW_F w (zFK_t f (zFK_P g2)) (zFN_r τ0)
      have c2' : zCo (36 + (pre.length + 1)) (zsI σ2 22 pre.length (nI c)) (pCi cs S c) := ⟨fun t ht => by rw [zI_sI, if_neg (by omega)]; exact c2.1 t ht, by rw [zI_sI, if_neg (by omega)]; exact c2.2⟩
      obtain ⟨σ3, e3, f3, c3⟩ := bake_C w2.1 (X := 36 + (pre.length + 1)) (by omega) (pCi_B cs S hS c) c2' hl
      have g3 : zFP pre.length σ σ3 := zFP_t g2 (zFP_C (Or.inr rfl) (by omega) f3)
      have k76 : zI σ3 7 6 = zI σ 7 6 := by rw [f3.1 7 6 (by omega) (by omega) (by omega), zI_sI, if_neg (by omega), f2.1 7 6 (by omega) (by omega) (by omega), f1c.1 7 6 (by omega) (by omega) (by omega)]
      have k23 : ∀ j, zI σ3 23 j = zI σ 23 j := fun j => by rw [f3.1 23 j (by omega) (by omega) (by omega), zI_sI, if_neg (by omega), f2.1 23 j (by omega) (by omega) (by omega), f1c.1 23 j (by omega) (by omega) (by omega)]
      have b3 := zBd_c cb k76 k23
      have k36 : zCo (36 + pre.length) σ3 (pCi cs S c) := ⟨fun t ht => by rw [f3.1 _ _ (by omega) (by omega) (by omega), zI_sI, if_neg (by omega), f2.1 _ _ (by omega) (by omega) (by omega)]; exact co1.1 t ht, by rw [f3.1 _ _ (by omega) (by omega) (by omega), zI_sI, if_neg (by omega), f2.1 _ _ (by omega) (by omega) (by omega)]; exact co1.2⟩
      unfold f_Search_goOnColds_74 f_Search_goOnColds_130
      rw [show nI pre.length + (1 : Int32) = nI (pre.length + 1) from nI_add _ 1, show nI c + (1 : Int32) = nI (c + 1) from nI_add c 1, nI_add, eb, e2, zbd_s, nI_clamp (by omega), nI_clamp (by omega), zel25, zck_nI (by omega) (by omega), zck_nI (by omega) (by omega), zck_of (zRl (by omega)), e3, zbd_s, pCx_s]
      cases hsp : pSp cs D (pCi cs S c).1 (pCi cs S c).2 l 0 4 with
      | true =>
        obtain ⟨σ4, e4, f4, b4⟩ := ih (c + 1) N B σ3 (by omega) (by omega) (zFK_t f (zFK_P g3)) ⟨by rw [g3.1 7 5 (by omega) (by omega) (by omega) (by omega) (by omega) (by omega)]; exact c5, fun j i hj => by
          have hj2 := (List.getElem?_eq_some_iff.mp hj).1
          rw [g3.1 22 j (by omega) (by omega) (by omega) (by omega) (by omega) (by omega)]; exact cr j i hj, by rw [Nat.add_sub_cancel]; exact k36, b3⟩
        refine ⟨σ4, ?_, zFP_t g3 f4, b4⟩
        rw [if_neg (show ¬ zbI true = 0 by decide)]
        exact e4
      | false =>
        have oc : zOd n0 σ3 (pre ++ [c]) B (pBk cs D l (pCi cs S c)) := by
          refine ⟨?_, fun j i hj => ?_, ?_, b3⟩
          · rw [g3.1 7 5 (by omega) (by omega) (by omega) (by omega) (by omega) (by omega)]; exact c5
          · rw [f3.1 22 j (by omega) (by omega) (by omega), zI_sI]
            by_cases q : j < pre.length
            · rw [List.getElem?_append_left q] at hj
              rw [if_neg (by omega), f2.1 22 j (by omega) (by omega) (by omega), f1c.1 22 j (by omega) (by omega) (by omega)]; exact cr j i hj
            · have hj2 := (List.getElem?_eq_some_iff.mp hj).1
              simp only [List.length_append, List.length_cons, List.length_nil] at hj2
              obtain rfl : j = pre.length := by omega
              rw [List.getElem?_append_right (Nat.le_refl _), Nat.sub_self] at hj
              obtain rfl : c = i := Option.some.inj hj
              rw [if_pos ⟨rfl, rfl⟩]
          · rw [List.length_append]; exact c3
        obtain ⟨σ4, e4, f4, b4⟩ := hrec c B σ3 (by omega) (zFK_t f (zFK_P g3)) oc
        have g4 : zFP pre.length σ σ4 := zFP_t g3 (zFP_u f4)
        obtain ⟨σ5, e5, f5, b5⟩ := ih (c + 1) N _ σ4 (by omega) (by omega) (zFK_t f (zFK_P g4)) ⟨by rw [g4.1 7 5 (by omega) (by omega) (by omega) (by omega) (by omega) (by omega)]; exact c5, fun j i hj => by
          have hj2 := (List.getElem?_eq_some_iff.mp hj).1
          rw [g4.1 22 j (by omega) (by omega) (by omega) (by omega) (by omega) (by omega)]; exact cr j i hj, by
          rw [Nat.add_sub_cancel]
          exact ⟨fun t ht => by rw [f4.1 _ _ (by omega) (by omega) (by omega) (by omega) (by omega) (by omega)]; exact k36.1 t ht, by rw [f4.1 _ _ (by omega) (by omega) (by omega) (by omega) (by omega) (by omega)]; exact k36.2⟩, b4⟩
        refine ⟨σ5, ?_, zFP_t g4 f5, b5⟩
        rw [if_pos (show zbI false = 0 from rfl), e4, zbd_s]
        exact e5
    rw [col_u]
    unfold f_Search_goOnColds_43
    rw [if_neg (show ¬ (4 : Int32) < nI c from nI_nlt (a := 4) (by omega) (by omega)), nI_add]
    by_cases z : zI σ 7 6 ≤ nI (sum + c)
    · have cut : ∃ q, B = some q ∧ q.1 ≤ sum + c := by
        rcases cb with ⟨-, b6⟩ | ⟨g, b, rfl, b6, b5, -, -⟩
        · rw [b6, nI_leI (by omega) (by omega)] at z
          omega
        · rw [b6, nI_leI (by omega) (by omega)] at z
          exact ⟨(g, b), rfl, z⟩
      obtain ⟨q, rfl, hq⟩ := cut
      rw [if_pos z]
      refine ⟨σ, rfl, zFP_r _ σ, ?_⟩
      rw [pCx_id _ (some q) (d + 1) c (fun k hk => by
        show (if pSp cs D (pCi cs S k).1 (pCi cs S k).2 l 0 4 = true then some q else pCc cs D ls (pBk cs D l (pCi cs S k)) (sum + k) (pre ++ [k]) (some q)) = some q
        split
        · rfl
        · exact pCc_id cs D q ls _ _ _ (by omega))]
      exact cb
    · rw [if_neg z]
      by_cases c0 : c = 0
      · subst c0
        rw [if_pos (show nI 0 ≤ 0 from Int32.le_refl _)]
        exact main σ (zFP_r _ σ) (zFC_r _ σ) co
      · obtain ⟨σ1, e1, f1, c1⟩ := chill_C (xW_F w f (zFN_r τ0)).1 (X := 36 + pre.length) (by omega) (pCi_B cs S hS (c - 1)) co
        rw [← pCi_s, show c - 1 + 1 = c by omega] at c1
        rw [if_neg (show ¬ nI c ≤ (0 : Int32) from nI_ge (a := 0) (by omega) (by omega)), e1, zbd_s]
        exact main σ1 (zFP_C (Or.inl rfl) (by omega) f1) f1 c1
theorem co_C (w : xW m cs D σ0 τ0 S0) {n0 : Nat} (hn : n0 ≤ 4) : ∀ (ls : List Nat) (N s sum : Nat) (pre : List Nat) (B : ZB) (S : ZS) (σ : ZM), ls.length < N → s < 2 ^ m → pMs s = ls → pre.length + ls.length = n0 → sum ≤ 4 * pre.length → zSB S → zFK σ0 σ → zOd n0 σ pre B S →
    ∃ σ', F_Search_goOnColds N (nI s, nI pre.length, nI sum, σ) = some ((), σ') ∧ zFP pre.length σ σ' ∧ zBd n0 σ' (pCc cs D ls S sum pre B)
  | [], N, s, sum, pre, B, S, σ, hN, hs, hms, hp, hsum, hS, f, c => by
    have hm := w.1.1
    obtain ⟨N, rfl⟩ : ∃ M, N = M + 1 := ⟨N - 1, by omega⟩
    obtain ⟨s64, -⟩ := set_lt m (by omega) s hs
    have hl := pMs_l s s64
    rw [hms] at hl
    obtain rfl : s = 0 := (pB_0 s s64).mp hl.symm
    simp only [List.length_nil, Nat.add_zero] at hp
    obtain ⟨σ1, e1, f1, b1⟩ := kep_d (v := sum) (p := pre.length) (by omega) (by omega) hp c.1 c.2.1 c.2.2.2
    refine ⟨σ1, ?_, f1, b1⟩
    rw [cod_u]
    unfold f_Search_goOnColds
    rw [if_pos (show nI 0 = 0 from rfl), e1, zbd_s]
  | l :: ls, N, s, sum, pre, B, S, σ, hN, hs, hms, hp, hsum, hS, f, c => by
    have hm := w.1.1
    obtain ⟨N, rfl⟩ : ∃ M, N = M + 1 := ⟨N - 1, by omega⟩
    obtain ⟨s64, sl⟩ := set_lt m (by omega) s hs
    have s0 : ¬ s = 0 := fun q => by
      rw [q, pMs_0] at hms
      cases hms
    obtain ⟨m1, m2, m3⟩ := pMs_c s s64 s0
    rw [hms] at m1
    obtain ⟨rfl, m4⟩ := List.cons.inj m1
    simp only [List.length_cons] at hN hp
    obtain ⟨σ1, e1, f1, b1⟩ := co_Cl w (l := pLw s 5 0) (S := S) hn s64 (sl _ m3 m2) m2 hS hp hsum (F_Search_goOnColds N) (fun c B σ hc f x => by
      have := co_C w hn ls N (s - 2 ^ pLw s 5 0) (sum + c) (pre ++ [c]) B _ σ (by omega) (Nat.lt_of_le_of_lt (Nat.sub_le _ _) hs) m4.symm (by simp only [List.length_append, List.length_cons, List.length_nil]; omega) (by simp only [List.length_append, List.length_cons, List.length_nil]; omega) (pBk_B cs D _ _) f x
      rw [List.length_append] at this
      exact this) 5 0 2000 B σ (by omega) (by omega) f c
    refine ⟨σ1, ?_, f1, b1⟩
    rw [cod_u]
    unfold f_Search_goOnColds
    rw [if_neg (nI_ne0 (by omega) (by omega)), if_pos (show nI pre.length < (5 : Int32) from nI_lt (b := 5) (by omega) (by omega)), show nI pre.length + (1 : Int32) = nI (pre.length + 1) from nI_add _ 1, nI_clamp (by omega), nI_clamp (by omega), zel24, zel24, zck_nI (by omega) (by omega), zck_of (zRo6 (by omega)), zck_nI (by omega) (by omega), zck_of (zRo6 (by omega)), low_e s64, zbd_s]
    exact e1
end
