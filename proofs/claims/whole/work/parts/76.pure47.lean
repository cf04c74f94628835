/-! PURE: span, the reference -/
theorem sp9_u (k60 : Int32 × Int32 × Int32 × Int32 × Int32 × Int32 × Int32 × Int32 × ZM → Option (Int32 × ZM)) (N : Nat) (a b c d e g h i j k : Int32) (σ : ZM) : F_Model_span_90 k60 (N + 1) (a, b, c, d, e, g, h, i, j, k, σ) = f_Model_span_90 k60 (F_Model_span_90 k60 N) a b c d e g h i j k σ := rfl
theorem sp6_u (N : Nat) (a b c d e g h i : Int32) (σ : ZM) : F_Model_span_60 (N + 1) (a, b, c, d, e, g, h, i, σ) = f_Model_span_60 (F_Model_span_60 N) a b c d e g h i σ := rfl
theorem sp9_l (k60 : Int32 × Int32 × Int32 × Int32 × Int32 × Int32 × Int32 × Int32 × ZM → Option (Int32 × ZM)) {l t q tens p : Nat} {wh wa : Int32} {τ : ZM} {A : Nat → Nat} (hten : tens < 1000) (hq : q ≤ 9999) (tb : ∀ x, 10 * tens ≤ x → x < 10 * tens + 10 → f_Model_takesBy (nI l) (nI t) (nI p) (nI x) τ = some (nI (A x), τ) ∧ A x ≤ 9999) :
    ∀ (d k N : Nat) (lo hi : Int32), k + d = 10 → d < N → zSp A q (10 * tens + k) lo hi → ∃ lo' hi', F_Model_span_90 k60 N (nI l, nI t, nI q, wh, lo, hi, wa, nI tens, nI p, nI k, τ) = k60 (nI l, nI t, nI q, wh, lo', hi', wa, nI (tens + 1), τ) ∧ zSp A q (10 * (tens + 1)) lo' hi' := by
  intro d
  induction d with
  | zero =>
    intro k N lo hi hk hN h
    obtain ⟨N, rfl⟩ : ∃ M, N = M + 1 := ⟨N - 1, by omega⟩
    obtain rfl : k = 10 := by omega
    refine ⟨lo, hi, ?_, by rw [show 10 * (tens + 1) = 10 * tens + 10 by omega]; exact h⟩
    rw [sp9_u]
    unfold f_Model_span_90
    rw [if_pos (show (10 : Int32) ≤ nI 10 from Int32.le_refl _), show nI tens + (1 : Int32) = nI (tens + 1) from nI_add tens 1]
  | succ d ih =>
    intro k N lo hi hk hN h
    obtain ⟨N, rfl⟩ : ∃ M, N = M + 1 := ⟨N - 1, by omega⟩
    obtain ⟨tb1, tb2⟩ := tb (10 * tens + k) (by omega) (by omega)
    rw [sp9_u]
    unfold f_Model_span_90 f_Model_span_138 f_Model_span_150
    rw [if_neg (show ¬ (10 : Int32) ≤ nI k from nI_ge (b := 10) (by omega) (by omega)), show (10 : Int32) * nI tens = nI (10 * tens) from nI_mul 10 tens, nI_add, tb1, zbd_s, show nI k + (1 : Int32) = nI (k + 1) from nI_add k 1]
    by_cases z : A (10 * tens + k) = q
    · have r := ih (k + 1) N _ _ (by omega) (by omega) (zSp_y h (show 10 * tens + k < 10000 by omega) z)
      rw [if_pos (by rw [z])]
      by_cases y : 0 ≤ lo
      · rw [if_pos y] at r
        rw [if_pos y]; exact r
      · rw [if_neg y] at r
        rw [if_neg y]; exact r
    · rw [if_neg (nI_ne z (by omega) (by omega))]
      exact ih (k + 1) N lo hi (by omega) (by omega) (zSp_n h z)
/-- the reference's readings and one taste may change -/
def zFT (t : Nat) (τ τ' : ZM) : Prop := (∀ o k, ¬ (o = 129 ∧ 9 ≤ k ∧ k ≤ 20) → ¬ (o = 130 ∧ k = t) → zI τ' o k = zI τ o k) ∧ (∀ o k, zP τ' o k = zP τ o k) ∧ (∀ o k, zL τ' o k = zL τ o k)
theorem sp6_l {m : Nat} {cs : List ZCl} {D : ZD} {σ0 τ0 : ZM} {S0 : ZS} (w : xW m cs D σ0 τ0 S0) {l t q : Nat} (hl : l < m) (ht : t < 4) (hq : q ≤ 9999) (a : Bool) : ∀ (d tens N : Nat) (lo hi : Int32) (τ : ZM), tens + d = 1000 → d < N → zFT t τ0 τ → zSp (pAx cs D S0.2 l t) q (10 * tens) lo hi →
    ∃ r τ', F_Model_span_60 N (nI l, nI t, nI q, zbI a, lo, hi, zI τ0 130 t, nI tens, τ) = some (r, τ') ∧ zSpR a (pAx cs D S0.2 l t) q r ∧ zFE τ0 τ' := by
  have hm := w.1.1
  intro d
  induction d with
  | zero =>
    intro tens N lo hi τ hd hN f h
    obtain ⟨N, rfl⟩ : ∃ M, N = M + 1 := ⟨N - 1, by omega⟩
    obtain rfl : tens = 1000 := by omega
    refine ⟨if a = true then hi else lo, zsI τ 130 t (zI τ0 130 t), ?_, zSp_R a h, ⟨fun o k n1 _ _ => ?_, f.2.1, f.2.2⟩⟩
    · rw [sp6_u]
      unfold f_Model_span_60
      rw [if_pos (show (999 : Int32) < nI 1000 by decide), zck_nI (by omega) (by omega), zif, nI_clamp (by omega)]
      cases a <;> rfl
    · rw [zI_sI]
      by_cases z : o = 130 ∧ k = t
      · rw [if_pos z, z.1, z.2]
      · rw [if_neg z, f.1 o k n1 z]
  | succ d ih =>
    intro tens N lo hi τ hd hN f h
    obtain ⟨N, rfl⟩ : ∃ M, N = M + 1 := ⟨N - 1, by omega⟩
    rw [sp6_u]
    unfold f_Model_span_60
    rw [if_neg (show ¬ (999 : Int32) < nI tens from nI_nlt (a := 999) (by omega) (by omega)), zck_nI (by omega) (by omega), nI_clamp (by omega), show (10 : Int32) * nI tens = nI (10 * tens) from nI_mul 10 tens]
    have f1 : zFT t τ0 (zsI τ 130 t (nI (10 * tens))) := ⟨fun o k n1 n2 => by rw [zI_sI, if_neg n2]; exact f.1 o k n1 n2, f.2.1, f.2.2⟩
    have fM : ∀ {τ : ZM}, zFT t τ0 τ → zFM τ0 τ := fun {τ} f => ⟨fun o k n1 _ n3 => f.1 o k n1 (by omega), f.2.1, f.2.2⟩
    have st1 := zSt_M w.1 (fM f1)
    have mo : zMo (zsI τ 130 t (nI (10 * tens))) (fun k => if k = t then 10 * tens else S0.1 k, S0.2) := by
      refine ⟨fun k hk => ?_, ?_⟩
      · show _ = nI (if k = t then 10 * tens else S0.1 k)
        rw [zI_sI]
        by_cases z : k = t
        · rw [if_pos ⟨rfl, z⟩, if_pos z]
        · rw [if_neg (by omega), if_neg z, f.1 130 k (by omega) (by omega)]; exact w.2.2.2.2.1 k hk
      · rw [zI_sI, if_neg (by omega), f.1 130 4 (by omega) (by omega)]; exact w.2.2.2.2.2
    have sb : zSB (fun k => if k = t then 10 * tens else S0.1 k, S0.2) := ⟨fun k hk => by
      show (if k = t then 10 * tens else S0.1 k) ≤ 9999
      split
      · omega
      · exact w.2.2.1.1 k hk, w.2.2.1.2⟩
    obtain ⟨τ1, e1, g1⟩ := part_m (zBk_M st1 sb mo) hl ht
    have eH : (if t = t then 10 * tens else S0.1 t) = 10 * tens := if_pos rfl
    have e1' : f_Model_partOf (nI l) (nI t) (zsI τ 130 t (nI (10 * tens))) = some (nI (pPart cs (zlq l (D.1 l) (D.2.1 l) t (10 * tens) S0.2 0)), τ1) := by
      rw [e1]
      show some (nI (pPart cs (zlq l (D.1 l) (D.2.1 l) t (if t = t then 10 * tens else S0.1 t) S0.2 0)), τ1) = _
      rw [eH]
    have f2 : zFT t τ0 τ1 := ⟨fun o k n1 n2 => (g1.1 o k n1).trans (f1.1 o k n1 n2), fun o k => (g1.2.1 o k).trans (f1.2.1 o k), fun o k => (g1.2.2 o k).trans (f1.2.2 o k)⟩
    have st2 := zSt_M w.1 (fM f2)
    obtain ⟨hb, -, hg, -⟩ := w.1.2.2.2
    have ple := pPart_le hg hb.1 (zlq l (D.1 l) (D.2.1 l) t (10 * tens) S0.2 0)
    rw [e1', zbd_s]
    obtain ⟨lo', hi', e3, s3⟩ := sp9_l (F_Model_span_60 N) (l := l) (t := t) (q := q) (tens := tens) (p := pPart cs (zlq l (D.1 l) (D.2.1 l) t (10 * tens) S0.2 0)) (wh := zbI a) (wa := zI τ0 130 t) (τ := τ1) (A := pAx cs D S0.2 l t) (by omega) hq (fun x h1 h2 => by
      obtain ⟨q1, -, q2⟩ := amount_e (i := l) (t := t) (p := pPart cs (zlq l (D.1 l) (D.2.1 l) t (10 * tens) S0.2 0)) (d := x) (by omega) ht (st2.2.2.1 l hl) ple (by omega)
      have ex : x / 10 = tens := by omega
      unfold pAx
      rw [ex]
      exact ⟨q2, by omega⟩) 10 0 2000 lo hi (by omega) (by omega) h
    rw [show (0 : Int32) = nI 0 from rfl, e3]
    exact ih (tens + 1) N lo' hi' τ1 (by omega) (by omega) f2 s3
theorem op_span {σ τ : ZM} (h : zRel σ τ) (x1 x2 x3 x4 : Int32) : zOK (f_BB_span x1 x2 x3 x4 σ) (f_Model_span x1 x2 x3 x4 τ) := by
  obtain ⟨m, n, cs, D, S, hs, w⟩ := zRel_W h
  obtain ⟨hm, m1, m2⟩ := zmany hs
  unfold f_BB_span f_Model_span
  simp only [Bloaf_e (show m < 2 ^ 31 by omega) m1, Mloaf_e (show m < 2 ^ 31 by omega) m2, Btaste_e, Mtaste_e, zbd_s, zif, isInM_e (M := 1) x4 1 rfl (by omega), isInM_e (M := 9999) x3 9999 rfl (by omega), zrng (M := 1) 1 rfl (by omega), zrng (M := 9999) 9999 rfl (by omega)]
  cases hz : zin x1 m with
  | false => exact zOK_s h
  | true =>
    obtain ⟨l, hl, hl2, rfl⟩ := zin_t hz
    rw [if_pos rfl, if_pos rfl]
    cases hy : zin x2 4 with
    | false => exact zOK_s h
    | true =>
      obtain ⟨t, ht, ht2, rfl⟩ := zin_t hy
      rw [if_pos rfl, if_pos rfl]
      cases hx : zin x4 (1 + 1) with
      | false => exact zOK_s h
      | true =>
        obtain ⟨p, hp, hp2, rfl⟩ := zin_t hx
        rw [if_pos rfl, if_pos rfl]
        cases hv : zin x3 (9999 + 1) with
        | false => exact zOK_s h
        | true =>
          obtain ⟨q, hq, hq2, rfl⟩ := zin_t hv
          rw [if_pos rfl, if_pos rfl, zck_nI (show l < 6 by omega) (by omega), nI_clamp (by omega), zel25, zck_of (zRl (by omega)), zck_nI (show t < 92 by omega) (by omega), nI_clamp (by omega)]
          have main : ∀ a : Bool, zOK (f_BB_span_68 (zbI a) (nI q) (nI t) (51 + l) σ) (F_Model_span_60 2000 (nI l, nI t, nI q, zbI a, -5, -5, zI τ 130 t, 0, τ)) := by
            intro a
            obtain ⟨r, σ1, e1, s1, f1⟩ := hby_l w hl ht (show q ≤ 9999 by omega) a 101 0 2000 σ (by omega) (by omega) (zLt_r σ) (fun y hy hc => by
              cases a with
              | true =>
                rw [if_pos rfl] at hc
                obtain ⟨B, hB, -⟩ := hc
                omega
              | false =>
                rw [if_neg (by decide)] at hc
                obtain ⟨B, hB, -⟩ := hc
                omega)
            obtain ⟨r', τ1, e2, s2, f2⟩ := sp6_l w hl ht (show q ≤ 9999 by omega) a 1000 0 2000 (-5) (-5) τ (by omega) (by omega) ⟨fun _ _ _ _ => rfl, fun _ _ => rfl, fun _ _ => rfl⟩ (Or.inl ⟨rfl, rfl, fun x hx => by omega⟩)
            obtain rfl := zSpR_u s1 s2
            unfold f_BB_span_68 f_Asker_heldBy
            rw [zck_of (zRl (by omega))]
            refine zOK_F h ?_ e2 (zFK_L f1) (zFN_E f2)
            exact (congrArg (fun q => zbd q fun v1 s2 => some (v1, s2)) e1).trans rfl
          have : p = 0 ∨ p = 1 := by omega
          rcases this with rfl | rfl
          · rw [if_neg (show ¬ nI 0 = (1 : Int32) by decide)]; exact main false
          · rw [if_pos (show nI 1 = (1 : Int32) from rfl)]; exact main true
