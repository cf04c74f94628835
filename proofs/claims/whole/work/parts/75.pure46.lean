/-! PURE: span -/
theorem part_f {m i t d o : Nat} {cs : List ZCl} {D : ZD} {σ τ : ZM} (st : zSt m cs D σ τ) (hi : i < m) : ∃ σ', f_Baker_partOf (51 + i) (nI t) (nI d) (nI o) σ = some (nI (pPart cs (zlq i (D.1 i) (D.2.1 i) t d o 0)), σ') ∧ zLt σ σ' := by
  obtain ⟨hm, m2, lf, ⟨hb, ⟨j, hj, ej⟩, hg, -⟩⟩ := st
  obtain ⟨σ', e2, f1, f2, f3, f4⟩ := look_e (a := 0) (d := 0) (i7 := j) (i := i) (l := i) (x2 := nI t) (x3 := nI d / 10) (x4 := nI o) (σ := σ) hj (zRl (by omega)) (lf i hi).n0 (by omega)
  have fr : zLt σ σ' := ⟨fun o k n => f1 o k (by omega), f2, f3⟩
  rw [ej] at hb
  unfold f_Baker_partOf pPart
  rw [zck_of (zRl (by omega)), ej, zck_of (zRkn hj), zck_of (zRkn hj), hb.2.2.1]
  have c10 := zcnt_le cs
  have h10 := hb.1
  by_cases q : zcnt cs = 0
  · rw [q, if_pos (show nI 0 = 0 from rfl), if_pos (show (0 : Nat) = 0 from rfl)]
    exact ⟨_, rfl, zLt_r _⟩
  · have q' : ¬ nI (zcnt cs) = 0 := nI_ne0 (by omega) (by omega)
    have hb2 : zKB σ' (87 + j) cs := zKB_c hb (fun k => f1 _ _ (by omega)) (fun k => f1 _ _ (by omega)) (fun k => f1 _ _ (by omega)) (fun k => f1 _ _ (by omega)) (fun k => f1 _ _ (by omega))
    rw [if_neg q', if_neg q, e2, zbd_s, f2, ej, zck_of (zRkn hj), show (0 : Int32) = nI 0 from rfl, sum_e (lam := zlq i (D.1 i) (D.2.1 i) t d o 0) hj hb2 hg (by decide) (by decide) (fun li hli => by
      rw [f4 li hli]
      unfold zlq
      rw [(lf i hi).k1, (lf i hi).v1]
      rfl), zbd_s]
    exact ⟨_, rfl, fr⟩
theorem rea_u (N L : Nat) (a b c d e : Int32) (σ : ZM) : F_Asker_reaching_10 (N + 1) (L, a, b, c, d, e, σ) = f_Asker_reaching_10 (F_Asker_reaching_10 N) L a b c d e σ := rfl
theorem rea_l {L t p q low high : Nat} {σ : ZM} {A : Nat → Nat} (am : ∀ x, x ≤ 9999 → f_Baker_amount L (nI t) (nI p) (nI x) σ = some (nI (A x), σ)) (hA : ∀ x, x ≤ 9999 → A x ≤ 9999) (mono : ∀ x y, x ≤ y → A x ≤ A y) (hh : high ≤ 9999) (hq : q ≤ 10000) :
    ∀ (n fr en N : Nat), en - fr < 2 ^ n → n < N → fr ≤ en → en ≤ high + 1 → low ≤ fr → (∀ x, low ≤ x → x < fr → A x < q) → (∀ x, en ≤ x → x ≤ high → q ≤ A x) →
    ∃ r, F_Asker_reaching_10 N (L, nI t, nI p, nI q, nI fr, nI en, σ) = some (nI r, σ) ∧ low ≤ r ∧ r ≤ high + 1 ∧ (∀ x, low ≤ x → x < r → A x < q) ∧ (∀ x, r ≤ x → x ≤ high → q ≤ A x) := by
  intro n
  induction n with
  | zero =>
    intro fr en N hn hN h1 h2 h3 h4 h5
    obtain ⟨N, rfl⟩ : ∃ M, N = M + 1 := ⟨N - 1, by omega⟩
    have e1 : (2 : Nat) ^ 0 = 1 := rfl
    obtain rfl : fr = en := by omega
    refine ⟨fr, ?_, h3, h2, h4, h5⟩
    rw [rea_u]
    unfold f_Asker_reaching_10
    rw [if_pos (nI_le (Nat.le_refl _) (by omega))]
  | succ n ih =>
    intro fr en N hn hN h1 h2 h3 h4 h5
    obtain ⟨N, rfl⟩ : ∃ M, N = M + 1 := ⟨N - 1, by omega⟩
    have e2 : (2 : Nat) ^ (n + 1) = 2 * 2 ^ n := by rw [Nat.pow_succ]; omega
    rw [e2] at hn
    generalize hP : (2 : Nat) ^ n = P at *
    rw [rea_u]
    unfold f_Asker_reaching_10 f_Asker_reaching_51
    by_cases z : en ≤ fr
    · obtain rfl : fr = en := by omega
      refine ⟨fr, ?_, h3, h2, h4, h5⟩
      rw [if_pos (nI_le (Nat.le_refl _) (by omega))]
    · have em : (nI fr + nI en) / (2 : Int32) = nI ((fr + en) / 2) := by
        rw [nI_add]; exact nI_divE (b := 2) (by omega) (by omega)
      generalize hmid : (fr + en) / 2 = mid at *
      have m1 : fr ≤ mid := by omega
      have m2 : mid < en := by omega
      have hAm := hA mid (by omega)
      rw [if_neg (nI_ge (by omega) (by omega)), em, am mid (by omega), zbd_s]
      by_cases y : A mid < q
      · rw [if_pos (nI_lt y (by omega)), show nI mid + (1 : Int32) = nI (mid + 1) from nI_add mid 1]
        exact ih (mid + 1) en N (by omega) (by omega) (by omega) h2 (by omega) (fun x hx hx2 => by
          have := mono x mid (by omega)
          omega) h5
      · rw [if_neg (nI_nlt (by omega) (by omega))]
        exact ih fr mid N (by omega) (by omega) m1 (by omega) h3 h4 (fun x hx hx2 => by
          have := mono mid x hx
          omega)
theorem rea_e {L t p q low high : Nat} {σ : ZM} {A : Nat → Nat} (hL : zR 0 129 L 16 0 = true) (am : ∀ x, x ≤ 9999 → f_Baker_amount L (nI t) (nI p) (nI x) σ = some (nI (A x), σ)) (hA : ∀ x, x ≤ 9999 → A x ≤ 9999) (mono : ∀ x y, x ≤ y → A x ≤ A y) (hl : low ≤ high) (hh : high ≤ 9999) (hq : q ≤ 10000) :
    ∃ r, f_Asker_reaching L (nI t) (nI p) (nI q) (nI low) (nI high) σ = some (nI r, σ) ∧ low ≤ r ∧ r ≤ high + 1 ∧ (∀ x, low ≤ x → x < r → A x < q) ∧ (∀ x, r ≤ x → x ≤ high → q ≤ A x) := by
  obtain ⟨r, a, b⟩ := rea_l (low := low) am hA mono hh hq 14 low (high + 1) 2000 (by have : (2 : Nat) ^ 14 = 16384 := rfl; omega) (by omega) (by omega) (Nat.le_refl _) (Nat.le_refl _) (fun x h1 h2 => by omega) (fun x h1 h2 => by omega)
  refine ⟨r, ?_, b⟩
  unfold f_Asker_reaching
  rw [zck_of hL, show nI high + (1 : Int32) = nI (high + 1) from nI_add high 1]
  exact a
theorem blk_C {m i t q low high o : Nat} {cs : List ZCl} {D : ZD} {σ τ : ZM} (st : zSt m cs D σ τ) (ho : zI σ 33 1 = nI o) (hi : i < m) (ht : t < 4) (hl : low ≤ high) (hh : high ≤ 9999) (hq : q ≤ 9999) (hp : ∀ x, low ≤ x → x ≤ high → pPart cs (zlq i (D.1 i) (D.2.1 i) t (10 * (x / 10)) o 0) = pPart cs (zlq i (D.1 i) (D.2.1 i) t low o 0)) (a : Bool) (k3 : Nat × Int32 × Int32 × Int32 × Int32 × ZM → Option (Int32 × ZM)) (x5 : Int32) :
    ∃ σ', zLt σ σ' ∧ ((∃ x, low ≤ x ∧ x ≤ high ∧ pAx cs D o i t x = q ∧ (∀ y, low ≤ y → y ≤ high → (if a = true then x < y else y < x) → pAx cs D o i t y ≠ q) ∧ f_Asker_heldBy_52 k3 (51 + i) (nI t) (nI q) (zbI a) x5 (nI low) (nI high) σ = some (nI x, σ')) ∨
      ((∀ y, low ≤ y → y ≤ high → pAx cs D o i t y ≠ q) ∧ f_Asker_heldBy_52 k3 (51 + i) (nI t) (nI q) (zbI a) x5 (nI low) (nI high) σ = k3 (51 + i, nI t, nI q, zbI a, x5 + 1, σ'))) := by
  have hm := st.1
  obtain ⟨σ', e1, f1⟩ := part_f (t := t) (d := low) (o := o) st hi
  have st' := zSt_C st (X := 33) (by omega) (zFC_L f1)
  obtain ⟨hb, -, hg, -⟩ := st.2.2.2
  have ple := pPart_le hg hb.1 (zlq i (D.1 i) (D.2.1 i) t low o 0)
  have eA : ∀ x, low ≤ x → x ≤ high → pAx cs D o i t x = pAm (D.1 i) (D.2.1 i) (D.2.2.2 i t) (pPart cs (zlq i (D.1 i) (D.2.1 i) t low o 0)) x := fun x h1 h2 => by
    unfold pAx
    rw [hp x h1 h2]
  generalize pPart cs (zlq i (D.1 i) (D.2.1 i) t low o 0) = p at *
  have am : ∀ x, x ≤ 9999 → f_Baker_amount (51 + i) (nI t) (nI p) (nI x) σ' = some (nI (pAm (D.1 i) (D.2.1 i) (D.2.2.2 i t) p x), σ') := fun x hx => (amount_e (show i < 6 by omega) ht (st'.2.2.1 i hi) ple hx).2.1
  have hA : ∀ x, x ≤ 9999 → pAm (D.1 i) (D.2.1 i) (D.2.2.2 i t) p x ≤ 9999 := fun x hx => Nat.le_trans (amount_e (show i < 6 by omega) ht (st'.2.2.1 i hi) ple hx).1 hx
  have mono := fun x y h => pAm_mono (D.1 i) (D.2.1 i) (D.2.2.2 i t) p (x := x) (y := y) h
  generalize hAd : pAm (D.1 i) (D.2.1 i) (D.2.2.2 i t) p = A at *
  obtain ⟨r, e2, r1, r2, r3, r4⟩ := rea_e (q := q) (zRl (show i < 12 by omega)) am hA mono hl hh (by omega)
  refine ⟨σ', f1, ?_⟩
  unfold f_Asker_heldBy_52 f_Asker_heldBy_138
  rw [ho, e1, zbd_s, e2, zbd_s]
  by_cases z : high < r
  · right
    refine ⟨fun y h1 h2 => ?_, ?_⟩
    · rw [eA y h1 h2]
      have := r3 y h1 (by omega)
      omega
    · rw [if_pos (nI_lt z (by omega))]
  · have hAr := hA r (by omega)
    rw [if_neg (nI_nlt (by omega) (by omega)), am r (by omega), zbd_s]
    by_cases y : A r = q
    · left
      rw [if_pos (by rw [y]), zif]
      cases a with
      | false =>
        refine ⟨r, r1, by omega, by rw [eA r r1 (by omega)]; exact y, fun x h1 h2 h3 => ?_, by rw [if_neg (by decide)]⟩
        rw [if_neg (by decide)] at h3
        rw [eA x h1 h2]
        have := r3 x h1 h3
        omega
      | true =>
        obtain ⟨s, e3, s1, s2, s3, s4⟩ := rea_e (q := q + 1) (zRl (show i < 12 by omega)) am hA mono hl hh (by omega)
        have hs : r < s := by
          by_cases c : r < s
          · exact c
          · have := s4 r (by omega) (by omega)
            omega
        have hA1 : A (s - 1) = q := by
          have b1 := s3 (s - 1) (by omega) (by omega)
          have b2 := mono r (s - 1) (by omega)
          omega
        refine ⟨s - 1, by omega, by omega, by rw [eA (s - 1) (by omega) (by omega)]; exact hA1, fun x h1 h2 h3 => ?_, ?_⟩
        · rw [if_pos rfl] at h3
          rw [eA x h1 h2]
          have := s4 x (by omega) h2
          omega
        · rw [if_pos rfl, show nI q + (1 : Int32) = nI (q + 1) from nI_add q 1, e3, zbd_s, show nI s - (1 : Int32) = nI (s - 1) from nI_subE (b := 1) (by omega)]
    · right
      refine ⟨fun x h1 h2 => ?_, ?_⟩
      · rw [eA x h1 h2]
        by_cases c : x < r
        · have := r3 x h1 c
          omega
        · have b1 := r4 r (Nat.le_refl _) (by omega)
          have b2 := mono r x (by omega)
          omega
      · rw [if_neg (nI_ne y (by omega) (by omega))]
theorem hby_u (N L : Nat) (a b c d : Int32) (σ : ZM) : F_Asker_heldBy_3 (N + 1) (L, a, b, c, d, σ) = f_Asker_heldBy_3 (F_Asker_heldBy_3 N) L a b c d σ := rfl
/-- where the block B ends -/
def pEn (B : Nat) : Nat := if B < 100 then 10 * B + 9 else 9999
section
variable {m : Nat} {cs : List ZCl} {D : ZD} {σ0 τ0 : ZM} {S0 : ZS}
theorem hby_l (w : xW m cs D σ0 τ0 S0) {i t q : Nat} (hi : i < m) (ht : t < 4) (hq : q ≤ 9999) (a : Bool) : ∀ (d j N : Nat) (σ : ZM), j + d = 101 → d < N → zLt σ0 σ → (∀ y, y < 10000 → (if a = true then ∃ B, B < j ∧ 10 * (100 - B) ≤ y ∧ y ≤ pEn (100 - B) else ∃ B, B < j ∧ 10 * B ≤ y ∧ y ≤ pEn B) → pAx cs D S0.2 i t y ≠ q) →
    ∃ r σ', F_Asker_heldBy_3 N (51 + i, nI t, nI q, zbI a, nI j, σ) = some (r, σ') ∧ zSpR a (pAx cs D S0.2 i t) q r ∧ zLt σ0 σ' := by
  have hm := w.1.1
  have hS := w.2.2.1.2
  intro d
  induction d with
  | zero =>
    intro j N σ hj hN f h
    obtain ⟨N, rfl⟩ : ∃ M, N = M + 1 := ⟨N - 1, by omega⟩
    obtain rfl : j = 101 := by omega
    refine ⟨-5, σ, ?_, Or.inl ⟨rfl, fun x hx => h x hx ?_⟩, f⟩
    · rw [hby_u]
      unfold f_Asker_heldBy_3
      rw [if_pos (show (100 : Int32) < nI 101 by decide)]
    · cases a with
      | true =>
        rw [if_pos rfl]
        by_cases z : x < 1000
        · refine ⟨100 - x / 10, by omega, by omega, ?_⟩
          unfold pEn
          rw [if_pos (by omega)]; omega
        · refine ⟨0, by omega, by omega, ?_⟩
          unfold pEn
          rw [if_neg (by omega)]; omega
      | false =>
        rw [if_neg (by decide)]
        by_cases z : x < 1000
        · refine ⟨x / 10, by omega, by omega, ?_⟩
          unfold pEn
          rw [if_pos (by omega)]; omega
        · refine ⟨100, by omega, by omega, ?_⟩
          unfold pEn
          rw [if_neg (by omega)]; omega
  | succ d ih =>
    intro j N σ hj hN f h
    obtain ⟨N, rfl⟩ : ∃ M, N = M + 1 := ⟨N - 1, by omega⟩
    have st := zSt_C w.1 (X := 33) (by omega) (zFC_L f)
    have ho : zI σ 33 1 = nI S0.2 := by rw [f.1 _ _ (by omega)]; exact w.2.2.2.1.2
    have hg := w.1.2.2.2.2.2.1
    have main : ∀ B, B ≤ 100 → B = (if a = true then 100 - j else j) → ∃ r σ', f_Asker_heldBy_25 (F_Asker_heldBy_3 N) (51 + i) (nI t) (nI q) (zbI a) (nI j) (nI B) σ = some (r, σ') ∧ zSpR a (pAx cs D S0.2 i t) q r ∧ zLt σ0 σ' := by
      intro B hB eB
      have e25 : f_Asker_heldBy_25 (F_Asker_heldBy_3 N) (51 + i) (nI t) (nI q) (zbI a) (nI j) (nI B) σ = f_Asker_heldBy_52 (F_Asker_heldBy_3 N) (51 + i) (nI t) (nI q) (zbI a) (nI j) (nI (10 * B)) (nI (pEn B)) σ := by
        unfold f_Asker_heldBy_25 pEn
        rw [show nI B * (10 : Int32) = nI (10 * B) by rw [show nI B * (10 : Int32) = nI (B * 10) from nI_mul B 10, Nat.mul_comm]]
        by_cases z : B < 100
        · rw [if_neg (show ¬ nI B = (100 : Int32) from nI_ne (b := 100) (by omega) (by omega) (by omega)), if_pos z, show nI (10 * B) + (9 : Int32) = nI (10 * B + 9) from nI_add (10 * B) 9]
        · obtain rfl : B = 100 := by omega
          rw [if_pos (show nI 100 = (100 : Int32) from rfl), if_neg z]; rfl
      have hen : 10 * B ≤ pEn B ∧ pEn B ≤ 9999 := by
        unfold pEn
        split <;> omega
      have hcov : ∀ x, 10 * B ≤ x → x ≤ pEn B → pPart cs (zlq i (D.1 i) (D.2.1 i) t (10 * (x / 10)) S0.2 0) = pPart cs (zlq i (D.1 i) (D.2.1 i) t (10 * B) S0.2 0) := by
        intro x h1 h2
        unfold pEn at h2
        by_cases z : B < 100
        · rw [if_pos z] at h2
          rw [show x / 10 = B by omega]
        · rw [if_neg z] at h2
          exact pPart_far hg (by omega) (by omega)
      obtain ⟨σ1, f1, hr⟩ := blk_C (q := q) st ho hi ht hen.1 hen.2 hq hcov a (F_Asker_heldBy_3 N) (nI j)
      rw [e25]
      rcases hr with ⟨x, x1, x2, x3, x4, e⟩ | ⟨x4, e⟩
      · refine ⟨nI x, σ1, e, Or.inr ⟨x, rfl, by omega, x3, fun y hy hxy => ?_⟩, zLt_t f f1⟩
        by_cases c : 10 * B ≤ y ∧ y ≤ pEn B
        · exact x4 y c.1 c.2 hxy
        · refine h y hy ?_
          cases a with
          | true =>
            rw [if_pos rfl] at hxy eB
            rw [if_pos rfl]
            have hB1 : pEn B < y := by omega
            have hB2 : B < 100 := by
              unfold pEn at hB1
              by_cases g : B < 100
              · exact g
              · rw [if_neg g] at hB1; omega
            unfold pEn at hB1
            rw [if_pos hB2] at hB1
            by_cases z : y < 1000
            · refine ⟨100 - y / 10, by omega, by omega, ?_⟩
              unfold pEn
              rw [if_pos (by omega)]; omega
            · refine ⟨0, by omega, by omega, ?_⟩
              unfold pEn
              rw [if_neg (by omega)]; omega
          | false =>
            rw [if_neg (by decide)] at hxy eB
            rw [if_neg (by decide)]
            refine ⟨y / 10, by omega, by omega, ?_⟩
            unfold pEn
            rw [if_pos (by omega)]; omega
      · rw [e, show nI j + (1 : Int32) = nI (j + 1) from nI_add j 1]
        refine ih (j + 1) N σ1 (by omega) (by omega) (zLt_t f f1) (fun y hy hc => ?_)
        cases a with
        | true =>
          rw [if_pos rfl] at hc eB
          obtain ⟨B', c1, c2, c3⟩ := hc
          by_cases z : B' < j
          · exact h y hy (by rw [if_pos rfl]; exact ⟨B', z, c2, c3⟩)
          · obtain rfl : B' = j := by omega
            rw [← eB] at c2 c3
            exact x4 y c2 c3
        | false =>
          rw [if_neg (by decide)] at hc eB
          obtain ⟨B', c1, c2, c3⟩ := hc
          by_cases z : B' < j
          · exact h y hy (by rw [if_neg (by decide)]; exact ⟨B', z, c2, c3⟩)
          · obtain rfl : B' = j := by omega
            rw [← eB] at c2 c3
            exact x4 y c2 c3
    rw [hby_u]
    unfold f_Asker_heldBy_3
    rw [if_neg (show ¬ (100 : Int32) < nI j from nI_nlt (a := 100) (by omega) (by omega)), zif]
    cases a with
    | true =>
      rw [if_pos rfl, show (100 : Int32) - nI j = nI (100 - j) from nI_subE (a := 100) (by omega)]
      exact main (100 - j) (by omega) (by rw [if_pos rfl])
    | false =>
      rw [if_neg (by decide)]
      exact main j (by omega) (by rw [if_neg (by decide)])
end
