/-! PURE: states: the tastes and the hour, and what both do to them -/
abbrev ZS : Type := (Nat → Nat) × Nat
def zSB (S : ZS) : Prop := (∀ t, t < 4 → S.1 t ≤ 9999) ∧ S.2 ≤ 9999
/-- the loaves and the kiln that holds, as both know them -/
def zSt (m : Nat) (cs : List ZCl) (D : ZD) (σ τ : ZM) : Prop := (m ≤ 6) ∧ (zI τ 130 5 = nI m) ∧ (∀ i, i < m → zLf i σ τ (D.1 i) (D.2.1 i) (D.2.2.1 i) (D.2.2.2 i)) ∧ (zHd σ τ cs)
/-- the class's oven X, the reference's row -/
def zCo (X : Nat) (σ : ZM) (S : ZS) : Prop := (∀ t, t < 4 → zI σ (X + 9) t = nI (S.1 t)) ∧ zI σ X 1 = nI S.2
def zMo (τ : ZM) (S : ZS) : Prop := (∀ t, t < 4 → zI τ 130 t = nI (S.1 t)) ∧ zI τ 130 4 = nI S.2
def zFC (X : Nat) (σ σ' : ZM) : Prop := (∀ o k, ¬ (122 ≤ o ∧ o ≤ 128) → ¬ (o = X ∧ k = 1) → ¬ (o = X + 9 ∧ k < 4) → zI σ' o k = zI σ o k) ∧ (∀ o k, zP σ' o k = zP σ o k) ∧ (∀ o k, zL σ' o k = zL σ o k)
def zFM (τ τ' : ZM) : Prop := (∀ o k, ¬ (o = 129 ∧ 9 ≤ k ∧ k ≤ 20) → ¬ o = 136 → ¬ (o = 130 ∧ k < 5) → zI τ' o k = zI τ o k) ∧ (∀ o k, zP τ' o k = zP τ o k) ∧ (∀ o k, zL τ' o k = zL τ o k)
theorem zFC_r (X : Nat) (σ : ZM) : zFC X σ σ := ⟨fun _ _ _ _ _ => rfl, fun _ _ => rfl, fun _ _ => rfl⟩
theorem zFC_t {X : Nat} {a b c : ZM} (h : zFC X a b) (h2 : zFC X b c) : zFC X a c := ⟨fun o k n1 n2 n3 => (h2.1 o k n1 n2 n3).trans (h.1 o k n1 n2 n3), fun o k => (h2.2.1 o k).trans (h.2.1 o k), fun o k => (h2.2.2 o k).trans (h.2.2 o k)⟩
theorem zFC_L {X : Nat} {a b : ZM} (h : zLt a b) : zFC X a b := ⟨fun o k n1 _ _ => h.1 o k n1, h.2.1, h.2.2⟩
theorem zFM_r (τ : ZM) : zFM τ τ := ⟨fun _ _ _ _ _ => rfl, fun _ _ => rfl, fun _ _ => rfl⟩
theorem zFM_t {a b c : ZM} (h : zFM a b) (h2 : zFM b c) : zFM a c := ⟨fun o k n1 n2 n3 => (h2.1 o k n1 n2 n3).trans (h.1 o k n1 n2 n3), fun o k => (h2.2.1 o k).trans (h.2.1 o k), fun o k => (h2.2.2 o k).trans (h.2.2 o k)⟩
theorem zFM_H {a b : ZM} (h : zMH a b) : zFM a b := ⟨fun o k n1 _ _ => h.1 o k n1, h.2.1, h.2.2⟩
theorem zSt_c {m : Nat} {cs : List ZCl} {D : ZD} {σ σ' τ τ' : ZM} (h : zSt m cs D σ τ) (hσ : ∀ o k, 51 ≤ o → o < 122 → zI σ' o k = zI σ o k) (hP : ∀ o k, zP σ' o k = zP σ o k) (h1 : ∀ k, 5 ≤ k → zI τ' 130 k = zI τ 130 k) (h4 : ∀ k, zI τ' 134 k = zI τ 134 k) (h5 : ∀ k, zI τ' 135 k = zI τ 135 k) : zSt m cs D σ' τ' := by
  obtain ⟨hm, m2, lf, hd⟩ := h
  exact ⟨hm, by rw [h1 _ (by omega)]; exact m2, fun i hi => zLf_c (by omega) (lf i hi) (fun o j q => hσ _ _ (by omega) (by omega)) (fun j _ _ => h1 _ (by omega)), zHd_c hd (fun o k z => hσ _ _ (by omega) (by omega)) (hP _ _) h4 h5 (h1 _ (by omega))⟩
theorem zSt_C {m X : Nat} {cs : List ZCl} {D : ZD} {σ σ' τ : ZM} (h : zSt m cs D σ τ) (hX : 33 ≤ X ∧ X < 42) (f : zFC X σ σ') : zSt m cs D σ' τ :=
  zSt_c h (fun o k a b => f.1 o k (by omega) (by omega) (by omega)) f.2.1 (fun _ _ => rfl) (fun _ => rfl) (fun _ => rfl)
theorem zSt_M {m : Nat} {cs : List ZCl} {D : ZD} {σ τ τ' : ZM} (h : zSt m cs D σ τ) (f : zFM τ τ') : zSt m cs D σ τ' :=
  zSt_c h (fun _ _ _ _ => rfl) (fun _ _ => rfl) (fun k q => f.1 _ _ (by omega) (by omega) (by omega)) (fun _ => f.1 _ _ (by omega) (by omega) (by omega)) (fun _ => f.1 _ _ (by omega) (by omega) (by omega))
def zMst (τ : ZM) (S : ZS) : ZM := (fun o k => if o = 130 ∧ k < 4 then nI (S.1 k) else if o = 130 ∧ k = 4 then nI S.2 else τ.1 o k, τ.2.1, τ.2.2)
theorem zMst_e (τ : ZM) (S : ZS) (o k : Nat) : zI (zMst τ S) o k = if o = 130 ∧ k < 4 then nI (S.1 k) else if o = 130 ∧ k = 4 then nI S.2 else zI τ o k := rfl
def zCst (X : Nat) (σ : ZM) (S : ZS) : ZM := (fun o k => if o = X + 9 ∧ k < 4 then nI (S.1 k) else if o = X ∧ k = 1 then nI S.2 else σ.1 o k, σ.2.1, σ.2.2)
theorem zCst_e (X : Nat) (σ : ZM) (S : ZS) (o k : Nat) : zI (zCst X σ S) o k = if o = X + 9 ∧ k < 4 then nI (S.1 k) else if o = X ∧ k = 1 then nI S.2 else zI σ o k := rfl
theorem zMst_M (τ : ZM) (S : ZS) : zFM τ (zMst τ S) := ⟨fun o k _ _ n => by rw [zMst_e, if_neg (by omega), if_neg (by omega)], fun _ _ => rfl, fun _ _ => rfl⟩
theorem zCst_C (X : Nat) (σ : ZM) (S : ZS) : zFC X σ (zCst X σ S) := ⟨fun o k _ n1 n2 => by rw [zCst_e, if_neg (by omega), if_neg (by omega)], fun _ _ => rfl, fun _ _ => rfl⟩
theorem zBk_S {m X : Nat} {cs : List ZCl} {D : ZD} {S : ZS} {σ τ : ZM} (h : zSt m cs D σ τ) (hX : 33 ≤ X ∧ X < 42) (hS : zSB S) (hc : zCo X σ S) (hr : zMo τ S) : zBk m X 0 cs σ τ D S.1 S.2 :=
  ⟨h.1, h.2.1, h.2.2.1, ⟨hX, fun t ht => ⟨hS.1 t ht, fun _ => hc.1 t ht, hr.1 t ht⟩, hS.2, hc.2, hr.2⟩, h.2.2.2⟩
theorem zBk_C {m X : Nat} {cs : List ZCl} {D : ZD} {S : ZS} {σ τ : ZM} (h : zSt m cs D σ τ) (hX : 33 ≤ X ∧ X < 42) (hS : zSB S) (hc : zCo X σ S) : zBk m X 0 cs σ (zMst τ S) D S.1 S.2 :=
  zBk_S (zSt_M h (zMst_M τ S)) hX hS hc ⟨fun t ht => by rw [zMst_e, if_pos ⟨rfl, ht⟩], by rw [zMst_e, if_neg (by omega), if_pos ⟨rfl, rfl⟩]⟩
theorem zBk_M {m : Nat} {cs : List ZCl} {D : ZD} {S : ZS} {σ τ : ZM} (h : zSt m cs D σ τ) (hS : zSB S) (hr : zMo τ S) : zBk m 35 0 cs (zCst 35 σ S) τ D S.1 S.2 :=
  zBk_S (zSt_C h (by omega) (zCst_C 35 σ S)) (by omega) hS ⟨fun t ht => by rw [zCst_e, if_pos ⟨rfl, ht⟩], by rw [zCst_e, if_neg (by omega), if_pos ⟨rfl, rfl⟩]⟩ hr
/-! a bake in numbers -/
def pNw (cs : List ZCl) (D : ZD) (H : Nat → Nat) (o i t : Nat) : Nat := min (H t - pTk cs D H o i t + pLv cs D H o i t) 9999
def pBk (cs : List ZCl) (D : ZD) (i : Nat) (S : ZS) : ZS := (pNw cs D S.1 S.2 i, min (S.2 + 1) 9999)
def pCl (cs : List ZCl) (S : ZS) : ZS := (fun t => pCo (zcold cs) (S.1 t), min (S.2 + 1) 9999)
theorem pBk_B (cs : List ZCl) (D : ZD) (i : Nat) (S : ZS) : zSB (pBk cs D i S) := ⟨fun t _ => Nat.min_le_right _ _, Nat.min_le_right _ _⟩
theorem pCl_B (cs : List ZCl) (S : ZS) : zSB (pCl cs S) := ⟨fun t _ => Nat.min_le_right _ _, Nat.min_le_right _ _⟩
theorem zBk_w {m X t o : Nat} {cs : List ZCl} {D : ZD} {H : Nat → Nat} {σ τ : ZM} (h : zBk m X t cs σ τ D H o) (v : Int32) : zBk m X (t + 1) cs (zsI σ (X + 9) t v) τ D H o := by
  obtain ⟨hm, m2, lf, ⟨hX, hH, ho, o1, o2⟩, hd⟩ := h
  have fr : ∀ o k, ¬ (o = X + 9 ∧ k = t) → zI (zsI σ (X + 9) t v) o k = zI σ o k := fun o k n => by rw [zI_sI, if_neg n]
  exact ⟨hm, m2, fun i hi => zLf_c (by omega) (lf i hi) (fun o j q => fr _ _ (by omega)) (fun j _ _ => rfl), ⟨hX, fun k hk => ⟨(hH k hk).1, fun q => by rw [fr _ _ (by omega)]; exact (hH k hk).2.1 (by omega), (hH k hk).2.2⟩, ho, by rw [fr _ _ (by omega)]; exact o1, o2⟩, zHd_c hd (fun o k z => fr _ _ (by omega)) rfl (fun _ => rfl) (fun _ => rfl) rfl⟩
theorem pSp_s (cs : List ZCl) (D : ZD) (H : Nat → Nat) (o i t n : Nat) : pSp cs D H o i t (n + 1) = if pTk cs D H o i t ≤ D.2.2.2 i t then pSp cs D H o i (t + 1) n else true := rfl
theorem bkb_u (N X Y : Nat) (a t : Int32) (σ : ZM) : F_Baker_bakeIn_5 (N + 1) (X, Y, a, t, σ) = f_Baker_bakeIn_5 (F_Baker_bakeIn_5 N) X Y a t σ := rfl
theorem bake_bl {m X o i : Nat} {cs : List ZCl} {D : ZD} {H : Nat → Nat} {τ : ZM} (hi : i < m) : ∀ (n t N : Nat) (σ : ZM) (sp : Bool), t + n = 4 → n < N → zBk m X t cs σ τ D H o →
    ∃ σ', F_Baker_bakeIn_5 N (X, 51 + i, zbI sp, nI t, σ) = some (zbI (sp || pSp cs D H o i t n), σ') ∧ (∀ q k, ¬ (122 ≤ q ∧ q ≤ 128) → zI σ' q k = if q = X ∧ k = 1 then nI (min (o + 1) 9999) else if q = X + 9 ∧ t ≤ k ∧ k < 4 then nI (pNw cs D H o i k) else zI σ q k) ∧ (∀ q k, zP σ' q k = zP σ q k) ∧ (∀ q k, zL σ' q k = zL σ q k) := by
  intro n
  induction n with
  | zero =>
    intro t N σ sp ht hN h
    obtain ⟨N, rfl⟩ : ∃ M, N = M + 1 := ⟨N - 1, by omega⟩
    obtain rfl : t = 4 := by omega
    obtain ⟨hX, hH, ho, o1, o2⟩ := h.2.2.2.1
    rw [bkb_u]
    unfold f_Baker_bakeIn_5
    rw [if_pos (show (4 : Int32) ≤ nI 4 from Int32.le_refl _), strike_e hX ho o1, zbd_s, zbl_bI, zck_t]
    refine ⟨zsI σ X 1 (nI (min (o + 1) 9999)), by cases sp <;> rfl, fun q k _ => ?_, fun _ _ => rfl, fun _ _ => rfl⟩
    rw [zI_sI]
    by_cases z : q = X ∧ k = 1
    · rw [if_pos z, if_pos z]
    · rw [if_neg z, if_neg z, if_neg (show ¬ (q = X + 9 ∧ 4 ≤ k ∧ k < 4) by omega)]
  | succ n ih =>
    intro t N σ sp ht hN h
    obtain ⟨N, rfl⟩ : ∃ M, N = M + 1 := ⟨N - 1, by omega⟩
    have ht4 : t < 4 := by omega
    obtain ⟨σ1, e1, f1⟩ := takes_b h hi ht4 (Nat.le_refl _)
    have h1 := zBk_c h f1 (zMJ_H (zMH_r τ))
    obtain ⟨σ2, e2, f2⟩ := leaves_b h1 hi ht4 (Nat.le_refl _)
    have h2 := zBk_c h1 f2 (zMJ_H (zMH_r τ))
    obtain ⟨_, -, -, tle⟩ := takes_m h hi ht4
    obtain ⟨_, -, -, lle⟩ := leaves_m h hi ht4
    obtain ⟨b1, b2, b3⟩ := (h2.2.2.1 i hi).2.2.2.2.2.2.2.2 t ht4
    obtain ⟨hX, hHH, ho, o1, o2⟩ := h2.2.2.2.1
    obtain ⟨hH, hc, -⟩ := hHH t ht4
    have hc := hc (Nat.le_refl _)
    have hm := h.1
    have key : F_Baker_bakeIn_5 (N + 1) (X, 51 + i, zbI sp, nI t, σ) = F_Baker_bakeIn_5 N (X, 51 + i, zbI (sp || !decide (pTk cs D H o i t ≤ D.2.2.2 i t)), nI (t + 1), zsI σ2 (X + 9) t (nI (pNw cs D H o i t))) := by
      rw [bkb_u]
      unfold f_Baker_bakeIn_5 f_Baker_bakeIn_73 f_Baker_bakeIn_78 pNw
      rw [if_neg (show ¬ (4 : Int32) ≤ nI t from nI_ge (b := 4) (by omega) (by omega)), e1, zbd_s, e2, zbd_s, zck_nI ht4 (by omega), zck_nI ht4 (by omega), nI_clamp (by omega), hc, nI_subE tle, nI_add, cap_b (by omega), show nI t + (1 : Int32) = nI (t + 1) from nI_add t 1]
      cases sp with
      | true => rw [if_neg (show ¬ zbI true = 0 by decide)]; rfl
      | false =>
        rw [if_pos (show zbI false = 0 from rfl), zck_nI ht4 (by omega), zI_sI, if_neg (show ¬ (51 + i + 24 = X + 9 ∧ t = t) by omega), show 51 + i + 24 = 75 + i by omega, b2]
        by_cases q : pTk cs D H o i t ≤ D.2.2.2 i t
        · rw [if_pos (nI_le q (by omega)), decide_eq_true q]; rfl
        · rw [if_neg (nI_ge (by omega) (by omega)), decide_eq_false q]; rfl
    obtain ⟨σ', a1, a2, a3, a4⟩ := ih (t + 1) N (zsI σ2 (X + 9) t (nI (pNw cs D H o i t))) (sp || !decide (pTk cs D H o i t ≤ D.2.2.2 i t)) (by omega) (by omega) (zBk_w h2 _)
    refine ⟨σ', ?_, fun q k nq => ?_, fun q k => (a3 q k).trans ((f2.2.1 q k).trans (f1.2.1 q k)), fun q k => (a4 q k).trans ((f2.2.2 q k).trans (f1.2.2 q k))⟩
    · rw [key, a1]
      rw [pSp_s]
      by_cases q : pTk cs D H o i t ≤ D.2.2.2 i t
      · rw [if_pos q, decide_eq_true q, Bool.not_true, Bool.or_false]
      · rw [if_neg q, decide_eq_false q, Bool.not_false, Bool.or_true, Bool.true_or]
    · rw [a2 q k nq, zI_sI]
      by_cases z : q = X ∧ k = 1
      · rw [if_pos z, if_pos z]
      · rw [if_neg z, if_neg z]
        by_cases w : q = X + 9 ∧ k = t
        · rw [if_neg (show ¬ (q = X + 9 ∧ t + 1 ≤ k ∧ k < 4) by omega), if_pos w, if_pos (show q = X + 9 ∧ t ≤ k ∧ k < 4 by omega), w.2]
        · by_cases y : q = X + 9 ∧ t + 1 ≤ k ∧ k < 4
          · rw [if_pos y, if_pos (show q = X + 9 ∧ t ≤ k ∧ k < 4 by omega)]
          · rw [if_neg y, if_neg w, if_neg (show ¬ (q = X + 9 ∧ t ≤ k ∧ k < 4) by omega), f2.1 q k nq, f1.1 q k nq]
theorem bake_C {m X i : Nat} {cs : List ZCl} {D : ZD} {S : ZS} {σ τ : ZM} (h : zSt m cs D σ τ) (hX : 33 ≤ X ∧ X < 42) (hS : zSB S) (hc : zCo X σ S) (hi : i < m) :
    ∃ σ', f_Baker_bakeIn X (51 + i) σ = some (zbI (pSp cs D S.1 S.2 i 0 4), σ') ∧ zFC X σ σ' ∧ zCo X σ' (pBk cs D i S) := by
  have hm := h.1
  obtain ⟨σ', a1, a2, a3, a4⟩ := bake_bl hi 4 0 2000 σ false (by omega) (by omega) (zBk_C h hX hS hc)
  refine ⟨σ', ?_, ⟨fun o k n1 n2 n3 => ?_, a3, a4⟩, fun t ht => ?_, ?_⟩
  · unfold f_Baker_bakeIn
    rw [zck_of (zRov hX), zck_of (zRl (by omega))]
    exact a1
  · rw [a2 o k n1, if_neg n2, if_neg (by omega)]
  · rw [a2 _ _ (by omega), if_neg (by omega), if_pos ⟨rfl, Nat.zero_le _, ht⟩]; rfl
  · rw [a2 _ _ (by omega), if_pos ⟨rfl, rfl⟩]; rfl
