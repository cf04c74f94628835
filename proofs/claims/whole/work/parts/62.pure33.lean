/-! PURE: states on: the reference bakes and cools -/
theorem zFM_w {τ : ZM} {o k : Nat} {v : Int32} (h : o = 136 ∨ (o = 130 ∧ k < 5)) : zFM τ (zsI τ o k v) := ⟨fun q j _ _ n => by rw [zI_sI, if_neg (by omega)], fun _ _ => rfl, fun _ _ => rfl⟩
theorem bk65_u (N : Nat) (a t : Int32) (τ : ZM) : F_Model_bakes_65 (N + 1) (a, t, τ) = f_Model_bakes_65 (F_Model_bakes_65 N) a t τ := rfl
theorem bk8_u (N : Nat) (l a t : Int32) (τ : ZM) : F_Model_bakes_8 (N + 1) (l, a, t, τ) = f_Model_bakes_8 (F_Model_bakes_8 N) l a t τ := rfl
theorem bake_m65 {o : Nat} {G : Nat → Nat} (ho : o ≤ 9999) (sp : Bool) : ∀ (n t N : Nat) (τ : ZM), t + n = 4 → n < N → zI τ 130 4 = nI o → (∀ k, k < 4 → zI τ 136 k = nI (G k)) → (∀ k, k < t → zI τ 130 k = nI (G k)) →
    ∃ τ', F_Model_bakes_65 N (zbI sp, nI t, τ) = some (zbI sp, τ') ∧ zFM τ τ' ∧ zMo τ' (G, min (o + 1) 9999) := by
  intro n
  induction n with
  | zero =>
    intro t N τ ht hN h4 hg hh
    obtain ⟨N, rfl⟩ : ∃ M, N = M + 1 := ⟨N - 1, by omega⟩
    obtain rfl : t = 4 := by omega
    rw [bk65_u]
    unfold f_Model_bakes_65
    rw [if_pos (show (4 : Int32) ≤ nI 4 from Int32.le_refl _), ages_e ho h4, zbd_s, zbl_bI, zck_t]
    refine ⟨_, rfl, zFM_w (by omega), fun t ht => ?_, ?_⟩
    · rw [zI_sI, if_neg (by omega)]; exact hh t ht
    · rw [zI_sI, if_pos ⟨rfl, rfl⟩]
  | succ n ih =>
    intro t N τ ht hN h4 hg hh
    obtain ⟨N, rfl⟩ : ∃ M, N = M + 1 := ⟨N - 1, by omega⟩
    obtain ⟨τ', a1, a2, a3⟩ := ih (t + 1) N (zsI τ 130 t (nI (G t))) (by omega) (by omega) (by rw [zI_sI, if_neg (by omega)]; exact h4) (fun k hk => by rw [zI_sI, if_neg (by omega)]; exact hg k hk) (fun k hk => by
      rw [zI_sI]
      by_cases q : k = t
      · rw [if_pos ⟨rfl, q⟩, q]
      · rw [if_neg (by omega)]; exact hh k (by omega))
    refine ⟨τ', ?_, zFM_t (zFM_w (by omega)) a2, a3⟩
    rw [bk65_u]
    unfold f_Model_bakes_65
    rw [if_neg (show ¬ (4 : Int32) ≤ nI t from nI_ge (b := 4) (by omega) (by omega)), zck_nI (by omega) (by omega), zck_nI (by omega) (by omega), nI_clamp (by omega), hg t (by omega), show nI t + (1 : Int32) = nI (t + 1) from nI_add t 1]
    exact a1
theorem bake_m8 {m X s o i : Nat} {cs : List ZCl} {D : ZD} {H : Nat → Nat} {σ : ZM} (hi : i < m) (sp : Bool) : ∀ (n t N : Nat) (τ : ZM), t + n = 4 → n < N → zBk m X s cs σ τ D H o → (∀ k, k < t → zI τ 136 k = nI (pNw cs D H o i k)) →
    ∃ τ', F_Model_bakes_8 N (nI i, zbI sp, nI t, τ) = some (zbI sp, τ') ∧ zFM τ τ' ∧ zMo τ' (pNw cs D H o i, min (o + 1) 9999) := by
  intro n
  induction n with
  | zero =>
    intro t N τ ht hN h hh
    obtain ⟨N, rfl⟩ : ∃ M, N = M + 1 := ⟨N - 1, by omega⟩
    obtain rfl : t = 4 := by omega
    obtain ⟨hX, hH, ho, o1, o2⟩ := h.2.2.2.1
    obtain ⟨τ', a1, a2, a3⟩ := bake_m65 (G := pNw cs D H o i) ho sp 4 0 2000 τ (by omega) (by omega) o2 hh (fun k hk => absurd hk (by omega))
    refine ⟨τ', ?_, a2, a3⟩
    rw [bk8_u]
    unfold f_Model_bakes_8
    rw [if_pos (show (4 : Int32) ≤ nI 4 from Int32.le_refl _)]
    exact a1
  | succ n ih =>
    intro t N τ ht hN h hh
    obtain ⟨N, rfl⟩ : ∃ M, N = M + 1 := ⟨N - 1, by omega⟩
    have ht4 : t < 4 := by omega
    obtain ⟨τ1, e1, f1, tle⟩ := takes_m h hi ht4
    have h1 := zBk_c h (zLt_r σ) (zMJ_H f1)
    obtain ⟨τ2, e2, f2, lle⟩ := leaves_m h1 hi ht4
    have hH := h.2.2.2.1.2.1 t ht4
    have key : F_Model_bakes_8 (N + 1) (nI i, zbI sp, nI t, τ) = F_Model_bakes_8 N (nI i, zbI sp, nI (t + 1), zsI τ2 136 t (nI (pNw cs D H o i t))) := by
      rw [bk8_u]
      unfold f_Model_bakes_8 f_Model_bakes_56 pNw
      rw [if_neg (show ¬ (4 : Int32) ≤ nI t from nI_ge (b := 4) (by omega) (by omega)), zck_nI (by omega) (by omega), e1, zbd_s, e2, zbd_s, nI_clamp (by omega), hH.2.2, nI_subE tle, nI_add, show nI t + (1 : Int32) = nI (t + 1) from nI_add t 1]
      by_cases q : H t - pTk cs D H o i t + pLv cs D H o i t ≤ 9999
      · rw [if_pos (show nI (H t - pTk cs D H o i t + pLv cs D H o i t) ≤ (9999 : Int32) from nI_le (b := 9999) q (by omega)), zck_nI ht4 (by omega), Nat.min_eq_left q]
      · rw [if_neg (show ¬ nI (H t - pTk cs D H o i t + pLv cs D H o i t) ≤ (9999 : Int32) from nI_ge (a := 9999) (by omega) (by omega)), zck_nI ht4 (by omega), Nat.min_eq_right (by omega)]; rfl
    have fr : zMJ τ (zsI τ2 136 t (nI (pNw cs D H o i t))) := zMJ_t (zMJ_H f1) (zMJ_t (zMJ_H f2) ⟨fun q k _ n => by rw [zI_sI, if_neg (by omega)], fun _ _ => rfl, fun _ _ => rfl⟩)
    obtain ⟨τ', a1, a2, a3⟩ := ih (t + 1) N (zsI τ2 136 t (nI (pNw cs D H o i t))) (by omega) (by omega) (zBk_c h (zLt_r σ) fr) (fun k hk => by
      rw [zI_sI]
      by_cases q : k = t
      · rw [if_pos ⟨rfl, q⟩, q]
      · rw [if_neg (by omega), f2.1 _ _ (by omega), f1.1 _ _ (by omega)]; exact hh k (by omega))
    exact ⟨τ', key.trans a1, zFM_t ⟨fun q k n1 n2 _ => fr.1 q k n1 n2, fr.2.1, fr.2.2⟩ a2, a3⟩
theorem bake_M {m i : Nat} {cs : List ZCl} {D : ZD} {S : ZS} {σ τ : ZM} (h : zSt m cs D σ τ) (hS : zSB S) (hr : zMo τ S) (hi : i < m) :
    ∃ τ', f_Model_bakes (nI i) τ = some (zbI (pSp cs D S.1 S.2 i 0 4), τ') ∧ zFM τ τ' ∧ zMo τ' (pBk cs D i S) := by
  have h0 := zBk_M h hS hr
  obtain ⟨τ1, e1, f1⟩ := spoil_m h0 hi
  obtain ⟨τ2, e2, f2, f3⟩ := bake_m8 hi (pSp cs D S.1 S.2 i 0 4) 4 0 2000 τ1 (by omega) (by omega) (zBk_c h0 (zLt_r _) (zMJ_H f1)) (fun k hk => absurd hk (by omega))
  refine ⟨τ2, ?_, zFM_t (zFM_H f1) f2, f3⟩
  unfold f_Model_bakes
  rw [e1, zbd_s]
  exact e2
theorem zcold_le0 : ∀ (cs : List ZCl) (a : Nat), a ≤ 99 → (∀ c ∈ cs, zGc c) → cs.foldl (fun a c => if c.1 = 2 then c.2.1 else a) a ≤ 99
  | [], a, h, _ => h
  | c :: cs, a, h, hg => by
    have i2 := (hg c List.mem_cons_self).2.1
    refine zcold_le0 cs _ ?_ (fun d hd => hg d (List.mem_cons_of_mem _ hd))
    show (if c.1 = 2 then c.2.1 else a) ≤ 99
    split <;> omega
theorem zcold_le {cs : List ZCl} (hg : ∀ c ∈ cs, zGc c) : zcold cs ≤ 99 := zcold_le0 cs 50 (by omega) hg
theorem cool_M {m : Nat} {cs : List ZCl} {D : ZD} {S : ZS} {σ τ : ZM} (h : zSt m cs D σ τ) (hS : zSB S) (hr : zMo τ S) :
    ∃ τ', f_Model_cools τ = some ((), τ') ∧ zFM τ τ' ∧ zMo τ' (pCl cs S) := by
  obtain ⟨hm, m2, lf, ⟨hb, ⟨j, hj, ej⟩, hg, hrd⟩⟩ := h
  obtain ⟨τ1, e1, f1, r1, r2, r3⟩ := hrd 0 0 τ (by omega) (by omega) (fun _ => rfl) (fun _ => rfl) rfl
  obtain ⟨τ', a1, a2, a3, a4⟩ := cool_l (c := zcold cs) (o := S.2) (H := S.1) (zcold_le hg) hS.1 hS.2 4 0 2000 τ1 (by omega) (by omega) (by rw [f1.1 _ _ (by omega)]; exact hr.2) (fun k _ hk => by rw [f1.1 _ _ (by omega)]; exact hr.1 k hk)
  refine ⟨τ', ?_, ⟨fun o k n1 n2 n3 => ?_, fun o k => (a3 o k).trans (f1.2.1 o k), fun o k => (a4 o k).trans (f1.2.2 o k)⟩, fun t ht => ?_, ?_⟩
  · unfold f_Model_cools
    rw [show (0 : Int32) = nI 0 from rfl, e1, zbd_s, r2]
    exact a1
  · rw [a2, if_neg (by omega), if_neg (by omega), f1.1 _ _ n1]
  · rw [a2, if_neg (by omega), if_pos ⟨rfl, Nat.zero_le _, ht⟩]; rfl
  · rw [a2, if_pos ⟨rfl, rfl⟩]; rfl
theorem chill_C {m X : Nat} {cs : List ZCl} {D : ZD} {S : ZS} {σ τ : ZM} (h : zSt m cs D σ τ) (hX : 33 ≤ X ∧ X < 42) (hS : zSB S) (hc : zCo X σ S) :
    ∃ σ', f_Baker_chill X σ = some ((), σ') ∧ zFC X σ σ' ∧ zCo X σ' (pCl cs S) := by
  obtain ⟨hm, m2, lf, ⟨hb, ⟨j, hj, ej⟩, hg, -⟩⟩ := h
  rw [ej] at hb
  obtain ⟨σ', a1, a2, a3, a4⟩ := chill_l (j := j) (c := zcold cs) (o := S.2) (H := S.1) hX hj (zcold_le hg) hS.1 hS.2 4 0 2000 σ (by omega) (by omega) ej hb.2.2.2.1 hc.2 (fun k _ hk => hc.1 k hk)
  refine ⟨σ', ?_, ⟨fun o k _ n2 n3 => ?_, a3, a4⟩, fun t ht => ?_, ?_⟩
  · unfold f_Baker_chill
    rw [zck_of (zRov hX)]
    exact a1
  · rw [a2, if_neg n2, if_neg (by omega)]
  · rw [a2, if_neg (by omega), if_pos ⟨rfl, Nat.zero_le _, ht⟩]; rfl
  · rw [a2, if_pos ⟨rfl, rfl⟩]; rfl
theorem become_C {X Y : Nat} {S : ZS} {σ : ZM} (hX : 33 ≤ X ∧ X < 42) (hY : 33 ≤ Y ∧ Y < 42) (hXY : X ≠ Y) (hc : zCo Y σ S) : ∃ σ', f_Oven_become X Y σ = some ((), σ') ∧ zFC X σ σ' ∧ zCo X σ' S := by
  obtain ⟨σ', a1, a2, a3, a4⟩ := Obec hX hY hXY σ
  refine ⟨σ', a1, ⟨fun o k _ n2 n3 => by rw [a4, if_neg n2, if_neg n3], a3, a2⟩, fun t ht => ?_, ?_⟩
  · rw [a4, if_neg (by omega), if_pos ⟨rfl, ht⟩]; exact hc.1 t ht
  · rw [a4, if_pos ⟨rfl, rfl⟩]; exact hc.2
/-! what it takes of all -/
def pAl (cs : List ZCl) (D : ZD) (S : ZS) (i : Nat) : Nat → Nat → Nat
  | _, 0 => 0
  | t, n + 1 => pTk cs D S.1 S.2 i t + pAl cs D S i (t + 1) n
theorem tab_u (N X Y : Nat) (a t : Int32) (σ : ZM) : F_Baker_takesOfAll_5 (N + 1) (X, Y, a, t, σ) = f_Baker_takesOfAll_5 (F_Baker_takesOfAll_5 N) X Y a t σ := rfl
theorem tam_u (N : Nat) (l a t : Int32) (σ : ZM) : F_Model_allTakes_4 (N + 1) (l, a, t, σ) = f_Model_allTakes_4 (F_Model_allTakes_4 N) l a t σ := rfl
theorem tak_C {m X i t : Nat} {cs : List ZCl} {D : ZD} {S : ZS} {σ τ : ZM} (h : zSt m cs D σ τ) (hX : 33 ≤ X ∧ X < 42) (hS : zSB S) (hc : zCo X σ S) (hi : i < m) (ht : t < 4) : ∃ σ', f_Baker_takes (51 + i) (nI t) X σ = some (nI (pTk cs D S.1 S.2 i t), σ') ∧ zLt σ σ' :=
  takes_b (zBk_C h hX hS hc) hi ht (Nat.zero_le _)
theorem tak_M {m i t : Nat} {cs : List ZCl} {D : ZD} {S : ZS} {σ τ : ZM} (h : zSt m cs D σ τ) (hS : zSB S) (hr : zMo τ S) (hi : i < m) (ht : t < 4) : ∃ τ', f_Model_takesOf (nI i) (nI t) τ = some (nI (pTk cs D S.1 S.2 i t), τ') ∧ zMH τ τ' ∧ pTk cs D S.1 S.2 i t ≤ S.1 t :=
  takes_m (zBk_M h hS hr) hi ht
theorem pTk_le {m i t : Nat} {cs : List ZCl} {D : ZD} {S : ZS} {σ τ : ZM} (h : zSt m cs D σ τ) (hS : zSB S) (hi : i < m) (ht : t < 4) : pTk cs D S.1 S.2 i t ≤ 9999 := by
  obtain ⟨_, -, -, a⟩ := tak_M (zSt_M h (zMst_M τ S)) hS ⟨fun t ht => by rw [zMst_e, if_pos ⟨rfl, ht⟩], by rw [zMst_e, if_neg (by omega), if_pos ⟨rfl, rfl⟩]⟩ hi ht
  exact Nat.le_trans a (hS.1 t ht)
theorem spo_C {m X i : Nat} {cs : List ZCl} {D : ZD} {S : ZS} {σ τ : ZM} (h : zSt m cs D σ τ) (hX : 33 ≤ X ∧ X < 42) (hS : zSB S) (hc : zCo X σ S) (hi : i < m) : ∃ σ', f_Baker_spoils (51 + i) X σ = some (zbI (pSp cs D S.1 S.2 i 0 4), σ') ∧ zLt σ σ' :=
  spoil_b (zBk_C h hX hS hc) hi
theorem spo_M {m i : Nat} {cs : List ZCl} {D : ZD} {S : ZS} {σ τ : ZM} (h : zSt m cs D σ τ) (hS : zSB S) (hr : zMo τ S) (hi : i < m) : ∃ τ', f_Model_isSpoiled (nI i) τ = some (zbI (pSp cs D S.1 S.2 i 0 4), τ') ∧ zMH τ τ' :=
  spoil_m (zBk_M h hS hr) hi
def pFe (cs : List ZCl) (D : ZD) (S : ZS) (i : Nat) : Nat := 1 + zsmB (zlq i (D.1 i) (D.2.1 i) 0 (S.1 0) S.2 1) 3 cs
theorem fee_C {m X i : Nat} {cs : List ZCl} {D : ZD} {S : ZS} {σ τ : ZM} (h : zSt m cs D σ τ) (hX : 33 ≤ X ∧ X < 42) (hS : zSB S) (hc : zCo X σ S) (hi : i < m) : ∃ σ', f_Baker_feeOf (51 + i) (nI S.2) σ = some (nI (pFe cs D S i), σ') ∧ zLt σ σ' :=
  fee_b (zBk_C h hX hS hc) hi
theorem fee_M {m i : Nat} {cs : List ZCl} {D : ZD} {S : ZS} {σ τ : ZM} (h : zSt m cs D σ τ) (hS : zSB S) (hr : zMo τ S) (hi : i < m) : ∃ τ', f_Model_feeOf (nI i) τ = some (nI (pFe cs D S i), τ') ∧ zMH τ τ' :=
  fee_m (zBk_M h hS hr) hi
theorem zLt_Co {X : Nat} {S : ZS} {σ σ' : ZM} (hX : 33 ≤ X ∧ X < 42) (f : zLt σ σ') (h : zCo X σ S) : zCo X σ' S := ⟨fun t ht => by rw [f.1 _ _ (by omega)]; exact h.1 t ht, by rw [f.1 _ _ (by omega)]; exact h.2⟩
theorem zMH_Mo {S : ZS} {τ τ' : ZM} (f : zMH τ τ') (h : zMo τ S) : zMo τ' S := ⟨fun t ht => by rw [f.1 _ _ (by omega)]; exact h.1 t ht, by rw [f.1 _ _ (by omega)]; exact h.2⟩
theorem all_Cl {m X i : Nat} {cs : List ZCl} {D : ZD} {S : ZS} {τ : ZM} (hX : 33 ≤ X ∧ X < 42) (hS : zSB S) (hi : i < m) : ∀ (n t N a : Nat) (σ : ZM), t + n = 4 → n < N → zSt m cs D σ τ → zCo X σ S →
    ∃ σ', F_Baker_takesOfAll_5 N (51 + i, X, nI a, nI t, σ) = some (nI (a + pAl cs D S i t n), σ') ∧ zLt σ σ' := by
  intro n
  induction n with
  | zero =>
    intro t N a σ ht hN h hc
    obtain ⟨N, rfl⟩ : ∃ M, N = M + 1 := ⟨N - 1, by omega⟩
    obtain rfl : t = 4 := by omega
    exact ⟨_, rfl, zLt_r _⟩
  | succ n ih =>
    intro t N a σ ht hN h hc
    obtain ⟨N, rfl⟩ : ∃ M, N = M + 1 := ⟨N - 1, by omega⟩
    obtain ⟨σ1, e1, f1⟩ := tak_C h hX hS hc hi (show t < 4 by omega)
    obtain ⟨σ2, e2, f2⟩ := ih (t + 1) N (a + pTk cs D S.1 S.2 i t) σ1 (by omega) (by omega) (zSt_C h hX (zFC_L f1)) (zLt_Co hX f1 hc)
    refine ⟨σ2, ?_, zLt_t f1 f2⟩
    rw [tab_u]
    unfold f_Baker_takesOfAll_5 pAl
    rw [if_neg (show ¬ (4 : Int32) ≤ nI t from nI_ge (b := 4) (by omega) (by omega)), e1, zbd_s, nI_add, show nI t + (1 : Int32) = nI (t + 1) from nI_add t 1, e2, Nat.add_assoc]
theorem all_C {m X i : Nat} {cs : List ZCl} {D : ZD} {S : ZS} {σ τ : ZM} (h : zSt m cs D σ τ) (hX : 33 ≤ X ∧ X < 42) (hS : zSB S) (hc : zCo X σ S) (hi : i < m) : ∃ σ', f_Baker_takesOfAll (51 + i) X σ = some (nI (pAl cs D S i 0 4), σ') ∧ zLt σ σ' := by
  have hm := h.1
  obtain ⟨σ', e, f⟩ := all_Cl hX hS hi 4 0 2000 0 σ (by omega) (by omega) h hc
  rw [Nat.zero_add] at e
  refine ⟨σ', ?_, f⟩
  unfold f_Baker_takesOfAll
  rw [zck_of (zRl (by omega)), zck_of (zRov hX)]
  exact e
theorem all_Ml {m i : Nat} {cs : List ZCl} {D : ZD} {S : ZS} {σ : ZM} (hS : zSB S) (hi : i < m) : ∀ (n t N a : Nat) (τ : ZM), t + n = 4 → n < N → zSt m cs D σ τ → zMo τ S →
    ∃ τ', F_Model_allTakes_4 N (nI i, nI a, nI t, τ) = some (nI (a + pAl cs D S i t n), τ') ∧ zMH τ τ' := by
  intro n
  induction n with
  | zero =>
    intro t N a τ ht hN h hc
    obtain ⟨N, rfl⟩ : ∃ M, N = M + 1 := ⟨N - 1, by omega⟩
    obtain rfl : t = 4 := by omega
    exact ⟨_, rfl, zMH_r _⟩
  | succ n ih =>
    intro t N a τ ht hN h hc
    obtain ⟨N, rfl⟩ : ∃ M, N = M + 1 := ⟨N - 1, by omega⟩
    obtain ⟨τ1, e1, f1, -⟩ := tak_M h hS hc hi (show t < 4 by omega)
    obtain ⟨τ2, e2, f2⟩ := ih (t + 1) N (a + pTk cs D S.1 S.2 i t) τ1 (by omega) (by omega) (zSt_M h (zFM_H f1)) (zMH_Mo f1 hc)
    refine ⟨τ2, ?_, zMH_t f1 f2⟩
    rw [tam_u]
    unfold f_Model_allTakes_4 pAl
    rw [if_neg (show ¬ (4 : Int32) ≤ nI t from nI_ge (b := 4) (by omega) (by omega)), e1, zbd_s, nI_add, show nI t + (1 : Int32) = nI (t + 1) from nI_add t 1, e2, Nat.add_assoc]
theorem all_M {m i : Nat} {cs : List ZCl} {D : ZD} {S : ZS} {σ τ : ZM} (h : zSt m cs D σ τ) (hS : zSB S) (hr : zMo τ S) (hi : i < m) : ∃ τ', f_Model_allTakes (nI i) τ = some (nI (pAl cs D S i 0 4), τ') ∧ zMH τ τ' := by
  obtain ⟨τ', e, f⟩ := all_Ml hS hi 4 0 2000 0 τ (by omega) (by omega) h hr
  rw [Nat.zero_add] at e
  exact ⟨τ', e, f⟩
theorem pAl_le {m i : Nat} {cs : List ZCl} {D : ZD} {S : ZS} {σ τ : ZM} (h : zSt m cs D σ τ) (hS : zSB S) (hi : i < m) : pAl cs D S i 0 4 ≤ 39996 := by
  have a := pTk_le h hS hi (show 0 < 4 by omega)
  have b := pTk_le h hS hi (show 1 < 4 by omega)
  have c := pTk_le h hS hi (show 2 < 4 by omega)
  have d := pTk_le h hS hi (show 3 < 4 by omega)
  show pTk cs D S.1 S.2 i 0 + (pTk cs D S.1 S.2 i 1 + (pTk cs D S.1 S.2 i 2 + (pTk cs D S.1 S.2 i 3 + 0))) ≤ 39996
  omega
