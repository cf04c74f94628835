/-! PURE: the reference reads the grammar -/
def ztv (lam : Nat → Int32) (s : Int32) : Bool := decide (if (s >>> ((7 : Int32) &&& 31)) &&& 3 = 0 then lam (s >>> ((9 : Int32) &&& 31)).toNatClampNeg < s &&& 127 else if (s >>> ((7 : Int32) &&& 31)) &&& 3 = 1 then lam (s >>> ((9 : Int32) &&& 31)).toNatClampNeg = s &&& 127 else s &&& 127 < lam (s >>> ((9 : Int32) &&& 31)).toNatClampNeg)
def zbs (lam : Nat → Int32) (st : List Bool) (s : Int32) : List Bool :=
  if s = -1 then (match st with
    | b :: r => (!b) :: r
    | [] => []) else if s = -2 then (match st with
    | b :: c :: r => (b && c) :: r
    | _ => []) else if s = -3 then (match st with
    | b :: c :: r => (b || c) :: r
    | _ => []) else ztv lam s :: st
theorem tst_u (li sg nu : Nat) (h1 : li < 6) (h2 : sg < 3) (h3 : nu < 100) : (nI (512 * li + 128 * sg + nu) >>> ((7 : Int32) &&& 31)) &&& 3 = nI sg ∧ (nI (512 * li + 128 * sg + nu) >>> ((9 : Int32) &&& 31)).toNatClampNeg = li ∧ nI (512 * li + 128 * sg + nu) &&& 127 = nI nu :=
  (by decide +kernel : ∀ li, li < 6 → ∀ sg, sg < 3 → ∀ nu, nu < 100 → (nI (512 * li + 128 * sg + nu) >>> ((7 : Int32) &&& 31)) &&& 3 = nI sg ∧ (nI (512 * li + 128 * sg + nu) >>> ((9 : Int32) &&& 31)).toNatClampNeg = li ∧ nI (512 * li + 128 * sg + nu) &&& 127 = nI nu) li h1 sg h2 nu h3
theorem ztv_e {lam : Nat → Int32} {li sg nu : Nat} (h1 : li < 6) (h2 : sg < 3) (h3 : nu < 100) : (ztv lam (nI (512 * li + 128 * sg + nu)) = true) = (if nI sg = 0 then lam li < nI nu else if nI sg = 1 then lam li = nI nu else nI nu < lam li) := by
  obtain ⟨a, b, c⟩ := tst_u li sg nu h1 h2 h3
  unfold ztv
  rw [a, b, c, decide_eq_true_eq]
theorem zbs_t {lam : Nat → Int32} {li sg nu : Nat} (h1 : li < 6) (h2 : sg < 3) (h3 : nu < 100) (st : List Bool) : zbs lam st (nI (512 * li + 128 * sg + nu)) = ztv lam (nI (512 * li + 128 * sg + nu)) :: st := by
  obtain ⟨a, b⟩ := zst_ne h1 h2 h3
  unfold zbs
  rw [if_neg a, if_neg (fun q => b (Or.inl q)), if_neg (fun q => b (Or.inr q))]
def mlam (σ : ZM) (li : Nat) : Int32 :=
  if li = 0 then zI σ 129 12 else if li = 1 then zI σ 130 (8 + 10 * (zI σ 129 12).toNatClampNeg) else if li = 2 then (if zI σ 129 15 = 0 then zI σ 129 13 else 99) else if li = 3 then zI σ 130 (9 + 10 * (zI σ 129 12).toNatClampNeg) else
  if li = 4 then zI σ 130 4 - zI σ 130 4 / 60 * 60 else (if zI σ 129 15 = 0 then zI σ 130 (zI σ 129 13).toNatClampNeg / 10 else 99)
def zMT (T : Nat → Nat) (L : Nat) (σ : ZM) : Prop := L ≤ 100 ∧ zI σ 129 10 = nI L ∧ (∃ i, i < 6 ∧ zI σ 129 9 = nI (100 * i) ∧ ∀ k, k < L → T k < 128 ∧ zI σ 134 (100 * i + k) = nI (T k)) ∧ ∃ l t, l < 6 ∧ t < 4 ∧ zI σ 129 12 = nI l ∧ zI σ 129 13 = nI t
def zMF (σ σ' : ZM) : Prop := (∀ o k, ¬ (o = 129 ∧ (k = 11 ∨ k = 14)) → zI σ' o k = zI σ o k) ∧ (∀ o k, zP σ' o k = zP σ o k) ∧ (∀ o k, zL σ' o k = zL σ o k)
theorem zMF_r (σ : ZM) : zMF σ σ := ⟨fun _ _ _ => rfl, fun _ _ => rfl, fun _ _ => rfl⟩
theorem zMF_t {a b c : ZM} (h : zMF a b) (h2 : zMF b c) : zMF a c := ⟨fun o k n => (h2.1 o k n).trans (h.1 o k n), fun o k => (h2.2.1 o k).trans (h.2.1 o k), fun o k => (h2.2.2 o k).trans (h.2.2 o k)⟩
theorem zMF_11 (σ : ZM) (v : Int32) : zMF σ (zsI σ 129 11 v) := ⟨fun o k n => by rw [zI_sI, if_neg (by omega)], fun _ _ => rfl, fun _ _ => rfl⟩
theorem zMF_14 (σ : ZM) (v : Int32) : zMF σ (zsI σ 129 14 v) := ⟨fun o k n => by rw [zI_sI, if_neg (by omega)], fun _ _ => rfl, fun _ _ => rfl⟩
theorem zMT_F {T : Nat → Nat} {L : Nat} {σ σ' : ZM} (h : zMT T L σ) (f : zMF σ σ') : zMT T L σ' := by
  obtain ⟨a, b, ⟨i, hi, c, d⟩, l, t, hl, ht, e, g⟩ := h
  exact ⟨a, (f.1 _ _ (by omega)).trans b, ⟨i, hi, (f.1 _ _ (by omega)).trans c, fun k hk => ⟨(d k hk).1, (f.1 _ _ (by omega)).trans (d k hk).2⟩⟩, l, t, hl, ht, (f.1 _ _ (by omega)).trans e, (f.1 _ _ (by omega)).trans g⟩
theorem mlam_F {σ σ' : ZM} (f : zMF σ σ') : mlam σ' = mlam σ := by
  funext li
  unfold mlam
  rw [f.1 129 12 (by omega), f.1 129 13 (by omega), f.1 129 15 (by omega), f.1 130 _ (by omega), f.1 130 _ (by omega), f.1 130 _ (by omega), f.1 130 _ (by omega)]
theorem zmr_c {T : Nat → Nat} {L : Nat} {σ : ZM} (h : zMT T L σ) (a : Nat) : zhr T L a < 128 ∨ zhr T L a = 999 := by
  obtain ⟨-, -, ⟨i, hi, c, d⟩, -⟩ := h
  unfold zhr
  split
  · rename_i q; exact Or.inl (d a q).1
  · exact Or.inr rfl
theorem mhere_e {T : Nat → Nat} {L a : Nat} {σ : ZM} (h : zMT T L σ) (ha : a ≤ L) (h2 : zI σ 129 11 = nI a) : f_Model_here σ = some (zhv (zhr T L a), σ) := by
  obtain ⟨hL, h1, ⟨i, hi, c, d⟩, -⟩ := h
  unfold f_Model_here zhr
  rw [h1, h2, c, nI_add]
  by_cases q : a < L
  · rw [if_neg (nI_ge q (by omega)), if_pos q, zck_nI (by omega) (by omega), nI_clamp (by omega), (d a q).2, zhv_y (d a q).1 rfl]
  · rw [if_pos (nI_le (by omega) (by omega)), if_neg q]; rfl
theorem takes_e {T : Nat → Nat} {L a d : Nat} {σ : ZM} (h : zMT T L σ) (ha : a ≤ L) (h2 : zI σ 129 11 = nI a) (h0 : zI σ 129 14 = 0) (hd : d < 128) : f_Model_takes (nI d) σ = if zhr T L a = d then some (nI 1, zsI σ 129 11 (nI (a + 1))) else some (nI 0, zsI σ 129 14 1) := by
  unfold f_Model_takes
  rw [if_pos h0, mhere_e h ha h2, zbd_s]
  by_cases q : zhr T L a = d
  · rw [if_pos (zhv_y hd q), if_pos q, h2, show (1 : Int32) = nI 1 from rfl, nI_add]
  · rw [if_neg (zhv_n (zmr_c h a) hd q), if_neg q]; rfl
theorem takes_w {x : Int32} {σ : ZM} (h0 : ¬ zI σ 129 14 = 0) : f_Model_takes x σ = some (nI 0, σ) := by
  unfold f_Model_takes
  rw [if_neg h0]; rfl
theorem mdig_e {T : Nat → Nat} {L a : Nat} {σ : ZM} (h : zMT T L σ) (ha : a ≤ L) (h2 : zI σ 129 11 = nI a) : f_Model_isDigit σ = some (zbI (zdig (zhr T L a)), σ) := by
  unfold f_Model_isDigit
  have hc := zmr_c h a
  rw [mhere_e h ha h2, zbd_s, isIn_e, zbd_s]
  generalize zhr T L a = c at *
  have e : (if zhv c < (48 : Int32) then (0 : Int32) else if (57 : Int32) < zhv c then 0 else 1) = zbI (zdig c) := by
    unfold zhv zdig
    split
    · rename_i q; subst q; rfl
    · by_cases q : c < 48
      · rw [if_pos (show nI c < (48 : Int32) from nI_lt (b := 48) q (by omega)), decide_eq_false (by omega)]; rfl
      · rw [if_neg (show ¬ nI c < (48 : Int32) from nI_nlt (b := 48) (by omega) (by omega)), decide_eq_true (by omega)]
        by_cases q2 : c ≤ 57
        · rw [if_neg (show ¬ (57 : Int32) < nI c from nI_nlt (a := 57) q2 (by omega)), decide_eq_true q2]; rfl
        · rw [if_pos (show (57 : Int32) < nI c from nI_lt (a := 57) (by omega) (by omega)), decide_eq_false (by omega)]; rfl
  rw [e, zbl_bI, zck_t]
def zMPr (σ σ' : ZM) (ok : Bool) (a : Nat) : Prop := zMF σ σ' ∧ zI σ' 129 11 = nI a ∧ zI σ' 129 14 = zbI (!ok)
theorem mnum_e {T : Nat → Nat} {L a : Nat} {σ : ZM} (h : zMT T L σ) (ha : a ≤ L) (h2 : zI σ 129 11 = nI a) (h0 : zI σ 129 14 = 0) :
    ∃ v σ', f_Model_readsNumber σ = some (v, σ') ∧ zMPr σ σ' (zpN T L a).1 (zpN T L a).2.1 ∧ ((zpN T L a).1 = true → v = nI (zpN T L a).2.2) := by
  unfold f_Model_readsNumber zpN
  rw [if_pos h0, mdig_e h ha h2, zbd_s, zif]
  have hc := zmr_c h
  by_cases q : zdig (zhr T L a) = true
  · have l1 := zdig_lt q
    have hL := h.1
    rw [if_pos q, if_pos q, mhere_e h ha h2, zbd_s, h2, show nI a + (1 : Int32) = nI (a + 1) from nI_add a 1]
    simp only [zdig, Bool.and_eq_true, decide_eq_true_eq] at q
    have e1 : zhv (zhr T L a) - (48 : Int32) = nI (zhr T L a - 48) := by
      have := hc a
      rw [zhv_y (d := zhr T L a) (by omega) rfl]; exact nI_subE (b := 48) (by omega)
    have f1 : zMF σ (zsI σ 129 11 (nI (a + 1))) := zMF_11 _ _
    have p1 : zI (zsI σ 129 11 (nI (a + 1))) 129 11 = nI (a + 1) := by rw [zI_sI, if_pos ⟨rfl, rfl⟩]
    have w1 : zI (zsI σ 129 11 (nI (a + 1))) 129 14 = 0 := by rw [zI_sI, if_neg (by omega)]; exact h0
    generalize zsI σ 129 11 (nI (a + 1)) = σ1 at *
    have t1 := zMT_F h f1
    rw [mdig_e t1 (by omega) p1, zbd_s, zif, e1]
    by_cases w : zdig (zhr T L (a + 1)) = true
    · rw [if_pos w, if_pos w, mhere_e t1 (by omega) p1, zbd_s, p1, show nI (a + 1) + (1 : Int32) = nI (a + 2) from nI_add (a + 1) 1]
      simp only [zdig, Bool.and_eq_true, decide_eq_true_eq] at w
      have e3 : (10 : Int32) * nI (zhr T L a - 48) + zhv (zhr T L (a + 1)) - (48 : Int32) = nI (10 * (zhr T L a - 48) + (zhr T L (a + 1) - 48)) := by
        rw [zhv_y (d := zhr T L (a + 1)) (by omega) rfl, show (10 : Int32) = nI 10 from rfl, nI_mul, nI_add, show (48 : Int32) = nI 48 from rfl, nI_subE (by omega)]
        congr 1; omega
      exact ⟨_, _, rfl, ⟨zMF_t f1 (zMF_11 _ _), by rw [zI_sI, if_pos ⟨rfl, rfl⟩], by rw [zI_sI, if_neg (by omega)]; exact w1⟩, fun _ => e3⟩
    · rw [if_neg w, if_neg w]
      exact ⟨_, _, rfl, ⟨f1, p1, w1⟩, fun _ => rfl⟩
  · rw [if_neg q, if_neg q]
    exact ⟨_, _, rfl, ⟨zMF_14 _ _, by rw [zI_sI, if_neg (by omega)]; exact h2, by rw [zI_sI, if_pos ⟨rfl, rfl⟩]; rfl⟩, fun q => by cases q⟩
theorem mlet_e {c : Nat} (hc : c < 128 ∨ c = 999) (σ : ZM) : f_Model_isLetter (zhv c) σ = some (zbI (decide (¬ zli c = 9)), σ) := by
  unfold f_Model_isLetter
  by_cases h108 : c = 108
  · subst h108; rfl
  rw [if_neg (show ¬ zhv c = (108 : Int32) from zhv_n (d := 108) hc (by omega) h108)]
  by_cases h107 : c = 107
  · subst h107; rfl
  rw [if_neg (show ¬ zhv c = (107 : Int32) from zhv_n (d := 107) hc (by omega) h107)]
  by_cases h116 : c = 116
  · subst h116; rfl
  rw [if_neg (show ¬ zhv c = (116 : Int32) from zhv_n (d := 116) hc (by omega) h116)]
  by_cases h118 : c = 118
  · subst h118; rfl
  rw [if_neg (show ¬ zhv c = (118 : Int32) from zhv_n (d := 118) hc (by omega) h118)]
  by_cases h104 : c = 104
  · subst h104; rfl
  rw [if_neg (show ¬ zhv c = (104 : Int32) from zhv_n (d := 104) hc (by omega) h104)]
  by_cases h111 : c = 111
  · subst h111; rfl
  rw [if_neg (show ¬ zhv c = (111 : Int32) from zhv_n (d := 111) hc (by omega) h111)]
  unfold zli
  rw [if_neg h108, if_neg h107, if_neg h116, if_neg h118, if_neg h104, if_neg h111]; rfl
theorem val_e {T : Nat → Nat} {L c : Nat} {σ : ZM} (h : zMT T L σ) (hl : ¬ zli c = 9) : f_Model_valueOf (zhv c) σ = some (mlam σ (zli c), σ) := by
  obtain ⟨-, -, -, l, t, hl2, ht, e1, e2⟩ := h
  have hc : c = 104 ∨ c = 107 ∨ c = 108 ∨ c = 111 ∨ c = 116 ∨ c = 118 := by
    unfold zli at hl
    revert hl
    repeat' split
    all_goals intro; first | omega | contradiction
  have hk : zhv 107 = (107 : Int32) := rfl
  have hv : zhv 118 = (118 : Int32) := rfl
  have ho : zhv 111 = (111 : Int32) := rfl
  have htt : zhv 116 = (116 : Int32) := rfl
  unfold f_Model_valueOf
  rcases hc with rfl | rfl | rfl | rfl | rfl | rfl
  · rfl
  · rw [hk, if_neg (by decide), if_neg (by decide), if_neg (by decide), if_pos rfl, e1, Mkind_e hl2, zbd_s]
    show some (_, σ) = some (zI σ 130 (8 + 10 * (zI σ 129 12).toNatClampNeg), σ)
    rw [e1, nI_clamp (by omega)]
  · rfl
  · rw [ho, if_neg (by decide), if_neg (by decide), if_neg (by decide), if_neg (by decide), if_neg (by decide), if_neg (by decide), if_neg (by decide), if_pos rfl]
    unfold f_Model_valueOf_126
    show _ = some ((if zI σ 129 15 = 0 then zI σ 130 (zI σ 129 13).toNatClampNeg / 10 else 99), σ)
    rw [e2, zck_nI (by omega) (by omega)]
    split <;> rfl
  · rw [htt, if_neg (by decide), if_neg (by decide), if_neg (by decide), if_neg (by decide), if_neg (by decide), if_neg (by decide), if_neg (by decide), if_neg (by decide), if_neg (by decide), if_neg (by decide), if_neg (by decide), if_neg (by decide), if_pos rfl]
    show _ = some ((if zI σ 129 15 = 0 then zI σ 129 13 else 99), σ)
    split <;> rfl
  · rw [hv, if_neg (by decide), if_neg (by decide), if_neg (by decide), if_neg (by decide), if_neg (by decide), if_neg (by decide), if_neg (by decide), if_neg (by decide), if_neg (by decide), if_neg (by decide), if_neg (by decide), if_neg (by decide), if_neg (by decide), if_neg (by decide), if_pos rfl, e1, Mnumber_e hl2, zbd_s]
    show some (_, σ) = some (zI σ 130 (9 + 10 * (zI σ 129 12).toNatClampNeg), σ)
    rw [e1, nI_clamp (by omega)]
/-- reads as p says, with its truth -/
def zMP (T : Nat → Nat) (L : Nat) (p : Nat → ZR) (f : ZM → Option (Int32 × ZM)) : Prop :=
  ∀ a σ, zMT T L σ → a ≤ L → zI σ 129 11 = nI a → zI σ 129 14 = 0 → ∃ (b : Bool) (σ' : ZM), f σ = some (zbI b, σ') ∧ zMPr σ σ' (p a).1 (p a).2.1 ∧ ((p a).1 = true → ¬ zI σ 130 5 = 0 → ∀ st, (p a).2.2.foldl (zbs (mlam σ)) st = b :: st)
theorem sgn_e {T : Nat → Nat} {L : Nat} {σ : ZM} {a c sg : Nat} {x2 : Int32} (h : zMT T L σ) (ha : a + 1 ≤ L) (h2 : zI σ 129 11 = nI a) (h0 : zI σ 129 14 = 0) (hl : ¬ zli c = 9) (hs : sg < 3) (hx : x2 = nI (60 + sg)) :
    ∃ (b : Bool) (σ' : ZM), f_Model_readsTest_59 (zhv c) x2 σ = some (zbI b, σ') ∧ zMPr σ σ' (zpN T L (a + 1)).1 (zpN T L (a + 1)).2.1 ∧ ((zpN T L (a + 1)).1 = true → ¬ zI σ 130 5 = 0 → b = ztv (mlam σ) (nI (512 * zli c + 128 * sg + (zpN T L (a + 1)).2.2))) := by
  unfold f_Model_readsTest_59
  rw [h2, show nI a + (1 : Int32) = nI (a + 1) from nI_add a 1]
  have f1 : zMF σ (zsI σ 129 11 (nI (a + 1))) := zMF_11 _ _
  obtain ⟨v, σ2, e2, ⟨g2, p2, w2⟩, v2⟩ := mnum_e (zMT_F h f1) ha (by rw [zI_sI, if_pos ⟨rfl, rfl⟩]) (by rw [zI_sI, if_neg (by omega)]; exact h0)
  obtain ⟨n1, n2, n3, n4⟩ := zpN_G (T := T) (L := L) (a := a + 1) ha
  have f2 := zMF_t f1 g2
  rw [e2, zbd_s, w2]
  by_cases z : (zpN T L (a + 1)).1 = true
  · rw [z] at w2
    rw [z, if_pos (show zbI (!true) = 0 from rfl), zck_of (show zin 5 92 = true by decide), show (5 : Int32).toNatClampNeg = 5 from rfl, f2.1 130 5 (by omega)]
    by_cases m : zI σ 130 5 = 0
    · rw [if_pos m]
      exact ⟨false, _, rfl, ⟨f2, p2, w2⟩, fun _ q => absurd m q⟩
    · have n6 := (n3 z).2
      rw [if_neg m, val_e (zMT_F h f2) hl, zbd_s, v2 z, mlam_F f2]
      have e : (ztv (mlam σ) (nI (512 * zli c + 128 * sg + (zpN T L (a + 1)).2.2)) = true) = _ := ztv_e (zli_lt hl) hs (by omega)
      have hs3 : sg = 0 ∨ sg = 1 ∨ sg = 2 := by omega
      rcases hs3 with rfl | rfl | rfl
      · rw [if_pos (show nI 0 = 0 from rfl)] at e
        rw [if_pos (show x2 = 60 from hx)]
        by_cases k : mlam σ (zli c) < nI (zpN T L (a + 1)).2.2
        · have e := e.symm ▸ k
          rw [if_neg (Int32.not_le.mpr k)]; exact ⟨true, _, rfl, ⟨f2, p2, w2⟩, fun _ _ => e.symm⟩
        · have e := Bool.eq_false_iff.mpr (fun q => k (e ▸ q))
          rw [if_pos (Int32.not_lt.mp k)]; exact ⟨false, _, rfl, ⟨f2, p2, w2⟩, fun _ _ => e.symm⟩
      · rw [if_neg (show ¬ nI 1 = 0 by decide), if_pos (show nI 1 = 1 from rfl)] at e
        rw [if_neg (by rw [hx]; decide), if_pos (show x2 = 61 from hx)]
        by_cases k : mlam σ (zli c) = nI (zpN T L (a + 1)).2.2
        · have e := e.symm ▸ k
          rw [if_pos k]; exact ⟨true, _, rfl, ⟨f2, p2, w2⟩, fun _ _ => e.symm⟩
        · have e := Bool.eq_false_iff.mpr (fun q => k (e ▸ q))
          rw [if_neg k]; exact ⟨false, _, rfl, ⟨f2, p2, w2⟩, fun _ _ => e.symm⟩
      · rw [if_neg (show ¬ nI 2 = 0 by decide), if_neg (show ¬ nI 2 = 1 by decide)] at e
        rw [if_neg (by rw [hx]; decide), if_neg (by rw [hx]; decide)]
        by_cases k : nI (zpN T L (a + 1)).2.2 < mlam σ (zli c)
        · have e := e.symm ▸ k
          rw [if_neg (Int32.not_le.mpr k)]; exact ⟨true, _, rfl, ⟨f2, p2, w2⟩, fun _ _ => e.symm⟩
        · have e := Bool.eq_false_iff.mpr (fun q => k (e ▸ q))
          rw [if_pos (Int32.not_lt.mp k)]; exact ⟨false, _, rfl, ⟨f2, p2, w2⟩, fun _ _ => e.symm⟩
  · have z' : (zpN T L (a + 1)).1 = false := Bool.eq_false_iff.mpr z
    rw [z'] at w2
    rw [z', if_neg (show ¬ zbI (!false) = 0 by decide)]
    exact ⟨false, _, rfl, ⟨f2, p2, w2⟩, fun q => by cases q⟩
theorem mtest_e {T : Nat → Nat} {L : Nat} : zMP T L (zpX T L) f_Model_readsTest := by
  intro a σ h ha h2 h0
  have hL := h.1
  unfold f_Model_readsTest zpX
  rw [mhere_e h ha h2, zbd_s, mlet_e (zmr_c h a), zbd_s]
  by_cases q : zli (zhr T L a) = 9
  · rw [if_pos q, decide_eq_false (fun w => w q), if_pos (show zbI false = 0 from rfl)]
    exact ⟨false, _, rfl, ⟨zMF_14 _ _, by rw [zI_sI, if_neg (by omega)]; exact h2, by rw [zI_sI, if_pos ⟨rfl, rfl⟩]; rfl⟩, fun q => by cases q⟩
  · have l1 := zli_hr q
    rw [if_neg q, decide_eq_true q, if_neg (show ¬ zbI true = 0 by decide), h2, show nI a + (1 : Int32) = nI (a + 1) from nI_add a 1]
    have f1 : zMF σ (zsI σ 129 11 (nI (a + 1))) := zMF_11 _ _
    have p1 : zI (zsI σ 129 11 (nI (a + 1))) 129 11 = nI (a + 1) := by rw [zI_sI, if_pos ⟨rfl, rfl⟩]
    have w1 : zI (zsI σ 129 11 (nI (a + 1))) 129 14 = 0 := by rw [zI_sI, if_neg (by omega)]; exact h0
    generalize zsI σ 129 11 (nI (a + 1)) = σ1 at *
    have t1 := zMT_F h f1
    have hc := zmr_c h (a + 1)
    have hli := zli_lt q
    rw [mhere_e t1 l1 p1, zbd_s]
    have fin : ∀ sg, sg < 3 → zhr T L (a + 1) = 60 + sg → ∃ (b : Bool) (σ' : ZM), f_Model_readsTest_59 (zhv (zhr T L a)) (zhv (zhr T L (a + 1))) σ1 = some (zbI b, σ') ∧ zMPr σ σ' (if (zpN T L (a + 2)).1 = true then ((true, (zpN T L (a + 2)).2.1, [nI (512 * zli (zhr T L a) + 128 * (zhr T L (a + 1) - 60) + (zpN T L (a + 2)).2.2)]) : ZR) else (false, (zpN T L (a + 2)).2.1, [])).1 (if (zpN T L (a + 2)).1 = true then ((true, (zpN T L (a + 2)).2.1, [nI (512 * zli (zhr T L a) + 128 * (zhr T L (a + 1) - 60) + (zpN T L (a + 2)).2.2)]) : ZR) else (false, (zpN T L (a + 2)).2.1, [])).2.1 ∧
        ((if (zpN T L (a + 2)).1 = true then ((true, (zpN T L (a + 2)).2.1, [nI (512 * zli (zhr T L a) + 128 * (zhr T L (a + 1) - 60) + (zpN T L (a + 2)).2.2)]) : ZR) else (false, (zpN T L (a + 2)).2.1, [])).1 = true → ¬ zI σ 130 5 = 0 → ∀ st, (if (zpN T L (a + 2)).1 = true then ((true, (zpN T L (a + 2)).2.1, [nI (512 * zli (zhr T L a) + 128 * (zhr T L (a + 1) - 60) + (zpN T L (a + 2)).2.2)]) : ZR) else (false, (zpN T L (a + 2)).2.1, [])).2.2.foldl (zbs (mlam σ)) st = b :: st) := by
      intro sg hsg he
      have l2 : a + 1 < L := zhr_lt (T := T) (a := a + 1) (by omega)
      obtain ⟨b, σ', e, ⟨g1, g2, g3⟩, g4⟩ := sgn_e (c := zhr T L a) (sg := sg) (x2 := zhv (zhr T L (a + 1))) t1 l2 p1 w1 q hsg (zhv_y (by omega) he)
      obtain ⟨n1, n2, n3, n4⟩ := zpN_G (T := T) (L := L) (a := a + 2) l2
      refine ⟨b, σ', e, ?_⟩
      by_cases z : (zpN T L (a + 2)).1 = true
      · rw [if_pos z]
        have n6 := (n3 z).2
        rw [show (zpN T L (a + 1 + 1)).1 = true from z] at g3
        refine ⟨⟨zMF_t f1 g1, g2, g3⟩, fun _ m st => ?_⟩
        have g5 := g4 z (by rw [f1.1 130 5 (by omega)]; exact m)
        rw [mlam_F f1] at g5
        show zbs (mlam σ) st (nI (512 * zli (zhr T L a) + 128 * (zhr T L (a + 1) - 60) + (zpN T L (a + 2)).2.2)) = _
        rw [he, Nat.add_sub_cancel_left, zbs_t hli hsg (by omega), g5]
      · rw [if_neg z]
        rw [show (zpN T L (a + 1 + 1)).1 = false from Bool.eq_false_iff.mpr z] at g3
        exact ⟨⟨zMF_t f1 g1, g2, g3⟩, fun q => by cases q⟩
    by_cases k0 : zhr T L (a + 1) = 60
    · rw [if_pos (show zhv (zhr T L (a + 1)) = (60 : Int32) from zhv_y (d := 60) (by omega) k0), if_pos (by omega)]
      exact fin 0 (by omega) k0
    · rw [if_neg (show ¬ zhv (zhr T L (a + 1)) = (60 : Int32) from zhv_n (d := 60) hc (by omega) k0)]
      by_cases k1 : zhr T L (a + 1) = 61
      · rw [if_pos (show zhv (zhr T L (a + 1)) = (61 : Int32) from zhv_y (d := 61) (by omega) k1), if_pos (by omega)]
        exact fin 1 (by omega) k1
      · rw [if_neg (show ¬ zhv (zhr T L (a + 1)) = (61 : Int32) from zhv_n (d := 61) hc (by omega) k1)]
        by_cases k2 : zhr T L (a + 1) = 62
        · rw [if_pos (show zhv (zhr T L (a + 1)) = (62 : Int32) from zhv_y (d := 62) (by omega) k2), if_pos (by omega)]
          exact fin 2 (by omega) k2
        · rw [if_neg (show ¬ zhv (zhr T L (a + 1)) = (62 : Int32) from zhv_n (d := 62) hc (by omega) k2), if_neg (by omega)]
          exact ⟨false, _, rfl, ⟨zMF_t f1 (zMF_14 _ _), by rw [zI_sI, if_neg (by omega)]; exact p1, by rw [zI_sI, if_pos ⟨rfl, rfl⟩]; rfl⟩, fun q => by cases q⟩
