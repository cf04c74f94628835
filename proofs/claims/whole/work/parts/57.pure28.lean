/-! PURE: what a loaf takes and leaves -/
def zLt (σ σ' : ZM) : Prop := (∀ o k, ¬ (122 ≤ o ∧ o ≤ 128) → zI σ' o k = zI σ o k) ∧ (∀ o k, zP σ' o k = zP σ o k) ∧ (∀ o k, zL σ' o k = zL σ o k)
theorem zLt_r (σ : ZM) : zLt σ σ := ⟨fun _ _ _ => rfl, fun _ _ => rfl, fun _ _ => rfl⟩
theorem zLt_t {a b c : ZM} (h : zLt a b) (h2 : zLt b c) : zLt a c := ⟨fun o k n => (h2.1 o k n).trans (h.1 o k n), fun o k => (h2.2.1 o k).trans (h.2.1 o k), fun o k => (h2.2.2 o k).trans (h.2.2 o k)⟩
theorem zMH_r (σ : ZM) : zMH σ σ := ⟨fun _ _ _ => rfl, fun _ _ => rfl, fun _ _ => rfl⟩
theorem zMH_t {a b c : ZM} (h : zMH a b) (h2 : zMH b c) : zMH a c := ⟨fun o k n => (h2.1 o k n).trans (h.1 o k n), fun o k => (h2.2.1 o k).trans (h.2.1 o k), fun o k => (h2.2.2 o k).trans (h.2.2 o k)⟩
/-- the loaf i as both know it -/
def zLf (i : Nat) (σ τ : ZM) (k v : Nat) (g b : Nat → Nat) : Prop :=
  (zI σ (51 + i) 0 = nI i) ∧ (k < 7) ∧ (zI σ (51 + i) 3 = nI k) ∧ (zI τ 130 (8 + 10 * i) = nI k) ∧ (v ≤ 9) ∧ (zI σ (51 + i) 4 = nI v) ∧ (zI τ 130 (9 + 10 * i) = nI v) ∧ (∀ t, t < 4 → g t ≤ 99 ∧ zI σ (63 + i) t = nI (g t) ∧ zI τ 130 (10 + 10 * i + t) = nI (g t)) ∧ (∀ t, t < 4 → b t ≤ 99 ∧ zI σ (75 + i) t = nI (b t) ∧ zI τ 130 (14 + 10 * i + t) = nI (b t))
theorem zLf.n0 {i : Nat} {σ τ : ZM} {k v : Nat} {g b : Nat → Nat} (h : zLf i σ τ k v g b) : zI σ (51 + i) 0 = nI i := h.1
theorem zLf.hk {i : Nat} {σ τ : ZM} {k v : Nat} {g b : Nat → Nat} (h : zLf i σ τ k v g b) : k < 7 := h.2.1
theorem zLf.k1 {i : Nat} {σ τ : ZM} {k v : Nat} {g b : Nat → Nat} (h : zLf i σ τ k v g b) : zI σ (51 + i) 3 = nI k := h.2.2.1
theorem zLf.k2 {i : Nat} {σ τ : ZM} {k v : Nat} {g b : Nat → Nat} (h : zLf i σ τ k v g b) : zI τ 130 (8 + 10 * i) = nI k := h.2.2.2.1
theorem zLf.hv {i : Nat} {σ τ : ZM} {k v : Nat} {g b : Nat → Nat} (h : zLf i σ τ k v g b) : v ≤ 9 := h.2.2.2.2.1
theorem zLf.v1 {i : Nat} {σ τ : ZM} {k v : Nat} {g b : Nat → Nat} (h : zLf i σ τ k v g b) : zI σ (51 + i) 4 = nI v := h.2.2.2.2.2.1
theorem zLf.v2 {i : Nat} {σ τ : ZM} {k v : Nat} {g b : Nat → Nat} (h : zLf i σ τ k v g b) : zI τ 130 (9 + 10 * i) = nI v := h.2.2.2.2.2.2.1
theorem zLf.hg {i : Nat} {σ τ : ZM} {k v : Nat} {g b : Nat → Nat} (h : zLf i σ τ k v g b) : ∀ t, t < 4 → g t ≤ 99 ∧ zI σ (63 + i) t = nI (g t) ∧ zI τ 130 (10 + 10 * i + t) = nI (g t) := h.2.2.2.2.2.2.2.1
theorem zLf.hb {i : Nat} {σ τ : ZM} {k v : Nat} {g b : Nat → Nat} (h : zLf i σ τ k v g b) : ∀ t, t < 4 → b t ≤ 99 ∧ zI σ (75 + i) t = nI (b t) ∧ zI τ 130 (14 + 10 * i + t) = nI (b t) := h.2.2.2.2.2.2.2.2
/-- an oven of the class, and the row of the reference -/
def zOv (X s : Nat) (σ τ : ZM) (H : Nat → Nat) (o : Nat) : Prop :=
  (33 ≤ X ∧ X < 42) ∧ (∀ t, t < 4 → H t ≤ 9999 ∧ (s ≤ t → zI σ (X + 9) t = nI (H t)) ∧ zI τ 130 t = nI (H t)) ∧ (o ≤ 9999) ∧ (zI σ X 1 = nI o) ∧ (zI τ 130 4 = nI o)
/-- the data of the loaves: kinds, numbers, what they give and bear -/
abbrev ZD : Type := (Nat → Nat) × (Nat → Nat) × (Nat → Nat → Nat) × (Nat → Nat → Nat)
def zBk (m X s : Nat) (cs : List ZCl) (σ τ : ZM) (D : ZD) (H : Nat → Nat) (o : Nat) : Prop :=
  (m ≤ 6) ∧ (zI τ 130 5 = nI m) ∧ (∀ i, i < m → zLf i σ τ (D.1 i) (D.2.1 i) (D.2.2.1 i) (D.2.2.2 i)) ∧ (zOv X s σ τ H o) ∧ (zHd σ τ cs)
theorem zLf_c {i k v : Nat} {g b : Nat → Nat} {σ σ' τ τ' : ZM} (hi : i < 6) (h : zLf i σ τ k v g b) (hσ : ∀ o j, (51 ≤ o ∧ o < 57) ∨ (63 ≤ o ∧ o < 69) ∨ (75 ≤ o ∧ o < 81) → zI σ' o j = zI σ o j) (hτ : ∀ j, 8 ≤ j → j < 68 → zI τ' 130 j = zI τ 130 j) : zLf i σ' τ' k v g b := by
  obtain ⟨n0, hk, k1, k2, hv, v1, v2, hg, hb⟩ := h
  exact ⟨by rw [hσ _ _ (by omega)]; exact n0, hk, by rw [hσ _ _ (by omega)]; exact k1, by rw [hτ _ (by omega) (by omega)]; exact k2, hv, by rw [hσ _ _ (by omega)]; exact v1, by rw [hτ _ (by omega) (by omega)]; exact v2,
    fun t ht => ⟨(hg t ht).1, by rw [hσ _ _ (by omega)]; exact (hg t ht).2.1, by rw [hτ _ (by omega) (by omega)]; exact (hg t ht).2.2⟩, fun t ht => ⟨(hb t ht).1, by rw [hσ _ _ (by omega)]; exact (hb t ht).2.1, by rw [hτ _ (by omega) (by omega)]; exact (hb t ht).2.2⟩⟩
theorem zHd_c {σ σ' τ τ' : ZM} {cs : List ZCl} (h : zHd σ τ cs) (hσ : ∀ o k, (87 ≤ o ∧ o < 122) → zI σ' o k = zI σ o k) (hP : zP σ' 5 0 = zP σ 5 0) (h4 : ∀ k, zI τ' 134 k = zI τ 134 k) (h5 : ∀ k, zI τ' 135 k = zI τ 135 k) (h6 : zI τ' 130 6 = zI τ 130 6) : zHd σ' τ' cs := by
  obtain ⟨a, ⟨j, hj, e⟩, b, c⟩ := h
  rw [e] at a
  refine ⟨?_, ⟨j, hj, hP.trans e⟩, b, fun l t τ2 hl ht e4 e5 e6 => c l t τ2 hl ht (fun k => (e4 k).trans (h4 k)) (fun k => (e5 k).trans (h5 k)) (e6.trans h6)⟩
  rw [hP, e]
  exact zKB_c a (fun k => hσ _ _ (by omega)) (fun k => hσ _ _ (by omega)) (fun k => hσ _ _ (by omega)) (fun k => hσ _ _ (by omega)) (fun k => hσ _ _ (by omega))
theorem zOv_c {X s o : Nat} {H : Nat → Nat} {σ σ' τ τ' : ZM} (h : zOv X s σ τ H o) (hσ : ∀ q j, 33 ≤ q ∧ q < 51 → zI σ' q j = zI σ q j) (hτ : ∀ j, j < 5 → zI τ' 130 j = zI τ 130 j) : zOv X s σ' τ' H o := by
  obtain ⟨hX, hH, ho, o1, o2⟩ := h
  exact ⟨hX, fun t ht => ⟨(hH t ht).1, (fun q => by rw [hσ _ _ (by omega)]; exact (hH t ht).2.1 q), by rw [hτ _ (by omega)]; exact (hH t ht).2.2⟩, ho, by rw [hσ _ _ (by omega)]; exact o1, by rw [hτ _ (by omega)]; exact o2⟩
/-- the reference's readings and its own held row may change -/
def zMJ (τ τ' : ZM) : Prop := (∀ o k, ¬ (o = 129 ∧ 9 ≤ k ∧ k ≤ 20) → ¬ o = 136 → zI τ' o k = zI τ o k) ∧ (∀ o k, zP τ' o k = zP τ o k) ∧ (∀ o k, zL τ' o k = zL τ o k)
theorem zMJ_H {a b : ZM} (h : zMH a b) : zMJ a b := ⟨fun o k n _ => h.1 o k n, h.2.1, h.2.2⟩
theorem zMJ_t {a b c : ZM} (h : zMJ a b) (h2 : zMJ b c) : zMJ a c := ⟨fun o k n q => (h2.1 o k n q).trans (h.1 o k n q), fun o k => (h2.2.1 o k).trans (h.2.1 o k), fun o k => (h2.2.2 o k).trans (h.2.2 o k)⟩
theorem zBk_c {m X s o : Nat} {cs : List ZCl} {D : ZD} {H : Nat → Nat} {σ σ' τ τ' : ZM} (h : zBk m X s cs σ τ D H o) (f : zLt σ σ') (g : zMJ τ τ') : zBk m X s cs σ' τ' D H o := by
  obtain ⟨hm, m2, lf, ov, hd⟩ := h
  exact ⟨hm, by rw [g.1 _ _ (by omega) (by omega)]; exact m2, fun i hi => zLf_c (by omega) (lf i hi) (fun o j q => f.1 _ _ (by omega)) (fun j _ _ => g.1 _ _ (by omega) (by omega)), zOv_c ov (fun q j z => f.1 _ _ (by omega)) (fun j _ => g.1 _ _ (by omega) (by omega)), zHd_c hd (fun o k z => f.1 _ _ (by omega)) (f.2.1 _ _) (fun k => g.1 _ _ (by omega) (by omega)) (fun k => g.1 _ _ (by omega) (by omega)) (g.1 _ _ (by omega) (by omega))⟩
/-- the letters, told by numbers -/
def zlq (i k v t d o f li : Nat) : Int32 :=
  if li = 0 then nI i else if li = 1 then nI k else if li = 2 then (if f = 0 then nI t else 99) else if li = 3 then nI v else if li = 4 then nI o - nI o / 60 * 60 else (if f = 0 then nI d / 10 else 99)
def pPart (cs : List ZCl) (lam : Nat → Int32) : Nat := if zcnt cs = 0 then 50 else zsmB lam 0 cs
def pAm (k v b p d : Nat) : Nat :=
  if k = 1 then d else if k = 2 then min (2 * (p * d / 100)) d else if k = 3 then min (min b (p * d / 100)) d else if k = 4 then min (d - v) d else if k = 5 then min (2 * (p * d / 100)) d else if k = 6 then min (min b (p * d / 100) / 2) d else min (p * d / 100) d
def pTk (cs : List ZCl) (D : ZD) (H : Nat → Nat) (o i t : Nat) : Nat := pAm (D.1 i) (D.2.1 i) (D.2.2.2 i t) (pPart cs (zlq i (D.1 i) (D.2.1 i) t (H t) o 0)) (H t)
def pLv (cs : List ZCl) (D : ZD) (H : Nat → Nat) (o i t : Nat) : Nat :=
  if D.1 i = 1 ∨ D.1 i = 4 then 0 else if D.1 i = 6 then (D.2.2.1 i t + zsmB (zlq i (D.1 i) (D.2.1 i) t (H t) o 0) 1 cs) / 2 else if D.1 i = 5 ∧ t = 0 then D.2.2.1 i t + zsmB (zlq i (D.1 i) (D.2.1 i) t (H t) o 0) 1 cs + D.2.1 i else D.2.2.1 i t + zsmB (zlq i (D.1 i) (D.2.1 i) t (H t) o 0) 1 cs
theorem zlm_n {m X s o i t f : Nat} {cs : List ZCl} {D : ZD} {H : Nat → Nat} {σ τ : ZM} (h : zBk m X s cs σ τ D H o) (hi : i < m) (ht : t < 4) : zlm τ i t f = zlq i (D.1 i) (D.2.1 i) t (H t) o f := by
  obtain ⟨hm, m2, lf, ov, hd⟩ := h
  funext li
  unfold zlm zlq
  rw [(lf i hi).k2, (lf i hi).v2, ov.2.2.2.2, (ov.2.1 t ht).2.2]
/-- the letters that both see -/
theorem lam_e {m X s o i t j : Nat} {cs : List ZCl} {D : ZD} {H : Nat → Nat} {σ τ : ZM} (h : zBk m X s cs σ τ D H o) (hi : i < m) (ht : t < 4) (hs : s ≤ t) (hj : j < 7) (ej : zP σ 5 0 = 87 + j) :
    ∃ σ', f_Kiln_lookAt (87 + j) (51 + i) (nI t) (nI (H t) / 10) (nI o) σ = some ((), σ') ∧ zLt σ σ' ∧ ∀ li, li < 6 → zI σ' (87 + j + 35) li = zlq i (D.1 i) (D.2.1 i) t (H t) o 0 li := by
  obtain ⟨hm, m2, lf, ov, hd⟩ := h
  obtain ⟨σ', e, f1, f2, f3, f4⟩ := look_e (a := 0) (d := 0) (i7 := j) (i := i) (l := i) (x2 := nI t) (x3 := nI (H t) / 10) (x4 := nI o) (σ := σ) hj (zRl (by omega)) (lf i hi).n0 (by omega)
  refine ⟨σ', e, ⟨fun o k n => f1 o k (by omega), f2, f3⟩, fun li hli => ?_⟩
  rw [f4 li hli]
  unfold zlq
  rw [(lf i hi).k1, (lf i hi).v1]
  rfl
theorem part_b {m X s o i t : Nat} {cs : List ZCl} {D : ZD} {H : Nat → Nat} {σ τ : ZM} (h : zBk m X s cs σ τ D H o) (hi : i < m) (ht : t < 4) (hs : s ≤ t) :
    ∃ σ', f_Baker_partOf (51 + i) (nI t) (nI (H t)) (nI o) σ = some (nI (pPart cs (zlq i (D.1 i) (D.2.1 i) t (H t) o 0)), σ') ∧ zLt σ σ' := by
  have hm := h.1
  obtain ⟨hb, ⟨j, hj, ej⟩, hg, hr⟩ := h.2.2.2.2
  obtain ⟨σ', e2, f2, hl⟩ := lam_e h hi ht hs hj ej
  rw [ej] at hb
  unfold f_Baker_partOf pPart
  rw [zck_of (zRl (by omega)), ej, zck_of (zRkn hj), zck_of (zRkn hj), hb.2.2.1]
  have c10 := zcnt_le cs
  have h10 := hb.1
  by_cases q : zcnt cs = 0
  · rw [q, if_pos (show nI 0 = 0 from rfl), if_pos (show (0 : Nat) = 0 from rfl)]
    exact ⟨_, rfl, zLt_r _⟩
  · have q' : ¬ nI (zcnt cs) = 0 := nI_ne0 (by omega) (by omega)
    have hb2 : zKB σ' (87 + j) cs := zKB_c hb (fun k => f2.1 _ _ (by omega)) (fun k => f2.1 _ _ (by omega)) (fun k => f2.1 _ _ (by omega)) (fun k => f2.1 _ _ (by omega)) (fun k => f2.1 _ _ (by omega))
    rw [if_neg q', if_neg q, e2, zbd_s, f2.2.1, ej, zck_of (zRkn hj), show (0 : Int32) = nI 0 from rfl, sum_e hj hb2 hg (by decide) (by decide) hl, zbd_s]
    exact ⟨_, rfl, f2⟩
theorem part_m {m X s o i t : Nat} {cs : List ZCl} {D : ZD} {H : Nat → Nat} {σ τ : ZM} (h : zBk m X s cs σ τ D H o) (hi : i < m) (ht : t < 4) :
    ∃ τ', f_Model_partOf (nI i) (nI t) τ = some (nI (pPart cs (zlq i (D.1 i) (D.2.1 i) t (H t) o 0)), τ') ∧ zMH τ τ' := by
  have hm := h.1
  obtain ⟨hb, -, hg, hr⟩ := h.2.2.2.2
  obtain ⟨τ', e1, f1, r1, r2, r3⟩ := hr i t τ (by omega) ht (fun _ => rfl) (fun _ => rfl) rfl
  have c10 := zcnt_le cs
  have h10 := hb.1
  unfold f_Model_partOf pPart
  rw [e1, zbd_s, r1]
  by_cases q : zcnt cs = 0
  · rw [q, if_pos (show nI 0 = 0 from rfl), if_pos (show (0 : Nat) = 0 from rfl)]
    exact ⟨_, rfl, f1⟩
  · have m0 : ¬ zI τ 130 5 = 0 := by rw [h.2.1]; exact nI_ne0 (by omega) (by omega)
    rw [if_neg (nI_ne0 (by omega) (by omega)), if_neg q, (r3 m0).1, zlm_n h hi ht]
    exact ⟨_, rfl, f1⟩
theorem pPart_le {cs : List ZCl} (hg : ∀ c ∈ cs, zGc c) (h : cs.length ≤ 10) (lam : Nat → Int32) : pPart cs lam ≤ 990 := by
  have := zsmB_le lam 0 cs hg
  unfold pPart
  split <;> omega
theorem b116 {a d : Nat} {σ : ZM} (ha : a < 2 ^ 31) (hd : d < 2 ^ 31) : f_Baker_amount_116 (nI d) (nI a) σ = some (nI (min a d), σ) := by
  unfold f_Baker_amount_116
  have e : (if nI d < nI a then nI d else nI a) = nI (min a d) := by
    by_cases q : d < a
    · rw [if_pos (nI_lt q ha), Nat.min_eq_right (by omega)]
    · rw [if_neg (nI_nlt (by omega) hd), Nat.min_eq_left (by omega)]
  rw [e]
  by_cases q : min a d = 0
  · rw [q]; rfl
  · rw [if_pos (show (0 : Int32) < nI (min a d) from nI_lt (a := 0) (by omega) (by omega))]
theorem m137 {a d : Nat} {τ : ZM} (ha : a < 2 ^ 31) (hd : d < 2 ^ 31) : f_Model_takesBy_137 (nI d) (nI a) τ = some (nI (min a d), τ) := by
  unfold f_Model_takesBy_137
  by_cases q : a ≤ d
  · rw [if_pos (nI_le q hd), if_pos (nI_pos' ha), Nat.min_eq_left q]
  · rw [if_neg (nI_ge (by omega) ha), Nat.min_eq_right (by omega)]
theorem rye_n {a b : Nat} (ha : a < b) (hb : b < 60) : nI a - nI b < 0 := by
  rw [Int32.lt_iff_toInt_lt, subneg a b (by omega) (by omega)]
  have : (0 : Int32).toInt = 0 := rfl
  omega
theorem neg_lt {x : Int32} {n : Nat} (h : x < 0) (hn : n < 2 ^ 31) : x < nI n := neg_le h hn
/-- what a loaf takes of d by the part p -/
theorem amount_e {i t p d k v : Nat} {g b : Nat → Nat} {σ τ : ZM} (hi : i < 6) (ht : t < 4) (lf : zLf i σ τ k v g b) (hp : p ≤ 990) (hd : d ≤ 9999) :
    pAm k v (b t) p d ≤ d ∧ f_Baker_amount (51 + i) (nI t) (nI p) (nI d) σ = some (nI (pAm k v (b t) p d), σ) ∧ f_Model_takesBy (nI i) (nI t) (nI p) (nI d) τ = some (nI (pAm k v (b t) p d), τ) := by
  obtain ⟨n0, hk, k1, k2, hv, v1, v2, hg, hb⟩ := lf
  obtain ⟨b1, b2, b3⟩ := hb t ht
  have hpd : p * d ≤ 990 * 9999 := Nat.mul_le_mul hp hd
  have e1 : nI p * nI d / (100 : Int32) = nI (p * d / 100) := by
    rw [nI_mul]; exact nI_divE (b := 100) (by omega) (by omega)
  have e2 : ∀ x, (2 : Int32) * nI x = nI (2 * x) := fun x => nI_mul 2 x
  have e3 : ∀ x, x < 2 ^ 31 → nI x / (2 : Int32) = nI (x / 2) := fun x hx => nI_divE (b := 2) hx (by omega)
  have eg : (6 : Int32) + nI t = nI (6 + t) := nI_add 6 t
  unfold f_Baker_amount f_Model_takesBy pAm
  rw [zck_of (zRl (by omega)), k1, eg, Mget_e hi (by omega), zbd_s, Mkind_e hi, zbd_s, k2, e1, show 8 + 10 * i + (6 + t) = 14 + 10 * i + t by omega, b3, zck_nI ht (by omega), nI_clamp (by omega), show 51 + i + 24 = 75 + i by omega, b2]
  generalize hq : p * d / 100 = q at *
  have hq2 : q < 100000 := by omega
  have hmin : (if nI (b t) < nI q then nI (b t) else nI q) = nI (min (b t) q) := by
    by_cases z : b t < q
    · rw [if_pos (nI_lt z (by omega)), Nat.min_eq_left (by omega)]
    · rw [if_neg (nI_nlt (by omega) (by omega)), Nat.min_eq_right (by omega)]
  unfold f_Baker_amount_62 f_Model_takesBy_75 f_Model_takesBy_98 f_Model_takesBy_117
  rw [hmin, e2]
  have : k = 0 ∨ k = 1 ∨ k = 2 ∨ k = 3 ∨ k = 4 ∨ k = 5 ∨ k = 6 := by omega
  rcases this with rfl | rfl | rfl | rfl | rfl | rfl | rfl
  · exact ⟨show min q d ≤ d by omega, b116 (by omega) (by omega), m137 (by omega) (by omega)⟩
  · have e := b116 (a := d) (d := d) (σ := σ) (by omega) (by omega)
    have e' := m137 (a := d) (d := d) (τ := τ) (by omega) (by omega)
    rw [Nat.min_self] at e e'
    exact ⟨Nat.le_refl _, e, e'⟩
  · exact ⟨show min (2 * q) d ≤ d by omega, b116 (by omega) (by omega), m137 (by omega) (by omega)⟩
  · refine ⟨show min (min (b t) q) d ≤ d by omega, b116 (by omega) (by omega), ?_⟩
    rw [if_neg (show ¬ nI 3 = 1 by decide), if_neg (show ¬ nI 3 = 2 by decide), if_pos (show nI 3 = 3 from rfl)]
    show _ = some (nI (min (min (b t) q) d), τ)
    by_cases z : b t ≤ q
    · rw [if_pos (nI_le z (by omega)), Nat.min_eq_left z]; exact m137 (by omega) (by omega)
    · rw [if_neg (nI_ge (by omega) (by omega)), Nat.min_eq_right (show q ≤ b t by omega)]; exact m137 (by omega) (by omega)
  · rw [if_neg (show ¬ nI 4 = 1 by decide), if_neg (show ¬ nI 4 = 2 by decide), if_neg (show ¬ nI 4 = 3 by decide), if_pos (show nI 4 = 4 from rfl), if_neg (show ¬ nI 4 = 1 by decide), if_neg (show ¬ nI 4 = 2 by decide), if_neg (show ¬ nI 4 = 3 by decide), if_pos (show nI 4 = 4 from rfl), Mnumber_e hi, zbd_s, v1, v2]
    show min (d - v) d ≤ d ∧ _ = some (nI (min (d - v) d), σ) ∧ _ = some (nI (min (d - v) d), τ)
    by_cases z : v ≤ d
    · rw [nI_subE z]
      exact ⟨by omega, b116 (by omega) (by omega), m137 (by omega) (by omega)⟩
    · have neg := rye_n (a := d) (b := v) (by omega) (by omega)
      rw [show min (d - v) d = 0 by omega]
      refine ⟨by omega, ?_, ?_⟩
      · unfold f_Baker_amount_116
        have l1 : ¬ nI d < nI d - nI v := fun w => absurd (Int32.lt_trans w neg) (nI_pos (by omega))
        rw [if_neg l1, if_neg (fun w => absurd (Int32.lt_trans w neg) (by decide))]; rfl
      · unfold f_Model_takesBy_137
        rw [if_pos (Int32.le_of_lt (neg_lt neg (by omega))), if_neg (nlt0 neg)]; rfl
  · exact ⟨show min (2 * q) d ≤ d by omega, b116 (by omega) (by omega), m137 (by omega) (by omega)⟩
  · rw [e3 (min (b t) q) (by omega), zck_nI ht (by omega)]
    refine ⟨show min (min (b t) q / 2) d ≤ d by omega, b116 (by omega) (by omega), ?_⟩
    rw [if_neg (show ¬ nI 6 = 1 by decide), if_neg (show ¬ nI 6 = 2 by decide), if_neg (show ¬ nI 6 = 3 by decide), if_neg (show ¬ nI 6 = 4 by decide), if_neg (show ¬ nI 6 = 5 by decide), if_pos (show nI 6 = 6 from rfl)]
    show _ = some (nI (min (min (b t) q / 2) d), τ)
    by_cases z : b t ≤ q
    · rw [if_pos (nI_le z (by omega)), Nat.min_eq_left z, e3 _ (by omega)]; exact m137 (by omega) (by omega)
    · rw [if_neg (nI_ge (by omega) (by omega)), Nat.min_eq_right (show q ≤ b t by omega), e3 _ (by omega)]; exact m137 (by omega) (by omega)
