/-! PURE: the reference reads all clauses -/
def zsmB (lam : Nat → Int32) (w : Nat) (cs : List ZCl) : Nat := cs.foldl (fun a c => if c.1 = w ∧ zevB lam c.2.2 = true then a + c.2.1 else a) 0
theorem zsmB_a (lam : Nat → Int32) (w : Nat) (cs : List ZCl) (c : ZCl) : zsmB lam w (cs ++ [c]) = zsmB lam w cs + (if c.1 = w ∧ zevB lam c.2.2 = true then c.2.1 else 0) := by
  unfold zsmB
  rw [List.foldl_append]
  show (if c.1 = w ∧ zevB lam c.2.2 = true then _ + c.2.1 else _) = _
  split <;> rfl
def zAc (l0 l1 : Nat → Int32) (mn : Prop) (cs : List ZCl) (σ : ZM) : Prop :=
  zI σ 129 17 = nI (zcnt cs) ∧ zI σ 129 19 = nI (zcold cs) ∧ (mn → zI σ 129 16 = nI (zsmB l0 0 cs) ∧ zI σ 129 18 = nI (zsmB l0 1 cs) ∧ zI σ 129 20 = nI (1 + zsmB l1 3 cs))
theorem nI_if (p : Prop) [Decidable p] (a : Nat) : (if p then nI a else 0) = nI (if p then a else 0) := by split <;> rfl
theorem zAc_a {l0 l1 : Nat → Int32} {mn : Prop} {cs : List ZCl} {c : ZCl} {b : Bool} {σ σ' : ZM} (hw : c.1 < 4) (h : zAc l0 l1 mn cs σ) (ad : zAd c.1 c.2.1 b σ σ') (hb : mn → ¬ c.1 = 2 → b = zevB (if c.1 = 3 then l1 else l0) c.2.2) : zAc l0 l1 mn (cs ++ [c]) σ' := by
  obtain ⟨a1, a2, a3⟩ := h
  obtain ⟨d1, d2, d3, d4, d5⟩ := ad
  refine ⟨?_, ?_, fun m => ?_⟩
  · rw [d1, a1, zcnt_a, ← nI_add]
    split <;> rfl
  · rw [d2, a2, zcold_a]
    split <;> rfl
  · obtain ⟨b1, b2, b3⟩ := a3 m
    have hbb := hb m
    rw [d3, d4, d5, b1, b2, b3, zsmB_a, zsmB_a, zsmB_a, nI_if, nI_if, nI_if, nI_add, nI_add, nI_add, ← Nat.add_assoc]
    obtain ⟨w, nu, S⟩ := c
    dsimp only at *
    have : w = 0 ∨ w = 1 ∨ w = 2 ∨ w = 3 := by omega
    rcases this with rfl | rfl | rfl | rfl
    · have e : b = zevB l0 S := hbb (by decide)
      subst e
      refine ⟨?_, ?_, ?_⟩
      · simp
      · simp
      · simp
    · have e : b = zevB l0 S := hbb (by decide)
      subst e
      refine ⟨?_, ?_, ?_⟩
      · simp
      · simp
      · simp
    · refine ⟨?_, ?_, ?_⟩
      · simp
      · simp
      · simp
    · have e : b = zevB l1 S := hbb (by decide)
      subst e
      refine ⟨?_, ?_, ?_⟩
      · simp
      · simp
      · simp
theorem zpC_w {T : Nat → Nat} {L a : Nat} : (zpC T L a).2.2.1 < 4 := by
  unfold zpC
  dsimp only
  by_cases h : zwd0 (zhr T L a) = 9
  · rw [if_pos h]; exact (by decide : (0 : Nat) < 4)
  · rw [if_neg h]
    have := zwd_lt h
    split
    · exact (by decide : (0 : Nat) < 4)
    · split
      · exact (by decide : (0 : Nat) < 4)
      · split
        · exact (by decide : (2 : Nat) < 4)
        · split
          · split
            · exact this
            · exact (by decide : (0 : Nat) < 4)
          · exact (by decide : (0 : Nat) < 4)
theorem mreads_u (N : Nat) (x : Int32) (σ : ZM) : F_Model_reads_80 (N + 1) (x, σ) = f_Model_reads_80 (F_Model_reads_80 N) x σ := rfl
theorem mcl_e {T : Nat → Nat} {L : Nat} {σ0 : ZM} : ∀ (n N a x : Nat) (cs : List ZCl) (σ : ZM), x + n = 10 → n < N → zMT T L σ → zMG σ0 σ → a ≤ L → zI σ 129 11 = nI a → zI σ 129 14 = 0 → zAc (mlm σ0 0) (mlm σ0 1) (¬ zI σ0 130 5 = 0) cs σ →
    ∃ σ', F_Model_reads_80 N (nI x, σ) = some ((), σ') ∧ zMG σ0 σ' ∧ zI σ' 129 11 = nI (zpA T L (n + 1) a).2.1 ∧ zI σ' 129 14 = zbI (!(zpA T L (n + 1) a).1) ∧ ((zpA T L (n + 1) a).1 = true → zAc (mlm σ0 0) (mlm σ0 1) (¬ zI σ0 130 5 = 0) (cs ++ (zpA T L (n + 1) a).2.2) σ') := by
  intro n
  induction n with
  | zero =>
    intro N a x cs σ hx hN t g ha h2 h0 ac
    obtain ⟨N, rfl⟩ : ∃ M, N = M + 1 := ⟨N - 1, by omega⟩
    obtain rfl : x = 10 := by omega
    have hL := t.1
    obtain ⟨σ1, e1, f1, p1, w1, c1⟩ := mclause_e t ha h2 h0
    obtain ⟨g1, g2, g3⟩ := zpC_G (T := T) ha
    rw [mreads_u]
    unfold f_Model_reads_80 f_Model_reads_119 zpA
    dsimp only
    rw [e1, zbd_s, w1]
    have t1 := zMT_G t f1
    by_cases q : (zpC T L a).1 = true
    · rw [q] at w1
      rw [if_neg (show ¬ (zpC T L a).1 = false by rw [q]; decide), q, if_pos (show zbI (!true) = 0 from rfl), p1, t1.2.1]
      obtain ⟨b, ad, hb⟩ := c1 q
      have ac2 := zAc_a zpC_w ac ad (fun m w2 => by
        rw [hb (by rw [g.1 130 5 (by omega)]; exact m) w2, mlm_G g]
        split <;> rfl)
      by_cases l : (zpC T L a).2.1 = L
      · rw [if_pos l, if_pos (by rw [l])]
        exact ⟨_, rfl, zMG_t g f1, by rw [p1, l], w1, fun _ => ac2⟩
      · rw [if_neg l, if_neg (fun q => l ((nI_eq (by omega) (by omega)).mp q)), if_pos (show nI 10 = 10 from rfl), if_pos (Or.inl rfl)]
        exact ⟨_, rfl, zMG_t g (zMG_t f1 (zMG_s _ _ (by omega))), by rw [zI_sI, if_neg (by omega)]; exact p1, by rw [zI_sI, if_pos ⟨rfl, rfl⟩]; rfl, fun q => by cases q⟩
    · have q' : (zpC T L a).1 = false := Bool.eq_false_iff.mpr q
      rw [q'] at w1
      rw [if_pos q', q', if_neg (show ¬ zbI (!false) = 0 by decide)]
      exact ⟨_, rfl, zMG_t g f1, p1, w1, fun q => by cases q⟩
  | succ n ih =>
    intro N a x cs σ hx hN t g ha h2 h0 ac
    obtain ⟨N, rfl⟩ : ∃ M, N = M + 1 := ⟨N - 1, by omega⟩
    have hL := t.1
    obtain ⟨σ1, e1, f1, p1, w1, c1⟩ := mclause_e t ha h2 h0
    obtain ⟨g1, g2, g3⟩ := zpC_G (T := T) ha
    rw [mreads_u]
    unfold f_Model_reads_80 f_Model_reads_119 zpA
    dsimp only
    rw [e1, zbd_s, w1]
    have t1 := zMT_G t f1
    by_cases q : (zpC T L a).1 = true
    · rw [q] at w1
      rw [if_neg (show ¬ (zpC T L a).1 = false by rw [q]; decide), q, if_pos (show zbI (!true) = 0 from rfl), p1, t1.2.1]
      obtain ⟨b, ad, hb⟩ := c1 q
      have ac2 := zAc_a zpC_w ac ad (fun m w2 => by
        rw [hb (by rw [g.1 130 5 (by omega)]; exact m) w2, mlm_G g]
        split <;> rfl)
      have gg := zMG_t g f1
      by_cases l : (zpC T L a).2.1 = L
      · rw [if_pos l, if_pos (by rw [l])]
        exact ⟨_, rfl, gg, by rw [p1, l], w1, fun _ => ac2⟩
      · have n10 : ¬ nI x = (10 : Int32) := fun q => by
          have := (nI_eq (a := x) (b := 10) (by omega) (by omega)).mp q
          omega
        rw [if_neg l, if_neg (fun q => l ((nI_eq (by omega) (by omega)).mp q)), if_neg n10, mhere_e t1 g2 p1, zbd_s]
        by_cases b : zhr T L (zpC T L a).2.1 = 59
        · rw [if_pos (show zhv (zhr T L (zpC T L a).2.1) = (59 : Int32) from zhv_y (d := 59) (by omega) b), if_neg (show ¬ (n + 1 = 0 ∨ ¬ zhr T L (zpC T L a).2.1 = 59) by omega), p1, show nI (zpC T L a).2.1 + (1 : Int32) = nI ((zpC T L a).2.1 + 1) from nI_add _ 1, show nI x + (1 : Int32) = nI (x + 1) from nI_add _ 1]
          have f2 : zMF σ1 (zsI σ1 129 11 (nI ((zpC T L a).2.1 + 1))) := zMF_11 _ _
          have u : ∀ k, ¬ k = 11 → zI (zsI σ1 129 11 (nI ((zpC T L a).2.1 + 1))) 129 k = zI σ1 129 k := fun k hk => by rw [zI_sI, if_neg (by omega)]
          obtain ⟨σ3, e3, g4, p3, w3, c3⟩ := ih N ((zpC T L a).2.1 + 1) (x + 1) (cs ++ [(zpC T L a).2.2]) _ (by omega) (by omega) (zMT_F t1 f2) (zMG_t gg (zMG_F f2)) (by omega) (by rw [zI_sI, if_pos ⟨rfl, rfl⟩]) ((u 14 (by omega)).trans w1) ⟨(u _ (by omega)).trans ac2.1, (u _ (by omega)).trans ac2.2.1, fun m => ⟨(u _ (by omega)).trans (ac2.2.2 m).1, (u _ (by omega)).trans (ac2.2.2 m).2.1, (u _ (by omega)).trans (ac2.2.2 m).2.2⟩⟩
          exact ⟨σ3, e3, g4, p3, w3, fun z => by have := c3 z; rw [List.append_assoc] at this; exact this⟩
        · rw [if_neg (show ¬ zhv (zhr T L (zpC T L a).2.1) = (59 : Int32) from zhv_n (d := 59) (zmr_c t _) (by omega) b), if_pos (Or.inr b)]
          exact ⟨_, rfl, zMG_t gg (zMG_s _ _ (by omega)), by rw [zI_sI, if_neg (by omega)]; exact p1, by rw [zI_sI, if_pos ⟨rfl, rfl⟩]; rfl, fun q => by cases q⟩
    · have q' : (zpC T L a).1 = false := Bool.eq_false_iff.mpr q
      rw [q'] at w1
      rw [if_pos q', q', if_neg (show ¬ zbI (!false) = 0 by decide)]
      exact ⟨_, rfl, zMG_t g f1, p1, w1, fun q => by cases q⟩
/-- what the letters stand for, told by the row -/
def zlm (τ : ZM) (l t f li : Nat) : Int32 :=
  if li = 0 then nI l else if li = 1 then zI τ 130 (8 + 10 * l) else if li = 2 then (if f = 0 then nI t else 99) else if li = 3 then zI τ 130 (9 + 10 * l) else if li = 4 then zI τ 130 4 - zI τ 130 4 / 60 * 60 else (if f = 0 then zI τ 130 t / 10 else 99)
/-- all but what a reading or its start sets -/
def zMH (σ σ' : ZM) : Prop := (∀ o k, ¬ (o = 129 ∧ 9 ≤ k ∧ k ≤ 20) → zI σ' o k = zI σ o k) ∧ (∀ o k, zP σ' o k = zP σ o k) ∧ (∀ o k, zL σ' o k = zL σ o k)
def zRd (τ : ZM) (l t : Nat) (cs : List ZCl) (τ' : ZM) : Prop :=
  zI τ' 129 17 = nI (zcnt cs) ∧ zI τ' 129 19 = nI (zcold cs) ∧ (¬ zI τ 130 5 = 0 → zI τ' 129 16 = nI (zsmB (zlm τ l t 0) 0 cs) ∧ zI τ' 129 18 = nI (zsmB (zlm τ l t 0) 1 cs) ∧ zI τ' 129 20 = nI (1 + zsmB (zlm τ l t 1) 3 cs))
/-- the start of a reading -/
def zst9 (σ : ZM) (b e x2 x3 : Int32) : ZM := zsI (zsI (zsI (zsI (zsI (zsI (zsI (zsI (zsI (zsI (zsI σ 129 9 b) 129 10 e) 129 11 0) 129 12 x2) 129 13 x3) 129 14 0) 129 16 0) 129 17 0) 129 18 0) 129 19 50) 129 20 1
theorem zst9_e (σ : ZM) (b e x2 x3 : Int32) : zMH σ (zst9 σ b e x2 x3) ∧ zI (zst9 σ b e x2 x3) 129 9 = b ∧ zI (zst9 σ b e x2 x3) 129 10 = e ∧ zI (zst9 σ b e x2 x3) 129 11 = 0 ∧ zI (zst9 σ b e x2 x3) 129 12 = x2 ∧ zI (zst9 σ b e x2 x3) 129 13 = x3 ∧ zI (zst9 σ b e x2 x3) 129 14 = 0 ∧ zI (zst9 σ b e x2 x3) 129 16 = 0 ∧ zI (zst9 σ b e x2 x3) 129 17 = 0 ∧ zI (zst9 σ b e x2 x3) 129 18 = 0 ∧ zI (zst9 σ b e x2 x3) 129 19 = 50 ∧ zI (zst9 σ b e x2 x3) 129 20 = 1 := by
  unfold zst9
  refine ⟨⟨fun o k n => ?_, fun _ _ => rfl, fun _ _ => rfl⟩, ?_, ?_, ?_, ?_, ?_, ?_, ?_, ?_, ?_, ?_, ?_⟩
  · rw [zI_sI, if_neg (by omega), zI_sI, if_neg (by omega), zI_sI, if_neg (by omega), zI_sI, if_neg (by omega), zI_sI, if_neg (by omega), zI_sI, if_neg (by omega), zI_sI, if_neg (by omega), zI_sI, if_neg (by omega), zI_sI, if_neg (by omega), zI_sI, if_neg (by omega), zI_sI, if_neg (by omega)]
  all_goals simp only [zI_sI, true_and, Nat.reduceEqDiff, if_true, if_false]
theorem zMH_G {a b c : ZM} (h : zMH a b) (g : zMG b c) : zMH a c := ⟨fun o k n => (g.1 o k (by omega)).trans (h.1 o k n), fun o k => (g.2.1 o k).trans (h.2.1 o k), fun o k => (g.2.2 o k).trans (h.2.2 o k)⟩
theorem mlm_l {τ σ : ZM} {l t : Nat} (h : zMH τ σ) (hl : l < 6) (ht : t < 4) (e1 : zI σ 129 12 = nI l) (e2 : zI σ 129 13 = nI t) (f : Nat) (hf : f < 2) : mlm σ f = zlm τ l t f := by
  funext li
  have e : ∀ o j, ¬ (o = 129 ∧ j = 15) → zI (zsI σ 129 15 (nI f)) o j = zI σ o j := fun o j n => by rw [zI_sI, if_neg n]
  have e5 : zI (zsI σ 129 15 (nI f)) 129 15 = nI f := by rw [zI_sI, if_pos ⟨rfl, rfl⟩]
  unfold mlm mlam zlm
  rw [e5, e 129 12 (by omega), e 129 13 (by omega), e1, e2, nI_clamp (by omega), nI_clamp (by omega), e 130 _ (by omega), e 130 _ (by omega), e 130 _ (by omega), e 130 _ (by omega), h.1 130 _ (by omega), h.1 130 _ (by omega), h.1 130 _ (by omega), h.1 130 _ (by omega)]
  have : f = 0 ∨ f = 1 := by omega
  rcases this with rfl | rfl <;> rfl
/-- a whole reading, well or not -/
theorem reads_p {T : Nat → Nat} {L i l t : Nat} {τ : ZM} (hi : i < 6) (hl : l < 6) (ht : t < 4) (hL : L ≤ 100) (e1 : zI τ 135 i = nI L) (eT : ∀ k, k < L → T k < 128 ∧ zI τ 134 (100 * i + k) = nI (T k)) :
    ∃ τ', f_Model_reads (nI i) (nI l) (nI t) τ = some ((), τ') ∧ zMH τ τ' ∧ zI τ' 129 11 = nI (zpA T L 10 0).2.1 ∧ zI τ' 129 14 = zbI (!(zpA T L 10 0).1) ∧ ((zpA T L 10 0).1 = true → zRd τ l t (zpA T L 10 0).2.2 τ') := by
  unfold f_Model_reads f_Model_reads_23
  have e9 : (100 : Int32) * nI i = nI (100 * i) := nI_mul 100 i
  rw [if_pos (nI_pos' (by omega)), if_pos (nI_pos' (by omega)), zck_nI hi (by omega), nI_clamp (by omega), e9, show zI (zsI τ 129 9 (nI (100 * i))) 135 i = zI τ 135 i by rw [zI_sI, if_neg (by omega)], e1]
  obtain ⟨h, z9, z10, z11, z12, z13, z14, z16, z17, z18, z19, z20⟩ := zst9_e τ (nI (100 * i)) (nI L) (nI l) (nI t)
  have T0 : zMT T L (zst9 τ (nI (100 * i)) (nI L) (nI l) (nI t)) := ⟨hL, z10, ⟨i, hi, z9, fun k hk => ⟨(eT k hk).1, (h.1 134 _ (by omega)).trans (eT k hk).2⟩⟩, l, t, hl, ht, z12, z13⟩
  obtain ⟨τ', a1, a2, a3, a4, a5⟩ := mcl_e (T := T) (L := L) (σ0 := zst9 τ (nI (100 * i)) (nI L) (nI l) (nI t)) 9 2000 0 1 [] _ (by omega) (by omega) T0 (zMG_F (zMF_r _)) (by omega) z11 z14 ⟨z17, z19, fun _ => ⟨z16, z18, z20⟩⟩
  refine ⟨τ', a1, zMH_G h a2, a3, a4, fun z => ?_⟩
  have := a5 z
  rw [mlm_l h hl ht z12 z13 0 (by omega), mlm_l h hl ht z12 z13 1 (by omega), h.1 130 5 (by omega)] at this
  exact this
theorem reads_0 {l t : Nat} {τ : ZM} (hl : l < 6) (ht : t < 4) : ∃ τ', f_Model_reads (-1) (nI l) (nI t) τ = some ((), τ') ∧ zMH τ τ' ∧ zRd τ l t [] τ' := by
  unfold f_Model_reads f_Model_reads_23
  rw [if_neg (show ¬ (0 : Int32) ≤ -1 by decide), if_neg (show ¬ (0 : Int32) ≤ -1 by decide)]
  obtain ⟨h, z9, z10, z11, z12, z13, z14, z16, z17, z18, z19, z20⟩ := zst9_e τ ((100 : Int32) * -1) 0 (nI l) (nI t)
  exact ⟨_, rfl, h, z17, z19, fun _ => ⟨z16, z18, z20⟩⟩
