/-! PURE: the class reads the text -/
def zhv (c : Nat) : Int32 := if c = 999 then -1 else nI c
def zTx (T : Nat → Nat) (L : Nat) (σ : ZM) : Prop := L ≤ 100 ∧ zI σ 3 1 = nI L ∧ ∀ k, k < L → T k < 128 ∧ zI σ 4 k = nI (T k)
def zFA (σ σ' : ZM) : Prop := (∀ o k, ¬ (o = 3 ∧ (k = 2 ∨ k = 3)) → zI σ' o k = zI σ o k) ∧ (∀ o k, zP σ' o k = zP σ o k) ∧ (∀ o k, zL σ' o k = zL σ o k)
theorem zFA_r (σ : ZM) : zFA σ σ := ⟨fun _ _ _ => rfl, fun _ _ => rfl, fun _ _ => rfl⟩
theorem zFA_t {a b c : ZM} (h : zFA a b) (h2 : zFA b c) : zFA a c := ⟨fun o k n => (h2.1 o k n).trans (h.1 o k n), fun o k => (h2.2.1 o k).trans (h.2.1 o k), fun o k => (h2.2.2 o k).trans (h.2.2 o k)⟩
theorem zFA_2 (σ : ZM) (v : Int32) : zFA σ (zsI σ 3 2 v) := ⟨fun o k n => by rw [zI_sI, if_neg (by omega)], fun _ _ => rfl, fun _ _ => rfl⟩
theorem zFA_3 (σ : ZM) (v : Int32) : zFA σ (zsI σ 3 3 v) := ⟨fun o k n => by rw [zI_sI, if_neg (by omega)], fun _ _ => rfl, fun _ _ => rfl⟩
theorem zTx_F {T : Nat → Nat} {L : Nat} {σ σ' : ZM} (h : zTx T L σ) (f : zFA σ σ') : zTx T L σ' := ⟨h.1, (f.1 3 1 (by omega)).trans h.2.1, fun k hk => ⟨(h.2.2 k hk).1, (f.1 4 k (by omega)).trans (h.2.2 k hk).2⟩⟩
theorem zhr_c {T : Nat → Nat} {L : Nat} {σ : ZM} (h : zTx T L σ) (a : Nat) : zhr T L a < 128 ∨ zhr T L a = 999 := by
  unfold zhr
  split
  · rename_i q; exact Or.inl (h.2.2 a q).1
  · exact Or.inr rfl
theorem zhv_y {c d : Nat} (hd : d < 128) (h : c = d) : zhv c = nI d := by
  subst h; exact if_neg (by omega)
theorem zhv_n {c d : Nat} (hc : c < 128 ∨ c = 999) (hd : d < 128) (h : ¬ c = d) : ¬ zhv c = nI d := by
  unfold zhv
  split
  · exact fun q => nI_nm1 (by omega) q.symm
  · intro q
    have := congrArg Int32.toInt q
    rw [nI_toInt (by omega), nI_toInt (by omega)] at this
    omega
theorem here_e {T : Nat → Nat} {L a : Nat} {σ : ZM} (h : zTx T L σ) (ha : a ≤ L) (h2 : zI σ 3 2 = nI a) : f_Reader_here σ = some (zhv (zhr T L a), σ) := by
  obtain ⟨hL, h1, ht⟩ := h
  unfold f_Reader_here zhr
  rw [h1, h2, if_neg (nI_pos (by omega))]
  by_cases q : a < L
  · rw [if_neg (nI_ge q (by omega)), if_pos q, zck_nI (by omega) (by omega), nI_clamp (by omega), (ht a q).2, zhv_y (ht a q).1 rfl]
  · rw [if_pos (nI_le (by omega) (by omega)), if_neg q]; rfl
theorem skip_e {T : Nat → Nat} {L a d : Nat} {σ : ZM} (h : zTx T L σ) (ha : a ≤ L) (h2 : zI σ 3 2 = nI a) (hd : d < 128) : f_Reader_skip (nI d) σ = if zhr T L a = d then some (nI 1, zsI σ 3 2 (nI (a + 1))) else some (nI 0, σ) := by
  unfold f_Reader_skip
  rw [here_e h ha h2, zbd_s]
  by_cases q : zhr T L a = d
  · rw [if_pos (zhv_y hd q), if_pos q, h2, show (1 : Int32) = nI 1 from rfl, nI_add]
  · rw [if_neg (zhv_n (zhr_c h a) hd q), if_neg q]; rfl
theorem dig_e {c : Nat} (hc : c < 128 ∨ c = 999) (σ : ZM) : f_Reader_isDigit (zhv c) σ = some (zbI (zdig c), σ) := by
  unfold f_Reader_isDigit zhv zdig
  split
  · rename_i q; subst q; rfl
  · by_cases q : c < 48
    · rw [if_pos (show nI c < (48 : Int32) from nI_lt (b := 48) q (by omega)), decide_eq_false (by omega)]; rfl
    · rw [if_neg (show ¬ nI c < (48 : Int32) from nI_nlt (b := 48) (by omega) (by omega)), decide_eq_true (by omega)]
      by_cases q2 : c ≤ 57
      · rw [if_neg (show ¬ (57 : Int32) < nI c from nI_nlt (a := 57) q2 (by omega)), decide_eq_true q2]; rfl
      · rw [if_pos (show (57 : Int32) < nI c from nI_lt (a := 57) (by omega) (by omega)), decide_eq_false (by omega)]; rfl
theorem num_e {T : Nat → Nat} {L a : Nat} {σ : ZM} (h : zTx T L σ) (ha : a ≤ L) (h2 : zI σ 3 2 = nI a) :
    ∃ σ', f_Reader_readNumber σ = some (zbI (zpN T L a).1, σ') ∧ zFA σ σ' ∧ zI σ' 3 2 = nI (zpN T L a).2.1 ∧ ((zpN T L a).1 = true → zI σ' 3 3 = nI (zpN T L a).2.2) := by
  unfold f_Reader_readNumber zpN
  rw [here_e h ha h2, zbd_s, dig_e (zhr_c h a), zbd_s, zif]
  by_cases q : zdig (zhr T L a) = true
  · have l1 := zdig_lt q
    have hL := h.1
    rw [if_pos q, if_pos q, here_e h ha h2, zbd_s]
    simp only [zdig, Bool.and_eq_true, decide_eq_true_eq] at q
    have e1 : zhv (zhr T L a) - (48 : Int32) = nI (zhr T L a - 48) := by
      have := (zhr_c h a)
      rw [zhv_y (d := zhr T L a) (by omega) rfl]; exact nI_subE (b := 48) (by omega)
    have e2 : zI (zsI σ 3 3 (zhv (zhr T L a) - 48)) 3 2 + 1 = nI (a + 1) := by
      rw [zI_sI, if_neg (by omega), h2]; exact nI_add a 1
    rw [e2]
    generalize hσ1 : zsI (zsI σ 3 3 (zhv (zhr T L a) - 48)) 3 2 (nI (a + 1)) = σ1
    have f1 : zFA σ σ1 := by rw [← hσ1]; exact zFA_t (zFA_3 _ _) (zFA_2 _ _)
    have p1 : zI σ1 3 2 = nI (a + 1) := by rw [← hσ1, zI_sI, if_pos ⟨rfl, rfl⟩]
    have v1 : zI σ1 3 3 = nI (zhr T L a - 48) := by rw [← hσ1, zI_sI, if_neg (by omega), zI_sI, if_pos ⟨rfl, rfl⟩, e1]
    have t1 := zTx_F h f1
    rw [here_e t1 (by omega) p1, zbd_s, dig_e (zhr_c h _), zbd_s, zif]
    by_cases w : zdig (zhr T L (a + 1)) = true
    · rw [if_pos w, if_pos w, here_e t1 (by omega) p1, zbd_s]
      simp only [zdig, Bool.and_eq_true, decide_eq_true_eq] at w
      have e3 : zI σ1 3 3 * 10 + zhv (zhr T L (a + 1)) - (48 : Int32) = nI (10 * (zhr T L a - 48) + (zhr T L (a + 1) - 48)) := by
        rw [v1, zhv_y (d := zhr T L (a + 1)) (by omega) rfl, show (10 : Int32) = nI 10 from rfl, nI_mul, nI_add, show (48 : Int32) = nI 48 from rfl, nI_subE (by omega)]
        congr 1; omega
      rw [e3]
      refine ⟨_, rfl, zFA_t f1 (zFA_t (zFA_3 _ _) (zFA_2 _ _)), ?_, fun _ => ?_⟩
      · rw [zI_sI, if_pos ⟨rfl, rfl⟩, zI_sI, if_neg (by omega), p1]; exact nI_add (a + 1) 1
      · rw [zI_sI, if_neg (by omega), zI_sI, if_pos ⟨rfl, rfl⟩]
    · rw [if_neg w, if_neg w]
      exact ⟨_, rfl, f1, p1, fun _ => v1⟩
  · rw [if_neg q, if_neg q]
    exact ⟨_, rfl, zFA_r _, h2, fun q => by cases q⟩
def zlv (l : Nat) : Int32 := if l = 9 then -1 else nI l
theorem let_e {c : Nat} (hc : c < 128 ∨ c = 999) (σ : ZM) : f_Reader_letterOf (zhv c) σ = some (zlv (zli c), σ) := by
  unfold f_Reader_letterOf
  by_cases h104 : c = 104
  · subst h104; rfl
  rw [if_neg (show ¬ zhv c = (104 : Int32) from zhv_n (d := 104) hc (by omega) h104)]
  by_cases h105 : c = 105
  · subst h105; rfl
  rw [if_neg (show ¬ zhv c = (105 : Int32) from zhv_n (d := 105) hc (by omega) h105)]
  by_cases h106 : c = 106
  · subst h106; rfl
  rw [if_neg (show ¬ zhv c = (106 : Int32) from zhv_n (d := 106) hc (by omega) h106)]
  by_cases h107 : c = 107
  · subst h107; rfl
  rw [if_neg (show ¬ zhv c = (107 : Int32) from zhv_n (d := 107) hc (by omega) h107)]
  by_cases h108 : c = 108
  · subst h108; rfl
  rw [if_neg (show ¬ zhv c = (108 : Int32) from zhv_n (d := 108) hc (by omega) h108)]
  by_cases h109 : c = 109
  · subst h109; rfl
  rw [if_neg (show ¬ zhv c = (109 : Int32) from zhv_n (d := 109) hc (by omega) h109)]
  by_cases h110 : c = 110
  · subst h110; rfl
  rw [if_neg (show ¬ zhv c = (110 : Int32) from zhv_n (d := 110) hc (by omega) h110)]
  by_cases h111 : c = 111
  · subst h111; rfl
  rw [if_neg (show ¬ zhv c = (111 : Int32) from zhv_n (d := 111) hc (by omega) h111)]
  by_cases h112 : c = 112
  · subst h112; rfl
  rw [if_neg (show ¬ zhv c = (112 : Int32) from zhv_n (d := 112) hc (by omega) h112)]
  by_cases h113 : c = 113
  · subst h113; rfl
  rw [if_neg (show ¬ zhv c = (113 : Int32) from zhv_n (d := 113) hc (by omega) h113)]
  by_cases h114 : c = 114
  · subst h114; rfl
  rw [if_neg (show ¬ zhv c = (114 : Int32) from zhv_n (d := 114) hc (by omega) h114)]
  by_cases h115 : c = 115
  · subst h115; rfl
  rw [if_neg (show ¬ zhv c = (115 : Int32) from zhv_n (d := 115) hc (by omega) h115)]
  by_cases h116 : c = 116
  · subst h116; rfl
  rw [if_neg (show ¬ zhv c = (116 : Int32) from zhv_n (d := 116) hc (by omega) h116)]
  by_cases h117 : c = 117
  · subst h117; rfl
  rw [if_neg (show ¬ zhv c = (117 : Int32) from zhv_n (d := 117) hc (by omega) h117)]
  by_cases h118 : c = 118
  · subst h118; rfl
  rw [if_neg (show ¬ zhv c = (118 : Int32) from zhv_n (d := 118) hc (by omega) h118)]
  unfold zli
  rw [if_neg h108, if_neg h107, if_neg h116, if_neg h118, if_neg h104, if_neg h111]; rfl
/-- the kiln K is being told: clause c of it, with the steps Q so far -/
def zB0 (T : Nat → Nat) (L K c : Nat) (σ : ZM) : Prop := zTx T L σ ∧ zP σ 3 4 = K ∧ zI σ K 5 = nI c ∧ 1 ≤ c ∧ c ≤ 10 ∧ ∃ i, i < 6 ∧ K = 87 + i
def zBf (σ0 : ZM) (K c : Nat) (σ : ZM) : Prop := (∀ o k, ¬ (o = 3 ∧ (k = 2 ∨ k = 3)) → ¬ (o = K ∧ k = 6) → ¬ o = K + 28 → ¬ (o = K + 21 ∧ k = c - 1) → zI σ o k = zI σ0 o k) ∧ (∀ o k, zP σ o k = zP σ0 o k) ∧ (∀ o k, zL σ o k = zL σ0 o k)
def zBs (K c : Nat) (Q : List Int32) (σ : ZM) : Prop := zI σ K 6 = nI Q.length ∧ zI σ (K + 21) (c - 1) = nI Q.length ∧ (∀ j s, Q[j]? = some s → zI σ (K + 28) j = s)
def zBO (T : Nat → Nat) (L K c : Nat) (σ0 : ZM) (Q : List Int32) (r : ZR) (x : Option (Int32 × ZM)) : Prop :=
  ∃ σ', x = some (zbI r.1, σ') ∧ zBf σ0 K c σ' ∧ zI σ' 3 2 = nI r.2.1 ∧ (r.1 = true → zBs K c (Q ++ r.2.2) σ')
def zBP (T : Nat → Nat) (L K c : Nat) (σ0 : ZM) (p : Nat → ZR) (f : ZM → Option (Int32 × ZM)) : Prop :=
  ∀ a Q σ, a ≤ L → Q.length ≤ a → zBf σ0 K c σ → zI σ 3 2 = nI a → zBs K c Q σ → zBO T L K c σ0 Q (p a) (f σ)
theorem zBf_A {σ0 σ σ' : ZM} {K c : Nat} (hK : 87 ≤ K) (h : zBf σ0 K c σ) (f : zFA σ σ') : zBf σ0 K c σ' :=
  ⟨fun o k n1 n2 n3 n4 => (f.1 o k n1).trans (h.1 o k n1 n2 n3 n4), fun o k => (f.2.1 o k).trans (h.2.1 o k), fun o k => (f.2.2 o k).trans (h.2.2 o k)⟩
theorem zBs_A {σ σ' : ZM} {K c : Nat} {Q : List Int32} (hK : 87 ≤ K) (h : zBs K c Q σ) (f : zFA σ σ') : zBs K c Q σ' :=
  ⟨(f.1 _ _ (by omega)).trans h.1, (f.1 _ _ (by omega)).trans h.2.1, fun j s hj => (f.1 _ _ (by omega)).trans (h.2.2 j s hj)⟩
theorem zB0_f {T : Nat → Nat} {L K c : Nat} {σ0 σ : ZM} (h : zB0 T L K c σ0) (f : zBf σ0 K c σ) : zB0 T L K c σ := by
  obtain ⟨⟨t1, t2, t3⟩, h2, h3, h4, h5, i, hi, rfl⟩ := h
  exact ⟨⟨t1, (f.1 _ _ (by omega) (by omega) (by omega) (by omega)).trans t2, fun k hk => ⟨(t3 k hk).1, (f.1 _ _ (by omega) (by omega) (by omega) (by omega)).trans (t3 k hk).2⟩⟩, (f.2.1 _ _).trans h2, (f.1 _ _ (by omega) (by omega) (by omega) (by omega)).trans h3, h4, h5, i, hi, rfl⟩
/-- a step joins -/
theorem app_e {T : Nat → Nat} {L K c : Nat} {σ0 σ : ZM} {Q : List Int32} (h0 : zB0 T L K c σ0) (f : zBf σ0 K c σ) (s : zBs K c Q σ) (hq : Q.length < 100) (x : Int32) :
    zR 0 129 (zP σ 3 4) 15 0 = true ∧ ∃ σ', f_Kiln_append (zP σ 3 4) x σ = some ((), σ') ∧ zBf σ0 K c σ' ∧ zBs K c (Q ++ [x]) σ' ∧ zI σ' 3 2 = zI σ 3 2 := by
  obtain ⟨-, h2, h3, h4, h5, i, hi, rfl⟩ := zB0_f h0 f
  obtain ⟨s1, s2, s3⟩ := s
  have hz := zRkn (j := i) (by omega)
  refine ⟨by rw [h2, hz], ?_⟩
  unfold f_Kiln_append
  rw [h2, zck_of hz, s1, h3, if_neg (show ¬ (100 : Int32) ≤ nI Q.length from nI_ge (b := 100) (by omega) (by omega)), if_pos (show (1 : Int32) ≤ nI c from nI_le (a := 1) h4 (by omega))]
  have ec : nI c - (1 : Int32) = nI (c - 1) := nI_subE (b := 1) h4
  have eq : nI Q.length + (1 : Int32) = nI (Q.length + 1) := nI_add _ 1
  have z1 : ∀ v : Int32, zI (zsI σ (87 + i + 28) Q.length v) (87 + i) 6 = nI Q.length := fun v => by rw [zI_sI, if_neg (by omega)]; exact s1
  rw [zck_nI (by omega) (by omega), nI_clamp (by omega), z1, eq]
  generalize hσ1 : zsI (zsI σ (87 + i + 28) Q.length x) (87 + i) 6 (nI (Q.length + 1)) = σ1
  have c1 : zI σ1 (87 + i) 5 = nI c := by rw [← hσ1, zI_sI, if_neg (by omega), zI_sI, if_neg (by omega)]; exact h3
  have c2 : zI σ1 (87 + i) 6 = nI (Q.length + 1) := by rw [← hσ1, zI_sI, if_pos ⟨rfl, rfl⟩]
  rw [c1, ec, c2, zck_nI (by omega) (by omega), nI_clamp (by omega)]
  refine ⟨_, rfl, ⟨fun o k n1 n2 n3 n4 => ?_, fun o k => ?_, fun o k => ?_⟩, ⟨?_, ?_, fun j s hj => ?_⟩, ?_⟩
  · rw [zI_sI, if_neg n4, ← hσ1, zI_sI, if_neg n2, zI_sI, if_neg (fun q => n3 q.1)]; exact f.1 o k n1 n2 n3 n4
  · rw [zP_sI, ← hσ1, zP_sI, zP_sI]; exact f.2.1 o k
  · rw [zL_sI, ← hσ1, zL_sI, zL_sI]; exact f.2.2 o k
  · rw [zI_sI, if_neg (by omega), c2, List.length_append]; rfl
  · rw [zI_sI, if_pos ⟨rfl, rfl⟩, List.length_append]; rfl
  · rw [zI_sI, if_neg (by omega), ← hσ1, zI_sI, if_neg (by omega), zI_sI]
    by_cases q : j = Q.length
    · subst q
      rw [if_pos ⟨rfl, rfl⟩]
      rw [List.getElem?_append_right (Nat.le_refl _), Nat.sub_self] at hj
      exact Option.some.inj hj
    · have hl : j < Q.length := by
        have := (List.getElem?_eq_some_iff.mp hj).1
        rw [List.length_append, List.length_singleton] at this
        omega
      rw [if_neg (fun z => q z.2)]
      rw [List.getElem?_append_left hl] at hj
      exact s3 j s hj
  · rw [zI_sI, if_neg (by omega), ← hσ1, zI_sI, if_neg (by omega), zI_sI, if_neg (by omega)]
