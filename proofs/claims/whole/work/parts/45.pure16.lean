/-! PURE: the class reads a kiln -/
theorem word_u (N w : Nat) (i : Int32) (σ : ZM) : F_Reader_readWord_2 (N + 1) (w, i, σ) = f_Reader_readWord_2 (F_Reader_readWord_2 N) w i σ := rfl
theorem word_l {T : Nat → Nat} {L w : Nat} : ∀ (cs : List Nat) (i N a : Nat) (σ : ZM), zslen.getD w 0 = i + cs.length → i + cs.length < 100 → cs.length < N → (∀ j c, cs[j]? = some c → c < 128 ∧ zschar w (nI (i + j)) = nI c) → zTx T L σ → a ≤ L → zI σ 3 2 = nI a →
    ∃ σ', F_Reader_readWord_2 N (w, nI i, σ) = some (zbI (zpS T L cs a).1, σ') ∧ zFA σ σ' ∧ zI σ' 3 2 = nI (zpS T L cs a).2
  | [], i, N, a, σ, hl, hi, hN, hc, t, ha, h2 => by
    obtain ⟨N, rfl⟩ : ∃ M, N = M + 1 := ⟨N - 1, by simp only [List.length_nil] at hN; omega⟩
    rw [word_u]
    unfold f_Reader_readWord_2
    rw [hl, if_pos (show Int32.ofNat (i + [].length) ≤ nI i from nI_le (a := i) (by omega) (by omega))]
    exact ⟨_, rfl, zFA_r _, h2⟩
  | c :: cs, i, N, a, σ, hl, hi, hN, hc, t, ha, h2 => by
    obtain ⟨N, rfl⟩ : ∃ M, N = M + 1 := ⟨N - 1, by simp only [List.length_cons] at hN; omega⟩
    rw [word_u]
    simp only [List.length_cons] at hl hi hN
    obtain ⟨c1, c2⟩ := hc 0 c rfl
    unfold f_Reader_readWord_2 zpS
    rw [hl, if_neg (show ¬ Int32.ofNat (i + (cs.length + 1)) ≤ nI i from nI_ge (b := i + (cs.length + 1)) (by omega) (by omega)), zck_nI (by omega) (by omega), show zschar w (nI i) = nI c from c2, skip_e t ha h2 c1]
    by_cases q : zhr T L a = c
    · have l1 : a < L := zhr_lt (T := T) (by omega)
      rw [if_pos q, if_pos q, zbd_s, if_neg (show ¬ nI 1 = 0 by decide), show nI i + (1 : Int32) = nI (i + 1) from nI_add i 1]
      obtain ⟨σ', e, f, p⟩ := word_l (w := w) cs (i + 1) N (a + 1) (zsI σ 3 2 (nI (a + 1))) (by omega) (by omega) (by omega) (fun j d hj => by
        obtain ⟨d1, d2⟩ := hc (j + 1) d hj
        exact ⟨d1, by rw [show i + 1 + j = i + (j + 1) by omega]; exact d2⟩) (zTx_F t (zFA_2 _ _)) (by omega) (by rw [zI_sI, if_pos ⟨rfl, rfl⟩])
      exact ⟨σ', e, zFA_t (zFA_2 _ _) f, p⟩
    · rw [if_neg q, if_neg q, zbd_s, if_pos (show nI 0 = 0 from rfl)]
      exact ⟨_, rfl, zFA_r _, h2⟩
theorem zpS_s {T : Nat → Nat} {L d : Nat} : ∀ (cs : List Nat) (a : Nat), zpS T L (cs ++ [d]) a = if (zpS T L cs a).1 = true then (if zhr T L (zpS T L cs a).2 = d then (true, (zpS T L cs a).2 + 1) else (false, (zpS T L cs a).2)) else (false, (zpS T L cs a).2)
  | [], a => by
    rw [if_pos (show (zpS T L [] a).1 = true from rfl)]; rfl
  | c :: cs, a => by
    show (if zhr T L a = c then zpS T L (cs ++ [d]) (a + 1) else (false, a)) = _
    by_cases q : zhr T L a = c
    · have e : zpS T L (c :: cs) a = zpS T L cs (a + 1) := if_pos q
      rw [if_pos q, e]; exact zpS_s cs (a + 1)
    · have e : zpS T L (c :: cs) a = (false, a) := if_neg q
      rw [if_neg q, e]; rfl
def zsp0 (w : Nat) : List Nat := if w = 0 then [116, 97, 107, 101] else if w = 1 then [109, 111, 114, 101] else if w = 2 then [99, 111, 108, 100] else [102, 101, 101]
theorem zsp_e : ∀ w, w < 4 → zspell w = zsp0 w ++ [32] := by decide
theorem zsp_c : ∀ w, w < 4 → (zslen.getD w 0 = (zsp0 w).length ∧ ∀ j, j < (zsp0 w).length → ((zsp0 w).getD j 0) < 128 ∧ zschar w (nI j) = nI ((zsp0 w).getD j 0)) := by decide +kernel
def zwv (w : Nat) : Int32 := if w = 9 then -1 else nI w
theorem wf_e {c : Nat} (hc : c < 128 ∨ c = 999) (σ : ZM) : f_Reader_wordFrom (zhv c) σ = some (zwv (zwd0 c), σ) := by
  unfold f_Reader_wordFrom
  by_cases h99 : c = 99
  · subst h99; rfl
  rw [if_neg (show ¬ zhv c = (99 : Int32) from zhv_n (d := 99) hc (by omega) h99)]
  by_cases h102 : c = 102
  · subst h102; rfl
  rw [if_neg (show ¬ zhv c = (102 : Int32) from zhv_n (d := 102) hc (by omega) h102)]
  by_cases h109 : c = 109
  · subst h109; rfl
  rw [if_neg (show ¬ zhv c = (109 : Int32) from zhv_n (d := 109) hc (by omega) h109)]
  by_cases h116 : c = 116
  · subst h116; rfl
  rw [if_neg (show ¬ zhv c = (116 : Int32) from zhv_n (d := 116) hc (by omega) h116)]
  unfold zwd0
  rw [if_neg h116, if_neg h109, if_neg h99, if_neg h102]; rfl
theorem zwd_lt {c : Nat} (h : ¬ zwd0 c = 9) : zwd0 c < 4 := by
  unfold zwd0 at *
  repeat' split
  all_goals first | omega | simp_all
theorem spg_e (w : Nat) (h : w < 4) (σ : ZM) : f_Reader_spelling (nI w) σ = some (w, σ) := by
  have : w = 0 ∨ w = 1 ∨ w = 2 ∨ w = 3 := by omega
  rcases this with rfl | rfl | rfl | rfl <;> rfl
/-- the words of w and the blank behind are read -/
theorem spell_e {T : Nat → Nat} {L w a : Nat} {σ : ZM} (hw : w < 4) (t : zTx T L σ) (ha : a ≤ L) (h2 : zI σ 3 2 = nI a) :
    ∃ σ', f_Reader_readWord w σ = some (zbI (zpS T L (zsp0 w) a).1, σ') ∧ zFA σ σ' ∧ zI σ' 3 2 = nI (zpS T L (zsp0 w) a).2 ∧ (zpS T L (zsp0 w) a).2 ≤ L := by
  obtain ⟨l, k⟩ := zsp_c w hw
  have hl : (zsp0 w).length ≤ 4 := (by decide : ∀ w, w < 4 → (zsp0 w).length ≤ 4) w hw
  unfold f_Reader_readWord
  rw [zck_of (decide_eq_true (by omega))]
  obtain ⟨σ', e, f, p⟩ := word_l (w := w) (zsp0 w) 0 2000 a σ (by omega) (by omega) (by omega) (fun j c hj => by
    obtain ⟨hj1, hj2⟩ := List.getElem?_eq_some_iff.mp hj
    have e : (zsp0 w).getD j 0 = c := by rw [List.getD_eq_getElem?_getD, hj]; rfl
    rw [← e, show 0 + j = j by omega]
    exact k j hj1) t ha h2
  exact ⟨σ', e, f, p, (zpS_G _ a (fun c hc => (by decide : ∀ w, w < 4 → ∀ c ∈ zsp0 w, c ≠ 999) w hw c hc) ha).2⟩
/-- the kiln K has been told these clauses so far -/
def zKT (σ : ZM) (K : Nat) (cs : List ZCl) : Prop := zKB σ K cs ∧ zI σ K 6 = nI (zsteps cs).length
def zCf (K : Nat) (σ σ' : ZM) : Prop := (∀ o k, ¬ (o = 3 ∧ (k = 2 ∨ k = 3)) → ¬ o = K → ¬ o = K + 7 → ¬ o = K + 14 → ¬ o = K + 21 → ¬ o = K + 28 → zI σ' o k = zI σ o k) ∧ (∀ o k, zP σ' o k = zP σ o k) ∧ (∀ o k, zL σ' o k = zL σ o k)
theorem zCf_t {K : Nat} {a b c : ZM} (h : zCf K a b) (g : zCf K b c) : zCf K a c :=
  ⟨fun o k n1 n2 n3 n4 n5 n6 => (g.1 o k n1 n2 n3 n4 n5 n6).trans (h.1 o k n1 n2 n3 n4 n5 n6), fun o k => (g.2.1 o k).trans (h.2.1 o k), fun o k => (g.2.2 o k).trans (h.2.2 o k)⟩
theorem zCf_A {K : Nat} {a b : ZM} (h : zFA a b) : zCf K a b := ⟨fun o k n1 _ _ _ _ _ => h.1 o k n1, h.2.1, h.2.2⟩
theorem zCf_B {K c : Nat} {a b : ZM} (h : zBf a K c b) : zCf K a b := ⟨fun o k n1 n2 _ _ n5 n6 => h.1 o k n1 (fun q => n2 q.1) n6 (fun q => n5 q.1), h.2.1, h.2.2⟩
theorem zTx_C {T : Nat → Nat} {L K : Nat} {σ σ' : ZM} (hK : 87 ≤ K) (h : zTx T L σ) (f : zCf K σ σ') : zTx T L σ' :=
  ⟨h.1, (f.1 3 1 (by omega) (by omega) (by omega) (by omega) (by omega) (by omega)).trans h.2.1, fun k hk => ⟨(h.2.2 k hk).1, (f.1 4 k (by omega) (by omega) (by omega) (by omega) (by omega) (by omega)).trans (h.2.2 k hk).2⟩⟩
theorem zKT_A {σ σ' : ZM} {K : Nat} {cs : List ZCl} (hK : 87 ≤ K) (h : zKT σ K cs) (f : zFA σ σ') : zKT σ' K cs :=
  ⟨zKB_c h.1 (fun k => f.1 _ _ (by omega)) (fun k => f.1 _ _ (by omega)) (fun k => f.1 _ _ (by omega)) (fun k => f.1 _ _ (by omega)) (fun k => f.1 _ _ (by omega)), (f.1 _ _ (by omega)).trans h.2⟩
theorem zsteps_a (cs : List ZCl) (c : ZCl) : zsteps (cs ++ [c]) = zsteps cs ++ c.2.2 := by simp [zsteps]
theorem zcnt_a (cs : List ZCl) (c : ZCl) : zcnt (cs ++ [c]) = zcnt cs + if c.1 = 0 then 1 else 0 := by
  unfold zcnt
  rw [List.filter_append, List.length_append]
  congr 1
  by_cases q : c.1 = 0
  · rw [if_pos q, List.filter_cons, if_pos (by rw [q]; rfl)]; rfl
  · rw [if_neg q, List.filter_cons, if_neg (by simpa using q)]; rfl
theorem zcold_a (cs : List ZCl) (c : ZCl) : zcold (cs ++ [c]) = if c.1 = 2 then c.2.1 else zcold cs := by
  unfold zcold
  rw [List.foldl_append]; rfl
theorem zcnt_le (cs : List ZCl) : zcnt cs ≤ cs.length := List.length_filter_le _ _
/-- a clause without steps joins, with its word and number -/
theorem zKT_j {σ σ' : ZM} {K w nu : Nat} {cs : List ZCl} (hl : cs.length ≤ 9) (hw : w < 4) (hn : nu ≤ 99) (h : zKT σ K cs)
    (h5 : zI σ' K 5 = nI (cs.length + 1)) (h6 : zI σ' K 6 = zI σ K 6) (h7 : zI σ' K 7 = nI (zcnt cs + if w = 0 then 1 else 0)) (h8 : zI σ' K 8 = if w = 2 then nI nu else zI σ K 8)
    (hA : ∀ i, zI σ' (K + 7) i = if i = cs.length then nI w else zI σ (K + 7) i) (hB : ∀ i, zI σ' (K + 14) i = if i = cs.length then nI nu else zI σ (K + 14) i)
    (hC : ∀ i, zI σ' (K + 21) i = if i = cs.length then zI σ K 6 else zI σ (K + 21) i) (hD : ∀ i, zI σ' (K + 28) i = zI σ (K + 28) i) : zKT σ' K (cs ++ [(w, nu, [])]) := by
  obtain ⟨⟨a, b, c, d, e, f, g⟩, k⟩ := h
  have es : zsteps (cs ++ [(w, nu, [])]) = zsteps cs := by rw [zsteps_a]; exact List.append_nil _
  refine ⟨⟨by rw [List.length_append]; exact Nat.succ_le_succ hl, by rw [List.length_append]; exact h5, by rw [zcnt_a]; exact h7, by
    rw [zcold_a, h8]
    show _ = nI (if w = 2 then nu else zcold cs)
    split
    · rfl
    · exact d, by rw [es]; exact e, fun i x hi => ?_, fun j s hj => by rw [hD]; rw [es] at hj; exact g j s hj⟩, by rw [es, h6]; exact k⟩
  by_cases q : i = cs.length
  · subst q
    rw [List.getElem?_append_right (Nat.le_refl _), Nat.sub_self] at hi
    cases (Option.some.inj hi : (w, nu, []) = x)
    rw [hA, hB, hC, if_pos rfl, if_pos rfl, if_pos rfl]
    refine ⟨hw, hn, rfl, rfl, ?_⟩
    rw [List.take_of_length_le (by rw [List.length_append]; exact Nat.le_refl _), es]; exact k
  · have hl2 : i < cs.length := by
      have := (List.getElem?_eq_some_iff.mp hi).1
      rw [List.length_append, List.length_singleton] at this
      omega
    rw [List.getElem?_append_left hl2] at hi
    rw [hA, hB, hC, if_neg q, if_neg q, if_neg q, List.take_append_of_le_length (by omega)]
    exact f i x hi
theorem begin_e {σ : ZM} {i w nu : Nat} {cs : List ZCl} (hi : i < 6) (hl : cs.length ≤ 9) (hw : w < 4) (hn : nu ≤ 99) (h : zKT σ (87 + i) cs) :
    ∃ σ', f_Kiln_begin (87 + i) (nI w) (nI nu) σ = some ((), σ') ∧ zKT σ' (87 + i) (cs ++ [(w, nu, [])]) ∧ zCf (87 + i) σ σ' ∧ zI σ' 3 2 = zI σ 3 2 := by
  have z5 : zI σ (87 + i) 5 = nI cs.length := h.1.2.1
  have z7 : zI σ (87 + i) 7 = nI (zcnt cs) := h.1.2.2.1
  have hc := zcnt_le cs
  unfold f_Kiln_begin f_Kiln_begin_67
  rw [zck_of (zRkn (by omega))]
  have e9 : nI cs.length < (10 : Int32) := nI_lt (b := 10) (by omega) (by omega)
  rw [z5, if_pos e9]
  simp (config := { maxSteps := 4000000 }) (disch := omega) only [nI_clamp, zck_nI]
  have y1 : ∀ v, zI (zsI σ (87 + i + 7) cs.length v) (87 + i) 5 = nI cs.length := fun v => by rw [zI_sI, if_neg (by omega)]; exact z5
  simp (config := { maxSteps := 4000000 }) (disch := omega) only [y1, nI_clamp, zck_nI]
  have y2 : ∀ v u, zI (zsI (zsI σ (87 + i + 7) cs.length v) (87 + i + 14) cs.length u) (87 + i) 5 = nI cs.length := fun v u => by rw [zI_sI, if_neg (by omega)]; exact y1 v
  have y3 : ∀ v u, zI (zsI (zsI σ (87 + i + 7) cs.length v) (87 + i + 14) cs.length u) (87 + i) 6 = zI σ (87 + i) 6 := fun v u => by rw [zI_sI, if_neg (by omega), zI_sI, if_neg (by omega)]
  simp (config := { maxSteps := 4000000 }) (disch := omega) only [y2, y3, nI_clamp, zck_nI]
  generalize hσ1 : zsI (zsI (zsI σ (87 + i + 7) cs.length (nI w)) (87 + i + 14) cs.length (nI nu)) (87 + i + 21) cs.length (zI σ (87 + i) 6) = σ1
  have w5 : zI σ1 (87 + i) 5 = nI cs.length := by rw [← hσ1, zI_sI, if_neg (by omega)]; exact y2 _ _
  have w6 : zI σ1 (87 + i) 6 = zI σ (87 + i) 6 := by rw [← hσ1, zI_sI, if_neg (by omega)]; exact y3 _ _
  have wn : ∀ o k, ¬ o = 87 + i + 7 → ¬ o = 87 + i + 14 → ¬ o = 87 + i + 21 → zI σ1 o k = zI σ o k := fun o k n1 n2 n3 => by
    rw [← hσ1, zI_sI, if_neg (fun q => n3 q.1), zI_sI, if_neg (fun q => n2 q.1), zI_sI, if_neg (fun q => n1 q.1)]
  have wA : ∀ k, zI σ1 (87 + i + 7) k = if k = cs.length then nI w else zI σ (87 + i + 7) k := fun k => by
    rw [← hσ1, zI_sI, if_neg (by omega), zI_sI, if_neg (by omega), zI_sI]; simp only [true_and]
  have wB : ∀ k, zI σ1 (87 + i + 14) k = if k = cs.length then nI nu else zI σ (87 + i + 14) k := fun k => by
    rw [← hσ1, zI_sI, if_neg (by omega), zI_sI, zI_sI, if_neg (show ¬ (87 + i + 14 = 87 + i + 7 ∧ k = cs.length) by omega)]; simp only [true_and]
  have wC : ∀ k, zI σ1 (87 + i + 21) k = if k = cs.length then zI σ (87 + i) 6 else zI σ (87 + i + 21) k := fun k => by
    rw [← hσ1, zI_sI, zI_sI, if_neg (show ¬ (87 + i + 21 = 87 + i + 14 ∧ k = cs.length) by omega), zI_sI, if_neg (show ¬ (87 + i + 21 = 87 + i + 7 ∧ k = cs.length) by omega)]; simp only [true_and]
  have wP : ∀ o k, zP σ1 o k = zP σ o k := fun o k => by rw [← hσ1]; rfl
  have wL : ∀ o k, zL σ1 o k = zL σ o k := fun o k => by rw [← hσ1]; rfl
  have w7 : zI σ1 (87 + i) 7 = nI (zcnt cs) := (wn _ _ (by omega) (by omega) (by omega)).trans z7
  have e1 : nI cs.length + (1 : Int32) = nI (cs.length + 1) := nI_add _ 1
  have x7 : ∀ v, zI (zsI σ1 (87 + i) 5 v) (87 + i) 7 = nI (zcnt cs) := fun v => by rw [zI_sI, if_neg (by omega)]; exact w7
  have e7 : nI (zcnt cs) + (1 : Int32) = nI (zcnt cs + 1) := nI_add _ 1
  rw [w5, e1]
  have fin : ∀ σ2 : ZM, zI σ2 (87 + i) 5 = nI (cs.length + 1) → zI σ2 (87 + i) 6 = zI σ (87 + i) 6 → zI σ2 (87 + i) 7 = nI (zcnt cs + if w = 0 then 1 else 0) → zI σ2 (87 + i) 8 = (if w = 2 then nI nu else zI σ (87 + i) 8) → (∀ o k, ¬ o = 87 + i → zI σ2 o k = zI σ1 o k) → (∀ o k, zP σ2 o k = zP σ1 o k) → (∀ o k, zL σ2 o k = zL σ1 o k) →
      zKT σ2 (87 + i) (cs ++ [(w, nu, [])]) ∧ zCf (87 + i) σ σ2 ∧ zI σ2 3 2 = zI σ 3 2 := by
    intro σ2 a5 a6 a7 a8 an aP aL
    refine ⟨zKT_j hl hw hn h a5 a6 a7 a8 (fun k => by rw [an _ _ (by omega)]; exact wA k) (fun k => by rw [an _ _ (by omega)]; exact wB k) (fun k => by rw [an _ _ (by omega)]; exact wC k) (fun k => by rw [an _ _ (by omega)]; exact wn _ _ (by omega) (by omega) (by omega)), ⟨fun o k _ n2 n3 n4 n5 _ => (an o k n2).trans (wn o k n3 n4 n5), fun o k => (aP o k).trans (wP o k), fun o k => (aL o k).trans (wL o k)⟩, (an 3 2 (by omega)).trans (wn 3 2 (by omega) (by omega) (by omega))⟩
  have hw4 : w = 0 ∨ w = 2 ∨ ¬ (w = 0 ∨ w = 2) := by omega
  rcases hw4 with rfl | rfl | hw4
  · rw [if_pos (show nI 0 = 0 from rfl), if_neg (show ¬ nI 0 = 2 by decide), x7, e7]
    refine ⟨_, rfl, fin _ ?_ ?_ ?_ ?_ ?_ (fun _ _ => rfl) (fun _ _ => rfl)⟩
    · rw [zI_sI, if_neg (by omega), zI_sI, if_pos ⟨rfl, rfl⟩]
    · rw [zI_sI, if_neg (by omega), zI_sI, if_neg (by omega)]; exact w6
    · rw [zI_sI, if_pos ⟨rfl, rfl⟩]; rfl
    · rw [zI_sI, if_neg (by omega), zI_sI, if_neg (by omega)]; exact wn _ _ (by omega) (by omega) (by omega)
    · intro o k n; rw [zI_sI, if_neg (fun q => n q.1), zI_sI, if_neg (fun q => n q.1)]
  · rw [if_neg (show ¬ nI 2 = 0 by decide), if_pos (show nI 2 = 2 from rfl)]
    refine ⟨_, rfl, fin _ ?_ ?_ ?_ ?_ ?_ (fun _ _ => rfl) (fun _ _ => rfl)⟩
    · rw [zI_sI, if_neg (by omega), zI_sI, if_pos ⟨rfl, rfl⟩]
    · rw [zI_sI, if_neg (by omega), zI_sI, if_neg (by omega)]; exact w6
    · rw [zI_sI, if_neg (by omega)]; exact x7 _
    · rw [zI_sI, if_pos ⟨rfl, rfl⟩]; rfl
    · intro o k n; rw [zI_sI, if_neg (fun q => n q.1), zI_sI, if_neg (fun q => n q.1)]
  · have q0 : ¬ nI w = 0 := nI_ne0 (by omega) (by omega)
    have q2 : ¬ nI w = 2 := fun q => by
      have := (nI_eq (a := w) (b := 2) (by omega) (by omega)).mp q
      omega
    rw [if_neg q0, if_neg q2]
    refine ⟨_, rfl, fin _ ?_ ?_ ?_ ?_ ?_ (fun _ _ => rfl) (fun _ _ => rfl)⟩
    · rw [zI_sI, if_pos ⟨rfl, rfl⟩]
    · rw [zI_sI, if_neg (by omega)]; exact w6
    · rw [if_neg (by omega)]; exact x7 _
    · rw [zI_sI, if_neg (by omega), if_neg (by omega)]; exact wn _ _ (by omega) (by omega) (by omega)
    · intro o k n; rw [zI_sI, if_neg (fun q => n q.1)]
