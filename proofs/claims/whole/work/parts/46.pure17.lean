/-! PURE: the class reads the clauses -/
theorem zpE_all {T : Nat → Nat} {L : Nat} (a : Nat) (ha : a ≤ L) : zG L 11 a (zpE T L (zpF T L 4) a) := zpE_G (fun a ha => zpF_G 4 a ha) a ha
def zCl0 : ZCl := (0, 0, [])
theorem zpC_G {T : Nat → Nat} {L a : Nat} (ha : a ≤ L) : a ≤ (zpC T L a).2.1 ∧ (zpC T L a).2.1 ≤ L ∧ ((zpC T L a).1 = true → (zpC T L a).2.2.2.2.length ≤ (zpC T L a).2.1 - a ∧ a < (zpC T L a).2.1 ∧ (zpC T L a).2.2.1 < 4 ∧ (zpC T L a).2.2.2.1 ≤ 99 ∧ zVS (zpC T L a).2.2.2.2 ∧ zOKS 11 (zpC T L a).2.2.2.2 ∨ (zpC T L a).2.2.2.2 = [] ∧ a < (zpC T L a).2.1 ∧ (zpC T L a).2.2.1 = 2 ∧ (zpC T L a).2.2.2.1 ≤ 99) := by
  unfold zpC
  dsimp only
  by_cases h : zwd0 (zhr T L a) = 9
  · rw [if_pos h]; exact ⟨Nat.le_refl _, ha, fun q => by cases q⟩
  · rw [if_neg h]
    have hw := zwd_lt h
    obtain ⟨g1, g2⟩ := zpS_G (T := T) (L := L) (zspell (zwd0 (zhr T L a))) a (fun c hc => (by decide : ∀ w, w < 4 → ∀ c ∈ zspell w, c ≠ 999) _ hw c hc) ha
    by_cases s : (zpS T L (zspell (zwd0 (zhr T L a))) a).1 = false
    · rw [if_pos s]; exact ⟨g1, g2, fun q => by cases q⟩
    · rw [if_neg s]
      obtain ⟨n1, n2, n3, n4⟩ := zpN_G (T := T) (L := L) (a := (zpS T L (zspell (zwd0 (zhr T L a))) a).2) g2
      by_cases n : (zpN T L (zpS T L (zspell (zwd0 (zhr T L a))) a).2).1 = false
      · rw [if_pos n]; exact ⟨Nat.le_trans g1 n1, n2, fun q => by cases q⟩
      · rw [if_neg n]
        obtain ⟨n5, n6⟩ := n3 (by simpa using n)
        by_cases w : zwd0 (zhr T L a) = 2
        · rw [if_pos w]; exact ⟨Nat.le_trans g1 n1, n2, fun _ => Or.inr ⟨rfl, Nat.lt_of_le_of_lt g1 n5, rfl, n6⟩⟩
        · rw [if_neg w]
          by_cases b : zhr T L (zpN T L (zpS T L (zspell (zwd0 (zhr T L a))) a).2).2.1 = 32
          · have l1 := zhr_lt (T := T) (L := L) (a := (zpN T L (zpS T L (zspell (zwd0 (zhr T L a))) a).2).2.1) (by omega)
            rw [if_pos b]
            obtain ⟨e1, e2, e3⟩ := zpE_all (T := T) ((zpN T L (zpS T L (zspell (zwd0 (zhr T L a))) a).2).2.1 + 1) l1
            by_cases e : (zpE T L (zpF T L 4) ((zpN T L (zpS T L (zspell (zwd0 (zhr T L a))) a).2).2.1 + 1)).1 = true
            · rw [if_pos e]
              obtain ⟨x1, x2, x3⟩ := e3 e
              refine ⟨?_, e2, fun _ => Or.inl ⟨?_, ?_, hw, n6, x2, x3⟩⟩
              · dsimp only; omega
              · dsimp only; omega
              · dsimp only; omega
            · rw [if_neg e]
              refine ⟨?_, e2, fun q => by cases q⟩
              dsimp only; omega
          · rw [if_neg b]; exact ⟨Nat.le_trans g1 n1, n2, fun q => by cases q⟩
theorem zKT_e {σ1 σ2 : ZM} {K w nu : Nat} {cs : List ZCl} {S : List Int32} (h : zKT σ1 K (cs ++ [(w, nu, [])])) (f : zBf σ1 K (cs.length + 1) σ2) (hK : 87 ≤ K) (hS : (zsteps cs ++ S).length ≤ 100)
    (s : zBs K (cs.length + 1) (zsteps cs ++ S) σ2) : zKT σ2 K (cs ++ [(w, nu, S)]) := by
  obtain ⟨⟨a, b, c, d, e, g, k⟩, k6⟩ := h
  obtain ⟨s1, s2, s3⟩ := s
  have es : zsteps (cs ++ [(w, nu, S)]) = zsteps cs ++ S := zsteps_a _ _
  have fr : ∀ o k, o = K ∧ ¬ k = 6 ∨ o = K + 7 ∨ o = K + 14 ∨ (o = K + 21 ∧ ¬ k = cs.length) → zI σ2 o k = zI σ1 o k := fun o k q => f.1 o k (by omega) (by omega) (by omega) (by omega)
  have el : ∀ S : List Int32, (cs ++ [(w, nu, S)]).length = cs.length + 1 := fun S => by rw [List.length_append]; rfl
  refine ⟨⟨by rw [el]; rw [el] at a; exact a, by rw [el, fr _ _ (by omega), b, el], by rw [fr _ _ (by omega), c, zcnt_a, zcnt_a], by rw [fr _ _ (by omega), d, zcold_a, zcold_a], by rw [es]; exact hS, fun i x hi => ?_, fun j t hj => by rw [es] at hj; exact s3 j t hj⟩, by rw [es]; exact s1⟩
  by_cases q : i = cs.length
  · subst q
    rw [List.getElem?_append_right (Nat.le_refl _), Nat.sub_self] at hi
    cases (Option.some.inj hi : (w, nu, S) = x)
    obtain ⟨g1, g2, g3, g4, g5⟩ := g cs.length (w, nu, []) (by rw [List.getElem?_append_right (Nat.le_refl _), Nat.sub_self]; rfl)
    refine ⟨g1, g2, by rw [fr _ _ (by omega)]; exact g3, by rw [fr _ _ (by omega)]; exact g4, ?_⟩
    rw [List.take_of_length_le (by rw [el]; exact Nat.le_refl _), es]; exact s2
  · have hl2 : i < cs.length := by
      have := (List.getElem?_eq_some_iff.mp hi).1
      rw [el] at this
      omega
    rw [List.getElem?_append_left hl2] at hi
    obtain ⟨g1, g2, g3, g4, g5⟩ := g i x (by rw [List.getElem?_append_left hl2]; exact hi)
    refine ⟨g1, g2, by rw [fr _ _ (by omega)]; exact g3, by rw [fr _ _ (by omega)]; exact g4, ?_⟩
    rw [fr _ _ (by omega), g5, List.take_append_of_le_length (by omega), List.take_append_of_le_length (by omega)]
/-- one clause -/
theorem clause_e {T : Nat → Nat} {L i a : Nat} {σ : ZM} {cs : List ZCl} (hi : i < 6) (t : zTx T L σ) (hP : zP σ 3 4 = 87 + i) (h : zKT σ (87 + i) cs) (hl : cs.length ≤ 9) (ha : a ≤ L) (hs : (zsteps cs).length ≤ a) (h2 : zI σ 3 2 = nI a) :
    ∃ σ', f_Reader_readClause σ = some (zbI (zpC T L a).1, σ') ∧ zCf (87 + i) σ σ' ∧ zI σ' 3 2 = nI (zpC T L a).2.1 ∧ ((zpC T L a).1 = true → zKT σ' (87 + i) (cs ++ [(zpC T L a).2.2])) := by
  have hL := t.1
  unfold f_Reader_readClause zpC
  dsimp only
  rw [here_e t ha h2, zbd_s, wf_e (zhr_c t a), zbd_s]
  by_cases w9 : zwd0 (zhr T L a) = 9
  · rw [w9, if_pos rfl, if_pos (show zwv 9 < 0 by decide)]
    exact ⟨_, rfl, zCf_A (zFA_r _), h2, fun q => by cases q⟩
  · have hw := zwd_lt w9
    rw [if_neg w9, show zwv (zwd0 (zhr T L a)) = nI (zwd0 (zhr T L a)) from if_neg w9, if_neg (nI_pos (by omega)), spg_e _ hw, zbd_s, zck_of (decide_eq_true (show zwd0 (zhr T L a) < 8 by omega))]
    generalize zwd0 (zhr T L a) = w at *
    obtain ⟨σ1, e1, f1, p1, l1⟩ := spell_e hw t ha h2
    obtain ⟨gl, -⟩ := zpS_G (T := T) (L := L) (zsp0 w) a (fun c hc => (by decide : ∀ w, w < 4 → ∀ c ∈ zsp0 w, c ≠ 999) w hw c hc) ha
    rw [zsp_e w hw, zpS_s, e1, zbd_s, zif]
    by_cases s : (zpS T L (zsp0 w) a).1 = true
    · have t1 := zTx_F t f1
      rw [if_pos s, if_pos s, show (32 : Int32) = nI 32 from rfl, skip_e t1 l1 p1 (by omega)]
      by_cases b : zhr T L (zpS T L (zsp0 w) a).2 = 32
      · rw [if_pos b, if_pos b, zbd_s, if_neg (show ¬ nI 1 = 0 by decide), if_neg (show ¬ true = false by decide)]
        have l2 : (zpS T L (zsp0 w) a).2 < L := zhr_lt (T := T) (by omega)
        generalize (zpS T L (zsp0 w) a).2 = a1 at *
        have f2 : zFA σ (zsI σ1 3 2 (nI (a1 + 1))) := zFA_t f1 (zFA_2 _ _)
        dsimp only
        obtain ⟨σ3, e3, f3, p3, v3⟩ := num_e (zTx_F t f2) l2 (by rw [zI_sI, if_pos ⟨rfl, rfl⟩])
        obtain ⟨n1, n2, n3, n4⟩ := zpN_G (T := T) (L := L) (a := a1 + 1) l2
        have g3 := zFA_t f2 f3
        rw [e3, zbd_s, zif]
        by_cases n : (zpN T L (a1 + 1)).1 = true
        · obtain ⟨n5, n6⟩ := n3 n
          have v := v3 n
          have hP3 : zP σ3 3 4 = 87 + i := (g3.2.1 _ _).trans hP
          rw [if_pos n, if_neg (by rw [n]; decide), hP3, zck_of (zRkn (by omega)), v]
          obtain ⟨σ4, e4, k4, c4, p4⟩ := begin_e hi hl hw n6 (zKT_A (by omega) h g3)
          rw [e4, zbd_s]
          have p4' := p4.trans p3
          have c4' := zCf_t (zCf_A (K := 87 + i) g3) c4
          by_cases w2 : w = 2
          · subst w2
            rw [if_pos rfl, if_pos (show nI 2 = 2 from rfl)]
            exact ⟨_, rfl, c4', p4', fun _ => k4⟩
          · have nw2 : ¬ nI w = 2 := fun q => w2 ((nI_eq (a := w) (b := 2) (by omega) (by omega)).mp q)
            have t4 := zTx_C (by omega) t c4'
            rw [if_neg w2, if_neg nw2, skip_e t4 n2 p4' (by omega)]
            by_cases b2 : zhr T L (zpN T L (a1 + 1)).2.1 = 32
            · have l3 : (zpN T L (a1 + 1)).2.1 < L := zhr_lt (T := T) (by omega)
              rw [if_pos b2, if_pos b2, zbd_s, if_neg (show ¬ nI 1 = 0 by decide)]
              generalize (zpN T L (a1 + 1)).2.1 = a2 at *
              generalize (zpN T L (a1 + 1)).2.2 = nu at *
              obtain ⟨k41, k42⟩ := id k4
              have es : zsteps (cs ++ [(w, nu, [])]) = zsteps cs := by rw [zsteps_a]; exact List.append_nil _
              have el : (cs ++ [(w, nu, ([] : List Int32))]).length = cs.length + 1 := by rw [List.length_append]; rfl
              have h0 : zB0 T L (87 + i) (cs.length + 1) σ4 := ⟨t4, (c4'.2.1 _ _).trans hP, by rw [k41.2.1, el], by omega, by omega, i, hi, rfl⟩
              obtain ⟨-, -, -, -, g5⟩ := k41.2.2.2.2.2.1 cs.length (w, nu, []) (by rw [List.getElem?_append_right (Nat.le_refl _), Nat.sub_self]; rfl)
              rw [List.take_of_length_le (by rw [el]; exact Nat.le_refl _), es] at g5
              have s0 : zBs (87 + i) (cs.length + 1) (zsteps cs) σ4 := ⟨by rw [k42, es], g5, fun j s hj => k41.2.2.2.2.2.2 j s (by rw [es]; exact hj)⟩
              have f5 : zFA σ4 (zsI σ4 3 2 (nI (a2 + 1))) := zFA_2 _ _
              have b0 : zBf σ4 (87 + i) (cs.length + 1) σ4 := ⟨fun _ _ _ _ _ _ => rfl, fun _ _ => rfl, fun _ _ => rfl⟩
              obtain ⟨σ6, e6, f6, p6, s6⟩ := either_e h0 (part_e h0 4 8 0 (by omega) (by omega)) (fun a ha => zpF_G 4 a ha) (a2 + 1) (zsteps cs) _ l3 (by omega) (zBf_A (by omega) b0 f5) (by rw [zI_sI, if_pos ⟨rfl, rfl⟩]) (zBs_A (by omega) s0 f5)
              obtain ⟨y1, y2, y3⟩ := zpE_all (T := T) (a2 + 1) l3
              rw [show (0 : Int32) = nI 0 from rfl, e6, zbd_s]
              by_cases z : (zpE T L (zpF T L 4) (a2 + 1)).1 = true
              · rw [if_pos z, z, if_neg (show ¬ zbI true = nI 0 by decide)]
                obtain ⟨y4, y5, y6⟩ := y3 z
                exact ⟨_, rfl, zCf_t c4' (zCf_B f6), p6, fun _ => zKT_e k4 f6 (by omega) (by rw [List.length_append]; omega) (s6 z)⟩
              · have z' : (zpE T L (zpF T L 4) (a2 + 1)).1 = false := Bool.eq_false_iff.mpr z
                rw [if_neg z, z', if_pos (show zbI false = nI 0 from rfl)]
                exact ⟨_, rfl, zCf_t c4' (zCf_B f6), p6, fun q => by cases q⟩
            · rw [if_neg b2, if_neg b2, zbd_s, if_pos (show nI 0 = 0 from rfl)]
              exact ⟨_, rfl, c4', p4', fun q => by cases q⟩
        · have n' : (zpN T L (a1 + 1)).1 = false := Bool.eq_false_iff.mpr n
          rw [if_neg n, if_pos n']
          exact ⟨_, rfl, zCf_A g3, p3, fun q => by cases q⟩
      · rw [if_neg b, if_neg b, zbd_s, if_pos (show nI 0 = 0 from rfl), if_pos (show false = false from rfl)]
        exact ⟨_, rfl, zCf_A f1, p1, fun q => by cases q⟩
    · rw [if_neg s, if_neg s, if_pos (show false = false from rfl)]
      exact ⟨_, rfl, zCf_A f1, p1, fun q => by cases q⟩
theorem into_u (N : Nat) (v x : Int32) (σ : ZM) : F_Reader_readInto_24 (N + 1) (v, x, σ) = f_Reader_readInto_24 (F_Reader_readInto_24 N) v x σ := rfl
theorem into_0 (N : Nat) (x : Int32) (σ : ZM) : F_Reader_readInto_24 (N + 1) (0, x, σ) = some (zI σ 3 2, zsI σ 3 1 0) := by
  rw [into_u]
  unfold f_Reader_readInto_24 f_Reader_readInto_73
  rw [if_pos rfl, if_pos rfl, zI_sI, if_neg (by omega)]
def zCg (K : Nat) (σ σ' : ZM) : Prop := (∀ o k, ¬ (o = 3 ∧ (k = 1 ∨ k = 2 ∨ k = 3)) → ¬ o = K → ¬ o = K + 7 → ¬ o = K + 14 → ¬ o = K + 21 → ¬ o = K + 28 → zI σ' o k = zI σ o k) ∧ (∀ o k, zP σ' o k = zP σ o k) ∧ (∀ o k, zL σ' o k = zL σ o k)
theorem zCg_c {K : Nat} {σ σ' : ZM} (f : zCf K σ σ') : zCg K σ (zsI σ' 3 1 0) :=
  ⟨fun o k n1 n2 n3 n4 n5 n6 => by rw [zI_sI, if_neg (by omega)]; exact f.1 o k (by omega) n2 n3 n4 n5 n6, f.2.1, f.2.2⟩
theorem zKT_1 {σ : ZM} {K : Nat} {cs : List ZCl} (hK : 87 ≤ K) (h : zKT σ K cs) : zKT (zsI σ 3 1 0) K cs :=
  have f : ∀ o k, ¬ o = 3 → zI (zsI σ 3 1 0) o k = zI σ o k := fun o k n => by rw [zI_sI, if_neg (fun q => n q.1)]
  ⟨zKB_c h.1 (fun k => f _ _ (by omega)) (fun k => f _ _ (by omega)) (fun k => f _ _ (by omega)) (fun k => f _ _ (by omega)) (fun k => f _ _ (by omega)), (f _ _ (by omega)).trans h.2⟩
theorem clauses_e {T : Nat → Nat} {L i : Nat} (hi : i < 6) : ∀ (n N a : Nat) (cs : List ZCl) (σ : ZM), cs.length + (n + 1) = 10 → n + 2 < N → zTx T L σ → zP σ 3 4 = 87 + i → zKT σ (87 + i) cs → a ≤ L → (zsteps cs).length ≤ a → zI σ 3 2 = nI a →
    ∃ σ', zbd (f_Reader_readClause σ) (fun v s => F_Reader_readInto_24 N (v, nI (cs.length + 1), s)) = some (if (zpA T L (n + 1) a).1 = true then -1 else nI (zpA T L (n + 1) a).2.1, σ') ∧ zCg (87 + i) σ σ' ∧ zI σ' 3 1 = 0 ∧ ((zpA T L (n + 1) a).1 = true → zKT σ' (87 + i) (cs ++ (zpA T L (n + 1) a).2.2)) := by
  intro n
  induction n with
  | zero =>
    intro N a cs σ hn hN t hP h ha hs h2
    obtain ⟨N, rfl⟩ : ∃ M, N = M + 2 := ⟨N - 2, by omega⟩
    obtain ⟨σ1, e1, c1, p1, k1⟩ := clause_e hi t hP h (by omega) ha hs h2
    obtain ⟨g1, g2, g3⟩ := zpC_G (T := T) ha
    have t1 := zTx_C (by omega) t c1
    have hL := t.1
    have e31 : ∀ s : ZM, zI (zsI s 3 1 0) 3 1 = 0 := fun s => by rw [zI_sI, if_pos ⟨rfl, rfl⟩]
    rw [e1, zbd_s]
    unfold zpA
    dsimp only
    by_cases q : (zpC T L a).1 = true
    · rw [if_neg (show ¬ (zpC T L a).1 = false by rw [q]; decide), q]
      dsimp only [zbI]
      rw [into_u]
      unfold f_Reader_readInto_24 f_Reader_readInto_65 f_Reader_readInto_66 f_Reader_readInto_73
      rw [if_pos rfl, if_neg (show ¬ (1 : Int32) = 0 by decide), if_neg (show ¬ (1 : Int32) = 0 by decide), t1.2.1, p1]
      by_cases l : (zpC T L a).2.1 = L
      · rw [if_pos l, if_pos (nI_le (by omega) (by omega)), if_pos rfl]
        exact ⟨_, rfl, zCg_c c1, e31 _, fun _ => zKT_1 (by omega) (k1 q)⟩
      · rw [if_neg l, if_neg (nI_ge (by omega) (by omega)), if_pos (Or.inl rfl), if_pos (show (10 : Int32) ≤ nI (cs.length + 1) from nI_le (a := 10) (by omega) (by omega)), into_0, p1]
        exact ⟨_, rfl, zCg_c c1, e31 _, fun q => by cases q⟩
    · have q' : (zpC T L a).1 = false := Bool.eq_false_iff.mpr q
      rw [if_pos q', q']
      dsimp only [zbI]
      rw [if_neg (show ¬ false = true by decide), into_0, p1]
      exact ⟨_, rfl, zCg_c c1, e31 _, fun q => by cases q⟩
  | succ n ih =>
    intro N a cs σ hn hN t hP h ha hs h2
    obtain ⟨N, rfl⟩ : ∃ M, N = M + 2 := ⟨N - 2, by omega⟩
    obtain ⟨σ1, e1, c1, p1, k1⟩ := clause_e hi t hP h (by omega) ha hs h2
    obtain ⟨g1, g2, g3⟩ := zpC_G (T := T) ha
    have t1 := zTx_C (by omega) t c1
    have hL := t.1
    have e31 : ∀ s : ZM, zI (zsI s 3 1 0) 3 1 = 0 := fun s => by rw [zI_sI, if_pos ⟨rfl, rfl⟩]
    rw [e1, zbd_s]
    unfold zpA
    dsimp only
    by_cases q : (zpC T L a).1 = true
    · rw [if_neg (show ¬ (zpC T L a).1 = false by rw [q]; decide), q]
      dsimp only [zbI]
      rw [into_u]
      unfold f_Reader_readInto_24 f_Reader_readInto_65 f_Reader_readInto_66 f_Reader_readInto_73
      rw [if_pos rfl, if_neg (show ¬ (1 : Int32) = 0 by decide), if_neg (show ¬ (1 : Int32) = 0 by decide), t1.2.1, p1]
      by_cases l : (zpC T L a).2.1 = L
      · rw [if_pos l, if_pos (nI_le (by omega) (by omega)), if_pos rfl]
        exact ⟨_, rfl, zCg_c c1, e31 _, fun _ => zKT_1 (by omega) (k1 q)⟩
      · rw [if_neg l, if_neg (nI_ge (by omega) (by omega)), if_neg (show ¬ (10 : Int32) ≤ nI (cs.length + 1) from nI_ge (b := 10) (by omega) (by omega)), show (59 : Int32) = nI 59 from rfl, skip_e t1 g2 p1 (by omega)]
        by_cases b : zhr T L (zpC T L a).2.1 = 59
        · have l2 : (zpC T L a).2.1 < L := by omega
          have k2 := k1 q
          have es : zsteps (cs ++ [(zpC T L a).2.2]) = zsteps cs ++ (zpC T L a).2.2.2.2 := zsteps_a _ _
          have hs2 : (zsteps (cs ++ [(zpC T L a).2.2])).length ≤ (zpC T L a).2.1 + 1 := by
            rw [es, List.length_append]
            rcases g3 q with ⟨g4, g5, -⟩ | ⟨g4, g5⟩
            · omega
            · rw [g4, List.length_nil]; omega
          have f1 : zFA σ1 (zsI σ1 3 2 (nI ((zpC T L a).2.1 + 1))) := zFA_2 _ _
          have el : (cs ++ [(zpC T L a).2.2]).length = cs.length + 1 := by rw [List.length_append]; rfl
          obtain ⟨σ3, e3, c3, z3, k3⟩ := ih (N + 1) ((zpC T L a).2.1 + 1) (cs ++ [(zpC T L a).2.2]) (zsI σ1 3 2 (nI ((zpC T L a).2.1 + 1))) (by rw [el]; omega) (by omega) (zTx_F t1 f1) ((c1.2.1 _ _).trans hP) (zKT_A (by omega) k2 f1) l2 hs2 (by rw [zI_sI, if_pos ⟨rfl, rfl⟩])
          rw [if_pos b, if_neg (show ¬ (n + 1 = 0 ∨ ¬ zhr T L (zpC T L a).2.1 = 59) by omega), zbd_s, if_neg (show ¬ nI 1 = 0 by decide), show nI (cs.length + 1) + (1 : Int32) = nI (cs.length + 1 + 1) from nI_add _ 1]
          rw [el] at e3
          refine ⟨σ3, ?_, ⟨fun o k n1 n2 n3 n4 n5 n6 => (c3.1 o k n1 n2 n3 n4 n5 n6).trans ((f1.1 o k (by omega)).trans (c1.1 o k (by omega) n2 n3 n4 n5 n6)), fun o k => (c3.2.1 o k).trans (c1.2.1 o k), fun o k => (c3.2.2 o k).trans (c1.2.2 o k)⟩, z3, fun z => by have := k3 z; rw [List.append_assoc] at this; exact this⟩
          rw [← e3]
          obtain ⟨σ4, e4, -⟩ := clause_e hi (zTx_F t1 f1) ((c1.2.1 _ _).trans hP) (zKT_A (by omega) k2 f1) (by rw [el]; omega) l2 hs2 (by rw [zI_sI, if_pos ⟨rfl, rfl⟩])
          rw [e4, zbd_s, zbd_s]
          cases (zpC T L ((zpC T L a).2.1 + 1)).1
          · exact if_pos rfl
          · exact if_neg (by decide)
        · rw [if_neg b, if_pos (Or.inr b), zbd_s, if_pos (show nI 0 = 0 from rfl), into_0, p1]
          exact ⟨_, rfl, zCg_c c1, e31 _, fun q => by cases q⟩
    · have q' : (zpC T L a).1 = false := Bool.eq_false_iff.mpr q
      rw [if_pos q', q']
      dsimp only [zbI]
      rw [if_neg (show ¬ false = true by decide), into_0, p1]
      exact ⟨_, rfl, zCg_c c1, e31 _, fun q => by cases q⟩
