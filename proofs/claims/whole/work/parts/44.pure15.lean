/-! PURE: the class reads the grammar -/
theorem tst_v (li sg nu : Nat) (h1 : li < 6) (h2 : sg < 3) (h3 : nu < 100) : ((nI li <<< ((9 : Int32) &&& 31)) ||| (nI sg <<< ((7 : Int32) &&& 31))) ||| nI nu = nI (512 * li + 128 * sg + nu) :=
  (by decide +kernel : ∀ li, li < 6 → ∀ sg, sg < 3 → ∀ nu, nu < 100 → ((nI li <<< ((9 : Int32) &&& 31)) ||| (nI sg <<< ((7 : Int32) &&& 31))) ||| nI nu = nI (512 * li + 128 * sg + nu)) li h1 sg h2 nu h3
theorem zli_9 {c : Nat} (h : ¬ zli c = 9) : zli c < 6 := zli_lt h
theorem zli_hr {T : Nat → Nat} {L a : Nat} (h : ¬ zli (zhr T L a) = 9) : a < L := zhr_lt (by intro e; rw [e] at h; exact h rfl)
theorem test_e {T : Nat → Nat} {L K c : Nat} {σ0 : ZM} (h0 : zB0 T L K c σ0) : zBP T L K c σ0 (zpX T L) f_Reader_readTest := by
  intro a Q σ ha hQ f h2 s
  have hK : 87 ≤ K := by obtain ⟨-, -, -, -, -, i, -, rfl⟩ := h0; omega
  have t := (zB0_f h0 f).1
  have hL := t.1
  unfold zBO f_Reader_readTest zpX
  rw [here_e t ha h2, zbd_s, let_e (zhr_c t a), zbd_s]
  by_cases q : zli (zhr T L a) = 9
  · rw [q, if_pos rfl, if_neg (show ¬ (0 : Int32) ≤ zlv 9 by decide)]
    exact ⟨_, rfl, f, h2, fun q => by cases q⟩
  · have l1 := zli_hr q
    have hli := zli_9 q
    rw [show zlv (zli (zhr T L a)) = nI (zli (zhr T L a)) from if_neg q, if_pos (nI_pos' (by omega)), if_neg q, h2, show nI a + (1 : Int32) = nI (a + 1) from nI_add a 1]
    generalize hσ1 : zsI σ 3 2 (nI (a + 1)) = σ1
    have f1 : zFA σ σ1 := by rw [← hσ1]; exact zFA_2 _ _
    have p1 : zI σ1 3 2 = nI (a + 1) := by rw [← hσ1, zI_sI, if_pos ⟨rfl, rfl⟩]
    have t1 := zTx_F t f1
    rw [here_e t1 (by omega) p1, zbd_s]
    by_cases w : 60 ≤ zhr T L (a + 1) ∧ zhr T L (a + 1) ≤ 62
    · have l2 : a + 1 < L := zhr_lt (T := T) (a := a + 1) (by omega)
      have e1 : zhv (zhr T L (a + 1)) - (60 : Int32) = nI (zhr T L (a + 1) - 60) := by
        rw [zhv_y (d := zhr T L (a + 1)) (by omega) rfl]; exact nI_subE (b := 60) (by omega)
      rw [if_pos w, e1, if_neg (nI_pos (by omega)), if_pos (show nI (zhr T L (a + 1) - 60) ≤ (2 : Int32) from nI_le (b := 2) (by omega) (by omega)), p1, show nI (a + 1) + (1 : Int32) = nI (a + 2) from nI_add (a + 1) 1]
      generalize hσ2 : zsI σ1 3 2 (nI (a + 2)) = σ2
      have f2 : zFA σ σ2 := by rw [← hσ2]; exact zFA_t f1 (zFA_2 _ _)
      have p2 : zI σ2 3 2 = nI (a + 2) := by rw [← hσ2, zI_sI, if_pos ⟨rfl, rfl⟩]
      obtain ⟨σ3, e3, f3, p3, v3⟩ := num_e (zTx_F t f2) (by omega) p2
      have g3 := zFA_t f2 f3
      rw [e3, zbd_s, zif]
      obtain ⟨n1, n2, n3, n4⟩ := zpN_G (T := T) (L := L) (a := a + 2) (by omega)
      by_cases z : (zpN T L (a + 2)).1 = true
      · rw [if_pos z, if_pos z, v3 z, tst_v _ _ _ hli (by omega) (by have := (n3 z).2; omega)]
        have b3 := zBf_A hK f g3
        have c3 := zBs_A hK s g3
        obtain ⟨a1, σ4, a2, a3, a4, a5⟩ := app_e h0 b3 c3 (by have := (n3 z).1; omega) (nI (512 * zli (zhr T L a) + 128 * (zhr T L (a + 1) - 60) + (zpN T L (a + 2)).2.2))
        rw [zck_of a1, a2, zbd_s]
        exact ⟨_, rfl, a3, a5.trans p3, fun _ => a4⟩
      · rw [if_neg z, if_neg z]
        exact ⟨_, rfl, zBf_A hK f g3, p3, fun q => by cases q⟩
    · rw [if_neg w]
      by_cases w2 : zhv (zhr T L (a + 1)) - (60 : Int32) < 0
      · rw [if_pos w2]
        exact ⟨_, rfl, zBf_A hK f f1, p1, fun q => by cases q⟩
      · have w3 : ¬ zhv (zhr T L (a + 1)) - (60 : Int32) ≤ 2 := by
          rcases zhr_c t (a + 1) with hc | hc
          · rw [zhv_y (d := zhr T L (a + 1)) hc rfl] at w2 ⊢
            intro w3
            by_cases hx : zhr T L (a + 1) < 60
            · have : ∀ d, d < 60 → nI d - (60 : Int32) < 0 := by decide +kernel
              exact w2 (this _ hx)
            · rw [show nI (zhr T L (a + 1)) - (60 : Int32) = nI (zhr T L (a + 1) - 60) from nI_subE (b := 60) (by omega)] at w3
              exact absurd w3 (nI_ge (a := 2) (by omega) (by omega))
          · rw [hc] at w2; exact absurd (by decide) w2
        rw [if_neg w2, if_neg w3]
        exact ⟨_, rfl, zBf_A hK f f1, p1, fun q => by cases q⟩
theorem zpL_f {T : Nat → Nat} {L c : Nat} {k : Int32} {p : Nat → ZR} : ∀ (n : Nat) (r : ZR), r.1 = false → zpL T L c k p n r = r
  | 0, _, _ => rfl
  | n + 1, r, h => by
    unfold zpL
    rw [if_neg (by rw [h]; intro q; cases q.1)]
theorem both_u (rec : Int32 × ZM → Option (Int32 × ZM)) (N : Nat) (x i : Int32) (σ : ZM) : F_Reader_readBoth_12 rec (N + 1) (x, i, σ) = f_Reader_readBoth_12 rec (F_Reader_readBoth_12 rec N) x i σ := rfl
theorem either_u (rec : Int32 × ZM → Option (Int32 × ZM)) (N : Nat) (x i : Int32) (σ : ZM) : F_Reader_readEither_12 rec (N + 1) (x, i, σ) = f_Reader_readEither_12 rec (F_Reader_readEither_12 rec N) x i σ := rfl
def zLn (L : Nat) (p : Nat → ZR) : Prop := ∀ a, a ≤ L → a ≤ (p a).2.1 ∧ (p a).2.1 ≤ L ∧ ((p a).1 = true → (p a).2.2.length ≤ (p a).2.1 - a)
theorem zLn_G {L h : Nat} {p : Nat → ZR} (g : ∀ a, a ≤ L → zG L h a (p a)) : zLn L p := fun a ha => ⟨(g a ha).1, (g a ha).2.1, fun q => ((g a ha).2.2 q).1⟩
theorem both_l {T : Nat → Nat} {L K c : Nat} {σ0 : ZM} (h0 : zB0 T L K c σ0) {rec : Int32 × ZM → Option (Int32 × ZM)} {x : Int32} {p : Nat → ZR} (hp : zBP T L K c σ0 p (fun σ => rec (x, σ))) (hn : zLn L p) (Q : List Int32) :
    ∀ (n i N : Nat) (r : ZR) (σ : ZM), n + i = 100 → n < N → r.1 = true → r.2.1 ≤ L → Q.length + r.2.2.length ≤ r.2.1 → zBf σ0 K c σ → zI σ 3 2 = nI r.2.1 → zBs K c (Q ++ r.2.2) σ →
    zBO T L K c σ0 Q (zpL T L 38 (-2) p n r) (F_Reader_readBoth_12 rec N (x, nI i, σ)) := by
  have hK : 87 ≤ K := by obtain ⟨-, -, -, -, -, i, -, rfl⟩ := h0; omega
  intro n
  induction n with
  | zero =>
    intro i N r σ hi hN r1 rL rq f h2 s
    obtain ⟨N, rfl⟩ : ∃ M, N = M + 1 := ⟨N - 1, by omega⟩
    rw [both_u]
    unfold f_Reader_readBoth_12 zpL zBO
    rw [if_pos (show (100 : Int32) ≤ nI i from nI_le (a := 100) (by omega) (by omega)), r1]
    exact ⟨_, rfl, f, h2, fun _ => s⟩
  | succ n ih =>
    intro i N r σ hi hN r1 rL rq f h2 s
    obtain ⟨N, rfl⟩ : ∃ M, N = M + 1 := ⟨N - 1, by omega⟩
    have t := (zB0_f h0 f).1
    have hL := t.1
    rw [both_u]
    unfold f_Reader_readBoth_12 zpL
    rw [if_neg (show ¬ (100 : Int32) ≤ nI i from nI_ge (b := 100) (by omega) (by omega)), show (38 : Int32) = nI 38 from rfl, skip_e t rL h2 (by omega)]
    by_cases q : zhr T L r.2.1 = 38
    · have l1 : r.2.1 < L := zhr_lt (T := T) (by omega)
      rw [if_pos q, if_pos ⟨r1, q⟩, zbd_s, if_neg (show ¬ nI 1 = 0 by decide)]
      have f1 : zFA σ (zsI σ 3 2 (nI (r.2.1 + 1))) := zFA_2 _ _
      obtain ⟨σ2, e2, f2, p2, s2⟩ := hp (r.2.1 + 1) (Q ++ r.2.2) _ (by omega) (by rw [List.length_append]; omega) (zBf_A hK f f1) (by rw [zI_sI, if_pos ⟨rfl, rfl⟩]) (zBs_A hK s f1)
      obtain ⟨m1, m2, m3⟩ := hn (r.2.1 + 1) (by omega)
      rw [show rec (x, zsI σ 3 2 (nI (r.2.1 + 1))) = _ from e2, zbd_s, zif]
      by_cases z : (p (r.2.1 + 1)).1 = true
      · rw [if_pos z]
        have m4 := m3 z
        obtain ⟨a1, σ4, a2, a3, a4, a5⟩ := app_e h0 f2 (s2 z) (by simp only [List.length_append]; omega) (-2)
        rw [zck_of a1, a2, zbd_s, show nI i + (1 : Int32) = nI (i + 1) from nI_add i 1]
        exact ih (i + 1) N ((p (r.2.1 + 1)).1, (p (r.2.1 + 1)).2.1, r.2.2 ++ (p (r.2.1 + 1)).2.2 ++ [-2]) σ4 (by omega) (by omega) z m2 (by simp only [List.length_append, List.length_singleton]; omega) a3 (a5.trans p2) (by rw [← List.append_assoc, ← List.append_assoc]; exact a4)
      · rw [if_neg z]
        have z' : (p (r.2.1 + 1)).1 = false := Bool.eq_false_iff.mpr z
        rw [zpL_f n ((p (r.2.1 + 1)).1, (p (r.2.1 + 1)).2.1, r.2.2 ++ (p (r.2.1 + 1)).2.2 ++ [-2]) z']
        unfold zBO
        rw [z']
        exact ⟨_, rfl, f2, p2, fun q => by cases q⟩
    · rw [if_neg q, if_neg (fun w => q w.2), zbd_s, if_pos (show nI 0 = 0 from rfl)]
      unfold zBO
      rw [r1]
      exact ⟨_, rfl, f, h2, fun _ => s⟩
theorem both_e {T : Nat → Nat} {L K c : Nat} {σ0 : ZM} (h0 : zB0 T L K c σ0) {rec : Int32 × ZM → Option (Int32 × ZM)} {x : Int32} {p : Nat → ZR} (hp : zBP T L K c σ0 p (fun σ => rec (x, σ))) (hn : zLn L p) :
    zBP T L K c σ0 (zpT T L p) (f_Reader_readBoth rec x) := by
  intro a Q σ ha hQ f h2 s
  obtain ⟨σ2, e2, f2, p2, s2⟩ := hp a Q σ ha hQ f h2 s
  obtain ⟨m1, m2, m3⟩ := hn a ha
  unfold f_Reader_readBoth
  rw [show rec (x, σ) = _ from e2, zbd_s, zif]
  by_cases z : (p a).1 = true
  · rw [if_pos z]
    have := m3 z
    exact both_l h0 hp hn Q 100 0 2000 (p a) σ2 (by omega) (by omega) z m2 (by omega) f2 p2 (s2 z)
  · have z' : (p a).1 = false := Bool.eq_false_iff.mpr z
    rw [if_neg z]
    unfold zBO zpT
    rw [zpL_f 100 _ z', z']
    exact ⟨_, rfl, f2, p2, fun q => by cases q⟩
theorem either_l {T : Nat → Nat} {L K c : Nat} {σ0 : ZM} (h0 : zB0 T L K c σ0) {rec : Int32 × ZM → Option (Int32 × ZM)} {x : Int32} {p : Nat → ZR} (hp : zBP T L K c σ0 p (f_Reader_readBoth rec x)) (hn : zLn L p) (Q : List Int32) :
    ∀ (n i N : Nat) (r : ZR) (σ : ZM), n + i = 100 → n < N → r.1 = true → r.2.1 ≤ L → Q.length + r.2.2.length ≤ r.2.1 → zBf σ0 K c σ → zI σ 3 2 = nI r.2.1 → zBs K c (Q ++ r.2.2) σ →
    zBO T L K c σ0 Q (zpL T L 124 (-3) p n r) (F_Reader_readEither_12 rec N (x, nI i, σ)) := by
  have hK : 87 ≤ K := by obtain ⟨-, -, -, -, -, i, -, rfl⟩ := h0; omega
  intro n
  induction n with
  | zero =>
    intro i N r σ hi hN r1 rL rq f h2 s
    obtain ⟨N, rfl⟩ : ∃ M, N = M + 1 := ⟨N - 1, by omega⟩
    rw [either_u]
    unfold f_Reader_readEither_12 zpL zBO
    rw [if_pos (show (100 : Int32) ≤ nI i from nI_le (a := 100) (by omega) (by omega)), r1]
    exact ⟨_, rfl, f, h2, fun _ => s⟩
  | succ n ih =>
    intro i N r σ hi hN r1 rL rq f h2 s
    obtain ⟨N, rfl⟩ : ∃ M, N = M + 1 := ⟨N - 1, by omega⟩
    have t := (zB0_f h0 f).1
    have hL := t.1
    rw [either_u]
    unfold f_Reader_readEither_12 zpL
    rw [if_neg (show ¬ (100 : Int32) ≤ nI i from nI_ge (b := 100) (by omega) (by omega)), show (124 : Int32) = nI 124 from rfl, skip_e t rL h2 (by omega)]
    by_cases q : zhr T L r.2.1 = 124
    · have l1 : r.2.1 < L := zhr_lt (T := T) (by omega)
      rw [if_pos q, if_pos ⟨r1, q⟩, zbd_s, if_neg (show ¬ nI 1 = 0 by decide)]
      have f1 : zFA σ (zsI σ 3 2 (nI (r.2.1 + 1))) := zFA_2 _ _
      obtain ⟨σ2, e2, f2, p2, s2⟩ := hp (r.2.1 + 1) (Q ++ r.2.2) _ (by omega) (by rw [List.length_append]; omega) (zBf_A hK f f1) (by rw [zI_sI, if_pos ⟨rfl, rfl⟩]) (zBs_A hK s f1)
      obtain ⟨m1, m2, m3⟩ := hn (r.2.1 + 1) (by omega)
      rw [e2, zbd_s, zif]
      by_cases z : (p (r.2.1 + 1)).1 = true
      · rw [if_pos z]
        have m4 := m3 z
        obtain ⟨a1, σ4, a2, a3, a4, a5⟩ := app_e h0 f2 (s2 z) (by simp only [List.length_append]; omega) (-3)
        rw [zck_of a1, a2, zbd_s, show nI i + (1 : Int32) = nI (i + 1) from nI_add i 1]
        exact ih (i + 1) N ((p (r.2.1 + 1)).1, (p (r.2.1 + 1)).2.1, r.2.2 ++ (p (r.2.1 + 1)).2.2 ++ [-3]) σ4 (by omega) (by omega) z m2 (by simp only [List.length_append, List.length_singleton]; omega) a3 (a5.trans p2) (by rw [← List.append_assoc, ← List.append_assoc]; exact a4)
      · rw [if_neg z]
        have z' : (p (r.2.1 + 1)).1 = false := Bool.eq_false_iff.mpr z
        rw [zpL_f n ((p (r.2.1 + 1)).1, (p (r.2.1 + 1)).2.1, r.2.2 ++ (p (r.2.1 + 1)).2.2 ++ [-3]) z']
        unfold zBO
        rw [z']
        exact ⟨_, rfl, f2, p2, fun q => by cases q⟩
    · rw [if_neg q, if_neg (fun w => q w.2), zbd_s, if_pos (show nI 0 = 0 from rfl)]
      unfold zBO
      rw [r1]
      exact ⟨_, rfl, f, h2, fun _ => s⟩
theorem either_e {T : Nat → Nat} {L K c h : Nat} {σ0 : ZM} (h0 : zB0 T L K c σ0) {rec : Int32 × ZM → Option (Int32 × ZM)} {x : Int32} {p : Nat → ZR} (hp : zBP T L K c σ0 p (fun σ => rec (x, σ))) (hg : ∀ a, a ≤ L → zG L h a (p a)) :
    zBP T L K c σ0 (zpE T L p) (f_Reader_readEither rec x) := by
  intro a Q σ ha hQ f h2 s
  have hb := both_e h0 hp (zLn_G hg)
  have hn : zLn L (zpT T L p) := zLn_G (fun a ha => zpT_G hg a ha)
  obtain ⟨σ2, e2, f2, p2, s2⟩ := hb a Q σ ha hQ f h2 s
  obtain ⟨m1, m2, m3⟩ := hn a ha
  unfold f_Reader_readEither
  rw [e2, zbd_s, zif]
  by_cases z : (zpT T L p a).1 = true
  · rw [if_pos z]
    have := m3 z
    exact either_l h0 hb hn Q 100 0 2000 (zpT T L p a) σ2 (by omega) (by omega) z m2 (by omega) f2 p2 (s2 z)
  · have z' : (zpT T L p a).1 = false := Bool.eq_false_iff.mpr z
    rw [if_neg z]
    unfold zBO zpE
    rw [zpL_f 100 _ z', z']
    exact ⟨_, rfl, f2, p2, fun q => by cases q⟩
theorem zlp_1 {α β : Type} (f : (α → Option β) → α → Option β) (N : Nat) (a : α) : zlp f (N + 1) a = f (zlp f N) a := rfl
theorem part_u (N : Nat) (x : Int32) (σ : ZM) : F_Reader_readPart (N + 1) (x, σ) = f_Reader_readPart (F_Reader_readPart N) x σ := by
  unfold F_Reader_readPart
  exact zlp_1 _ N (x, σ)
theorem parn_u (rec : Int32 × ZM → Option (Int32 × ZM)) (N : Nat) (x y z : Int32) (σ : ZM) : F_Reader_readPart_82 rec (N + 1) (x, y, z, σ) = f_Reader_readPart_82 rec (F_Reader_readPart_82 rec N) x y z σ := by
  unfold F_Reader_readPart_82
  exact zlp_1 _ N (x, y, z, σ)
theorem parm_u (rec : Int32 × ZM → Option (Int32 × ZM)) (N : Nat) (x y : Int32) (σ : ZM) : F_Reader_readPart_2 rec (N + 1) (x, y, σ) = f_Reader_readPart_2 rec (F_Reader_readPart_2 rec N) x y σ := by
  unfold F_Reader_readPart_2
  exact zlp_1 _ N (x, y, σ)
/-- what stands behind m signs !: a step for each, at the end -/
def zNt (m : Nat) (r : ZR) : ZR := (r.1, r.2.1, r.2.2 ++ List.replicate m (-1))
theorem zNt_1 (m : Nat) (z : ZR) : zNt m (z.1, z.2.1, z.2.2 ++ [-1]) = zNt (m + 1) z := by
  simp [zNt, List.append_assoc, List.replicate_succ]
theorem zNt_0 (z : ZR) : zNt 0 z = z := by
  simp [zNt]
theorem nots_f (rec : Int32 × ZM → Option (Int32 × ZM)) (N : Nat) (x z : Int32) (σ : ZM) : F_Reader_readPart_82 rec (N + 1) (x, (0 : Int32), z, σ) = some ((0 : Int32), σ) := by
  rw [parn_u]
  unfold f_Reader_readPart_82
  rw [if_pos rfl, zck_of (by decide)]
theorem nots_t {T : Nat → Nat} {L K c : Nat} {σ0 : ZM} (h0 : zB0 T L K c σ0) (rec : Int32 × ZM → Option (Int32 × ZM)) : ∀ (m i N p : Nat) (Q : List Int32) (σ : ZM), m + i ≤ 4 → m < N → Q.length + m ≤ 100 → zBf σ0 K c σ → zI σ 3 2 = nI p → zBs K c Q σ →
    ∃ σ', F_Reader_readPart_82 rec N (nI (m + i), (1 : Int32), nI i, σ) = some ((1 : Int32), σ') ∧ zBf σ0 K c σ' ∧ zI σ' 3 2 = nI p ∧ zBs K c (Q ++ List.replicate m (-1)) σ' := by
  intro m
  induction m with
  | zero =>
    intro i N p Q σ hi hN hq f h2 s
    obtain ⟨N, rfl⟩ : ∃ M, N = M + 1 := ⟨N - 1, by omega⟩
    refine ⟨σ, ?_, f, h2, by simpa using s⟩
    rw [parn_u]
    unfold f_Reader_readPart_82
    rw [if_neg (show ¬ (1 : Int32) = 0 by decide), Nat.zero_add, if_pos (show nI i ≤ nI i from Int32.le_refl _), zck_of (by decide)]
  | succ m ih =>
    intro i N p Q σ hi hN hq f h2 s
    obtain ⟨N, rfl⟩ : ∃ M, N = M + 1 := ⟨N - 1, by omega⟩
    obtain ⟨a1, σ1, a2, a3, a4, a5⟩ := app_e h0 f s (by omega) (-1)
    obtain ⟨σ2, b1, b2, b3, b4⟩ := ih (i + 1) N p (Q ++ [-1]) σ1 (by omega) (by omega) (by rw [List.length_append, List.length_singleton]; omega) a3 (a5.trans h2) a4
    refine ⟨σ2, ?_, b2, b3, ?_⟩
    · rw [parn_u]
      unfold f_Reader_readPart_82
      rw [if_neg (show ¬ (1 : Int32) = 0 by decide), if_neg (show ¬ nI (m + 1 + i) ≤ nI i from nI_ge (a := i) (b := m + 1 + i) (by omega) (by omega)), zck_of a1, a2, zbd_s, show nI i + (1 : Int32) = nI (i + 1) from nI_add i 1, show m + 1 + i = m + (i + 1) by omega]
      exact b1
    · rw [List.append_assoc] at b4
      exact b4
theorem behind_e {T : Nat → Nat} {L K c : Nat} {σ0 : ZM} (h0 : zB0 T L K c σ0) (rec : Int32 × ZM → Option (Int32 × ZM)) {e d : Nat} {Q : List Int32} {z : ZR} {σ : ZM} (hd : d ≤ e) (he : e ≤ 4) (f : zBf σ0 K c σ) (h2 : zI σ 3 2 = nI z.2.1) (hs : z.1 = true → zBs K c (Q ++ z.2.2) σ) (hq : z.1 = true → Q.length + z.2.2.length + (e - d) ≤ 100) :
    zBO T L K c σ0 Q (zNt (e - d) z) (f_Reader_readPart_77 rec (nI d) (nI e) (zbI z.1) σ) := by
  obtain ⟨b, p, S⟩ := z
  unfold f_Reader_readPart_77 zBO zNt
  cases b with
  | false => exact ⟨σ, nots_f rec 1999 (nI e) (nI d) σ, f, h2, fun q => by cases q⟩
  | true =>
    obtain ⟨σ', a1, a2, a3, a4⟩ := nots_t h0 rec (e - d) d 2000 p (Q ++ S) σ (by omega) (by omega) (by rw [List.length_append]; exact hq rfl) f h2 (hs rfl)
    rw [Nat.sub_add_cancel hd] at a1
    rw [List.append_assoc] at a4
    exact ⟨σ', a1, a2, a3, fun _ => a4⟩
theorem core_t {T : Nat → Nat} {L K c : Nat} {σ0 : ZM} (h0 : zB0 T L K c σ0) (rec : Int32 × ZM → Option (Int32 × ZM)) {e d a : Nat} {Q : List Int32} {σ : ZM} (hd : d ≤ e) (he : e ≤ 4) (ha : a ≤ L) (hQ : Q.length + (e - d) ≤ a) (f : zBf σ0 K c σ) (h2 : zI σ 3 2 = nI a) (s : zBs K c Q σ) :
    zBO T L K c σ0 Q (zNt (e - d) (zpX T L a)) (f_Reader_readPart_41 rec (nI d) (nI e) (0 : Int32) σ) := by
  have hL := (zB0_f h0 f).1.1
  obtain ⟨σ2, e2, f2, p2, s2⟩ := test_e h0 a Q σ ha (by omega) f h2 s
  obtain ⟨m1, m2, m3⟩ := zpX_G (T := T) (L := L) ha
  unfold f_Reader_readPart_41
  rw [if_pos rfl, e2, zbd_s]
  exact behind_e h0 rec hd he f2 p2 s2 (fun q => by have := (m3 q).1; omega)
theorem core_p {T : Nat → Nat} {L K c : Nat} {σ0 : ZM} (h0 : zB0 T L K c σ0) {rec : Int32 × ZM → Option (Int32 × ZM)} {e d a r : Nat} {Q : List Int32} {σ : ZM} (hd : d ≤ e) (he : r + e = 3) (hp : zBP T L K c σ0 (zpF T L r) (fun σ => rec (nI (e + 1), σ))) (ha : a + 1 ≤ L) (hQ : Q.length + (e - d) ≤ a) (f : zBf σ0 K c σ) (h2 : zI σ 3 2 = nI (a + 1)) (s : zBs K c Q σ) :
    zBO T L K c σ0 Q (zNt (e - d) (if (zpE T L (zpF T L r) (a + 1)).1 = true then (if zhr T L (zpE T L (zpF T L r) (a + 1)).2.1 = 41 then (true, (zpE T L (zpF T L r) (a + 1)).2.1 + 1, (zpE T L (zpF T L r) (a + 1)).2.2) else (false, (zpE T L (zpF T L r) (a + 1)).2.1, [])) else (false, (zpE T L (zpF T L r) (a + 1)).2.1, []))) (f_Reader_readPart_41 rec (nI d) (nI e) (1 : Int32) σ) := by
  have hK : 87 ≤ K := by obtain ⟨-, -, -, -, -, i, -, rfl⟩ := h0; omega
  have hL := (zB0_f h0 f).1.1
  have hg : ∀ a, a ≤ L → zG L (2 * r + 1) a (zpF T L r a) := fun a ha => zpF_G r a ha
  obtain ⟨σ2, e2, f2, p2, s2⟩ := either_e h0 hp hg (a + 1) Q σ ha (by omega) f h2 s
  obtain ⟨m1, m2, m3⟩ := zLn_G (fun a ha => zpE_G (T := T) hg a ha) (a + 1) ha
  unfold f_Reader_readPart_41 f_Reader_readPart_69
  rw [if_neg (show ¬ (1 : Int32) = 0 by decide), show nI e + (1 : Int32) = nI (e + 1) from nI_add e 1, e2, zbd_s, zif]
  by_cases z : (zpE T L (zpF T L r) (a + 1)).1 = true
  · rw [if_pos z, if_pos z, show (41 : Int32) = nI 41 from rfl, skip_e (zB0_f h0 f2).1 m2 p2 (by omega)]
    by_cases w : zhr T L (zpE T L (zpF T L r) (a + 1)).2.1 = 41
    · rw [if_pos w, if_pos w, zbd_s, if_neg (show ¬ nI 1 = 0 by decide)]
      refine behind_e h0 rec (z := (true, (zpE T L (zpF T L r) (a + 1)).2.1 + 1, (zpE T L (zpF T L r) (a + 1)).2.2)) hd (by omega) (zBf_A hK f2 (zFA_2 _ _)) ?_ (fun _ => zBs_A hK (s2 z) (zFA_2 _ _)) (fun _ => ?_)
      · show zI (zsI σ2 3 2 _) 3 2 = nI ((zpE T L (zpF T L r) (a + 1)).2.1 + 1)
        rw [zI_sI, if_pos ⟨rfl, rfl⟩]
      · have := m3 z
        show Q.length + (zpE T L (zpF T L r) (a + 1)).2.2.length + (e - d) ≤ 100
        omega
    · rw [if_neg w, if_neg w, zbd_s, if_pos (show nI 0 = 0 from rfl)]
      exact behind_e h0 rec (z := (false, (zpE T L (zpF T L r) (a + 1)).2.1, [])) hd (by omega) f2 p2 (fun q => by cases q) (fun q => by cases q)
  · rw [if_neg z, if_neg z]
    exact behind_e h0 rec (z := (false, (zpE T L (zpF T L r) (a + 1)).2.1, [])) hd (by omega) f2 p2 (fun q => by cases q) (fun q => by cases q)
theorem part_l {T : Nat → Nat} {L K c : Nat} {σ0 : ZM} (h0 : zB0 T L K c σ0) {rec : Int32 × ZM → Option (Int32 × ZM)} {r : Nat} (hrec : ∀ q e : Nat, q + e = 4 → q < r → zBP T L K c σ0 (zpF T L q) (fun σ => rec (nI e, σ))) :
    ∀ (q e M a d : Nat) (Q : List Int32) (σ : ZM), q + e = 4 → q ≤ r → q < M → d ≤ e → a ≤ L → Q.length + (e - d) ≤ a → zBf σ0 K c σ → zI σ 3 2 = nI a → zBs K c Q σ → zBO T L K c σ0 Q (zNt (e - d) (zpF T L q a)) (F_Reader_readPart_2 rec M (nI d, nI e, σ)) := by
  have hK : 87 ≤ K := by obtain ⟨-, -, -, -, -, i, -, rfl⟩ := h0; omega
  intro q
  induction q with
  | zero =>
    intro e M a d Q σ he hr hM hd ha hQ f h2 s
    obtain ⟨M, rfl⟩ : ∃ N, M = N + 1 := ⟨M - 1, by omega⟩
    obtain rfl : e = 4 := by omega
    rw [parm_u]
    unfold f_Reader_readPart_2 f_Reader_readPart_22 f_Reader_readPart_40
    rw [if_pos (show (4 : Int32) ≤ nI 4 by decide), if_pos (show (4 : Int32) ≤ nI 4 by decide)]
    have hz : zpF T L 0 a = zpX T L a := by
      unfold zpF
      by_cases w : zhr T L a = 33 ∨ zhr T L a = 40
      · rw [if_pos w]
        unfold zpX
        rw [if_pos (show zli (zhr T L a) = 9 by rcases w with w | w <;> rw [w] <;> rfl)]
      · rw [if_neg w]
    rw [hz]
    exact core_t h0 rec hd (Nat.le_refl 4) ha hQ f h2 s
  | succ q ih =>
    intro e M a d Q σ he hr hM hd ha hQ f h2 s
    obtain ⟨M, rfl⟩ : ∃ N, M = N + 1 := ⟨M - 1, by omega⟩
    have t := (zB0_f h0 f).1
    have hL := t.1
    have n4 : ¬ (4 : Int32) ≤ nI e := nI_ge (b := 4) (by omega) (by omega)
    have f1 : zFA σ (zsI σ 3 2 (nI (a + 1))) := zFA_2 _ _
    rw [parm_u]
    unfold f_Reader_readPart_2 f_Reader_readPart_22 f_Reader_readPart_40 zpF
    rw [if_neg n4, show (33 : Int32) = nI 33 from rfl, skip_e t ha h2 (by omega)]
    by_cases w : zhr T L a = 33
    · have l1 : a < L := zhr_lt (T := T) (by omega)
      rw [if_pos w, if_pos w, zbd_s, if_neg (show ¬ nI 1 = 0 by decide), show nI e + (1 : Int32) = nI (e + 1) from nI_add e 1, zNt_1, show e - d + 1 = e + 1 - d by omega]
      exact ih (e + 1) M (a + 1) d Q (zsI σ 3 2 (nI (a + 1))) (by omega) (by omega) (by omega) (by omega) (by omega) (by omega) (zBf_A hK f f1) (by rw [zI_sI, if_pos ⟨rfl, rfl⟩]) (zBs_A hK s f1)
    · rw [if_neg w, if_neg w, zbd_s, if_pos (show nI 0 = 0 from rfl), if_neg n4, show (40 : Int32) = nI 40 from rfl, skip_e t ha h2 (by omega)]
      by_cases w2 : zhr T L a = 40
      · have l1 : a < L := zhr_lt (T := T) (by omega)
        rw [if_pos w2, if_pos w2, zbd_s, if_neg (show ¬ nI 1 = 0 by decide)]
        exact core_p h0 hd (by omega) (hrec q (e + 1) (by omega) (by omega)) l1 hQ (zBf_A hK f f1) (by rw [zI_sI, if_pos ⟨rfl, rfl⟩]) (zBs_A hK s f1)
      · rw [if_neg w2, if_neg w2, zbd_s, if_pos (show nI 0 = 0 from rfl)]
        exact core_t h0 rec hd (by omega) ha hQ f h2 s
theorem part_e {T : Nat → Nat} {L K c : Nat} {σ0 : ZM} (h0 : zB0 T L K c σ0) : ∀ (r N d : Nat), r + d = 4 → r < N → zBP T L K c σ0 (zpF T L r) (fun σ => F_Reader_readPart N (nI d, σ)) := by
  intro r
  induction r using Nat.strongRecOn with
  | ind r ih =>
    intro N d hd hN a Q σ ha hQ f h2 s
    obtain ⟨N, rfl⟩ : ∃ M, N = M + 1 := ⟨N - 1, by omega⟩
    have g := part_l h0 (rec := F_Reader_readPart N) (r := r) (fun q e he hq => ih q hq N e he (by omega)) r d 2000 a d Q σ hd (Nat.le_refl _) (by omega) (Nat.le_refl _) ha (by omega) f h2 s
    dsimp only
    rw [part_u]
    unfold f_Reader_readPart
    rw [Nat.sub_self, zNt_0] at g
    exact g
