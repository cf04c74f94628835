/-! PURE: the reference reads parts -/
theorem mT_u (rec : Int32 × ZM → Option (Int32 × ZM)) (N : Nat) (x v : Int32) (σ : ZM) : F_Model_readsT_6 rec (N + 1) (x, v, σ) = f_Model_readsT_6 rec (F_Model_readsT_6 rec N) x v σ := rfl
theorem mE_u (rec : Int32 × ZM → Option (Int32 × ZM)) (N : Nat) (x v : Int32) (σ : ZM) : F_Model_readsE_6 rec (N + 1) (x, v, σ) = f_Model_readsE_6 rec (F_Model_readsE_6 rec N) x v σ := rfl
theorem zw1 : ¬ zbI (!false) = 0 := by decide
theorem mT_w {rec : Int32 × ZM → Option (Int32 × ZM)} {N : Nat} {x : Int32} {b : Bool} {σ : ZM} (h : ¬ zI σ 129 14 = 0) : F_Model_readsT_6 rec (N + 1) (x, zbI b, σ) = some (zbI b, σ) := by
  rw [mT_u]
  unfold f_Model_readsT_6
  rw [if_neg h, zbl_bI, zck_t]
theorem mE_w {rec : Int32 × ZM → Option (Int32 × ZM)} {N : Nat} {x : Int32} {b : Bool} {σ : ZM} (h : ¬ zI σ 129 14 = 0) : F_Model_readsE_6 rec (N + 1) (x, zbI b, σ) = some (zbI b, σ) := by
  rw [mE_u]
  unfold f_Model_readsE_6
  rw [if_neg h, zbl_bI, zck_t]
theorem mT_l {T : Nat → Nat} {L : Nat} {σ : ZM} {rec : Int32 × ZM → Option (Int32 × ZM)} {x : Int32} {p : Nat → ZR} (h : zMT T L σ) (hp : zMP T L p (fun σ => rec (x, σ))) (hn : zLn L p) :
    ∀ (n N : Nat) (r : ZR) (b0 : Bool) (σ1 : ZM), L ≤ r.2.1 + n → n + 1 < N → r.1 = true → r.2.1 ≤ L → zMF σ σ1 → zI σ1 129 11 = nI r.2.1 → zI σ1 129 14 = 0 → (¬ zI σ 130 5 = 0 → ∀ st, r.2.2.foldl (zbs (mlam σ)) st = b0 :: st) →
    ∃ (b : Bool) (σ' : ZM), F_Model_readsT_6 rec N (x, zbI b0, σ1) = some (zbI b, σ') ∧ zMPr σ σ' (zpL T L 38 (-2) p n r).1 (zpL T L 38 (-2) p n r).2.1 ∧ ((zpL T L 38 (-2) p n r).1 = true → ¬ zI σ 130 5 = 0 → ∀ st, (zpL T L 38 (-2) p n r).2.2.foldl (zbs (mlam σ)) st = b :: st) := by
  intro n
  induction n with
  | zero =>
    intro N r b0 σ1 hL hN r1 rL f h2 h0 s
    obtain ⟨N, rfl⟩ : ∃ M, N = M + 1 := ⟨N - 1, by omega⟩
    rw [mT_u]
    unfold f_Model_readsT_6 zpL
    have t1 := zMT_F h f
    have q : ¬ zhr T L r.2.1 = 38 := by
      intro q
      have := zhr_lt (T := T) (L := L) (a := r.2.1) (by omega)
      omega
    rw [if_pos h0, mhere_e t1 rL h2, zbd_s, if_neg (show ¬ zhv (zhr T L r.2.1) = (38 : Int32) from zhv_n (d := 38) (zmr_c h _) (by omega) q), zbl_bI, zck_t, r1]
    exact ⟨b0, _, rfl, ⟨f, h2, h0⟩, fun _ => s⟩
  | succ n ih =>
    intro N r b0 σ1 hL hN r1 rL f h2 h0 s
    obtain ⟨N, rfl⟩ : ∃ M, N = M + 1 := ⟨N - 1, by omega⟩
    rw [mT_u]
    unfold f_Model_readsT_6 zpL
    have t1 := zMT_F h f
    rw [if_pos h0, mhere_e t1 rL h2, zbd_s]
    by_cases q : zhr T L r.2.1 = 38
    · have l1 : r.2.1 < L := zhr_lt (T := T) (by omega)
      have f2 : zMF σ1 (zsI σ1 129 11 (nI (r.2.1 + 1))) := zMF_11 _ _
      rw [if_pos (show zhv (zhr T L r.2.1) = (38 : Int32) from zhv_y (d := 38) (by omega) q), if_pos ⟨r1, q⟩, h2, show nI r.2.1 + (1 : Int32) = nI (r.2.1 + 1) from nI_add _ 1]
      obtain ⟨b, σ3, e3, ⟨f3, p3, w3⟩, s3⟩ := hp (r.2.1 + 1) _ (zMT_F t1 f2) l1 (by rw [zI_sI, if_pos ⟨rfl, rfl⟩]) (by rw [zI_sI, if_neg (by omega)]; exact h0)
      obtain ⟨m1, m2, m3⟩ := hn (r.2.1 + 1) l1
      have g3 := zMF_t f (zMF_t f2 f3)
      have ek : (zbd (rec (x, zsI σ1 129 11 (nI (r.2.1 + 1)))) fun v8 s9 => if zbI b0 = 0 then f_Model_readsT_50 rec (F_Model_readsT_6 rec N) x s9 else if v8 = 0 then f_Model_readsT_50 rec (F_Model_readsT_6 rec N) x s9 else f_Model_readsT_51 rec (F_Model_readsT_6 rec N) x 1 s9) = F_Model_readsT_6 rec N (x, zbI (b && b0), σ3) := by
        rw [show rec (x, zsI σ1 129 11 (nI (r.2.1 + 1))) = _ from e3, zbd_s]
        cases b <;> cases b0 <;> rfl
      rw [ek]
      by_cases z : (p (r.2.1 + 1)).1 = true
      · rw [z] at w3
        refine ih N ((p (r.2.1 + 1)).1, (p (r.2.1 + 1)).2.1, r.2.2 ++ (p (r.2.1 + 1)).2.2 ++ [-2]) (b && b0) σ3 (by dsimp only; omega) (by omega) z m2 g3 p3 w3 (fun m st => ?_)
        have s4 := s3 z (by rw [f2.1 130 5 (by omega), f.1 130 5 (by omega)]; exact m)
        rw [mlam_F (zMF_t f f2)] at s4
        rw [List.foldl_append, List.foldl_append, s m, s4]; rfl
      · have z' : (p (r.2.1 + 1)).1 = false := Bool.eq_false_iff.mpr z
        rw [z'] at w3
        obtain ⟨N, rfl⟩ : ∃ M, N = M + 1 := ⟨N - 1, by omega⟩
        rw [zpL_f n ((p (r.2.1 + 1)).1, (p (r.2.1 + 1)).2.1, r.2.2 ++ (p (r.2.1 + 1)).2.2 ++ [-2]) z', mT_w (by rw [w3]; decide)]
        dsimp only
        rw [z']
        exact ⟨_, _, rfl, ⟨g3, p3, w3⟩, fun q => by cases q⟩
    · rw [if_neg (show ¬ zhv (zhr T L r.2.1) = (38 : Int32) from zhv_n (d := 38) (zmr_c h _) (by omega) q), zbl_bI, zck_t, if_neg (fun w => q w.2), r1]
      exact ⟨b0, _, rfl, ⟨f, h2, h0⟩, fun _ => s⟩
theorem mT_e {T : Nat → Nat} {L : Nat} {rec : Int32 × ZM → Option (Int32 × ZM)} {x : Int32} {p : Nat → ZR} (hp : zMP T L p (fun σ => rec (x, σ))) (hn : zLn L p) : zMP T L (zpT T L p) (f_Model_readsT rec x) := by
  intro a σ h ha h2 h0
  obtain ⟨b, σ1, e1, ⟨f1, p1, w1⟩, s1⟩ := hp a σ h ha h2 h0
  obtain ⟨m1, m2, m3⟩ := hn a ha
  have hL := h.1
  unfold f_Model_readsT zpT
  rw [show rec (x, σ) = _ from e1, zbd_s]
  by_cases z : (p a).1 = true
  · rw [z] at w1
    exact mT_l h hp hn 100 2000 (p a) b σ1 (by omega) (by omega) z m2 f1 p1 w1 (s1 z)
  · have z' : (p a).1 = false := Bool.eq_false_iff.mpr z
    rw [z'] at w1
    rw [zpL_f 100 _ z', mT_w (N := 1999) (by rw [w1]; decide), z']
    exact ⟨_, _, rfl, ⟨f1, p1, w1⟩, fun q => by cases q⟩
theorem mE_l {T : Nat → Nat} {L : Nat} {σ : ZM} {rec : Int32 × ZM → Option (Int32 × ZM)} {x : Int32} {p : Nat → ZR} (h : zMT T L σ) (hp : zMP T L p (f_Model_readsT rec x)) (hn : zLn L p) :
    ∀ (n N : Nat) (r : ZR) (b0 : Bool) (σ1 : ZM), L ≤ r.2.1 + n → n + 1 < N → r.1 = true → r.2.1 ≤ L → zMF σ σ1 → zI σ1 129 11 = nI r.2.1 → zI σ1 129 14 = 0 → (¬ zI σ 130 5 = 0 → ∀ st, r.2.2.foldl (zbs (mlam σ)) st = b0 :: st) →
    ∃ (b : Bool) (σ' : ZM), F_Model_readsE_6 rec N (x, zbI b0, σ1) = some (zbI b, σ') ∧ zMPr σ σ' (zpL T L 124 (-3) p n r).1 (zpL T L 124 (-3) p n r).2.1 ∧ ((zpL T L 124 (-3) p n r).1 = true → ¬ zI σ 130 5 = 0 → ∀ st, (zpL T L 124 (-3) p n r).2.2.foldl (zbs (mlam σ)) st = b :: st) := by
  intro n
  induction n with
  | zero =>
    intro N r b0 σ1 hL hN r1 rL f h2 h0 s
    obtain ⟨N, rfl⟩ : ∃ M, N = M + 1 := ⟨N - 1, by omega⟩
    rw [mE_u]
    unfold f_Model_readsE_6 zpL
    have t1 := zMT_F h f
    have q : ¬ zhr T L r.2.1 = 124 := by
      intro q
      have := zhr_lt (T := T) (L := L) (a := r.2.1) (by omega)
      omega
    rw [if_pos h0, mhere_e t1 rL h2, zbd_s, if_neg (show ¬ zhv (zhr T L r.2.1) = (124 : Int32) from zhv_n (d := 124) (zmr_c h _) (by omega) q), zbl_bI, zck_t, r1]
    exact ⟨b0, _, rfl, ⟨f, h2, h0⟩, fun _ => s⟩
  | succ n ih =>
    intro N r b0 σ1 hL hN r1 rL f h2 h0 s
    obtain ⟨N, rfl⟩ : ∃ M, N = M + 1 := ⟨N - 1, by omega⟩
    rw [mE_u]
    unfold f_Model_readsE_6 zpL
    have t1 := zMT_F h f
    rw [if_pos h0, mhere_e t1 rL h2, zbd_s]
    by_cases q : zhr T L r.2.1 = 124
    · have l1 : r.2.1 < L := zhr_lt (T := T) (by omega)
      have f2 : zMF σ1 (zsI σ1 129 11 (nI (r.2.1 + 1))) := zMF_11 _ _
      rw [if_pos (show zhv (zhr T L r.2.1) = (124 : Int32) from zhv_y (d := 124) (by omega) q), if_pos ⟨r1, q⟩, h2, show nI r.2.1 + (1 : Int32) = nI (r.2.1 + 1) from nI_add _ 1]
      obtain ⟨b, σ3, e3, ⟨f3, p3, w3⟩, s3⟩ := hp (r.2.1 + 1) _ (zMT_F t1 f2) l1 (by rw [zI_sI, if_pos ⟨rfl, rfl⟩]) (by rw [zI_sI, if_neg (by omega)]; exact h0)
      obtain ⟨m1, m2, m3⟩ := hn (r.2.1 + 1) l1
      have g3 := zMF_t f (zMF_t f2 f3)
      have ek : (zbd (f_Model_readsT rec x (zsI σ1 129 11 (nI (r.2.1 + 1)))) fun v8 s9 => if zbI b0 = 0 then (if v8 = 0 then f_Model_readsE_51 rec (F_Model_readsE_6 rec N) x 0 s9 else f_Model_readsE_46 rec (F_Model_readsE_6 rec N) x s9) else f_Model_readsE_46 rec (F_Model_readsE_6 rec N) x s9) = F_Model_readsE_6 rec N (x, zbI (b || b0), σ3) := by
        rw [e3, zbd_s]
        cases b <;> cases b0 <;> rfl
      rw [ek]
      by_cases z : (p (r.2.1 + 1)).1 = true
      · rw [z] at w3
        refine ih N ((p (r.2.1 + 1)).1, (p (r.2.1 + 1)).2.1, r.2.2 ++ (p (r.2.1 + 1)).2.2 ++ [-3]) (b || b0) σ3 (by dsimp only; omega) (by omega) z m2 g3 p3 w3 (fun m st => ?_)
        have s4 := s3 z (by rw [f2.1 130 5 (by omega), f.1 130 5 (by omega)]; exact m)
        rw [mlam_F (zMF_t f f2)] at s4
        rw [List.foldl_append, List.foldl_append, s m, s4]; rfl
      · have z' : (p (r.2.1 + 1)).1 = false := Bool.eq_false_iff.mpr z
        rw [z'] at w3
        obtain ⟨N, rfl⟩ : ∃ M, N = M + 1 := ⟨N - 1, by omega⟩
        rw [zpL_f n ((p (r.2.1 + 1)).1, (p (r.2.1 + 1)).2.1, r.2.2 ++ (p (r.2.1 + 1)).2.2 ++ [-3]) z', mE_w (by rw [w3]; decide)]
        dsimp only
        rw [z']
        exact ⟨_, _, rfl, ⟨g3, p3, w3⟩, fun q => by cases q⟩
    · rw [if_neg (show ¬ zhv (zhr T L r.2.1) = (124 : Int32) from zhv_n (d := 124) (zmr_c h _) (by omega) q), zbl_bI, zck_t, if_neg (fun w => q w.2), r1]
      exact ⟨b0, _, rfl, ⟨f, h2, h0⟩, fun _ => s⟩
theorem mE_e {T : Nat → Nat} {L h : Nat} {rec : Int32 × ZM → Option (Int32 × ZM)} {x : Int32} {p : Nat → ZR} (hp : zMP T L p (fun σ => rec (x, σ))) (hg : ∀ a, a ≤ L → zG L h a (p a)) : zMP T L (zpE T L p) (f_Model_readsE rec x) := by
  intro a σ h ha h2 h0
  have hb := mT_e hp (zLn_G hg)
  have hn : zLn L (zpT T L p) := zLn_G (fun a ha => zpT_G hg a ha)
  obtain ⟨b, σ1, e1, ⟨f1, p1, w1⟩, s1⟩ := hb a σ h ha h2 h0
  obtain ⟨m1, m2, m3⟩ := hn a ha
  have hL := h.1
  unfold f_Model_readsE zpE
  rw [e1, zbd_s]
  by_cases z : (zpT T L p a).1 = true
  · rw [z] at w1
    exact mE_l h hb hn 100 2000 (zpT T L p a) b σ1 (by omega) (by omega) z m2 f1 p1 w1 (s1 z)
  · have z' : (zpT T L p a).1 = false := Bool.eq_false_iff.mpr z
    rw [z'] at w1
    rw [zpL_f 100 _ z', mE_w (N := 1999) (by rw [w1]; decide), z']
    exact ⟨_, _, rfl, ⟨f1, p1, w1⟩, fun q => by cases q⟩
theorem mF_u (N : Nat) (x : Int32) (σ : ZM) : F_Model_readsF (N + 1) (x, σ) = f_Model_readsF (F_Model_readsF N) x σ := rfl
theorem mF_e {T : Nat → Nat} {L : Nat} : ∀ (r N d : Nat), r + d = 4 → r < N → zMP T L (zpF T L r) (fun σ => F_Model_readsF N (nI d, σ)) := by
  intro r
  induction r with
  | zero =>
    intro N d hd hN a σ h ha h2 h0
    obtain ⟨N, rfl⟩ : ∃ M, N = M + 1 := ⟨N - 1, by omega⟩
    have hc := zmr_c h a
    obtain rfl : d = 4 := by omega
    dsimp only
    rw [mF_u]
    unfold f_Model_readsF f_Model_readsF_31 zpF
    rw [if_pos h0, mhere_e h ha h2, zbd_s]
    by_cases q : zhr T L a = 33
    · rw [if_pos (show zhv (zhr T L a) = (33 : Int32) from zhv_y (d := 33) (by omega) q), if_pos (show nI 4 = 4 from rfl), if_pos (Or.inl q)]
      exact ⟨false, _, rfl, ⟨zMF_14 _ _, by rw [zI_sI, if_neg (by omega)]; exact h2, by rw [zI_sI, if_pos ⟨rfl, rfl⟩]; rfl⟩, fun q => by cases q⟩
    · rw [if_neg (show ¬ zhv (zhr T L a) = (33 : Int32) from zhv_n (d := 33) hc (by omega) q)]
      by_cases q2 : zhr T L a = 40
      · rw [if_pos (show zhv (zhr T L a) = (40 : Int32) from zhv_y (d := 40) (by omega) q2), if_pos (show nI 4 = 4 from rfl), if_pos (Or.inr q2)]
        exact ⟨false, _, rfl, ⟨zMF_14 _ _, by rw [zI_sI, if_neg (by omega)]; exact h2, by rw [zI_sI, if_pos ⟨rfl, rfl⟩]; rfl⟩, fun q => by cases q⟩
      · rw [if_neg (show ¬ zhv (zhr T L a) = (40 : Int32) from zhv_n (d := 40) hc (by omega) q2), if_neg (by omega)]
        obtain ⟨b, σ1, e1, g1, s1⟩ := mtest_e a σ h ha h2 h0
        rw [e1, zbd_s, zbl_bI, zck_t]
        exact ⟨b, _, rfl, g1, s1⟩
  | succ r ih =>
    intro N d hd hN a σ h ha h2 h0
    obtain ⟨N, rfl⟩ : ∃ M, N = M + 1 := ⟨N - 1, by omega⟩
    have hc := zmr_c h a
    have hL := h.1
    have hp := ih N (d + 1) (by omega) (by omega)
    have n4 : ¬ nI d = (4 : Int32) := fun q => by
      have := (nI_eq (a := d) (b := 4) (by omega) (by omega)).mp q
      omega
    dsimp only
    rw [mF_u]
    unfold f_Model_readsF f_Model_readsF_31 zpF
    have f1 : zMF σ (zsI σ 129 11 (nI (a + 1))) := zMF_11 _ _
    have p1 : zI (zsI σ 129 11 (nI (a + 1))) 129 11 = nI (a + 1) := by rw [zI_sI, if_pos ⟨rfl, rfl⟩]
    have w1 : zI (zsI σ 129 11 (nI (a + 1))) 129 14 = 0 := by rw [zI_sI, if_neg (by omega)]; exact h0
    rw [if_pos h0, mhere_e h ha h2, zbd_s, h2, show nI a + (1 : Int32) = nI (a + 1) from nI_add a 1, show nI d + (1 : Int32) = nI (d + 1) from nI_add d 1]
    generalize zsI σ 129 11 (nI (a + 1)) = σ1 at *
    have t1 := zMT_F h f1
    by_cases q : zhr T L a = 33
    · have l1 : a < L := zhr_lt (T := T) (by omega)
      have hv : zhv (zhr T L a) = (33 : Int32) := zhv_y (d := 33) (by omega) q
      rw [if_pos hv, if_neg n4, if_pos hv, if_pos q]
      obtain ⟨b, σ2, e2, ⟨f2, p2, w2⟩, s2⟩ := hp (a + 1) _ t1 l1 p1 w1
      rw [show F_Model_readsF N (nI (d + 1), σ1) = _ from e2, zbd_s]
      refine ⟨!b, σ2, ?_, ⟨zMF_t f1 f2, p2, w2⟩, fun z m st => ?_⟩
      · cases b <;> rfl
      · have s3 := s2 z (by rw [f1.1 130 5 (by omega)]; exact m)
        rw [mlam_F f1] at s3
        rw [List.foldl_append, s3]; rfl
    · rw [if_neg (show ¬ zhv (zhr T L a) = (33 : Int32) from zhv_n (d := 33) hc (by omega) q), if_neg q]
      by_cases q2 : zhr T L a = 40
      · have l1 : a < L := zhr_lt (T := T) (by omega)
        have hv : zhv (zhr T L a) = (40 : Int32) := zhv_y (d := 40) (by omega) q2
        rw [if_pos hv, if_neg n4, hv, if_neg (show ¬ (40 : Int32) = 33 by decide), if_pos q2]
        have hg : ∀ a, a ≤ L → zG L (2 * r + 1) a (zpF T L r a) := fun a ha => zpF_G r a ha
        obtain ⟨b, σ2, e2, ⟨f2, p2, w2⟩, s2⟩ := mE_e hp hg (a + 1) σ1 t1 l1 p1 w1
        obtain ⟨m1, m2, m3⟩ := zLn_G (fun a ha => zpE_G (T := T) hg a ha) (a + 1) l1
        have f3 := zMF_t f1 f2
        rw [e2, zbd_s]
        by_cases z : (zpE T L (zpF T L r) (a + 1)).1 = true
        · rw [z] at w2
          rw [if_pos z, show (41 : Int32) = nI 41 from rfl, takes_e (zMT_F h f3) m2 p2 w2 (by omega)]
          by_cases w : zhr T L (zpE T L (zpF T L r) (a + 1)).2.1 = 41
          · rw [if_pos w, if_pos w, zbd_s, if_neg (show ¬ nI 1 = 0 by decide)]
            refine ⟨b, _, ?_, ⟨zMF_t f3 (zMF_11 _ _), by rw [zI_sI, if_pos ⟨rfl, rfl⟩], by rw [zI_sI, if_neg (by omega)]; exact w2⟩, fun _ m st => ?_⟩
            · cases b <;> rfl
            · have s3 := s2 z (by rw [f1.1 130 5 (by omega)]; exact m)
              rw [mlam_F f1] at s3
              exact s3 st
          · rw [if_neg w, if_neg w, zbd_s, if_pos (show nI 0 = 0 from rfl)]
            exact ⟨false, _, rfl, ⟨zMF_t f3 (zMF_14 _ _), by rw [zI_sI, if_neg (by omega)]; exact p2, by rw [zI_sI, if_pos ⟨rfl, rfl⟩]; rfl⟩, fun q => by cases q⟩
        · have z' : (zpE T L (zpF T L r) (a + 1)).1 = false := Bool.eq_false_iff.mpr z
          rw [z'] at w2
          rw [if_neg z, takes_w (by rw [w2]; decide), zbd_s, if_pos (show nI 0 = 0 from rfl)]
          exact ⟨false, _, rfl, ⟨f3, p2, w2⟩, fun q => by cases q⟩
      · rw [if_neg (show ¬ zhv (zhr T L a) = (40 : Int32) from zhv_n (d := 40) hc (by omega) q2), if_neg q2]
        obtain ⟨b, σ1, e1, g1, s1⟩ := mtest_e a σ h ha h2 h0
        rw [e1, zbd_s, zbl_bI, zck_t]
        exact ⟨b, _, rfl, g1, s1⟩
