/-! PURE: the image taken and given back; shifting -/
theorem zRm {j : Nat} (h : 130 ≤ j ∧ j < 133) : zR 129 14 j 0 92 = true := (by decide +kernel : ∀ j, j < 133 → 130 ≤ j → zR 129 14 j 0 92 = true) j h.2 h.1
theorem Ml_loop {a b : Nat} (hab : a ≠ b) : ∀ (d k : Nat) (N : Nat) (σ : ZM), k + d = 92 → d < N → ∃ σ', F_Model_lays_2 N (a, b, nI k, σ) = some ((), σ') ∧ (∀ o j, zL σ' o j = zL σ o j) ∧ (∀ o j, zP σ' o j = zP σ o j) ∧ (∀ o j, zI σ' o j = if o = b ∧ k ≤ j ∧ j < 92 then zI σ a j else zI σ o j) := by
  intro d
  induction d with
  | zero =>
    intro k N σ hk hN
    obtain ⟨N, rfl⟩ : ∃ K, N = K + 1 := ⟨N - 1, by omega⟩
    refine ⟨σ, ?_, fun _ _ => rfl, fun _ _ => rfl, fun o j => by rw [if_neg (by omega)]⟩
    show f_Model_lays_2 (F_Model_lays_2 N) a b (nI k) σ = _
    unfold f_Model_lays_2
    rw [show (92 : Int32) = nI 92 from rfl, if_pos (nI_le (by omega) (by omega))]
  | succ d ih =>
    intro k N σ hk hN
    obtain ⟨N, rfl⟩ : ∃ K, N = K + 1 := ⟨N - 1, by omega⟩
    obtain ⟨σ', a1, a2, a3, a4⟩ := ih (k + 1) N (zsI σ b k (zI σ a k)) (by omega) (by omega)
    refine ⟨σ', ?_, a2, a3, fun o j => ?_⟩
    · rw [← a1]
      show f_Model_lays_2 (F_Model_lays_2 N) a b (nI k) σ = _
      unfold f_Model_lays_2
      rw [show (92 : Int32) = nI 92 from rfl, if_neg (nI_ge (by omega) (by omega))]
      simp (disch := omega) only [zbd_s, zck_t, zlit, nI_add, nI_mul, nI_clamp, zck_nI, zbl_0, zbl_1]
    · rw [a4, zI_sI, zI_sI]
      by_cases q : o = b ∧ j = k
      · rw [if_neg (by omega), if_pos q, if_pos (by omega), q.2]
      · by_cases q2 : o = b ∧ k + 1 ≤ j ∧ j < 92
        · rw [if_pos q2, if_neg (by omega), if_pos (by omega)]
        · rw [if_neg q2, if_neg q, if_neg (by omega)]
theorem Mlays {a b : Nat} (ha : 130 ≤ a ∧ a < 133) (hb : 130 ≤ b ∧ b < 133) (hab : a ≠ b) (σ : ZM) : ∃ σ', f_Model_lays a b σ = some ((), σ') ∧ (∀ o j, zL σ' o j = zL σ o j) ∧ (∀ o j, zP σ' o j = zP σ o j) ∧ (∀ o j, zI σ' o j = if o = b ∧ j < 92 then zI σ a j else zI σ o j) := by
  unfold f_Model_lays
  rw [zck_of (zRm ha), zck_of (zRm hb)]
  obtain ⟨σ', a1, a2, a3, a4⟩ := Ml_loop hab 92 0 2000 σ rfl (by omega)
  exact ⟨σ', a1, a2, a3, fun o j => by rw [a4]; simp⟩
/-- where the two stands keep a place -/
theorem zlo_pA : ∀ p, p < 4 → zlo 0 p = 42 ∧ zlo 1 p = 43 ∧ zlk p < 4 := by decide +kernel
theorem zlo_pB : ∀ p, p < 92 → p < 8 ∨ 68 ≤ p ∨ (zlo 0 p = 51 + (p - 8) / 10 ∧ zlo 1 p = 57 + (p - 8) / 10 ∧ (zlk p = 3 ∨ zlk p = 4)) ∨ (zlo 0 p = 63 + (p - 8) / 10 ∧ zlo 1 p = 69 + (p - 8) / 10 ∧ zlk p < 4) ∨ (zlo 0 p = 75 + (p - 8) / 10 ∧ zlo 1 p = 81 + (p - 8) / 10 ∧ zlk p < 4) := by decide +kernel
theorem zlo_pC : ∀ p, p < 92 → p < 68 ∨ (zlk p = (p - 68) / 2 ∧ ((zlo 0 p = 29 ∧ zlo 1 p = 30) ∨ (zlo 0 p = 31 ∧ zlo 1 p = 32))) := by decide +kernel
theorem zlo_pair : ∀ p, p < 92 → p ≠ 6 → (p < 4 ∧ zlo 0 p = 42 ∧ zlo 1 p = 43 ∧ zlk p < 4) ∨ (p = 4 ∧ zlo 0 p = 33 ∧ zlo 1 p = 34 ∧ zlk p = 1) ∨ (p = 5 ∧ zlo 0 p = 1 ∧ zlo 1 p = 2 ∧ zlk p = 3) ∨ (p = 7 ∧ zlo 0 p = 27 ∧ zlo 1 p = 28 ∧ zlk p = 2) ∨
    (8 ≤ p ∧ p < 68 ∧ ((zlo 0 p = 51 + (p - 8) / 10 ∧ zlo 1 p = 57 + (p - 8) / 10 ∧ (zlk p = 3 ∨ zlk p = 4)) ∨ (zlo 0 p = 63 + (p - 8) / 10 ∧ zlo 1 p = 69 + (p - 8) / 10 ∧ zlk p < 4) ∨ (zlo 0 p = 75 + (p - 8) / 10 ∧ zlo 1 p = 81 + (p - 8) / 10 ∧ zlk p < 4))) ∨
    (68 ≤ p ∧ zlk p = (p - 68) / 2 ∧ ((zlo 0 p = 29 ∧ zlo 1 p = 30) ∨ (zlo 0 p = 31 ∧ zlo 1 p = 32))) := by
  intro p hp h6
  by_cases q : p < 4
  · exact Or.inl ⟨q, zlo_pA p q⟩
  · by_cases q4 : p = 4
    · subst q4; exact Or.inr (Or.inl ⟨rfl, rfl, rfl, rfl⟩)
    · by_cases q5 : p = 5
      · subst q5; exact Or.inr (Or.inr (Or.inl ⟨rfl, rfl, rfl, rfl⟩))
      · by_cases q7 : p = 7
        · subst q7; exact Or.inr (Or.inr (Or.inr (Or.inl ⟨rfl, rfl, rfl, rfl⟩)))
        · by_cases q8 : p < 68
          · exact Or.inr (Or.inr (Or.inr (Or.inr (Or.inl ⟨by omega, q8, ((zlo_pB p hp).resolve_left (by omega)).resolve_left (by omega)⟩))))
          · exact Or.inr (Or.inr (Or.inr (Or.inr (Or.inr ⟨by omega, (zlo_pC p hp).resolve_left q8⟩))))
/-- a stand copied place by place -/
def zCp (dx dy m n : Nat) (σ σ' : ZM) : Prop := ∀ o j, zI σ' o j = if o = 1 + dx ∧ j = 4 then zI σ (1 + dy) 4 else if o = 27 + dx ∧ j = 2 then nI n else if o = 29 + dx ∧ j < n then zI σ (29 + dy) j else if o = 31 + dx ∧ j < n then zI σ (31 + dy) j else if o = 33 + dx ∧ j = 1 then zI σ (33 + dy) 1 else if o = 42 + dx ∧ j < 4 then zI σ (42 + dy) j else if o = 1 + dx ∧ j = 3 then nI m else
        if 51 + 6 * dx + 0 ≤ o ∧ o < 51 + 6 * dx + m ∧ (j = 3 ∨ j = 4) then zI σ (o + 6 * dy - 6 * dx) j else if 63 + 6 * dx + 0 ≤ o ∧ o < 63 + 6 * dx + m ∧ j < 4 then zI σ (o + 6 * dy - 6 * dx) j else if 75 + 6 * dx + 0 ≤ o ∧ o < 75 + 6 * dx + m ∧ j < 4 then zI σ (o + 6 * dy - 6 * dx) j else zI σ o j
theorem zCp_at {dx dy m n : Nat} {σ σ' : ZM} (hd : dx = 0 ∧ dy = 1 ∨ dx = 1 ∧ dy = 0) (hm : m ≤ 6) (h : zCp dx dy m n σ σ') (h5 : zI σ (1 + dy) 3 = nI m) (h7 : zI σ (27 + dy) 2 = nI n) {p : Nat} (hp : p ≠ 6) (hv : zva m n p = true) : zI σ' (zlo dx p) (zlk p) = zI σ (zlo dy p) (zlk p) := by
  have hl := zva_lt hm hv
  simp only [zva, Bool.or_eq_true, Bool.and_eq_true, decide_eq_true_eq] at hv
  rw [h]
  rcases hd with ⟨rfl, rfl⟩ | ⟨rfl, rfl⟩
  · rcases zlo_pair p hl hp with ⟨q, a, b, c⟩ | ⟨q, a, b, c⟩ | ⟨q, a, b, c⟩ | ⟨q, a, b, c⟩ | ⟨q1, q2, ⟨a, b, c⟩ | ⟨a, b, c⟩ | ⟨a, b, c⟩⟩ | ⟨q, c, ⟨a, b⟩ | ⟨a, b⟩⟩
    · rw [a, b, if_neg (by omega), if_neg (by omega), if_neg (by omega), if_neg (by omega), if_neg (by omega), if_pos (by omega)]
    · rw [a, b, c, if_neg (by omega), if_neg (by omega), if_neg (by omega), if_neg (by omega), if_pos (by omega)]
    · rw [a, b, c, if_neg (by omega), if_neg (by omega), if_neg (by omega), if_neg (by omega), if_neg (by omega), if_neg (by omega), if_pos (by omega)]; exact h5.symm
    · rw [a, b, c, if_neg (by omega), if_pos (by omega)]; exact h7.symm
    · rw [a, b, if_neg (by omega), if_neg (by omega), if_neg (by omega), if_neg (by omega), if_neg (by omega), if_neg (by omega), if_neg (by omega), if_pos (by omega)]; congr 1; omega
    · rw [a, b, if_neg (by omega), if_neg (by omega), if_neg (by omega), if_neg (by omega), if_neg (by omega), if_neg (by omega), if_neg (by omega), if_neg (by omega), if_pos (by omega)]; congr 1; omega
    · rw [a, b, if_neg (by omega), if_neg (by omega), if_neg (by omega), if_neg (by omega), if_neg (by omega), if_neg (by omega), if_neg (by omega), if_neg (by omega), if_neg (by omega), if_pos (by omega)]; congr 1; omega
    · rw [a, b, c, if_neg (by omega), if_neg (by omega), if_pos (by omega)]
    · rw [a, b, c, if_neg (by omega), if_neg (by omega), if_neg (by omega), if_pos (by omega)]
  · rcases zlo_pair p hl hp with ⟨q, a, b, c⟩ | ⟨q, a, b, c⟩ | ⟨q, a, b, c⟩ | ⟨q, a, b, c⟩ | ⟨q1, q2, ⟨a, b, c⟩ | ⟨a, b, c⟩ | ⟨a, b, c⟩⟩ | ⟨q, c, ⟨a, b⟩ | ⟨a, b⟩⟩
    · rw [a, b, if_neg (by omega), if_neg (by omega), if_neg (by omega), if_neg (by omega), if_neg (by omega), if_pos (by omega)]
    · rw [a, b, c, if_neg (by omega), if_neg (by omega), if_neg (by omega), if_neg (by omega), if_pos (by omega)]
    · rw [a, b, c, if_neg (by omega), if_neg (by omega), if_neg (by omega), if_neg (by omega), if_neg (by omega), if_neg (by omega), if_pos (by omega)]; exact h5.symm
    · rw [a, b, c, if_neg (by omega), if_pos (by omega)]; exact h7.symm
    · rw [a, b, if_neg (by omega), if_neg (by omega), if_neg (by omega), if_neg (by omega), if_neg (by omega), if_neg (by omega), if_neg (by omega), if_pos (by omega)]; congr 1; omega
    · rw [a, b, if_neg (by omega), if_neg (by omega), if_neg (by omega), if_neg (by omega), if_neg (by omega), if_neg (by omega), if_neg (by omega), if_neg (by omega), if_pos (by omega)]; congr 1; omega
    · rw [a, b, if_neg (by omega), if_neg (by omega), if_neg (by omega), if_neg (by omega), if_neg (by omega), if_neg (by omega), if_neg (by omega), if_neg (by omega), if_neg (by omega), if_pos (by omega)]; congr 1; omega
    · rw [a, b, c, if_neg (by omega), if_neg (by omega), if_pos (by omega)]
    · rw [a, b, c, if_neg (by omega), if_neg (by omega), if_neg (by omega), if_pos (by omega)]
theorem zCp_out {dx dy m n : Nat} {σ σ' : ZM} (hm : m ≤ 6) (h : zCp dx dy m n σ σ') {o j : Nat} (ho : o ≠ 1 + dx ∧ o ≠ 27 + dx ∧ o ≠ 29 + dx ∧ o ≠ 31 + dx ∧ o ≠ 33 + dx ∧ o ≠ 42 + dx ∧ ¬ (51 + 6 * dx ≤ o ∧ o < 57 + 6 * dx) ∧ ¬ (63 + 6 * dx ≤ o ∧ o < 69 + 6 * dx) ∧ ¬ (75 + 6 * dx ≤ o ∧ o < 81 + 6 * dx)) : zI σ' o j = zI σ o j := by
  obtain ⟨a, b, c, d, e, f, g, i, k⟩ := ho
  rw [h, if_neg (by omega), if_neg (by omega), if_neg (by omega), if_neg (by omega), if_neg (by omega), if_neg (by omega), if_neg (by omega), if_neg (by omega), if_neg (by omega), if_neg (by omega)]
theorem zbook {m n : Nat} {σ : ZM} {d : Nat} {A : Nat → Int32} (h : zInv m n A) (hb : zBS m n σ d A) (hd : d < 2) : ∀ j, j < n → zI σ (31 + d) j = nI 0 ∨ zI σ (31 + d) j = nI 1 := by
  intro j hj
  have hn := h.2.1
  have a := hb.2 (69 + 2 * j) (by omega) (by simp [zva]; omega)
  have e : ∀ d, d < 2 → ∀ j, j < 12 → zlo d (69 + 2 * j) = 31 + d ∧ zlk (69 + 2 * j) = j ∧ zmx (69 + 2 * j) = 1 := by decide +kernel
  obtain ⟨e1, e2, e3⟩ := e d hd j (by omega)
  rw [e1, e2] at a
  rw [a]
  rcases h.2.2.2.2 (69 + 2 * j) (by simp [zva]; omega) with ⟨g, g1, g2, -⟩ | ⟨-, g1, -⟩
  · rw [e3] at g1
    rcases (by omega : g = 0 ∨ g = 1) with rfl | rfl
    · exact Or.inl g2
    · exact Or.inr g2
  · omega
theorem op_image {σ τ : ZM} (h : zRel σ τ) : zOK (f_BB_image σ) (f_Model_image τ) := by
  obtain ⟨⟨m, n, hs⟩, hi, ht, ha, hp, hk⟩ := id h
  obtain ⟨hm, m1, m2⟩ := zmany hs
  obtain ⟨hn, n1, n2⟩ := zrows hs
  obtain ⟨σ1, a1, a2, a3, a4⟩ := Sb_loop (dx := 1) (dy := 0) (Or.inr ⟨rfl, rfl⟩) hm hn m 0 2000 σ (by omega) (by omega) m1 n1 (zbook hs.1 hs.2.1 (by omega))
  obtain ⟨τ1, b1, b2, b3, b4⟩ := Mlays (a := 130) (b := 131) (by omega) (by omega) (by omega) τ
  have hcp : zCp 1 0 m n σ σ1 := a4
  have out : ∀ {o j : Nat}, cI o = false ∨ o = 0 → zI σ1 o j = zI σ o j := fun {o j} ho => zCp_out hm hcp (by
    simp only [cI, Bool.or_eq_false_iff, Bool.and_eq_false_iff, beq_eq_false_iff_ne, decide_eq_false_iff_not] at ho
    omega)
  unfold f_BB_image f_Model_image f_Stand_become
  have z21 : zck (zR 0 129 2 20 0) (zck (zR 0 129 1 20 0) (F_Stand_become_2 2000 (2, 1, 0, σ))) = some ((), σ1) := a1
  rw [z21, b1, zbd_s, zbd_s, zck_of (show zin 5 92 = true by decide)]
  refine ⟨_, _, zsI τ1 129 3 1, rfl, ?_, ?_⟩
  · show some (zI (zsI τ1 129 3 1) 130 5, _) = some (zI (zsI σ1 0 11 1) 2 3, _)
    rw [zI_sI, if_neg (by omega), zI_sI, if_neg (by omega), b4, if_neg (by omega), m2, hcp, if_neg (by omega), if_neg (by omega), if_neg (by omega), if_neg (by omega), if_neg (by omega), if_neg (by omega), if_pos (by omega)]
  · have oS : ∀ {o : Nat}, cS o = true → cI o = false := by
      intro o ho
      simp only [cS, cI, Bool.or_eq_true, Bool.and_eq_true, beq_iff_eq, decide_eq_true_eq, Bool.or_eq_false_iff, Bool.and_eq_false_iff, beq_eq_false_iff_ne, decide_eq_false_iff_not] at ho ⊢
      omega
    have q0 : ∀ {o k : Nat}, o ≠ 0 → zI (zsI σ1 0 11 1) o k = zI σ1 o k := fun h => by rw [zI_sI, if_neg (fun z => h z.1)]
    refine ⟨⟨m, n, zRs_c hs (fun o k ho => ?_) (fun k hk => ?_)⟩, Or.inr ⟨?_, ?_, m, n, zInv_c hs.1 (fun k hk => ?_), ⟨?_, fun p hp6 hv => ?_⟩⟩, zRt_c ht ?_ ?_ (fun k _ => ?_) (fun k _ => ?_), zRa_c ha (fun o k ho => ?_) ?_ (fun k _ => ?_), zRp_c hp (fun o k ho => ?_) (fun o k _ => a2 o k) (fun k _ => ?_) (fun k _ => ?_) (fun k _ => b2 _ _), ?_⟩
    · rw [q0 (by rintro rfl; cases ho)]; exact out (Or.inl (oS ho))
    · rw [zI_sI, if_neg (by omega), b4, if_neg (by omega)]
    · rw [zI_sI, if_pos ⟨rfl, rfl⟩]; rfl
    · rw [zI_sI, if_pos ⟨rfl, rfl⟩]; rfl
    · rw [zI_sI, if_neg (by omega), b4, if_pos ⟨rfl, hk⟩]
    · rw [q0 (by omega), zI_sI, if_neg (by omega), b4, if_pos (by omega), hcp, if_pos ⟨rfl, rfl⟩]; exact hs.2.1.1
    · have hl := zva_lt hm hv
      rw [q0 (by have := (by decide +kernel : ∀ p, p < 92 → zlo 1 p ≠ 0) p hl; exact this), zCp_at (Or.inr ⟨rfl, rfl⟩) hm hcp m1 n1 hp6 hv, zI_sI, if_neg (by omega), b4, if_pos ⟨rfl, hl⟩]
      exact hs.2.1.2 p hp6 hv
    · rw [q0 (by omega)]; exact out (Or.inl rfl)
    · rw [zI_sI, if_neg (by omega), b4, if_neg (by omega)]
    · rw [q0 (by omega)]; exact out (Or.inl rfl)
    · rw [zI_sI, if_neg (by omega), b4, if_neg (by omega)]
    · have : o = 8 ∨ o = 9 := by simpa [cA] using ho
      rw [q0 (by omega)]; exact out (Or.inl (by rcases this with rfl | rfl <;> rfl))
    · rw [zI_sI, if_neg (by omega), b4, if_neg (by omega)]
    · rw [zI_sI, if_neg (by omega), b4, if_neg (by omega)]
    · have : cI o = false := by
        simp only [cP, cI, Bool.or_eq_true, Bool.and_eq_true, beq_iff_eq, decide_eq_true_eq, Bool.or_eq_false_iff, Bool.and_eq_false_iff, beq_eq_false_iff_ne, decide_eq_false_iff_not] at ho ⊢
        omega
      rw [q0 (by rintro rfl; cases ho)]; exact out (Or.inl this)
    · rw [zI_sI, if_neg (by omega), b4, if_neg (by omega)]
    · rw [zI_sI, if_neg (by omega), b4, if_neg (by omega)]
    · obtain ⟨c, hh, c1, c2, c3, c4, c5, c6, c7, c8, c9⟩ := hk
      have hKK : ∀ o k, (87 ≤ o ∧ o < 122) → zI (zsI σ1 0 11 1) o k = zI σ o k := fun o k ho => by
        rw [q0 (by omega)]; exact out (Or.inl (by simp only [cI, Bool.or_eq_false_iff, Bool.and_eq_false_iff, beq_eq_false_iff_ne, decide_eq_false_iff_not]; omega))
      have hKB : ∀ {K cs}, 87 ≤ K ∧ K < 94 → zKB σ K cs → zKB (zsI σ1 0 11 1) K cs := fun hK q => zKB_c q (fun k => hKK _ _ (by omega)) (fun k => hKK _ _ (by omega)) (fun k => hKK _ _ (by omega)) (fun k => hKK _ _ (by omega)) (fun k => hKK _ _ (by omega))
      refine ⟨c, hh, c1, ?_, ?_, fun i hi => ?_, hKB (by omega) c5, c6, ?_, ?_, fun _ => ⟨hh, c6, ?_⟩⟩
      · rw [zI_sI, if_neg (by omega), out (Or.inr rfl)]; exact c2
      · rw [zI_sI, if_neg (by omega), b4, if_neg (by omega)]; exact c3
      · obtain ⟨L, T, cs, d1, d2, d3, d4, d5⟩ := c4 i hi
        exact ⟨L, T, cs, d1, by rw [zI_sI, if_neg (by omega), b4, if_neg (by omega)]; exact d2, fun k hk => by rw [zI_sI, if_neg (by omega), b4, if_neg (by omega)]; exact d3 k hk, d4, hKB (by omega) d5⟩
      · rw [zI_sI, if_neg (by omega), b4, if_neg (by omega)]; exact c7
      · exact (a3 5 0).trans c8
      · rw [zI_sI, if_neg (by omega), b4, if_pos (by omega)]; exact c7
