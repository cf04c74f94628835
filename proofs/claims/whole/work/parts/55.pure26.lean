/-! PURE: the bits of the class's sums -/
def zbit (w : Int64) (i : Nat) : Bool := w.toBitVec.getLsbD i
def zEn (st : List Bool) (w : Int64) : Prop := ∀ i b, st[i]? = some b → zbit w i = b
theorem zb_1 (i : Nat) : zbit 1 i = decide (i = 0) := by
  show (1#64).getLsbD i = _
  rw [BitVec.getLsbD_one]
  simp
theorem zb_x (a b : Int64) (i : Nat) : zbit (a ^^^ b) i = (zbit a i ^^ zbit b i) := BitVec.getLsbD_xor
theorem zb_a (a b : Int64) (i : Nat) : zbit (a &&& b) i = (zbit a i && zbit b i) := BitVec.getLsbD_and
theorem zb_o (a b : Int64) (i : Nat) : zbit (a ||| b) i = (zbit a i || zbit b i) := BitVec.getLsbD_or
theorem zb_r (w : Int64) (i : Nat) (h : i < 63) : zbit (w >>> ((1 : Int32).toInt64 &&& 63)) i = zbit w (i + 1) := by
  show (w.toBitVec.sshiftRight 1).getLsbD i = _
  rw [BitVec.getLsbD_sshiftRight, decide_eq_false (by omega), if_pos (by omega), Nat.add_comm]
  rfl
theorem zb_l (w : Int64) (i : Nat) (h : i < 64) : zbit (w <<< ((1 : Int32).toInt64 &&& 63)) i = (decide (1 ≤ i) && zbit w (i - 1)) := by
  show (w.toBitVec <<< 1).getLsbD i = _
  rw [BitVec.getLsbD_shiftLeft, decide_eq_true h, Bool.true_and]
  by_cases q : 1 ≤ i
  · rw [decide_eq_false (by omega), decide_eq_true q]; rfl
  · rw [decide_eq_true (by omega), decide_eq_false q]; rfl
theorem zb_m2 (i : Nat) (h : i < 64) : zbit (-2) i = decide (1 ≤ i) := (by decide +kernel : ∀ i, i < 64 → zbit (-2) i = decide (1 ≤ i)) i h
theorem zEn_n {b : Bool} {r : List Bool} {w : Int64} (h : zEn (b :: r) w) : zEn ((!b) :: r) (w ^^^ 1) := by
  intro i c hi
  rw [zb_x, zb_1]
  cases i with
  | zero =>
    have := h 0 b rfl
    cases Option.some.inj hi
    rw [this]; cases b <;> rfl
  | succ i =>
    have := h (i + 1) c hi
    rw [this, decide_eq_false (by omega), Bool.xor_false]
theorem zEn_a {b c : Bool} {r : List Bool} {w : Int64} (h : zEn (b :: c :: r) w) (hl : r.length < 62) : zEn ((b && c) :: r) ((w >>> ((1 : Int32).toInt64 &&& 63)) &&& ((w &&& 1) ||| (-2))) := by
  intro i d hi
  have hl2 : i < r.length + 1 := (List.getElem?_eq_some_iff.mp hi).1
  rw [zb_a, zb_o, zb_a, zb_1, zb_m2 i (by omega), zb_r w i (by omega)]
  cases i with
  | zero =>
    have h0 := h 0 b rfl
    have h1 := h 1 c rfl
    cases Option.some.inj hi
    rw [h0, h1]; cases b <;> cases c <;> rfl
  | succ i =>
    have := h (i + 2) d hi
    rw [this, decide_eq_false (show ¬ i + 1 = 0 by omega), decide_eq_true (show 1 ≤ i + 1 by omega), Bool.or_true, Bool.and_true]
theorem zEn_o {b c : Bool} {r : List Bool} {w : Int64} (h : zEn (b :: c :: r) w) (hl : r.length < 62) : zEn ((b || c) :: r) ((w >>> ((1 : Int32).toInt64 &&& 63)) ||| (w &&& 1)) := by
  intro i d hi
  have hl2 : i < r.length + 1 := (List.getElem?_eq_some_iff.mp hi).1
  rw [zb_o, zb_a, zb_1, zb_r w i (by omega)]
  cases i with
  | zero =>
    have h0 := h 0 b rfl
    have h1 := h 1 c rfl
    cases Option.some.inj hi
    rw [h0, h1]; cases b <;> cases c <;> rfl
  | succ i =>
    have := h (i + 2) d hi
    rw [this, decide_eq_false (show ¬ i + 1 = 0 by omega), Bool.and_false, Bool.or_false]
theorem zEn_p {r : List Bool} {w : Int64} (b : Bool) (h : zEn r w) (hl : r.length < 63) : zEn (b :: r) ((w <<< ((1 : Int32).toInt64 &&& 63)) ||| (zbI b).toInt64) := by
  intro i d hi
  have hl2 : i < r.length + 1 := (List.getElem?_eq_some_iff.mp hi).1
  have e : zbit (zbI b).toInt64 i = (b && decide (i = 0)) := by
    cases b
    · show (0#64).getLsbD i = _
      rw [BitVec.getLsbD_zero]; rfl
    · exact zb_1 i
  rw [zb_o, zb_l w i (by omega), e]
  cases i with
  | zero =>
    cases Option.some.inj hi
    cases b <;> rfl
  | succ i =>
    have := h i d hi
    rw [Nat.add_sub_cancel, this, decide_eq_false (show ¬ i + 1 = 0 by omega), decide_eq_true (show 1 ≤ i + 1 by omega), Bool.and_false, Bool.or_false, Bool.true_and]
theorem tst_9 (li sg nu : Nat) (h1 : li < 6) (h2 : sg < 3) (h3 : nu < 100) : nI (512 * li + 128 * sg + nu) >>> ((9 : Int32) &&& 31) = nI li :=
  (by decide +kernel : ∀ li, li < 6 → ∀ sg, sg < 3 → ∀ nu, nu < 100 → nI (512 * li + 128 * sg + nu) >>> ((9 : Int32) &&& 31) = nI li) li h1 sg h2 nu h3
theorem hold_u (N K : Nat) (e : Int32) (w : Int64) (j : Int32) (σ : ZM) : F_Kiln_holds_5 (N + 1) (K, e, w, j, σ) = f_Kiln_holds_5 (F_Kiln_holds_5 N) K e w j σ := rfl
theorem hold_p (k5 : Nat × Int32 × Int64 × Int32 × ZM → Option (Int32 × ZM)) (K : Nat) (e : Int32) (w : Int64) (j : Int32) (b : Bool) (σ : ZM) : f_Kiln_holds_157 k5 K e w j (zbI b) σ = k5 (K, e, (w <<< ((1 : Int32).toInt64 &&& 63)) ||| (zbI b).toInt64, j + 1, σ) := by
  cases b <;> rfl
theorem zbs_1 (lam : Nat → Int32) (b : Bool) (r : List Bool) : zbs lam (b :: r) (-1) = (!b) :: r := rfl
theorem zbs_2 (lam : Nat → Int32) (b c : Bool) (r : List Bool) : zbs lam (b :: c :: r) (-2) = (b && c) :: r := rfl
theorem zbs_3 (lam : Nat → Int32) (b c : Bool) (r : List Bool) : zbs lam (b :: c :: r) (-3) = (b || c) :: r := rfl
/-- the class runs the steps of a row -/
theorem hold_l {K e : Nat} {σ : ZM} {lam : Nat → Int32} (he : e ≤ 100) (hlam : ∀ li, li < 6 → zI σ (K + 35) li = lam li) : ∀ (S : List Int32) (st : List Bool) (j N : Nat) (w : Int64), zEn st w → st.length ≤ 60 → (∀ i s, S[i]? = some s → zI σ (K + 28) (j + i) = s) → j + S.length = e → zVS S → zgh st.length (S ++ [-1]) = true → S.length < N →
    F_Kiln_holds_5 N (K, nI e, w, nI j, σ) = some (zbI ((S.foldl (zbs lam) st).headD false), σ)
  | [], st, j, N, w, hE, hl, hs, hj, hv, hg, hN => by
    obtain ⟨N, rfl⟩ : ∃ M, N = M + 1 := ⟨N - 1, by simp only [List.length_nil] at hN; omega⟩
    simp only [List.length_nil, Nat.add_zero] at hj
    subst hj
    rw [hold_u]
    unfold f_Kiln_holds_5
    rw [if_pos (nI_le (Nat.le_refl _) (by omega))]
    have h1 : 1 ≤ st.length := by
      simp only [zgh, List.nil_append, if_true, Bool.and_true, decide_eq_true_eq] at hg
      exact hg
    obtain ⟨b, r, rfl⟩ : ∃ b r, st = b :: r := by
      cases st with
      | nil => simp at h1
      | cons b r => exact ⟨b, r, rfl⟩
    have h0 : zbit w 0 = b := hE 0 b rfl
    have key : (w &&& 1 = 1) ↔ b = true := by
      rw [← h0]
      constructor
      · intro q
        have := congrArg (fun x => zbit x 0) q
        simp only [zb_a, zb_1] at this
        simpa using this
      · intro q
        apply Int64.toBitVec_inj.mp
        apply BitVec.eq_of_getLsbD_eq
        intro i hi
        show zbit (w &&& 1) i = zbit 1 i
        rw [zb_a, zb_1]
        by_cases z : i = 0
        · subst z; rw [q]; rfl
        · rw [decide_eq_false z, Bool.and_false]
    show (if lg_cmp (w &&& 1) 1 = 0 then _ else _) = some (zbI b, σ)
    cases b with
    | true => rw [if_pos (by rw [lgz]; exact key.mpr rfl)]; rfl
    | false => rw [if_neg (by rw [lgz]; intro q; have := key.mp q; cases this)]; rfl
  | s :: S, st, j, N, w, hE, hl, hs, hj, hv, hg, hN => by
    obtain ⟨N, rfl⟩ : ∃ M, N = M + 1 := ⟨N - 1, by simp only [List.length_cons] at hN; omega⟩
    simp only [List.length_cons] at hj hN
    have e0 : zI σ (K + 28) j = s := hs 0 s rfl
    have hs' : ∀ i t, S[i]? = some t → zI σ (K + 28) (j + 1 + i) = t := fun i t hi => by
      rw [show j + 1 + i = j + (i + 1) by omega]; exact hs (i + 1) t hi
    have hv' : zVS S := fun t ht => hv t (List.mem_cons_of_mem _ ht)
    have e1 : nI j + (1 : Int32) = nI (j + 1) := nI_add j 1
    rw [hold_u]
    unfold f_Kiln_holds_5 f_Kiln_holds_175
    rw [if_neg (nI_ge (by omega) (by omega)), zck_nI (by omega) (by omega), nI_clamp (by omega), e0]
    have hg2 : (if s = -1 then decide (1 ≤ st.length) && zgh st.length (S ++ [-1]) else if s = -2 ∨ s = -3 then decide (2 ≤ st.length) && zgh (st.length - 1) (S ++ [-1]) else decide (st.length < 60) && zgh (st.length + 1) (S ++ [-1])) = true := hg
    show _ = some (zbI ((S.foldl (zbs lam) (zbs lam st s)).headD false), σ)
    rcases hv s List.mem_cons_self with rfl | rfl | rfl | ⟨li, sg, nu, l1, l2, l3, rfl⟩
    · rw [if_pos rfl, Bool.and_eq_true, decide_eq_true_eq] at hg2
      rw [if_pos rfl, e1]
      cases st with
      | nil => simp at hg2
      | cons b r =>
        rw [zbs_1]
        exact hold_l he hlam S _ (j + 1) N _ (zEn_n hE) hl hs' (by omega) hv' hg2.2 (by omega)
    · rw [if_neg (by decide), if_pos (Or.inl rfl), Bool.and_eq_true, decide_eq_true_eq] at hg2
      rw [if_neg (by decide), if_pos rfl, e1]
      cases st with
      | nil => simp at hg2
      | cons b r =>
        cases r with
        | nil => simp at hg2
        | cons c r =>
          simp only [List.length_cons] at hl
          rw [zbs_2]
          exact hold_l he hlam S _ (j + 1) N _ (zEn_a hE (by omega)) (by simp only [List.length_cons]; omega) hs' (by omega) hv' hg2.2 (by omega)
    · rw [if_neg (by decide), if_pos (Or.inr rfl), Bool.and_eq_true, decide_eq_true_eq] at hg2
      rw [if_neg (by decide), if_neg (by decide), if_pos rfl, e1]
      cases st with
      | nil => simp at hg2
      | cons b r =>
        cases r with
        | nil => simp at hg2
        | cons c r =>
          simp only [List.length_cons] at hl
          rw [zbs_3]
          exact hold_l he hlam S _ (j + 1) N _ (zEn_o hE (by omega)) (by simp only [List.length_cons]; omega) hs' (by omega) hv' hg2.2 (by omega)
    · obtain ⟨n1, n2⟩ := zst_ne l1 l2 l3
      obtain ⟨u1, u2, u3⟩ := tst_u li sg nu l1 l2 l3
      rw [if_neg n1, if_neg n2, Bool.and_eq_true, decide_eq_true_eq] at hg2
      rw [if_neg n1, if_neg (fun q => n2 (Or.inl q)), if_neg (fun q => n2 (Or.inr q)), tst_9 li sg nu l1 l2 l3, zck_nI l1 (by omega), u1, u3, nI_clamp (by omega), hlam li l1, zbs_t l1 l2 l3]
      have ez := ztv_e (lam := lam) l1 l2 l3
      have fin : ∀ b : Bool, b = ztv lam (nI (512 * li + 128 * sg + nu)) → f_Kiln_holds_157 (F_Kiln_holds_5 N) K (nI e) w (nI j) (zbI b) σ = some (zbI ((S.foldl (zbs lam) (ztv lam (nI (512 * li + 128 * sg + nu)) :: st)).headD false), σ) := by
        intro b hb
        rw [hold_p, e1, ← hb]
        exact hold_l he hlam S _ (j + 1) N _ (zEn_p b hE (by omega)) (by simp only [List.length_cons]; omega) hs' (by omega) hv' hg2.2 (by omega)
      have f1 : (∀ p : Prop, (ztv lam (nI (512 * li + 128 * sg + nu)) = true) = p → p → f_Kiln_holds_157 (F_Kiln_holds_5 N) K (nI e) w (nI j) 1 σ = some (zbI ((S.foldl (zbs lam) (ztv lam (nI (512 * li + 128 * sg + nu)) :: st)).headD false), σ)) := fun p q hp => fin true (by rw [← q] at hp; exact hp.symm)
      have f0 : (∀ p : Prop, (ztv lam (nI (512 * li + 128 * sg + nu)) = true) = p → ¬ p → f_Kiln_holds_157 (F_Kiln_holds_5 N) K (nI e) w (nI j) 0 σ = some (zbI ((S.foldl (zbs lam) (ztv lam (nI (512 * li + 128 * sg + nu)) :: st)).headD false), σ)) := fun p q hp => fin false (Bool.eq_false_iff.mpr (fun z => hp (q ▸ z))).symm
      have : sg = 0 ∨ sg = 1 ∨ sg = 2 := by omega
      rcases this with rfl | rfl | rfl
      · rw [if_pos (show nI 0 = 0 from rfl)] at ez
        rw [if_pos (show nI 0 = 0 from rfl)]
        by_cases k : lam li < nI nu
        · rw [if_neg (Int32.not_le.mpr k)]; exact f1 _ ez k
        · rw [if_pos (Int32.not_lt.mp k)]; exact f0 _ ez k
      · rw [if_neg (show ¬ nI 1 = 0 by decide), if_pos (show nI 1 = 1 from rfl)] at ez
        rw [if_neg (show ¬ nI 1 = 0 by decide), if_pos (show nI 1 = 1 from rfl)]
        by_cases k : lam li = nI nu
        · rw [if_pos k]; exact f1 _ ez k
        · rw [if_neg k]; exact f0 _ ez k
      · rw [if_neg (show ¬ nI 2 = 0 by decide), if_neg (show ¬ nI 2 = 1 by decide)] at ez
        rw [if_neg (show ¬ nI 2 = 0 by decide), if_neg (show ¬ nI 2 = 1 by decide)]
        by_cases k : nI nu < lam li
        · rw [if_neg (Int32.not_le.mpr k)]; exact f1 _ ez k
        · rw [if_pos (Int32.not_lt.mp k)]; exact f0 _ ez k
