/-! PURE: the reference reads clauses -/
theorem mword_u (N w : Nat) (i : Int32) (σ : ZM) : F_Model_readsWord_2 (N + 1) (w, i, σ) = f_Model_readsWord_2 (F_Model_readsWord_2 N) w i σ := rfl
theorem mword_l {T : Nat → Nat} {L w : Nat} : ∀ (cs : List Nat) (i N a : Nat) (σ : ZM), zslen.getD w 0 = i + cs.length → i + cs.length < 100 → cs.length < N → (∀ j c, cs[j]? = some c → c < 128 ∧ zschar w (nI (i + j)) = nI c) → zMT T L σ → a ≤ L → zI σ 129 11 = nI a → zI σ 129 14 = 0 →
    ∃ σ', F_Model_readsWord_2 N (w, nI i, σ) = some ((), σ') ∧ zMPr σ σ' (zpS T L cs a).1 (zpS T L cs a).2
  | [], i, N, a, σ, hl, hi, hN, hc, t, ha, h2, h0 => by
    obtain ⟨N, rfl⟩ : ∃ M, N = M + 1 := ⟨N - 1, by simp only [List.length_nil] at hN; omega⟩
    rw [mword_u]
    unfold f_Model_readsWord_2
    rw [hl, if_pos (show Int32.ofNat (i + [].length) ≤ nI i from nI_le (a := i) (by omega) (by omega))]
    exact ⟨_, rfl, zMF_r _, h2, h0⟩
  | c :: cs, i, N, a, σ, hl, hi, hN, hc, t, ha, h2, h0 => by
    obtain ⟨N, rfl⟩ : ∃ M, N = M + 1 := ⟨N - 1, by simp only [List.length_cons] at hN; omega⟩
    rw [mword_u]
    simp only [List.length_cons] at hl hi hN
    obtain ⟨c1, c2⟩ := hc 0 c rfl
    unfold f_Model_readsWord_2 zpS
    rw [hl, if_neg (show ¬ Int32.ofNat (i + (cs.length + 1)) ≤ nI i from nI_ge (b := i + (cs.length + 1)) (by omega) (by omega)), zck_nI (by omega) (by omega), show zschar w (nI i) = nI c from c2, takes_e t ha h2 h0 c1]
    by_cases q : zhr T L a = c
    · have l1 : a < L := zhr_lt (T := T) (by omega)
      rw [if_pos q, if_pos q, zbd_s, if_neg (show ¬ nI 1 = 0 by decide), show nI i + (1 : Int32) = nI (i + 1) from nI_add i 1]
      obtain ⟨σ', e, f, p, w1⟩ := mword_l (w := w) cs (i + 1) N (a + 1) (zsI σ 129 11 (nI (a + 1))) (by omega) (by omega) (by omega) (fun j d hj => by
        obtain ⟨d1, d2⟩ := hc (j + 1) d hj
        exact ⟨d1, by rw [show i + 1 + j = i + (j + 1) by omega]; exact d2⟩) (zMT_F t (zMF_11 _ _)) (by omega) (by rw [zI_sI, if_pos ⟨rfl, rfl⟩]) (by rw [zI_sI, if_neg (by omega)]; exact h0)
      exact ⟨σ', e, zMF_t (zMF_11 _ _) f, p, w1⟩
    · rw [if_neg q, if_neg q, zbd_s, if_pos (show nI 0 = 0 from rfl)]
      exact ⟨_, rfl, zMF_14 _ _, by rw [zI_sI, if_neg (by omega)]; exact h2, by rw [zI_sI, if_pos ⟨rfl, rfl⟩]; rfl⟩
theorem zsp_m : ∀ w, w < 4 → (zslen.getD (w + 4) 0 = 1 + (zspell w).tail.length ∧ ∀ j, j < (zspell w).tail.length → ((zspell w).tail.getD j 0) < 128 ∧ zschar (w + 4) (nI (1 + j)) = nI ((zspell w).tail.getD j 0)) := by decide +kernel
theorem mspell_e {T : Nat → Nat} {L w a : Nat} {σ : ZM} (hw : w < 4) (t : zMT T L σ) (ha : a ≤ L) (h2 : zI σ 129 11 = nI a) (h0 : zI σ 129 14 = 0) :
    ∃ σ', f_Model_readsWord (w + 4) σ = some ((), σ') ∧ zMPr σ σ' (zpS T L (zspell w).tail a).1 (zpS T L (zspell w).tail a).2 := by
  obtain ⟨l, k⟩ := zsp_m w hw
  have hl : (zspell w).tail.length ≤ 5 := (by decide : ∀ w, w < 4 → (zspell w).tail.length ≤ 5) w hw
  unfold f_Model_readsWord
  rw [zck_of (decide_eq_true (by omega))]
  exact mword_l (w := w + 4) (zspell w).tail 1 2000 a σ l (by omega) (by omega) (fun j c hj => by
    obtain ⟨hj1, hj2⟩ := List.getElem?_eq_some_iff.mp hj
    have e : (zspell w).tail.getD j 0 = c := by rw [List.getD_eq_getElem?_getD, hj]; rfl
    rw [← e]
    exact k j hj1) t ha h2 h0
theorem mnum_w {σ : ZM} (h0 : ¬ zI σ 129 14 = 0) : f_Model_readsNumber σ = some (0, σ) := by
  unfold f_Model_readsNumber
  rw [if_neg h0]
/-- all but what a reading sets -/
def zMG (σ σ' : ZM) : Prop := (∀ o k, ¬ (o = 129 ∧ (k = 11 ∨ (14 ≤ k ∧ k ≤ 20))) → zI σ' o k = zI σ o k) ∧ (∀ o k, zP σ' o k = zP σ o k) ∧ (∀ o k, zL σ' o k = zL σ o k)
theorem zMG_t {a b c : ZM} (h : zMG a b) (h2 : zMG b c) : zMG a c := ⟨fun o k n => (h2.1 o k n).trans (h.1 o k n), fun o k => (h2.2.1 o k).trans (h.2.1 o k), fun o k => (h2.2.2 o k).trans (h.2.2 o k)⟩
theorem zMG_F {a b : ZM} (h : zMF a b) : zMG a b := ⟨fun o k n => h.1 o k (by omega), h.2.1, h.2.2⟩
theorem zMG_s (σ : ZM) {k : Nat} (v : Int32) (hk : 14 ≤ k ∧ k ≤ 20) : zMG σ (zsI σ 129 k v) := ⟨fun o j n => by rw [zI_sI, if_neg (by omega)], fun _ _ => rfl, fun _ _ => rfl⟩
theorem zMT_G {T : Nat → Nat} {L : Nat} {σ σ' : ZM} (h : zMT T L σ) (f : zMG σ σ') : zMT T L σ' := by
  obtain ⟨a, b, ⟨i, hi, c, d⟩, l, t, hl, ht, e, g⟩ := h
  exact ⟨a, (f.1 _ _ (by omega)).trans b, ⟨i, hi, (f.1 _ _ (by omega)).trans c, fun k hk => ⟨(d k hk).1, (f.1 _ _ (by omega)).trans (d k hk).2⟩⟩, l, t, hl, ht, (f.1 _ _ (by omega)).trans e, (f.1 _ _ (by omega)).trans g⟩
/-- what the letters stand for, in a fee (1) and elsewhere (0) -/
def mlm (σ : ZM) (f : Nat) : Nat → Int32 := mlam (zsI σ 129 15 (nI f))
theorem mlm_G {σ σ' : ZM} (f : zMG σ σ') (k : Nat) : mlm σ' k = mlm σ k := by
  funext li
  have e : ∀ (s : ZM) o j, ¬ (o = 129 ∧ j = 15) → zI (zsI s 129 15 (nI k)) o j = zI s o j := fun s o j n => by rw [zI_sI, if_neg n]
  have e5 : ∀ (s : ZM), zI (zsI s 129 15 (nI k)) 129 15 = nI k := fun s => by rw [zI_sI, if_pos ⟨rfl, rfl⟩]
  unfold mlm mlam
  rw [e5, e5, e _ 129 12 (by omega), e _ 129 12 (by omega), e _ 129 13 (by omega), e _ 129 13 (by omega), e _ 130 _ (by omega), e _ 130 _ (by omega), e _ 130 _ (by omega), e _ 130 _ (by omega), e _ 130 _ (by omega), e _ 130 _ (by omega), e _ 130 _ (by omega), e _ 130 _ (by omega), f.1 129 12 (by omega), f.1 129 13 (by omega), f.1 130 _ (by omega), f.1 130 _ (by omega), f.1 130 _ (by omega), f.1 130 _ (by omega)]
def zevB (lam : Nat → Int32) (S : List Int32) : Bool := (S.foldl (zbs lam) []).headD false
def zwch (w : Nat) : Nat := if w = 0 then 116 else if w = 1 then 109 else if w = 2 then 99 else 102
theorem zwd_c {c : Nat} (h : ¬ zwd0 c = 9) : c = zwch (zwd0 c) := by
  unfold zwd0 at *
  repeat' split at h
  all_goals first | (subst_vars; rfl) | skip
  all_goals simp_all [zwch]
theorem zsp_hd : ∀ w, w < 4 → zspell w = zwch w :: (zspell w).tail := by decide
/-- what a clause adds -/
def zAd (w nu : Nat) (b : Bool) (σ σ' : ZM) : Prop := zI σ' 129 17 = zI σ 129 17 + (if w = 0 then 1 else 0) ∧ zI σ' 129 19 = (if w = 2 then nI nu else zI σ 129 19) ∧
  zI σ' 129 16 = zI σ 129 16 + (if w = 0 ∧ b = true then nI nu else 0) ∧ zI σ' 129 18 = zI σ 129 18 + (if w = 1 ∧ b = true then nI nu else 0) ∧ zI σ' 129 20 = zI σ 129 20 + (if w = 3 ∧ b = true then nI nu else 0)
theorem add_e (w nu : Nat) (hw : w = 0 ∨ w = 1 ∨ w = 3) (b : Bool) (σ : ZM) : ∃ σ', f_Model_readsClause_148 (nI (zwch w)) (nI nu) (zbI b) (if w = 0 then 1 else 0) (zI σ 129 17) σ = some ((), σ') ∧ zMG σ σ' ∧ zI σ' 129 11 = zI σ 129 11 ∧ zI σ' 129 14 = zI σ 129 14 ∧ zAd w nu b σ σ' := by
  have key : ∀ (A B C D : Int32), zMG σ (zsI (zsI (zsI (zsI σ 129 17 A) 129 16 B) 129 18 C) 129 20 D) ∧ zI (zsI (zsI (zsI (zsI σ 129 17 A) 129 16 B) 129 18 C) 129 20 D) 129 11 = zI σ 129 11 ∧ zI (zsI (zsI (zsI (zsI σ 129 17 A) 129 16 B) 129 18 C) 129 20 D) 129 14 = zI σ 129 14 ∧
      zI (zsI (zsI (zsI (zsI σ 129 17 A) 129 16 B) 129 18 C) 129 20 D) 129 17 = A ∧ zI (zsI (zsI (zsI (zsI σ 129 17 A) 129 16 B) 129 18 C) 129 20 D) 129 19 = zI σ 129 19 ∧ zI (zsI (zsI (zsI (zsI σ 129 17 A) 129 16 B) 129 18 C) 129 20 D) 129 16 = B ∧ zI (zsI (zsI (zsI (zsI σ 129 17 A) 129 16 B) 129 18 C) 129 20 D) 129 18 = C ∧ zI (zsI (zsI (zsI (zsI σ 129 17 A) 129 16 B) 129 18 C) 129 20 D) 129 20 = D := by
    intro A B C D
    refine ⟨zMG_t (zMG_s _ A (by omega)) (zMG_t (zMG_s _ B (by omega)) (zMG_t (zMG_s _ C (by omega)) (zMG_s _ D (by omega)))), ?_, ?_, ?_, ?_, ?_, ?_, ?_⟩
    all_goals simp only [zI_sI, true_and, Nat.reduceEqDiff, if_true, if_false]
  have ev : ∀ (k : Int32) (A B C D : Int32) (P Q R S : Int32), P = zI σ 129 17 → Q = zI σ 129 16 → R = zI σ 129 18 → S = zI σ 129 20 → zsI (zsI (zsI (zsI σ 129 17 (P + A)) 129 16 (Q + B)) 129 18 (R + C)) 129 20 (S + D) = zsI (zsI (zsI (zsI σ 129 17 (zI σ 129 17 + A)) 129 16 (zI σ 129 16 + B)) 129 18 (zI σ 129 18 + C)) 129 20 (zI σ 129 20 + D) := fun k A B C D P Q R S a b c d => by rw [a, b, c, d]
  have main : f_Model_readsClause_148 (nI (zwch w)) (nI nu) (zbI b) (if w = 0 then 1 else 0) (zI σ 129 17) σ = some ((), zsI (zsI (zsI (zsI σ 129 17 (zI σ 129 17 + (if w = 0 then 1 else 0))) 129 16 (zI σ 129 16 + (if w = 0 ∧ b = true then nI nu else 0))) 129 18 (zI σ 129 18 + (if w = 1 ∧ b = true then nI nu else 0))) 129 20 (zI σ 129 20 + (if w = 3 ∧ b = true then nI nu else 0))) := by
    unfold f_Model_readsClause_148 f_Model_readsClause_171 f_Model_readsClause_172 f_Model_readsClause_195 f_Model_readsClause_196 f_Model_readsClause_219 f_Model_readsClause_220
    rcases hw with rfl | rfl | rfl <;> cases b <;> rfl
  obtain ⟨k1, k2, k3, k4, k5, k6, k7, k8⟩ := key (zI σ 129 17 + (if w = 0 then 1 else 0)) (zI σ 129 16 + (if w = 0 ∧ b = true then nI nu else 0)) (zI σ 129 18 + (if w = 1 ∧ b = true then nI nu else 0)) (zI σ 129 20 + (if w = 3 ∧ b = true then nI nu else 0))
  exact ⟨_, main, k1, k2, k3, k4, by rw [k5, if_neg (by omega)], k6, k7, k8⟩
