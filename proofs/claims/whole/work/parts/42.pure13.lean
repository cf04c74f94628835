/-! PURE: what the grammar gives -/
def zVS (S : List Int32) : Prop := ∀ s ∈ S, s = -1 ∨ s = -2 ∨ s = -3 ∨ ∃ li sg nu, li < 6 ∧ sg < 3 ∧ nu < 100 ∧ s = nI (512 * li + 128 * sg + nu)
/-- the row of steps runs with n operands waiting, 60 at most -/
def zgh : Nat → List Int32 → Bool
  | _, [] => true
  | n, s :: S => if s = -1 then decide (1 ≤ n) && zgh n S else if s = -2 ∨ s = -3 then decide (2 ≤ n) && zgh (n - 1) S else decide (n < 60) && zgh (n + 1) S
def zOKS (h : Nat) (S : List Int32) : Prop := ∀ n, n + h ≤ 60 → ∀ R, zgh n (S ++ R) = zgh (n + 1) R
def zG (L h a : Nat) (r : ZR) : Prop := a ≤ r.2.1 ∧ r.2.1 ≤ L ∧ (r.1 = true → r.2.2.length ≤ r.2.1 - a ∧ zVS r.2.2 ∧ zOKS h r.2.2)
theorem zhr_lt {T : Nat → Nat} {L a : Nat} (h : zhr T L a ≠ 999) : a < L := by
  unfold zhr at h
  split at h
  · assumption
  · exact absurd rfl h
theorem zdig_lt {T : Nat → Nat} {L a : Nat} (h : zdig (zhr T L a) = true) : a < L := zhr_lt (by intro e; rw [e] at h; exact absurd h (by decide))
theorem zpN_G {T : Nat → Nat} {L a : Nat} (ha : a ≤ L) : a ≤ (zpN T L a).2.1 ∧ (zpN T L a).2.1 ≤ L ∧ ((zpN T L a).1 = true → a < (zpN T L a).2.1 ∧ (zpN T L a).2.2 ≤ 99) ∧ ((zpN T L a).1 = false → (zpN T L a).2.1 = a) := by
  unfold zpN
  by_cases h : zdig (zhr T L a) = true
  · have l1 := zdig_lt h
    rw [if_pos h]
    simp only [zdig, Bool.and_eq_true, decide_eq_true_eq] at h
    by_cases h2 : zdig (zhr T L (a + 1)) = true
    · have l2 := zdig_lt h2
      rw [if_pos h2]
      simp only [zdig, Bool.and_eq_true, decide_eq_true_eq] at h2
      exact ⟨by simp, by show a + 2 ≤ L; omega, (fun _ => ⟨by simp, by show 10 * _ + _ ≤ 99; omega⟩), (fun q => by cases q)⟩
    · rw [if_neg h2]
      exact ⟨by simp, by show a + 1 ≤ L; omega, (fun _ => ⟨by simp, by show _ - 48 ≤ 99; omega⟩), (fun q => by cases q)⟩
  · rw [if_neg h]
    exact ⟨Nat.le_refl _, ha, (fun q => by cases q), (fun _ => rfl)⟩
theorem zli_lt {c : Nat} (h : ¬ zli c = 9) : zli c < 6 := by
  unfold zli at *
  repeat' split
  all_goals first | omega | simp_all
theorem zst_ne {li sg nu : Nat} (h1 : li < 6) (h2 : sg < 3) (h3 : nu < 100) : ¬ nI (512 * li + 128 * sg + nu) = -1 ∧ ¬ (nI (512 * li + 128 * sg + nu) = -2 ∨ nI (512 * li + 128 * sg + nu) = -3) := by
  have e := nI_toInt (n := 512 * li + 128 * sg + nu) (by omega)
  have a : (-1 : Int32).toInt = -1 := rfl
  have b : (-2 : Int32).toInt = -2 := rfl
  have c : (-3 : Int32).toInt = -3 := rfl
  refine ⟨fun q => ?_, fun q => ?_⟩
  · rw [q] at e; omega
  · rcases q with q | q <;> rw [q] at e <;> omega
theorem zOKS_x {li sg nu : Nat} (h1 : li < 6) (h2 : sg < 3) (h3 : nu < 100) : zOKS 1 [nI (512 * li + 128 * sg + nu)] := by
  intro n hn R
  obtain ⟨a, b⟩ := zst_ne h1 h2 h3
  show (if nI (512 * li + 128 * sg + nu) = -1 then _ else if _ then _ else _) = _
  rw [if_neg a, if_neg b, decide_eq_true (by omega)]; rfl
theorem zOKS_m {h h' : Nat} {S : List Int32} (q : zOKS h S) (hh : h ≤ h') : zOKS h' S := fun n hn R => q n (by omega) R
theorem zOKS_n {h : Nat} {S : List Int32} (q : zOKS h S) : zOKS h (S ++ [-1]) := by
  intro n hn R
  rw [List.append_assoc, q n hn]
  show (if (-1 : Int32) = -1 then _ else _) = _
  rw [if_pos rfl, decide_eq_true (by omega)]; rfl
theorem zOKS_2 {h : Nat} {S S2 : List Int32} {k : Int32} (hk : k = -2 ∨ k = -3) (q : zOKS (h + 1) S) (q2 : zOKS h S2) : zOKS (h + 1) (S ++ S2 ++ [k]) := by
  intro n hn R
  rw [List.append_assoc, List.append_assoc, q n hn, q2 (n + 1) (by omega)]
  show (if k = -1 then _ else if k = -2 ∨ k = -3 then decide (2 ≤ n + 1 + 1) && zgh (n + 1 + 1 - 1) R else _) = _
  rw [if_neg (by rcases hk with rfl | rfl <;> decide), if_pos hk, decide_eq_true (by omega)]; rfl
theorem zVS_a {S S2 : List Int32} (a : zVS S) (b : zVS S2) : zVS (S ++ S2) := fun s hs => (List.mem_append.mp hs).elim (a s) (b s)
theorem zVS_k {k : Int32} (hk : k = -1 ∨ k = -2 ∨ k = -3) : zVS [k] := fun s hs => by
  rw [List.mem_singleton.mp hs]
  rcases hk with h | h | h
  · exact Or.inl h
  · exact Or.inr (Or.inl h)
  · exact Or.inr (Or.inr (Or.inl h))
theorem zpX_G {T : Nat → Nat} {L a : Nat} (ha : a ≤ L) : zG L 1 a (zpX T L a) := by
  unfold zpX
  by_cases h : zli (zhr T L a) = 9
  · rw [if_pos h]; exact ⟨Nat.le_refl _, ha, (fun q => by cases q)⟩
  · have l1 : a < L := zhr_lt (by intro e; rw [e] at h; exact h rfl)
    rw [if_neg h]
    by_cases h2 : 60 ≤ zhr T L (a + 1) ∧ zhr T L (a + 1) ≤ 62
    · have l2 : a + 1 < L := zhr_lt (T := T) (a := a + 1) (by omega)
      obtain ⟨n1, n2, n3, n4⟩ := zpN_G (T := T) (L := L) (a := a + 2) (by omega)
      rw [if_pos h2]
      by_cases h3 : (zpN T L (a + 2)).1 = true
      · rw [if_pos h3]
        obtain ⟨n5, n6⟩ := n3 h3
        refine ⟨by show a ≤ (zpN T L (a + 2)).2.1; omega, n2, fun _ => ⟨?_, ?_, zOKS_x (zli_lt h) (by omega) (by omega)⟩⟩
        · show 1 ≤ (zpN T L (a + 2)).2.1 - a; omega
        · intro s hs
          exact Or.inr (Or.inr (Or.inr ⟨_, _, _, zli_lt h, by omega, by omega, List.mem_singleton.mp hs⟩))
      · rw [if_neg h3]; exact ⟨by show a ≤ (zpN T L (a + 2)).2.1; omega, n2, (fun q => by cases q)⟩
    · rw [if_neg h2]; exact ⟨by simp, by show a + 1 ≤ L; omega, (fun q => by cases q)⟩
theorem zpL_G {T : Nat → Nat} {L c h : Nat} {k : Int32} {p : Nat → ZR} (hc : c ≠ 999) (hk : k = -2 ∨ k = -3) (hp : ∀ a, a ≤ L → zG L h a (p a)) (a0 : Nat) : ∀ (n : Nat) (r : ZR), zG L (h + 1) a0 r → zG L (h + 1) a0 (zpL T L c k p n r)
  | 0, r, hr => hr
  | n + 1, r, hr => by
    unfold zpL
    by_cases q : r.1 = true ∧ zhr T L r.2.1 = c
    · rw [if_pos q]
      obtain ⟨r1, r2, r3⟩ := hr
      have l1 : r.2.1 < L := zhr_lt (by rw [q.2]; exact hc)
      obtain ⟨p1, p2, p3⟩ := hp (r.2.1 + 1) (by omega)
      refine zpL_G hc hk hp a0 n _ ⟨by show a0 ≤ (p (r.2.1 + 1)).2.1; omega, p2, fun q2 => ?_⟩
      obtain ⟨x1, x2, x3⟩ := r3 q.1
      obtain ⟨y1, y2, y3⟩ := p3 q2
      refine ⟨?_, zVS_a (zVS_a x2 y2) (zVS_k (Or.inr hk)), zOKS_2 hk x3 y3⟩
      simp only [List.length_append, List.length_singleton]
      omega
    · rw [if_neg q]; exact hr
theorem zG_m {L h h' a : Nat} {r : ZR} (q : zG L h a r) (hh : h ≤ h') : zG L h' a r := ⟨q.1, q.2.1, fun z => ⟨(q.2.2 z).1, (q.2.2 z).2.1, zOKS_m (q.2.2 z).2.2 hh⟩⟩
theorem zpT_G {T : Nat → Nat} {L h : Nat} {p : Nat → ZR} (hp : ∀ a, a ≤ L → zG L h a (p a)) (a : Nat) (ha : a ≤ L) : zG L (h + 1) a (zpT T L p a) := zpL_G (by omega) (Or.inl rfl) hp a 100 _ (zG_m (hp a ha) (by omega))
theorem zpE_G {T : Nat → Nat} {L h : Nat} {p : Nat → ZR} (hp : ∀ a, a ≤ L → zG L h a (p a)) (a : Nat) (ha : a ≤ L) : zG L (h + 2) a (zpE T L p a) := zpL_G (by omega) (Or.inr rfl) (fun a ha => zpT_G hp a ha) a 100 _ (zG_m (zpT_G hp a ha) (by omega))
theorem zpF_G {T : Nat → Nat} {L : Nat} : ∀ (r a : Nat), a ≤ L → zG L (2 * r + 1) a (zpF T L r a)
  | 0, a, ha => by
    unfold zpF
    split
    · exact ⟨Nat.le_refl _, ha, (fun q => by cases q)⟩
    · exact zpX_G ha
  | r + 1, a, ha => by
    unfold zpF
    by_cases h1 : zhr T L a = 33
    · rw [if_pos h1]
      have l1 : a < L := zhr_lt (T := T) (a := a) (by omega)
      obtain ⟨p1, p2, p3⟩ := zpF_G (T := T) (L := L) r (a + 1) (by omega)
      refine ⟨by show a ≤ (zpF T L r (a + 1)).2.1; omega, p2, fun q => ?_⟩
      obtain ⟨x1, x2, x3⟩ := p3 q
      refine ⟨?_, zVS_a x2 (zVS_k (Or.inl rfl)), zOKS_m (zOKS_n x3) (by omega)⟩
      simp only [List.length_append, List.length_singleton]
      omega
    · rw [if_neg h1]
      by_cases h2 : zhr T L a = 40
      · rw [if_pos h2]
        have l1 : a < L := zhr_lt (T := T) (a := a) (by omega)
        obtain ⟨p1, p2, p3⟩ := zpE_G (T := T) (p := zpF T L r) (fun a ha => zpF_G r a ha) (a + 1) (by omega)
        by_cases h3 : (zpE T L (zpF T L r) (a + 1)).1 = true
        · rw [if_pos h3]
          by_cases h4 : zhr T L (zpE T L (zpF T L r) (a + 1)).2.1 = 41
          · rw [if_pos h4]
            have l2 := zhr_lt (T := T) (L := L) (a := (zpE T L (zpF T L r) (a + 1)).2.1) (by omega)
            obtain ⟨x1, x2, x3⟩ := p3 h3
            exact ⟨by show a ≤ (zpE T L (zpF T L r) (a + 1)).2.1 + 1; omega, by show (zpE T L (zpF T L r) (a + 1)).2.1 + 1 ≤ L; omega, fun _ => ⟨by show (zpE T L (zpF T L r) (a + 1)).2.2.length ≤ (zpE T L (zpF T L r) (a + 1)).2.1 + 1 - a; omega, x2, zOKS_m x3 (by omega)⟩⟩
          · rw [if_neg h4]; exact ⟨by show a ≤ (zpE T L (zpF T L r) (a + 1)).2.1; omega, p2, (fun q => by cases q)⟩
        · rw [if_neg h3]; exact ⟨by show a ≤ (zpE T L (zpF T L r) (a + 1)).2.1; omega, p2, (fun q => by cases q)⟩
      · rw [if_neg h2]; exact zG_m (zpX_G ha) (by omega)
theorem zpS_G {T : Nat → Nat} {L : Nat} : ∀ (cs : List Nat) (a : Nat), (∀ c ∈ cs, c ≠ 999) → a ≤ L → a ≤ (zpS T L cs a).2 ∧ (zpS T L cs a).2 ≤ L
  | [], a, _, ha => ⟨Nat.le_refl _, ha⟩
  | c :: cs, a, hc, ha => by
    unfold zpS
    by_cases q : zhr T L a = c
    · rw [if_pos q]
      have l1 : a < L := zhr_lt (by rw [q]; exact hc c List.mem_cons_self)
      obtain ⟨x, y⟩ := zpS_G (T := T) (L := L) cs (a + 1) (fun d hd => hc d (List.mem_cons_of_mem _ hd)) (by omega)
      exact ⟨by omega, y⟩
    · rw [if_neg q]; exact ⟨Nat.le_refl _, ha⟩
