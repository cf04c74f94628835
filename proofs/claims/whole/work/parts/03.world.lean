/-! THE MEMORY: ints, longs, references by the number of a cell and a place in it; the cells' kinds; the world of a memory -/
abbrev ZM : Type := (Nat → Nat → Int32) × (Nat → Nat → Int64) × (Nat → Nat → Nat)
def zI (σ : ZM) (o k : Nat) : Int32 := σ.1 o k
def zL (σ : ZM) (o k : Nat) : Int64 := σ.2.1 o k
def zP (σ : ZM) (o k : Nat) : Nat := σ.2.2 o k
def zsI (σ : ZM) (o k : Nat) (v : Int32) : ZM := (fun a => if a = o then upd (σ.1 a) k v else σ.1 a, σ.2.1, σ.2.2)
def zsL (σ : ZM) (o k : Nat) (v : Int64) : ZM := (σ.1, fun a => if a = o then vp_updL (σ.2.1 a) k v else σ.2.1 a, σ.2.2)
def zsP (σ : ZM) (o k : Nat) (v : Nat) : ZM := (σ.1, σ.2.1, fun a => if a = o then va_up (σ.2.2 a) k v else σ.2.2 a)
def zcpL (σ : ZM) (o o2 sp dp n : Nat) : ZM := (σ.1, fun a => if a = o2 then va_cpy (σ.2.1 o) (σ.2.1 a) sp dp n else σ.2.1 a, σ.2.2)
abbrev ZT : Type := va_G × (Nat → ClassId) × (Nat → Nat) × (Nat → Nat)
abbrev zD (θ : ZT) : va_G := θ.1
abbrev zA (θ : ZT) : Nat → ClassId := θ.2.1
abbrev za (θ : ZT) : Nat → Nat := θ.2.2.1
abbrev zf (θ : ZT) : Nat → Nat := θ.2.2.2
/-- kinds of cells: 0 ints, 1 booleans, 2 longs; 3 loaves, 4 ovens, 5 kilns, 6 rows of longs; 10 and on the classes -/
def ztab : List (Nat × Nat) := [(10, 0), (20, 0), (20, 0), (18, 0), (0, 100), (13, 0), (12, 0), (19, 0), (11, 0), (0, 20), (21, 0), (6, 6), (0, 6), (0, 6), (2, 60), (2, 60), (2, 60), (2, 60), (2, 60), (2, 60), (5, 6), (0, 64), (0, 5), (0, 5), (4, 6), (3, 6), (3, 6), (14, 0), (14, 0), (0, 12), (0, 12), (1, 12), (1, 12)]
  ++ List.replicate 9 (17, 0) ++ List.replicate 9 (0, 4) ++ List.replicate 12 (16, 0) ++ List.replicate 24 (0, 4) ++ List.replicate 7 (15, 0) ++ List.replicate 7 (0, 10) ++ List.replicate 7 (0, 10) ++ List.replicate 7 (0, 10) ++ List.replicate 7 (0, 100) ++ List.replicate 7 (0, 6)
  ++ [(22, 0), (0, 92), (0, 92), (0, 92), (0, 100), (0, 600), (0, 6), (0, 4), (0, 6), (0, 6), (0, 6), (0, 6), (2, 360), (0, 20)]
def zkd (o : Nat) : Nat := (ztab.getD o (99, 0)).1
def zln (o : Nat) : Nat := (ztab.getD o (99, 0)).2
/-- the cell o is of kind c -/
def zk (o c : Nat) : Bool := zkd o == c
def zrf (θ : ZT) (k : Nat) : Value := if k = 999 then .null else .ref (za θ k)
/-- the elements of the arrays of references -/
def zel (o j : Nat) : Nat := if o = 11 then 14 + j else if o = 20 then 87 + j else if o = 24 then 36 + j else 51 + 6 * (o - 25) + j
def zobj (θ : ZT) (c o : Nat) (I : Nat → Int32) (P : Nat → Nat) : List Value :=
  match c with
  | 10 => [.ref (za θ 1), .ref (za θ 2), .ref (za θ 3), .ref (za θ 20), .ref (za θ 93), .ref (za θ 5), .ref (za θ 6), .ref (za θ 7), .ref (za θ 8), .ref (za θ 10), .int (I 10), .int (I 11)]
  | 11 => [.ref (za θ 9), .int (I 1)]
  | 12 => [.ref (za θ 1), .ref (za θ 5), .ref (za θ 35), .ref (za θ 21)]
  | 13 => [zrf θ (P 0)]
  | 14 => [.ref (za θ (o + 2)), .ref (za θ (o + 4)), .int (I 2)]
  | 15 => [.ref (za θ (o + 7)), .ref (za θ (o + 14)), .ref (za θ (o + 21)), .ref (za θ (o + 28)), .ref (za θ (o + 35)), .int (I 5), .int (I 6), .int (I 7), .int (I 8)]
  | 16 => [.int (I 0), .ref (za θ (o + 12)), .ref (za θ (o + 24)), .int (I 3), .int (I 4)]
  | 17 => [.ref (za θ (o + 9)), .int (I 1)]
  | 18 => [.ref (za θ 4), .int (I 1), .int (I 2), .int (I 3), zrf θ (P 4)]
  | 19 => [.ref (za θ 1), .ref (za θ 5), .ref (za θ 24), .ref (za θ 22), .ref (za θ 23), .int (I 5), .int (I 6)]
  | 20 => [.ref (za θ (o + 24)), .ref (za θ (o + 32)), .ref (za θ (o + 26)), .int (I 3), .int (I 4)]
  | 21 => [.ref (za θ 11), .ref (za θ 12), .ref (za θ 13)]
  | 22 => [.ref (za θ 130), .ref (za θ 131), .ref (za θ 132), .int (I 3), .ref (za θ 133), .ref (za θ 134), .ref (za θ 135), .int (I 7), .int (I 8), .int (I 9), .int (I 10), .int (I 11), .int (I 12), .int (I 13), .int (I 14), .int (I 15), .int (I 16), .int (I 17), .int (I 18), .int (I 19), .int (I 20), .ref (za θ 136), .ref (za θ 137), .ref (za θ 138), .int (I 24), .ref (za θ 139), .ref (za θ 140), .ref (za θ 141), .ref (za θ 142), .int (I 29), .int (I 30)]
  | _ => []
def zce (θ : ZT) (c n o : Nat) (I : Nat → Int32) (L : Nat → Int64) (P : Nat → Nat) : va_E :=
  match c with
  | 0 => .inl (zA θ 0, n, .inl I)
  | 1 => .inl (zA θ 1, n, .inl I)
  | 2 => .inl (zA θ 2, n, .inr (.inl L))
  | 3 => .inl (zA θ 3, n, .inr (.inr (.inr (.inr (fun j => some (za θ (zel o j)))))))
  | 4 => .inl (zA θ 4, n, .inr (.inr (.inr (.inr (fun j => some (za θ (zel o j)))))))
  | 5 => .inl (zA θ 5, n, .inr (.inr (.inr (.inr (fun j => some (za θ (zel o j)))))))
  | 6 => .inl (zA θ 6, n, .inr (.inr (.inr (.inr (fun j => some (za θ (zel o j)))))))
  | c => .inr (c - 10, zobj θ c o I P)
def zcell (θ : ZT) (σ : ZM) (o : Nat) : va_E := zce θ (zkd o) (zln o) o (σ.1 o) (σ.2.1 o) (σ.2.2 o)
def zwd (lo n : Nat) (θ : ZT) (σ : ZM) : va_W := (List.range n).map (fun j => (za θ (lo + j), zcell θ σ (lo + j)))
def zty (θ : ZT) : List (ClassId × FieldType) := [(zA θ 0, .int), (zA θ 1, .boolean), (zA θ 2, .long), (zA θ 3, .object R_Loaf), (zA θ 4, .object R_Oven), (zA θ 5, .object R_Kiln), (zA θ 6, .array .long)]
def zAA (lo n : Nat) (θ : ZT) : Nat → Prop := fun q => ∃ o, lo ≤ o ∧ o < lo + n ∧ q = za θ o
def zJ (θ : ZT) : Prop := ∀ i j, i < 143 → j < 143 → za θ i = za θ j → i = j
theorem zwd_at {lo n : Nat} {θ : ZT} {σ : ZM} {o : Nat} (h1 : lo ≤ o) (h2 : o < lo + n) : (zwd lo n θ σ)[o - lo]? = some (za θ o, zcell θ σ o) := by
  have h3 : o - lo < n := by omega
  have h4 : lo + (o - lo) = o := by omega
  simp [zwd, h3, h4]
theorem zwd_len {lo n : Nat} {θ : ZT} {σ : ZM} : (zwd lo n θ σ).length = n := by simp [zwd]
theorem zwd_D {lo n : Nat} {θ : ZT} {σ : ZM} (hJ : zJ θ) (hn : lo + n ≤ 143) : va_D (zAA lo n θ) (zwd lo n θ σ) := by
  refine ⟨fun i j x y hi hj hxy => ?_, fun k q hk => ?_⟩
  · have li : i < n := by have := (List.getElem?_eq_some_iff.mp hi).1; rwa [zwd_len] at this
    have lj : j < n := by have := (List.getElem?_eq_some_iff.mp hj).1; rwa [zwd_len] at this
    simp [zwd, li] at hi
    simp [zwd, lj] at hj
    subst hi; subst hj
    have := hJ (lo + i) (lo + j) (by omega) (by omega) hxy
    omega
  · have lk : k < n := by have := (List.getElem?_eq_some_iff.mp hk).1; rwa [zwd_len] at this
    simp [zwd, lk] at hk
    subst hk
    exact ⟨lo + k, by omega, by omega, rfl⟩
theorem zwd_set {lo n : Nat} {θ : ZT} {σ σ' : ZM} {o : Nat} {e : va_E} (h1 : lo ≤ o) (h2 : o < lo + n) (he : zcell θ σ' o = e) (hne : ∀ a, a ≠ o → zcell θ σ' a = zcell θ σ a) : (zwd lo n θ σ).set (o - lo) (za θ o, e) = zwd lo n θ σ' := by
  apply List.ext_getElem?
  intro k
  by_cases hk : k = o - lo
  · subst hk
    rw [List.getElem?_set_self (by rw [zwd_len]; omega), zwd_at h1 h2, he]
  · rw [List.getElem?_set_ne (Ne.symm hk)]
    by_cases hl : k < n
    · have e1 := hne (lo + k) (by omega)
      simp [zwd, hl, e1]
    · rw [List.getElem?_eq_none (by rw [zwd_len]; omega), List.getElem?_eq_none (by rw [zwd_len]; omega)]
theorem zsI_self (σ : ZM) (o k : Nat) (v : Int32) : (zsI σ o k v).1 o = upd (σ.1 o) k v := if_pos rfl
theorem zsI_ne (σ : ZM) {o a : Nat} (k : Nat) (v : Int32) (h : a ≠ o) : (zsI σ o k v).1 a = σ.1 a := if_neg h
theorem zcell_sI {θ : ZT} {σ : ZM} {o k : Nat} {v : Int32} : ∀ a, a ≠ o → zcell θ (zsI σ o k v) a = zcell θ σ a := by
  intro a h
  show zce θ (zkd a) (zln a) a ((zsI σ o k v).1 a) _ _ = _
  rw [zsI_ne σ k v h]; rfl
theorem zcell_sL {θ : ZT} {σ : ZM} {o k : Nat} {v : Int64} : ∀ a, a ≠ o → zcell θ (zsL σ o k v) a = zcell θ σ a := by
  intro a h
  show zce θ (zkd a) (zln a) a _ (if a = o then vp_updL (σ.2.1 a) k v else σ.2.1 a) _ = _
  rw [if_neg h]; rfl
theorem zcell_sP {θ : ZT} {σ : ZM} {o k v : Nat} : ∀ a, a ≠ o → zcell θ (zsP σ o k v) a = zcell θ σ a := by
  intro a h
  show zce θ (zkd a) (zln a) a _ _ (if a = o then va_up (σ.2.2 a) k v else σ.2.2 a) = _
  rw [if_neg h]; rfl
theorem zcell_cpL {θ : ZT} {σ : ZM} {o o2 sp dp n : Nat} : ∀ a, a ≠ o2 → zcell θ (zcpL σ o o2 sp dp n) a = zcell θ σ a := by
  intro a h
  show zce θ (zkd a) (zln a) a _ (if a = o2 then va_cpy (σ.2.1 o) (σ.2.1 a) sp dp n else σ.2.1 a) _ = _
  rw [if_neg h]; rfl
theorem zk_eq {o c : Nat} (h : zk o c = true) : zkd o = c := by simpa [zk] using h
theorem zk_lt {o c : Nat} (h : zk o c = true) (hc : c ≠ 99) : o < 143 := by
  have h1 := zk_eq h
  by_cases ho : o < 143
  · exact ho
  · exfalso
    have hl : ztab.length = 143 := by decide +kernel
    have : zkd o = 99 := by simp [zkd, List.getElem?_eq_none (show ztab.length ≤ o by omega)]
    exact hc (h1.symm.trans this)
