/-! CONSTRUCTORS: six rows of sixty longs, made at once -/
def mIn (b : ClassId) : Cell := { cls := b, slots := Array.replicate 60 (.long 0), vm := .none }
def mOut (a : ClassId) (h : Nat) : Nat → Cell
  | 0 => { cls := a, slots := Array.replicate 6 .null, vm := .none }
  | i + 1 => (mOut a h i).setSlot i (.ref (h + (i + 1)))
/-- the state with i of the rows made -/
def mSt (s : State) (a b : ClassId) : Nat → State
  | 0 => s.pushCell (mOut a s.heap.size 0)
  | i + 1 => ((mSt s a b i).pushCell (mIn b)).setCell s.heap.size (mOut a s.heap.size (i + 1))
theorem mOut_f (a : ClassId) (h : Nat) (i : Nat) : (mOut a h i).cls = a ∧ (mOut a h i).vm = .none ∧ (mOut a h i).slots.size = 6 := by
  induction i with
  | zero => exact ⟨rfl, rfl, by simp [mOut]⟩
  | succ i ih =>
    obtain ⟨x, y, z⟩ := ih
    exact ⟨x, y, by simp only [mOut, Cell.setSlot, Array.size_setIfInBounds]; exact z⟩
theorem mOut_s (a : ClassId) (h : Nat) (i : Nat) : ∀ j, j < 6 → (mOut a h i).slots[j]? = some (if j < i then .ref (h + (j + 1)) else .null) := by
  induction i with
  | zero =>
    intro j hj
    rw [if_neg (by omega)]
    simp [mOut, hj]
  | succ i ih =>
    intro j hj
    have z := (mOut_f a h i).2.2
    have g := ih j hj
    show ((mOut a h i).slots.setIfInBounds i (.ref (h + (i + 1))))[j]? = _
    rw [Array.getElem?_setIfInBounds]
    by_cases q : i = j
    · subst q
      rw [if_pos rfl, if_pos (by omega), if_pos (by omega)]
    · rw [if_neg q, g]
      by_cases y : j < i
      · rw [if_pos y, if_pos (by omega)]
      · rw [if_neg y, if_neg (by omega)]
theorem mSt_f (s : State) (a b : ClassId) (i : Nat) : (mSt s a b i).heap.size = s.heap.size + (i + 1) ∧ (mSt s a b i).heap[s.heap.size]? = some (mOut a s.heap.size i) ∧ (mSt s a b i).vm = s.vm ∧ (mSt s a b i).slotsUsed = s.slotsUsed + 6 + i * 60 := by
  induction i with
  | zero => exact ⟨by simp [mSt], by simp [mSt], rfl, by simp [mSt, mOut]⟩
  | succ i ih =>
    obtain ⟨x, y, z, w⟩ := ih
    have lt : s.heap.size < (mSt s a b i).heap.size := by omega
    have y' : ((mSt s a b i).pushCell (mIn b)).heap[s.heap.size]? = some (mOut a s.heap.size i) := by rw [State.heap_pushCell_of_lt (h := lt)]; exact y
    refine ⟨?_, State.heap_setCell_self y', by simp [mSt, z], ?_⟩
    · simp [mSt, State.setCell, x]; omega
    · simp [mSt, w, mIn]; omega
theorem mSt_t (s : State) (f : JFrame) (a b : ClassId) (i : Nat) : mSt (s.setTop f) a b i = (mSt s a b i).setTop f := by
  induction i with
  | zero => rfl
  | succ i ih => simp only [mSt, ih, State.heap_setTop, State.pushCell_setTop, State.setCell_setTop]
theorem mSt_o (s : State) (a b : ClassId) (i : Nat) : ∀ q : Nat, q < s.heap.size → (mSt s a b i).heap[q]? = s.heap[q]? := by
  induction i with
  | zero => exact fun q hq => State.heap_pushCell_of_lt _ _ hq
  | succ i ih =>
    intro q hq
    have x := (mSt_f s a b i).1
    have lt : q < (mSt s a b i).heap.size := by omega
    show (((mSt s a b i).pushCell (mIn b)).setCell s.heap.size _).heap[q]? = _
    rw [State.heap_setCell_other (show s.heap.size ≠ q by omega), State.heap_pushCell_of_lt (h := lt)]
    exact ih q hq
theorem mSt_i (s : State) (a b : ClassId) (i : Nat) : ∀ j, j < i → (mSt s a b i).heap[s.heap.size + (j + 1)]? = some (mIn b) := by
  induction i with
  | zero => exact fun j hj => absurd hj (by omega)
  | succ i ih =>
    intro j hj
    have x := (mSt_f s a b i).1
    show (((mSt s a b i).pushCell (mIn b)).setCell s.heap.size _).heap[s.heap.size + (j + 1)]? = _
    rw [State.heap_setCell_other (show s.heap.size ≠ s.heap.size + (j + 1) by omega)]
    by_cases q : j < i
    · have lt : s.heap.size + (j + 1) < (mSt s a b i).heap.size := by omega
      rw [State.heap_pushCell_of_lt (h := lt)]
      exact ih j q
    · obtain rfl : j = i := by omega
      rw [← x]
      exact State.heap_pushCell_size _ _
section MWP
variable {E : CtlPost} {e : Env} {d : Bool} {acts : List Action} {s : State}
theorem m_arr {a b : ClassId} {k : Class} {ty : FieldType} {n : Nat} {v : Value} (hk : s.vm.classes[a]? = some k) (hkind : k.kind = .array b ty) (h1 : ¬ n > e.platform.arrayLengthLimit) (h2 : ¬ n * componentBytes ty > e.platform.maxHeapBytes) (hfit : fits ty v = true) (hdef : v.isDefault = true) {Q : Addr → Pre}
    (h3 : s.heap.size < e.platform.maxCells) (h4 : s.slotsUsed + n ≤ e.platform.maxSlots) (g : Q s.heap.size d acts (s.pushCell { cls := a, slots := Array.replicate n v, vm := .none })) : wp (Jvm.newArray a n v) Q E e d acts s := by
  have f1 : ∀ i x, (Array.replicate n v)[i]? = some x → s.fitsSlot a .none i x = true := by
    intro i x hx
    rw [Array.getElem?_replicate] at hx
    split at hx
    · cases hx; simp [State.fitsSlot, State.slotType?, hk, hkind, hfit]
    · cases hx
  have f2 : allocActs (Array.replicate n v) s.heap.size acts = acts := by
    unfold allocActs
    rw [if_pos (by rw [Array.all_replicate]; split <;> simp [hdef])]
  simp only [Jvm.newArray, Jvm.arrayFits, wp_bind', W.ask, W.ite, h1, if_false, wp_pure', W.theClass, hk, hkind, h2, W.alloc, W.stop, Option.some.injEq, exists_eq_left', Array.size_replicate, f2]
  rw [if_neg (by omega)]
  exact ⟨h3, h4, f1, g⟩
theorem m_row {a b : ClassId} {k : Class} (hk : s.vm.classes[a]? = some k) (hkind : k.kind = .array b .long) (h1 : ¬ 60 > e.platform.arrayLengthLimit) (h2 : ¬ 60 * componentBytes .long > e.platform.maxHeapBytes) {Q : Addr → Pre}
    (h3 : s.heap.size < e.platform.maxCells) (h4 : s.slotsUsed + 60 ≤ e.platform.maxSlots) (g : Q s.heap.size d acts (s.pushCell (mIn a))) : wp (multianewarray.make a [60]) Q E e d acts s := by
  rw [multianewarray.make]
  simp only [wp_bind', W.ite, show ¬ (60 : Int32) < 0 by decide, if_false, wp_pure', W.theClass, hk, hkind, Option.some.injEq, exists_eq_left']
  exact m_arr hk hkind h1 h2 rfl rfl h3 h4 g
theorem m_all {a b c : ClassId} {ka kb : Class} (hka : s.vm.classes[a]? = some ka) (ha : ka.kind = .array b (.array .long)) (hkb : s.vm.classes[b]? = some kb) (hb : kb.kind = .array c .long) (h1 : ¬ 60 > e.platform.arrayLengthLimit) (h2 : ¬ 480 > e.platform.maxHeapBytes)
    (h3 : s.heap.size + 7 ≤ e.platform.maxCells) (h4 : s.slotsUsed + 366 ≤ e.platform.maxSlots) {Q : Addr → Pre} (g : ∀ d' acts', Q s.heap.size d' acts' (mSt s a b 6)) : wp (multianewarray.make a [6, 60]) Q E e d acts s := by
  rw [multianewarray.make]
  simp only [wp_bind', W.ite, show ¬ (6 : Int32) < 0 by decide, if_false, wp_pure', W.theClass, hka, ha, Option.some.injEq, exists_eq_left']
  refine m_arr hka ha (by show ¬ 6 > _; omega) (by show ¬ 6 * 4 > _; omega) rfl rfl (by omega) (by show s.slotsUsed + 6 ≤ _; omega) ?_
  simp only [show ([(60 : Int32)].find? (· < 0)) = none by decide]
  rw [ite_self, wp_bind', Std.Legacy.Range.forIn_eq_forIn_range']
  show wp (forIn (List.range' 0 6 1) PUnit.unit _) _ E e d acts _
  refine wp_forIn_inv (fun rest s' => ∃ i, i ≤ 6 ∧ rest = List.range' i (6 - i) ∧ s' = mSt s a b i) _ _ ⟨0, by omega, rfl, rfl⟩ ?_ ?_
  · rintro x rest s' d' acts' Q' ⟨i, hi, hl, rfl⟩ hnext
    have lt : i < 6 := by
      by_cases q : i < 6
      · exact q
      · rw [show 6 - i = 0 by omega] at hl
        cases hl
    rw [show 6 - i = (6 - (i + 1)) + 1 by omega, List.range'_succ] at hl
    obtain ⟨rfl, hl⟩ := List.cons.inj hl
    obtain ⟨f1, f2, f3, f4⟩ := mSt_f s a b x
    obtain ⟨o1, o2, o3⟩ := mOut_f a s.heap.size x
    simp only [wp_bind']
    refine m_row (by rw [f3]; exact hkb) hb h1 (by show ¬ 60 * 8 > _; omega) (by omega) (by omega) ?_
    have lt0 : s.heap.size < (mSt s a b x).heap.size := by omega
    simp only [wp_bind', W.writeLoc, wp_pure']
    refine ⟨mOut a s.heap.size x, by rw [State.heap_pushCell_of_lt (h := lt0)]; exact f2, by rw [o2]; simp, by rw [o3]; exact lt, ?_, hnext _ _ _ ⟨x + 1, lt, hl, ?_⟩⟩
    · rw [o1, o2]
      simp [State.fitsSlot, State.slotType?, f3, hka, ha]
      rfl
    · rw [f1]; rfl
  · rintro s' d' acts' ⟨i, hi, hl, rfl⟩
    have e6 : i = 6 := by
      by_cases q : i < 6
      · rw [show 6 - i = (6 - (i + 1)) + 1 by omega, List.range'_succ] at hl
        cases hl
      · omega
    subst e6
    simp only [wp_pure']
    exact g _ _
end MWP
