/-! THE LAW: from its entry -/
theorem l_ctor {p : Program} {l : Launch} {e : Env} {s : State} {m : MethodId} {below : List Frame} {meth : Method} {c : Code} {b0 L : Nat} {xs : Nat → Int32} {H : Heap} {locs : List Loc} {ls : Array Slot} {θ : ZT} {ws : va_W} {lv : List (Nat × Value)} {pc : Nat} {st : List Value} {cells slots : Nat} {y : MethodName} {b : ByteArray} {nM k index q mc1 ms1 : Nat} {rm : Room} {e0 : va_E} {As st1 : List Value} {ws1 : (Nat → Nat) → va_W}
    (hM : ∀ sz, kMet l θ y b nM rm As sz q e0 mc1 ms1 ws1) (F : zcf y b nM none k) (hi : Cond.instanceMethod y ∈ zW0) (hy : y.name = "<init>") (hlink : Cond.methodLink R_law index y ∈ zW0)
    (d : decode code pc = .ok (.invokespecial index, 3)) (hAs : As.length = k) (hst : st1 = As.reverse ++ .ref q :: st) (hcat : (st.map fun v => v.category).sum ≤ 8) (hr0 : rm.cells = mc1) (hr1 : rm.slots = ms1) (hR : rm.frames + 1 ≤ room_1.frames ∧ 8 + (nM + 11) + rm.locals ≤ room_1.locals) (hcells : cells + mc1 ≤ room_1.cells) (hslots : slots + ms1 ≤ room_1.slots)
    (A : lw_At p s m meth c b0 L xs) (hK : va_K (zD θ) zcl (zty θ) s) (hX : kNX s) (hP : va_P (zD θ) zcl (ws ++ [(q, e0)]) H) (hD : va_D (zB s) (ws ++ [(q, e0)])) (hS : va_S (zB s) s.heap H locs) (hl : lv_has ls 4 lv)
    (g : ∀ (u : Nat → Nat) (H1 : Heap) (locs1 : List Loc), va_P (zD θ) zcl (ws ++ ws1 u) H1 → va_D (zB s) (ws ++ ws1 u) → va_S (zB s) s.heap H1 locs1 → W p l e room_1 s m #[Value.ref b0] below meth c H1 locs1 (cells + mc1) (slots + ms1) (lw_Z below #[Value.ref b0] s) (F0 m (pc + 3) ls st)) :
    W p l e room_1 s m #[Value.ref b0] below meth c H locs cells slots (lw_Z below #[Value.ref b0] s) (F0 m pc ls st1) := by
  obtain ⟨f1, f2, f3⟩ := F
  have hts := zLC.hts A
  have hA : ∀ x, s.heap.size ≤ x → zB s x := fun _ h => h
  have hPq : va_P (zD θ) zcl [(q, e0)] H := fun j x hx => by
    have hj1 := (List.getElem?_eq_some_iff.mp hx).1
    simp only [List.length_cons, List.length_nil] at hj1
    obtain rfl : j = 0 := by omega
    rw [← Option.some.inj hx]
    exact hP ws.length (q, e0) (by rw [List.getElem?_append_right (Nat.le_refl _), Nat.sub_self]; rfl)
  have pre : ∀ U : State, U.heap = H → s.WarmedH U.vm → kPre θ q e0 H.size U := fun U hU hW => ⟨by rw [hU], by rw [hU]; exact hPq, va_K.moved hW.alike hK, hX.warm hW⟩
  have run : va_Run p l e room_1 s m #[Value.ref b0] below meth c H locs cells slots mc1 ms1 (F0 m pc ls st1) st (kQ θ H.size q e0 ws1 (Value.ref q :: As).toArray) (va_A [(q, e0)] H.size) :=
    va_runI (S := ⟨A.1, A.2.1, A.2.2.2.1, A.2.2.2.2.1, hts⟩) (hM H.size) ⟨callB_of k hts (zgoodIn f1) rfl hr0 hr1 (hts _ f2) (hts _ hlink) f3 hR, hy, hts _ hi⟩ ⟨kPre.blind, fun U hU hW => ⟨rfl, pre U hU hW⟩⟩ rfl hAs hl.1 hst (lv_room hcat) d ⟨hcells, hslots⟩
  have hAq := va_Aq hD hS hA
  refine va_callv run hS (fun x _ h => hAq x h) hAq (fun u t H1 locs1 ht hvm _ hB hz1 hk1 hS1 => ?_)
  obtain ⟨hP1, hD1⟩ := hB
  rw [ht] at hP1
  obtain ⟨hP2, hD2⟩ := k_back hP hD (fun x h => hA x (Nat.le_trans hS.1 h)) hk1 hP1 hD1
  exact g u H1 locs1 hP2 hD2 hS1
set_option maxHeartbeats 4000000 in
set_option maxRecDepth 100000 in
theorem whole_start {p : Program} {e : Env} {s : State} {m : MethodId} {below : List Frame} {meth : Method} {c : Code} (l : Launch) (hflags : l.flags = flags0) {b L : Nat} {xs : Nat → Int32} (hL : L ≤ 3072) (C0 : lw_At p s m meth c b L xs) : W p l e room_1 s m #[Value.ref b] below meth c s.heap [] 0 0 (lw_Z below #[Value.ref b] s) (entryFrame m ([Value.ref b] : List Value).toArray 4) := by
  obtain ⟨hx, hb, hr, hml, hown, hts, hX, hbl, hlocks, hgv⟩ := id C0
  have hA : ∀ q : Nat, s.heap.size ≤ q → zB s q := fun _ h => h
  have hnA : ∀ a : Nat, a < s.heap.size → ¬ zB s a := fun a h => Nat.not_le.mpr h
  obtain ⟨z, hF⟩ := st_FX hgv hts hnA
  have hNX : kNX s := st_NX hts
  obtain ⟨D, T, hK⟩ := st_K hts
  have hz : ∀ w ∈ zW0, w.before #[Value.ref b] s = true := zLC.hts C0
  obtain ⟨θ, hθ⟩ : ∃ θ : ZT, θ = (D, T, fun _ => 0, z) := ⟨_, rfl⟩
  have hK0 : va_K (zD θ) zcl (zty θ) s := by rw [hθ]; exact hK _ _
  have hS : va_S (zB s) s.heap s.heap [] := va_S.rf
  have hP : va_P (zD θ) zcl [] s.heap := fun k q h => by simp at h
  have hD : va_D (zB s) [] := ⟨fun i j p q h => by simp at h, fun k q h => by simp at h⟩
  have hl := lv_entry ([.ref b]) (n := 4) (Nat.le_of_ble_eq_true rfl)
  rw [lg_entry_eq]
  generalize (lg_sl ([.ref b]) ++ List.replicate (4 - (lg_sl ([.ref b])).length) Slot.unset).toArray = ls at hl ⊢
  have hl : lv_has ls 4 [(0, .ref b)] := hl
  refine va_new (ci := 0) (fs := [.null, .null, .null, .null, .null, .null, .null, .null, .null, .null, .int 0, .int 0]) (C := R_BB) (T := F_BB) (N := 12) hx hb hz i_BB t_BB t_BB_ok hown (hts (.classLink R_law 7 R_BB) (by decide +kernel)) (hts (.instantiable R_BB 12) (by decide +kernel)) (hts (.initialized R_BB) (by decide +kernel)) hK0 hP hD hS hA rfl (fun j hj => by rcases (show j = 0 ∨ j = 1 ∨ j = 2 ∨ j = 3 ∨ j = 4 ∨ j = 5 ∨ j = 6 ∨ j = 7 ∨ j = 8 ∨ j = 9 ∨ j = 10 ∨ j = 11 by omega) with rfl | rfl | rfl | rfl | rfl | rfl | rfl | rfl | rfl | rfl | rfl | rfl <;> rfl) (Nat.le_of_ble_eq_true rfl) (Nat.le_of_ble_eq_true rfl) d_law_0 (fun hB H hP hD hS => ?_)
  refine lv_dup hx hb d_law_3 rfl ?_
  refine l_ctor (As := []) (ws := []) (fun sz => c_BB_init l θ sz hB) cf_BB_init (q_in (List.mem_filter.mp (show Cond.instanceMethod y_BB_init ∈ tables_1.filter goodWord by decide +kernel)).1 (by decide +kernel)) rfl (q_in (List.mem_filter.mp (show Cond.methodLink R_law 9 y_BB_init ∈ tables_1.filter goodWord by decide +kernel)).1 (by decide +kernel)) d_law_4 rfl rfl (Nat.le_of_ble_eq_true rfl) rfl rfl ⟨Nat.le_of_ble_eq_true rfl, Nat.le_of_ble_eq_true rfl⟩ (Nat.le_of_ble_eq_true rfl) (Nat.le_of_ble_eq_true rfl) C0 hK0 hNX hP hD hS hl (fun uB H locs hP hD hS => ?_)
  have hP : va_P (zD θ) zcl (kw_BB θ hB uB) H := hP
  have hD : va_D (zB s) (kw_BB θ hB uB) := hD
  refine lv_astore_n (lv' := [(1, .ref hB), (0, .ref b)]) hx hb d_law_7 rfl hl (by decide) rfl (fun ls hl => ?_)
  refine va_new (ci := 12) (fs := [.null, .null, .null, .int 0, .null, .null, .null, .int 0, .int 0, .int 0, .int 0, .int 0, .int 0, .int 0, .int 0, .int 0, .int 0, .int 0, .int 0, .int 0, .int 0, .null, .null, .null, .int 0, .null, .null, .null, .null, .int 0, .int 0]) (C := R_Model) (T := F_Model) (N := 31) hx hb hz i_Model t_Model t_Model_ok hown (hts (.classLink R_law 10 R_Model) (by decide +kernel)) (hts (.instantiable R_Model 31) (by decide +kernel)) (hts (.initialized R_Model) (by decide +kernel)) hK0 hP hD hS hA rfl (fun j hj => by
    rcases (show j = 0 ∨ j = 1 ∨ j = 2 ∨ j = 3 ∨ j = 4 ∨ j = 5 ∨ j = 6 ∨ j = 7 ∨ j = 8 ∨ j = 9 ∨ j = 10 ∨ j = 11 ∨ j = 12 ∨ j = 13 ∨ j = 14 ∨ j = 15 ∨ j = 16 ∨ j = 17 ∨ j = 18 ∨ j = 19 ∨ j = 20 ∨ j = 21 ∨ j = 22 ∨ j = 23 ∨ j = 24 ∨ j = 25 ∨ j = 26 ∨ j = 27 ∨ j = 28 ∨ j = 29 ∨ j = 30 by omega) with rfl | rfl | rfl | rfl | rfl | rfl | rfl | rfl | rfl | rfl | rfl | rfl | rfl | rfl | rfl | rfl | rfl | rfl | rfl | rfl | rfl | rfl | rfl | rfl | rfl | rfl | rfl | rfl | rfl | rfl | rfl <;> rfl) (Nat.le_of_ble_eq_true rfl) (Nat.le_of_ble_eq_true rfl) d_law_8 (fun hM H hP hD hS => ?_)
  refine lv_dup hx hb d_law_11 rfl ?_
  refine l_ctor (As := []) (ws := kw_BB θ hB uB) (fun sz => c_Model_init l θ sz hM) cf_Model_init (q_in (List.mem_filter.mp (show Cond.instanceMethod y_Model_init ∈ tables_1.filter goodWord by decide +kernel)).1 (by decide +kernel)) rfl (q_in (List.mem_filter.mp (show Cond.methodLink R_law 12 y_Model_init ∈ tables_1.filter goodWord by decide +kernel)).1 (by decide +kernel)) d_law_12 rfl rfl (Nat.le_of_ble_eq_true rfl) rfl rfl ⟨Nat.le_of_ble_eq_true rfl, Nat.le_of_ble_eq_true rfl⟩ (Nat.le_of_ble_eq_true rfl) (Nat.le_of_ble_eq_true rfl) C0 hK0 hNX hP hD hS hl (fun uM H locs hP hD hS => ?_)
  refine lv_astore_n (lv' := [(2, .ref hM), (1, .ref hB), (0, .ref b)]) hx hb d_law_15 rfl hl (by decide) rfl (fun ls hl => ?_)
  refine lv_iconst (v := 0) hx hb d_law_16 (by decide) ?_
  refine lv_istore_n (lv' := [(3, .int 0), (2, .ref hM), (1, .ref hB), (0, .ref b)]) hx hb d_law_17 rfl hl (by decide) rfl (fun ls hl => ?_)
  have hPB : va_P (zD θ) zcl (kw_BB θ hB uB) H := fun k x h => hP k x (by rw [List.getElem?_append_left (List.getElem?_eq_some_iff.mp h).1]; exact h)
  have hPM : va_P (zD θ) zcl (kw_Model θ hM uM) H := fun k x h => hP ((kw_BB θ hB uB).length + k) x (by rw [List.getElem?_append_right (Nat.le_add_right _ _), Nat.add_sub_cancel_left]; exact h)
  have Z : zLC p s m meth c b L xs (zth θ hB uB hM uM) := ⟨C0, by rw [hθ]; exact hK _ _, zw_J hD, by rw [hθ]; exact hF _ _ _, zw_A hD⟩
  exact lw_loop (b0 := b) (xs := xs) (θ := zth θ hB uB hM uM) (l := l) hL (L + 1) 0 zs0 zt0 (Nat.zero_le _) (by omega) zR0 p e s m below meth c H locs ls Z (zw_BB hPB) (zw_MM hPM) hS hl
