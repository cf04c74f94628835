/-! walks: Model_two Model_takesBehind Model_has Model_takesInRow Model_swaps Model_span Model_year Model_common Model_lowest Model_odds Model_mean Model_book Model_isBookedSo Model_looked Model_isTape Model_judge Model_image Model_undo Model_runs Model_rises Model_bakesFrom Model_tells -/
theorem d_Model_two_0 : decode b_Model_two 0 = .ok (.iload_n 1, 1) := by decide +kernel
theorem d_Model_two_1 : decode b_Model_two 1 = .ok (.iconst (0), 1) := by decide +kernel
theorem d_Model_two_2 : decode b_Model_two 2 = .ok (.iconst (1), 1) := by decide +kernel
theorem d_Model_two_3 : decode b_Model_two 3 = .ok (.invokestatic 52, 3) := by decide +kernel
theorem d_Model_two_6 : decode b_Model_two 6 = .ok (.ifCond .ne (5), 3) := by decide +kernel
theorem d_Model_two_9 : decode b_Model_two 9 = .ok (.iconst (-1), 1) := by decide +kernel
theorem d_Model_two_10 : decode b_Model_two 10 = .ok (.ireturn, 1) := by decide +kernel
theorem d_Model_two_11 : decode b_Model_two 11 = .ok (.iconst (1), 1) := by decide +kernel
theorem d_Model_two_12 : decode b_Model_two 12 = .ok (.aload_n 0, 1) := by decide +kernel
theorem d_Model_two_13 : decode b_Model_two 13 = .ok (.getfield 11, 3) := by decide +kernel
theorem d_Model_two_16 : decode b_Model_two 16 = .ok (.iconst (5), 1) := by decide +kernel
theorem d_Model_two_17 : decode b_Model_two 17 = .ok (.iaload, 1) := by decide +kernel
theorem d_Model_two_18 : decode b_Model_two 18 = .ok (.ishl, 1) := by decide +kernel
theorem d_Model_two_19 : decode b_Model_two 19 = .ok (.iconst (1), 1) := by decide +kernel
theorem d_Model_two_20 : decode b_Model_two 20 = .ok (.isub, 1) := by decide +kernel
theorem d_Model_two_21 : decode b_Model_two 21 = .ok (.istore_n 2, 1) := by decide +kernel
theorem d_Model_two_22 : decode b_Model_two 22 = .ok (.iconst (0), 1) := by decide +kernel
theorem d_Model_two_23 : decode b_Model_two 23 = .ok (.istore_n 3, 1) := by decide +kernel
theorem d_Model_two_24 : decode b_Model_two 24 = .ok (.iconst (-1), 1) := by decide +kernel
theorem d_Model_two_25 : decode b_Model_two 25 = .ok (.istore 4, 2) := by decide +kernel
theorem d_Model_two_27 : decode b_Model_two 27 = .ok (.iconst (0), 1) := by decide +kernel
theorem d_Model_two_28 : decode b_Model_two 28 = .ok (.istore 5, 2) := by decide +kernel
theorem d_Model_two_30 : decode b_Model_two 30 = .ok (.iload 5, 2) := by decide +kernel
theorem d_Model_two_32 : decode b_Model_two 32 = .ok (.iload_n 2, 1) := by decide +kernel
theorem d_Model_two_33 : decode b_Model_two 33 = .ok (.if_icmp .gt (50), 3) := by decide +kernel
theorem d_Model_two_36 : decode b_Model_two 36 = .ok (.aload_n 0, 1) := by decide +kernel
theorem d_Model_two_37 : decode b_Model_two 37 = .ok (.iload 5, 2) := by decide +kernel
theorem d_Model_two_39 : decode b_Model_two 39 = .ok (.invokevirtual 251, 3) := by decide +kernel
theorem d_Model_two_42 : decode b_Model_two 42 = .ok (.aload_n 0, 1) := by decide +kernel
theorem d_Model_two_43 : decode b_Model_two 43 = .ok (.iload_n 2, 1) := by decide +kernel
theorem d_Model_two_44 : decode b_Model_two 44 = .ok (.iload 5, 2) := by decide +kernel
theorem d_Model_two_46 : decode b_Model_two 46 = .ok (.iconst (-1), 1) := by decide +kernel
theorem d_Model_two_47 : decode b_Model_two 47 = .ok (.ixor, 1) := by decide +kernel
theorem d_Model_two_48 : decode b_Model_two 48 = .ok (.iand, 1) := by decide +kernel
theorem d_Model_two_49 : decode b_Model_two 49 = .ok (.invokevirtual 251, 3) := by decide +kernel
theorem d_Model_two_52 : decode b_Model_two 52 = .ok (.iadd, 1) := by decide +kernel
theorem d_Model_two_53 : decode b_Model_two 53 = .ok (.istore 6, 2) := by decide +kernel
theorem d_Model_two_55 : decode b_Model_two 55 = .ok (.iload 4, 2) := by decide +kernel
theorem d_Model_two_57 : decode b_Model_two 57 = .ok (.ifCond .lt (13), 3) := by decide +kernel
theorem d_Model_two_60 : decode b_Model_two 60 = .ok (.iload 6, 2) := by decide +kernel
theorem d_Model_two_62 : decode b_Model_two 62 = .ok (.iload 4, 2) := by decide +kernel
theorem d_Model_two_64 : decode b_Model_two 64 = .ok (.if_icmp .lt (6), 3) := by decide +kernel
theorem d_Model_two_67 : decode b_Model_two 67 = .ok (.goto (10), 3) := by decide +kernel
theorem d_Model_two_70 : decode b_Model_two 70 = .ok (.iload 5, 2) := by decide +kernel
theorem d_Model_two_72 : decode b_Model_two 72 = .ok (.istore_n 3, 1) := by decide +kernel
theorem d_Model_two_73 : decode b_Model_two 73 = .ok (.iload 6, 2) := by decide +kernel
theorem d_Model_two_75 : decode b_Model_two 75 = .ok (.istore 4, 2) := by decide +kernel
theorem d_Model_two_77 : decode b_Model_two 77 = .ok (.iinc 5 (1), 3) := by decide +kernel
theorem d_Model_two_80 : decode b_Model_two 80 = .ok (.goto (-50), 3) := by decide +kernel
theorem d_Model_two_83 : decode b_Model_two 83 = .ok (.iload_n 1, 1) := by decide +kernel
theorem d_Model_two_84 : decode b_Model_two 84 = .ok (.ifCond .ne (8), 3) := by decide +kernel
theorem d_Model_two_87 : decode b_Model_two 87 = .ok (.iload 4, 2) := by decide +kernel
theorem d_Model_two_89 : decode b_Model_two 89 = .ok (.goto (4), 3) := by decide +kernel
theorem d_Model_two_92 : decode b_Model_two 92 = .ok (.iload_n 3, 1) := by decide +kernel
theorem d_Model_two_93 : decode b_Model_two 93 = .ok (.ireturn, 1) := by decide +kernel
theorem zb_Model_two_77 {l : Launch} {θ : ZT} {res : Int32 × ZM} {k30 : Int32 × Int32 × Int32 × Int32 × Int32 × ZM → Option (Int32 × ZM)} (hk30 : ∀ a : Int32 × Int32 × Int32 × Int32 × Int32 × ZM, k30 a = some res → WZ l b_Model_two 7 (some .int) "BakedBeforeModel" 129 14 θ (zrm 41 974) (zQ mkI 129 14 θ res) a.2.2.2.2.2 [(0, .ref (za θ 129)), (1, .int a.1), (2, .int a.2.1), (3, .int a.2.2.1), (4, .int a.2.2.2.1), (5, .int a.2.2.2.2.1)] 30 []) {x1 : Int32} {x2 : Int32} {x3 : Int32} {x4 : Int32} {x5 : Int32} {σ : ZM} (h : f_Model_two_77 k30 x1 x2 x3 x4 x5 σ = some res) : WZ l b_Model_two 7 (some .int) "BakedBeforeModel" 129 14 θ (zrm 41 974) (zQ mkI 129 14 θ res) σ [(0, .ref (za θ 129)), (1, .int x1), (2, .int x2), (3, .int x3), (4, .int x4), (5, .int x5)] 77 [] := by
  unfold f_Model_two_77 at h
  refine z_iinc (v := x5 + (1 : Int32)) 5 d_Model_two_77 rfl rfl (by decide) rfl ?_
  refine z_goto (tgt := 30) d_Model_two_80 (by decide) ?_
  refine z_sub [1, 2, 3, 4, 5, 0] rfl ?_
  exact hk30 (x1, x2, x3, x4, (x5 + (1 : Int32)), σ) h
theorem zb_Model_two_70 {l : Launch} {θ : ZT} {res : Int32 × ZM} {k30 : Int32 × Int32 × Int32 × Int32 × Int32 × ZM → Option (Int32 × ZM)} (hk30 : ∀ a : Int32 × Int32 × Int32 × Int32 × Int32 × ZM, k30 a = some res → WZ l b_Model_two 7 (some .int) "BakedBeforeModel" 129 14 θ (zrm 41 974) (zQ mkI 129 14 θ res) a.2.2.2.2.2 [(0, .ref (za θ 129)), (1, .int a.1), (2, .int a.2.1), (3, .int a.2.2.1), (4, .int a.2.2.2.1), (5, .int a.2.2.2.2.1)] 30 []) {x1 : Int32} {x2 : Int32} {x5 : Int32} {x6 : Int32} {σ : ZM} (h : f_Model_two_70 k30 x1 x2 x5 x6 σ = some res) : WZ l b_Model_two 7 (some .int) "BakedBeforeModel" 129 14 θ (zrm 41 974) (zQ mkI 129 14 θ res) σ [(0, .ref (za θ 129)), (1, .int x1), (2, .int x2), (5, .int x5), (6, .int x6)] 70 [] := by
  unfold f_Model_two_70 at h
  refine z_iload 3 d_Model_two_70 rfl ?_
  refine z_istore_n d_Model_two_72 rfl (by decide) rfl ?_
  refine z_iload 5 d_Model_two_73 rfl ?_
  refine z_istore d_Model_two_75 (by decide) rfl ?_
  refine z_sub [2, 3, 4, 1, 0, 5] rfl ?_
  exact zb_Model_two_77 hk30 h
theorem zb_Model_two_30 {l : Launch} {θ : ZT} {res : Int32 × ZM} {k30 : Int32 × Int32 × Int32 × Int32 × Int32 × ZM → Option (Int32 × ZM)} (hk30 : ∀ a : Int32 × Int32 × Int32 × Int32 × Int32 × ZM, k30 a = some res → WZ l b_Model_two 7 (some .int) "BakedBeforeModel" 129 14 θ (zrm 41 974) (zQ mkI 129 14 θ res) a.2.2.2.2.2 [(0, .ref (za θ 129)), (1, .int a.1), (2, .int a.2.1), (3, .int a.2.2.1), (4, .int a.2.2.2.1), (5, .int a.2.2.2.2.1)] 30 []) {x1 : Int32} {x2 : Int32} {x3 : Int32} {x4 : Int32} {x5 : Int32} {σ : ZM} (h : f_Model_two_30 k30 x1 x2 x3 x4 x5 σ = some res) : WZ l b_Model_two 7 (some .int) "BakedBeforeModel" 129 14 θ (zrm 41 974) (zQ mkI 129 14 θ res) σ [(0, .ref (za θ 129)), (1, .int x1), (2, .int x2), (3, .int x3), (4, .int x4), (5, .int x5)] 30 [] := by
  unfold f_Model_two_30 at h
  refine z_iload 5 d_Model_two_30 rfl ?_
  refine z_iload_n 2 d_Model_two_32 rfl rfl ?_
  refine z_icmp_gt (tgt := 83) d_Model_two_33 (by decide) (fun c1 => ?_) (fun c1 => ?_)
  · have h := (if_pos c1).symm.trans h
    refine z_iload_n 1 d_Model_two_83 rfl rfl ?_
    refine z_if_ne (tgt := 92) d_Model_two_84 (by decide) (fun c2 => ?_) (fun c2 => ?_)
    · have h := (if_neg c2).symm.trans h
      refine z_iload_n 3 d_Model_two_92 rfl rfl ?_
      exact z_iret d_Model_two_93 h
    · have h := (if_pos c2).symm.trans h
      refine z_iload 4 d_Model_two_87 rfl ?_
      refine z_goto (tgt := 93) d_Model_two_89 (by decide) ?_
      exact z_iret d_Model_two_93 h
  · have h := (if_neg c1).symm.trans h
    refine z_aload_n 0 d_Model_two_36 rfl rfl ?_
    refine z_iload 5 d_Model_two_37 rfl ?_
    obtain ⟨⟨v3, s4⟩, e5, h⟩ := zbd_i h
    refine w_callV (As := [.int x5]) (kc := 22) (ci := 12) (c_Model_spoiledIn l θ e5) cf_Model_spoiledIn q_1189 d_Model_two_39 zl_129 rfl rfl rfl rfl rfl rfl (Nat.le_of_ble_eq_true rfl) rfl rfl ⟨Nat.le_of_ble_eq_true rfl, Nat.le_of_ble_eq_true rfl⟩ ?_
    refine z_aload_n 0 d_Model_two_42 rfl rfl ?_
    refine z_iload_n 2 d_Model_two_43 rfl rfl ?_
    refine z_iload 5 d_Model_two_44 rfl ?_
    refine z_iconst (v := -1) d_Model_two_46 (by decide) ?_
    refine z_ixor d_Model_two_47 ?_
    refine z_iand d_Model_two_48 ?_
    obtain ⟨⟨v6, s7⟩, e8, h⟩ := zbd_i h
    refine w_callV (As := [.int (x2 &&& (x5 ^^^ (-1 : Int32)))]) (kc := 22) (ci := 12) (c_Model_spoiledIn l θ e8) cf_Model_spoiledIn q_1189 d_Model_two_49 zl_129 rfl rfl rfl rfl rfl rfl (Nat.le_of_ble_eq_true rfl) rfl rfl ⟨Nat.le_of_ble_eq_true rfl, Nat.le_of_ble_eq_true rfl⟩ ?_
    refine z_iadd d_Model_two_52 ?_
    refine z_istore d_Model_two_53 (by decide) rfl ?_
    refine z_iload 5 d_Model_two_55 rfl ?_
    refine z_if_lt (tgt := 70) d_Model_two_57 (by decide) (fun c9 => ?_) (fun c9 => ?_)
    · have h := (if_pos c9).symm.trans h
      refine z_sub [1, 2, 3, 6, 0] rfl ?_
      exact zb_Model_two_70 hk30 h
    · have h := (if_neg c9).symm.trans h
      refine z_iload 0 d_Model_two_60 rfl ?_
      refine z_iload 5 d_Model_two_62 rfl ?_
      refine z_icmp_lt (tgt := 70) d_Model_two_64 (by decide) (fun c10 => ?_) (fun c10 => ?_)
      · have h := (if_pos c10).symm.trans h
        refine z_sub [1, 2, 3, 6, 0] rfl ?_
        exact zb_Model_two_70 hk30 h
      · have h := (if_neg c10).symm.trans h
        refine z_goto (tgt := 77) d_Model_two_67 (by decide) ?_
        refine z_sub [1, 2, 3, 4, 5, 6] rfl ?_
        exact zb_Model_two_77 hk30 h
theorem zl_Model_two_30 {l : Launch} {θ : ZT} {res : Int32 × ZM} : ∀ (N : Nat) (a : Int32 × Int32 × Int32 × Int32 × Int32 × ZM), F_Model_two_30 N a = some res → WZ l b_Model_two 7 (some .int) "BakedBeforeModel" 129 14 θ (zrm 41 974) (zQ mkI 129 14 θ res) a.2.2.2.2.2 [(0, .ref (za θ 129)), (1, .int a.1), (2, .int a.2.1), (3, .int a.2.2.1), (4, .int a.2.2.2.1), (5, .int a.2.2.2.2.1)] 30 [] := by
  intro N
  induction N with
  | zero => intro a  h; cases (show (none : Option (Int32 × ZM)) = some res from h)
  | succ N ih => intro a  h; exact zb_Model_two_30 ih (show f_Model_two_30 (F_Model_two_30 N) a.1 a.2.1 a.2.2.1 a.2.2.2.1 a.2.2.2.2.1 a.2.2.2.2.2 = some res from h)
theorem c_Model_two (l : Launch) (θ : ZT) {x1 : Int32} {σ : ZM} {res : Int32 × ZM} (h : f_Model_two x1 σ = some res) : zMet mkI l 129 14 θ y_Model_two b_Model_two 7 (some .int) (zrm 41 974) [.ref (za θ 129), .int x1] σ res := by
  unfold f_Model_two at h
  refine z_met (lv := [(0, .ref (za θ 129)), (1, .int x1)]) (by decide +kernel) rfl (Nat.le_of_ble_eq_true rfl) (by decide) ?_
  refine z_iload_n 1 d_Model_two_0 rfl rfl ?_
  refine z_iconst (v := 0) d_Model_two_1 (by decide) ?_
  refine z_iconst (v := 1) d_Model_two_2 (by decide) ?_
  obtain ⟨⟨v1, s2⟩, e3, h⟩ := zbd_i h
  refine w_callS (As := [.int x1, .int (0 : Int32), .int (1 : Int32)]) (c_Model_isIn l θ e3) cf_Model_isIn q_969 d_Model_two_3 rfl rfl rfl (Nat.le_of_ble_eq_true rfl) rfl rfl ⟨Nat.le_of_ble_eq_true rfl, Nat.le_of_ble_eq_true rfl⟩ ?_
  refine z_if_ne (tgt := 11) d_Model_two_6 (by decide) (fun c4 => ?_) (fun c4 => ?_)
  · have h := (if_neg c4).symm.trans h
    refine z_iconst (v := 1) d_Model_two_11 (by decide) ?_
    refine z_aload_n 0 d_Model_two_12 rfl rfl ?_
    refine gf_Model_s zl_129 d_Model_two_13 q_871 ?_
    refine z_iconst (v := 5) d_Model_two_16 (by decide) ?_
    obtain ⟨c5, h⟩ := zck_i h
    refine w_iald zl_130 c5 d_Model_two_17 ?_
    refine z_ishl d_Model_two_18 ?_
    refine z_iconst (v := 1) d_Model_two_19 (by decide) ?_
    refine z_isub d_Model_two_20 ?_
    refine z_istore_n d_Model_two_21 rfl (by decide) rfl ?_
    refine z_iconst (v := 0) d_Model_two_22 (by decide) ?_
    refine z_istore_n d_Model_two_23 rfl (by decide) rfl ?_
    refine z_iconst (v := -1) d_Model_two_24 (by decide) ?_
    refine z_istore d_Model_two_25 (by decide) rfl ?_
    refine z_iconst (v := 0) d_Model_two_27 (by decide) ?_
    refine z_istore d_Model_two_28 (by decide) rfl ?_
    refine z_sub [4, 5, 3, 2, 1, 0] rfl ?_
    exact zl_Model_two_30 2000 (x1, (((1 : Int32) <<< ((zI s2 130 (5 : Int32).toNatClampNeg) &&& 31)) - (1 : Int32)), (0 : Int32), (-1 : Int32), (0 : Int32), s2) h
  · have h := (if_pos c4).symm.trans h
    refine z_iconst (v := -1) d_Model_two_9 (by decide) ?_
    exact z_iret d_Model_two_10 h
theorem d_Model_takesBehind_0 : decode b_Model_takesBehind 0 = .ok (.aload_n 0, 1) := by decide +kernel
theorem d_Model_takesBehind_1 : decode b_Model_takesBehind 1 = .ok (.invokevirtual 214, 3) := by decide +kernel
theorem d_Model_takesBehind_4 : decode b_Model_takesBehind 4 = .ok (.aload_n 0, 1) := by decide +kernel
theorem d_Model_takesBehind_5 : decode b_Model_takesBehind 5 = .ok (.iload_n 2, 1) := by decide +kernel
theorem d_Model_takesBehind_6 : decode b_Model_takesBehind 6 = .ok (.invokevirtual 208, 3) := by decide +kernel
theorem d_Model_takesBehind_9 : decode b_Model_takesBehind 9 = .ok (.istore_n 3, 1) := by decide +kernel
theorem d_Model_takesBehind_10 : decode b_Model_takesBehind 10 = .ok (.aload_n 0, 1) := by decide +kernel
theorem d_Model_takesBehind_11 : decode b_Model_takesBehind 11 = .ok (.iload_n 1, 1) := by decide +kernel
theorem d_Model_takesBehind_12 : decode b_Model_takesBehind 12 = .ok (.invokevirtual 241, 3) := by decide +kernel
theorem d_Model_takesBehind_15 : decode b_Model_takesBehind 15 = .ok (.istore 4, 2) := by decide +kernel
theorem d_Model_takesBehind_17 : decode b_Model_takesBehind 17 = .ok (.aload_n 0, 1) := by decide +kernel
theorem d_Model_takesBehind_18 : decode b_Model_takesBehind 18 = .ok (.invokevirtual 217, 3) := by decide +kernel
theorem d_Model_takesBehind_21 : decode b_Model_takesBehind 21 = .ok (.iload 4, 2) := by decide +kernel
theorem d_Model_takesBehind_23 : decode b_Model_takesBehind 23 = .ok (.ireturn, 1) := by decide +kernel
theorem c_Model_takesBehind (l : Launch) (θ : ZT) {x1 : Int32} {x2 : Int32} {σ : ZM} {res : Int32 × ZM} (h : f_Model_takesBehind x1 x2 σ = some res) : zMet mkI l 129 14 θ y_Model_takesBehind b_Model_takesBehind 5 (some .int) (zrm 39 928) [.ref (za θ 129), .int x1, .int x2] σ res := by
  unfold f_Model_takesBehind at h
  refine z_met (lv := [(0, .ref (za θ 129)), (1, .int x1), (2, .int x2)]) (by decide +kernel) rfl (Nat.le_of_ble_eq_true rfl) (by decide) ?_
  refine z_aload_n 0 d_Model_takesBehind_0 rfl rfl ?_
  obtain ⟨⟨v1, s2⟩, e3, h⟩ := zbd_i h
  refine w_callV (As := []) (kc := 22) (ci := 12) (c_Model_begins l θ e3) cf_Model_begins q_1124 d_Model_takesBehind_1 zl_129 rfl rfl rfl rfl rfl rfl (Nat.le_of_ble_eq_true rfl) rfl rfl ⟨Nat.le_of_ble_eq_true rfl, Nat.le_of_ble_eq_true rfl⟩ ?_
  refine z_aload_n 0 d_Model_takesBehind_4 rfl rfl ?_
  refine z_iload_n 2 d_Model_takesBehind_5 rfl rfl ?_
  obtain ⟨⟨v4, s5⟩, e6, h⟩ := zbd_i h
  refine w_callV (As := [.int x2]) (kc := 22) (ci := 12) (c_Model_bakes l θ e6) cf_Model_bakes q_1104 d_Model_takesBehind_6 zl_129 rfl rfl rfl rfl rfl rfl (Nat.le_of_ble_eq_true rfl) rfl rfl ⟨Nat.le_of_ble_eq_true rfl, Nat.le_of_ble_eq_true rfl⟩ ?_
  refine z_istore_n d_Model_takesBehind_9 rfl (by decide) rfl ?_
  refine z_aload_n 1 d_Model_takesBehind_10 rfl rfl ?_
  refine z_iload_n 2 d_Model_takesBehind_11 rfl rfl ?_
  obtain ⟨⟨v7, s8⟩, e9, h⟩ := zbd_i h
  refine w_callV (As := [.int x1]) (kc := 22) (ci := 12) (c_Model_allTakes l θ e9) cf_Model_allTakes q_1173 d_Model_takesBehind_12 zl_129 rfl rfl rfl rfl rfl rfl (Nat.le_of_ble_eq_true rfl) rfl rfl ⟨Nat.le_of_ble_eq_true rfl, Nat.le_of_ble_eq_true rfl⟩ ?_
  refine z_istore d_Model_takesBehind_15 (by decide) rfl ?_
  refine z_aload_n 2 d_Model_takesBehind_17 rfl rfl ?_
  obtain ⟨⟨v10, s11⟩, e12, h⟩ := zbd_i h
  refine w_callV (As := []) (kc := 22) (ci := 12) (c_Model_ends l θ e12) cf_Model_ends q_1131 d_Model_takesBehind_18 zl_129 rfl rfl rfl rfl rfl rfl (Nat.le_of_ble_eq_true rfl) rfl rfl ⟨Nat.le_of_ble_eq_true rfl, Nat.le_of_ble_eq_true rfl⟩ ?_
  refine z_iload 0 d_Model_takesBehind_21 rfl ?_
  exact z_iret d_Model_takesBehind_23 h
theorem d_Model_has_0 : decode b_Model_has 0 = .ok (.aload_n 0, 1) := by decide +kernel
theorem d_Model_has_1 : decode b_Model_has 1 = .ok (.iload_n 1, 1) := by decide +kernel
theorem d_Model_has_2 : decode b_Model_has 2 = .ok (.invokevirtual 199, 3) := by decide +kernel
theorem d_Model_has_5 : decode b_Model_has 5 = .ok (.ifCond .ne (6), 3) := by decide +kernel
theorem d_Model_has_8 : decode b_Model_has 8 = .ok (.ldc 254, 2) := by decide +kernel
theorem d_Model_has_10 : decode b_Model_has 10 = .ok (.ireturn, 1) := by decide +kernel
theorem d_Model_has_11 : decode b_Model_has 11 = .ok (.iconst (0), 1) := by decide +kernel
theorem d_Model_has_12 : decode b_Model_has 12 = .ok (.istore_n 2, 1) := by decide +kernel
theorem d_Model_has_13 : decode b_Model_has 13 = .ok (.iconst (0), 1) := by decide +kernel
theorem d_Model_has_14 : decode b_Model_has 14 = .ok (.istore_n 3, 1) := by decide +kernel
theorem d_Model_has_15 : decode b_Model_has 15 = .ok (.iload_n 3, 1) := by decide +kernel
theorem d_Model_has_16 : decode b_Model_has 16 = .ok (.iconst (1), 1) := by decide +kernel
theorem d_Model_has_17 : decode b_Model_has 17 = .ok (.iadd, 1) := by decide +kernel
theorem d_Model_has_18 : decode b_Model_has 18 = .ok (.aload_n 0, 1) := by decide +kernel
theorem d_Model_has_19 : decode b_Model_has 19 = .ok (.getfield 11, 3) := by decide +kernel
theorem d_Model_has_22 : decode b_Model_has 22 = .ok (.iconst (5), 1) := by decide +kernel
theorem d_Model_has_23 : decode b_Model_has 23 = .ok (.iaload, 1) := by decide +kernel
theorem d_Model_has_24 : decode b_Model_has 24 = .ok (.if_icmp .ge (84), 3) := by decide +kernel
theorem d_Model_has_27 : decode b_Model_has 27 = .ok (.aload_n 0, 1) := by decide +kernel
theorem d_Model_has_28 : decode b_Model_has 28 = .ok (.iload_n 3, 1) := by decide +kernel
theorem d_Model_has_29 : decode b_Model_has 29 = .ok (.iconst (1), 1) := by decide +kernel
theorem d_Model_has_30 : decode b_Model_has 30 = .ok (.iadd, 1) := by decide +kernel
theorem d_Model_has_31 : decode b_Model_has 31 = .ok (.iload_n 3, 1) := by decide +kernel
theorem d_Model_has_32 : decode b_Model_has 32 = .ok (.invokevirtual 255, 3) := by decide +kernel
theorem d_Model_has_35 : decode b_Model_has 35 = .ok (.aload_n 0, 1) := by decide +kernel
theorem d_Model_has_36 : decode b_Model_has 36 = .ok (.iload_n 3, 1) := by decide +kernel
theorem d_Model_has_37 : decode b_Model_has 37 = .ok (.iconst (1), 1) := by decide +kernel
theorem d_Model_has_38 : decode b_Model_has 38 = .ok (.iadd, 1) := by decide +kernel
theorem d_Model_has_39 : decode b_Model_has 39 = .ok (.invokevirtual 241, 3) := by decide +kernel
theorem d_Model_has_42 : decode b_Model_has 42 = .ok (.if_icmp .ge (7), 3) := by decide +kernel
theorem d_Model_has_45 : decode b_Model_has 45 = .ok (.iconst (1), 1) := by decide +kernel
theorem d_Model_has_46 : decode b_Model_has 46 = .ok (.goto (4), 3) := by decide +kernel
theorem d_Model_has_49 : decode b_Model_has 49 = .ok (.iconst (0), 1) := by decide +kernel
theorem d_Model_has_50 : decode b_Model_has 50 = .ok (.istore 4, 2) := by decide +kernel
theorem d_Model_has_52 : decode b_Model_has 52 = .ok (.iload 4, 2) := by decide +kernel
theorem d_Model_has_54 : decode b_Model_has 54 = .ok (.ifCond .eq (11), 3) := by decide +kernel
theorem d_Model_has_57 : decode b_Model_has 57 = .ok (.aload_n 0, 1) := by decide +kernel
theorem d_Model_has_58 : decode b_Model_has 58 = .ok (.iload_n 3, 1) := by decide +kernel
theorem d_Model_has_59 : decode b_Model_has 59 = .ok (.invokevirtual 205, 3) := by decide +kernel
theorem d_Model_has_62 : decode b_Model_has 62 = .ok (.goto (11), 3) := by decide +kernel
theorem d_Model_has_65 : decode b_Model_has 65 = .ok (.aload_n 0, 1) := by decide +kernel
theorem d_Model_has_66 : decode b_Model_has 66 = .ok (.iload_n 3, 1) := by decide +kernel
theorem d_Model_has_67 : decode b_Model_has 67 = .ok (.iconst (1), 1) := by decide +kernel
theorem d_Model_has_68 : decode b_Model_has 68 = .ok (.iadd, 1) := by decide +kernel
theorem d_Model_has_69 : decode b_Model_has 69 = .ok (.invokevirtual 205, 3) := by decide +kernel
theorem d_Model_has_72 : decode b_Model_has 72 = .ok (.ineg, 1) := by decide +kernel
theorem d_Model_has_73 : decode b_Model_has 73 = .ok (.istore 5, 2) := by decide +kernel
theorem d_Model_has_75 : decode b_Model_has 75 = .ok (.iload_n 2, 1) := by decide +kernel
theorem d_Model_has_76 : decode b_Model_has 76 = .ok (.iload_n 1, 1) := by decide +kernel
theorem d_Model_has_77 : decode b_Model_has 77 = .ok (.iload_n 3, 1) := by decide +kernel
theorem d_Model_has_78 : decode b_Model_has 78 = .ok (.if_icmp .ne (8), 3) := by decide +kernel
theorem d_Model_has_81 : decode b_Model_has 81 = .ok (.iload 5, 2) := by decide +kernel
theorem d_Model_has_83 : decode b_Model_has 83 = .ok (.goto (17), 3) := by decide +kernel
theorem d_Model_has_86 : decode b_Model_has 86 = .ok (.iload_n 1, 1) := by decide +kernel
theorem d_Model_has_87 : decode b_Model_has 87 = .ok (.iload_n 3, 1) := by decide +kernel
theorem d_Model_has_88 : decode b_Model_has 88 = .ok (.iconst (1), 1) := by decide +kernel
theorem d_Model_has_89 : decode b_Model_has 89 = .ok (.iadd, 1) := by decide +kernel
theorem d_Model_has_90 : decode b_Model_has 90 = .ok (.if_icmp .ne (9), 3) := by decide +kernel
theorem d_Model_has_93 : decode b_Model_has 93 = .ok (.iload 5, 2) := by decide +kernel
theorem d_Model_has_95 : decode b_Model_has 95 = .ok (.ineg, 1) := by decide +kernel
theorem d_Model_has_96 : decode b_Model_has 96 = .ok (.goto (4), 3) := by decide +kernel
theorem d_Model_has_99 : decode b_Model_has 99 = .ok (.iconst (0), 1) := by decide +kernel
theorem d_Model_has_100 : decode b_Model_has 100 = .ok (.iadd, 1) := by decide +kernel
theorem d_Model_has_101 : decode b_Model_has 101 = .ok (.istore_n 2, 1) := by decide +kernel
theorem d_Model_has_102 : decode b_Model_has 102 = .ok (.iinc 3 (1), 3) := by decide +kernel
theorem d_Model_has_105 : decode b_Model_has 105 = .ok (.goto (-90), 3) := by decide +kernel
theorem d_Model_has_108 : decode b_Model_has 108 = .ok (.iload_n 2, 1) := by decide +kernel
theorem d_Model_has_109 : decode b_Model_has 109 = .ok (.ireturn, 1) := by decide +kernel
theorem zb_Model_has_100 {l : Launch} {θ : ZT} {res : Int32 × ZM} {k15 : Int32 × Int32 × Int32 × ZM → Option (Int32 × ZM)} (hk15 : ∀ a : Int32 × Int32 × Int32 × ZM, k15 a = some res → WZ l b_Model_has 6 (some .int) "BakedBeforeModel" 129 14 θ (zrm 40 952) (zQ mkI 129 14 θ res) a.2.2.2 [(0, .ref (za θ 129)), (1, .int a.1), (2, .int a.2.1), (3, .int a.2.2.1)] 15 []) {x1 : Int32} {x3 : Int32} {y0 : Int32} {y1 : Int32} {σ : ZM} (h : f_Model_has_100 k15 x1 x3 y0 y1 σ = some res) : WZ l b_Model_has 6 (some .int) "BakedBeforeModel" 129 14 θ (zrm 40 952) (zQ mkI 129 14 θ res) σ [(0, .ref (za θ 129)), (1, .int x1), (3, .int x3)] 100 [.int y0, .int y1] := by
  unfold f_Model_has_100 at h
  refine z_iadd d_Model_has_100 ?_
  refine z_istore_n d_Model_has_101 rfl (by decide) rfl ?_
  refine z_iinc (v := x3 + (1 : Int32)) 3 d_Model_has_102 rfl rfl (by decide) rfl ?_
  refine z_goto (tgt := 15) d_Model_has_105 (by decide) ?_
  refine z_sub [2, 3, 1, 0] rfl ?_
  exact hk15 (x1, (y1 + y0), (x3 + (1 : Int32)), σ) h
theorem zb_Model_has_73 {l : Launch} {θ : ZT} {res : Int32 × ZM} {k15 : Int32 × Int32 × Int32 × ZM → Option (Int32 × ZM)} (hk15 : ∀ a : Int32 × Int32 × Int32 × ZM, k15 a = some res → WZ l b_Model_has 6 (some .int) "BakedBeforeModel" 129 14 θ (zrm 40 952) (zQ mkI 129 14 θ res) a.2.2.2 [(0, .ref (za θ 129)), (1, .int a.1), (2, .int a.2.1), (3, .int a.2.2.1)] 15 []) {x1 : Int32} {x2 : Int32} {x3 : Int32} {y0 : Int32} {σ : ZM} (h : f_Model_has_73 k15 x1 x2 x3 y0 σ = some res) : WZ l b_Model_has 6 (some .int) "BakedBeforeModel" 129 14 θ (zrm 40 952) (zQ mkI 129 14 θ res) σ [(0, .ref (za θ 129)), (1, .int x1), (2, .int x2), (3, .int x3)] 73 [.int y0] := by
  unfold f_Model_has_73 at h
  refine z_istore d_Model_has_73 (by decide) rfl ?_
  refine z_iload_n 3 d_Model_has_75 rfl rfl ?_
  refine z_iload_n 2 d_Model_has_76 rfl rfl ?_
  refine z_iload_n 4 d_Model_has_77 rfl rfl ?_
  refine z_icmp_ne (tgt := 86) d_Model_has_78 (by decide) (fun c1 => ?_) (fun c1 => ?_)
  · have h := (if_neg c1).symm.trans h
    refine z_iload_n 2 d_Model_has_86 rfl rfl ?_
    refine z_iload_n 4 d_Model_has_87 rfl rfl ?_
    refine z_iconst (v := 1) d_Model_has_88 (by decide) ?_
    refine z_iadd d_Model_has_89 ?_
    refine z_icmp_ne (tgt := 99) d_Model_has_90 (by decide) (fun c2 => ?_) (fun c2 => ?_)
    · have h := (if_neg c2).symm.trans h
      refine z_iconst (v := 0) d_Model_has_99 (by decide) ?_
      refine z_sub [1, 2, 4] rfl ?_
      exact zb_Model_has_100 hk15 h
    · have h := (if_pos c2).symm.trans h
      refine z_iload 0 d_Model_has_93 rfl ?_
      refine z_ineg d_Model_has_95 ?_
      refine z_goto (tgt := 100) d_Model_has_96 (by decide) ?_
      refine z_sub [1, 2, 4] rfl ?_
      exact zb_Model_has_100 hk15 h
  · have h := (if_pos c1).symm.trans h
    refine z_iload 0 d_Model_has_81 rfl ?_
    refine z_goto (tgt := 100) d_Model_has_83 (by decide) ?_
    refine z_sub [1, 2, 4] rfl ?_
    exact zb_Model_has_100 hk15 h
theorem zb_Model_has_50 {l : Launch} {θ : ZT} {res : Int32 × ZM} {k15 : Int32 × Int32 × Int32 × ZM → Option (Int32 × ZM)} (hk15 : ∀ a : Int32 × Int32 × Int32 × ZM, k15 a = some res → WZ l b_Model_has 6 (some .int) "BakedBeforeModel" 129 14 θ (zrm 40 952) (zQ mkI 129 14 θ res) a.2.2.2 [(0, .ref (za θ 129)), (1, .int a.1), (2, .int a.2.1), (3, .int a.2.2.1)] 15 []) {x1 : Int32} {x2 : Int32} {x3 : Int32} {y0 : Int32} {σ : ZM} (h : f_Model_has_50 k15 x1 x2 x3 y0 σ = some res) : WZ l b_Model_has 6 (some .int) "BakedBeforeModel" 129 14 θ (zrm 40 952) (zQ mkI 129 14 θ res) σ [(0, .ref (za θ 129)), (1, .int x1), (2, .int x2), (3, .int x3)] 50 [.int y0] := by
  unfold f_Model_has_50 at h
  refine z_istore d_Model_has_50 (by decide) rfl ?_
  refine z_iload 0 d_Model_has_52 rfl ?_
  refine z_if_eq (tgt := 65) d_Model_has_54 (by decide) (fun c1 => ?_) (fun c1 => ?_)
  · have h := (if_pos c1).symm.trans h
    refine z_aload_n 1 d_Model_has_65 rfl rfl ?_
    refine z_iload_n 4 d_Model_has_66 rfl rfl ?_
    refine z_iconst (v := 1) d_Model_has_67 (by decide) ?_
    refine z_iadd d_Model_has_68 ?_
    obtain ⟨⟨v2, s3⟩, e4, h⟩ := zbd_i h
    refine w_callV (As := [.int (x3 + (1 : Int32))]) (kc := 22) (ci := 12) (c_Model_feeOf l θ e4) cf_Model_feeOf q_1064 d_Model_has_69 zl_129 rfl rfl rfl rfl rfl rfl (Nat.le_of_ble_eq_true rfl) rfl rfl ⟨Nat.le_of_ble_eq_true rfl, Nat.le_of_ble_eq_true rfl⟩ ?_
    refine z_ineg d_Model_has_72 ?_
    refine z_sub [1, 2, 3, 4] rfl ?_
    exact zb_Model_has_73 hk15 h
  · have h := (if_neg c1).symm.trans h
    refine z_aload_n 1 d_Model_has_57 rfl rfl ?_
    refine z_iload_n 4 d_Model_has_58 rfl rfl ?_
    obtain ⟨⟨v5, s6⟩, e7, h⟩ := zbd_i h
    refine w_callV (As := [.int x3]) (kc := 22) (ci := 12) (c_Model_feeOf l θ e7) cf_Model_feeOf q_1064 d_Model_has_59 zl_129 rfl rfl rfl rfl rfl rfl (Nat.le_of_ble_eq_true rfl) rfl rfl ⟨Nat.le_of_ble_eq_true rfl, Nat.le_of_ble_eq_true rfl⟩ ?_
    refine z_goto (tgt := 73) d_Model_has_62 (by decide) ?_
    refine z_sub [1, 2, 3, 4] rfl ?_
    exact zb_Model_has_73 hk15 h
theorem zb_Model_has_15 {l : Launch} {θ : ZT} {res : Int32 × ZM} {k15 : Int32 × Int32 × Int32 × ZM → Option (Int32 × ZM)} (hk15 : ∀ a : Int32 × Int32 × Int32 × ZM, k15 a = some res → WZ l b_Model_has 6 (some .int) "BakedBeforeModel" 129 14 θ (zrm 40 952) (zQ mkI 129 14 θ res) a.2.2.2 [(0, .ref (za θ 129)), (1, .int a.1), (2, .int a.2.1), (3, .int a.2.2.1)] 15 []) {x1 : Int32} {x2 : Int32} {x3 : Int32} {σ : ZM} (h : f_Model_has_15 k15 x1 x2 x3 σ = some res) : WZ l b_Model_has 6 (some .int) "BakedBeforeModel" 129 14 θ (zrm 40 952) (zQ mkI 129 14 θ res) σ [(0, .ref (za θ 129)), (1, .int x1), (2, .int x2), (3, .int x3)] 15 [] := by
  unfold f_Model_has_15 at h
  refine z_iload_n 3 d_Model_has_15 rfl rfl ?_
  refine z_iconst (v := 1) d_Model_has_16 (by decide) ?_
  refine z_iadd d_Model_has_17 ?_
  refine z_aload_n 0 d_Model_has_18 rfl rfl ?_
  refine gf_Model_s zl_129 d_Model_has_19 q_871 ?_
  refine z_iconst (v := 5) d_Model_has_22 (by decide) ?_
  obtain ⟨c1, h⟩ := zck_i h
  refine w_iald zl_130 c1 d_Model_has_23 ?_
  refine z_icmp_ge (tgt := 108) d_Model_has_24 (by decide) (fun c2 => ?_) (fun c2 => ?_)
  · have h := (if_pos c2).symm.trans h
    refine z_iload_n 2 d_Model_has_108 rfl rfl ?_
    exact z_iret d_Model_has_109 h
  · have h := (if_neg c2).symm.trans h
    refine z_aload_n 0 d_Model_has_27 rfl rfl ?_
    refine z_iload_n 3 d_Model_has_28 rfl rfl ?_
    refine z_iconst (v := 1) d_Model_has_29 (by decide) ?_
    refine z_iadd d_Model_has_30 ?_
    refine z_iload_n 3 d_Model_has_31 rfl rfl ?_
    obtain ⟨⟨v3, s4⟩, e5, h⟩ := zbd_i h
    refine w_callV (As := [.int (x3 + (1 : Int32)), .int x3]) (kc := 22) (ci := 12) (c_Model_takesBehind l θ e5) cf_Model_takesBehind q_1198 d_Model_has_32 zl_129 rfl rfl rfl rfl rfl rfl (Nat.le_of_ble_eq_true rfl) rfl rfl ⟨Nat.le_of_ble_eq_true rfl, Nat.le_of_ble_eq_true rfl⟩ ?_
    refine z_aload_n 0 d_Model_has_35 rfl rfl ?_
    refine z_iload_n 3 d_Model_has_36 rfl rfl ?_
    refine z_iconst (v := 1) d_Model_has_37 (by decide) ?_
    refine z_iadd d_Model_has_38 ?_
    obtain ⟨⟨v6, s7⟩, e8, h⟩ := zbd_i h
    refine w_callV (As := [.int (x3 + (1 : Int32))]) (kc := 22) (ci := 12) (c_Model_allTakes l θ e8) cf_Model_allTakes q_1173 d_Model_has_39 zl_129 rfl rfl rfl rfl rfl rfl (Nat.le_of_ble_eq_true rfl) rfl rfl ⟨Nat.le_of_ble_eq_true rfl, Nat.le_of_ble_eq_true rfl⟩ ?_
    refine z_icmp_ge (tgt := 49) d_Model_has_42 (by decide) (fun c9 => ?_) (fun c9 => ?_)
    · have h := (if_pos c9).symm.trans h
      refine z_iconst (v := 0) d_Model_has_49 (by decide) ?_
      exact zb_Model_has_50 hk15 h
    · have h := (if_neg c9).symm.trans h
      refine z_iconst (v := 1) d_Model_has_45 (by decide) ?_
      refine z_goto (tgt := 50) d_Model_has_46 (by decide) ?_
      exact zb_Model_has_50 hk15 h
theorem zl_Model_has_15 {l : Launch} {θ : ZT} {res : Int32 × ZM} : ∀ (N : Nat) (a : Int32 × Int32 × Int32 × ZM), F_Model_has_15 N a = some res → WZ l b_Model_has 6 (some .int) "BakedBeforeModel" 129 14 θ (zrm 40 952) (zQ mkI 129 14 θ res) a.2.2.2 [(0, .ref (za θ 129)), (1, .int a.1), (2, .int a.2.1), (3, .int a.2.2.1)] 15 [] := by
  intro N
  induction N with
  | zero => intro a  h; cases (show (none : Option (Int32 × ZM)) = some res from h)
  | succ N ih => intro a  h; exact zb_Model_has_15 ih (show f_Model_has_15 (F_Model_has_15 N) a.1 a.2.1 a.2.2.1 a.2.2.2 = some res from h)
theorem c_Model_has (l : Launch) (θ : ZT) {x1 : Int32} {σ : ZM} {res : Int32 × ZM} (h : f_Model_has x1 σ = some res) : zMet mkI l 129 14 θ y_Model_has b_Model_has 6 (some .int) (zrm 40 952) [.ref (za θ 129), .int x1] σ res := by
  unfold f_Model_has at h
  refine z_met (lv := [(0, .ref (za θ 129)), (1, .int x1)]) (by decide +kernel) rfl (Nat.le_of_ble_eq_true rfl) (by decide) ?_
  refine z_aload_n 0 d_Model_has_0 rfl rfl ?_
  refine z_iload_n 1 d_Model_has_1 rfl rfl ?_
  obtain ⟨⟨v1, s2⟩, e3, h⟩ := zbd_i h
  refine w_callV (As := [.int x1]) (kc := 22) (ci := 12) (c_Model_isLoaf l θ e3) cf_Model_isLoaf q_1053 d_Model_has_2 zl_129 rfl rfl rfl rfl rfl rfl (Nat.le_of_ble_eq_true rfl) rfl rfl ⟨Nat.le_of_ble_eq_true rfl, Nat.le_of_ble_eq_true rfl⟩ ?_
  refine z_if_ne (tgt := 11) d_Model_has_5 (by decide) (fun c4 => ?_) (fun c4 => ?_)
  · have h := (if_neg c4).symm.trans h
    refine z_iconst (v := 0) d_Model_has_11 (by decide) ?_
    refine z_istore_n d_Model_has_12 rfl (by decide) rfl ?_
    refine z_iconst (v := 0) d_Model_has_13 (by decide) ?_
    refine z_istore_n d_Model_has_14 rfl (by decide) rfl ?_
    refine z_sub [2, 3, 1, 0] rfl ?_
    exact zl_Model_has_15 2000 (x1, (0 : Int32), (0 : Int32), s2) h
  · have h := (if_pos c4).symm.trans h
    refine z_ldc (v := -100001) d_Model_has_8 q_1197 ?_
    exact z_iret d_Model_has_10 h
theorem d_Model_takesInRow_0 : decode b_Model_takesInRow 0 = .ok (.aload_n 0, 1) := by decide +kernel
theorem d_Model_takesInRow_1 : decode b_Model_takesInRow 1 = .ok (.invokevirtual 214, 3) := by decide +kernel
theorem d_Model_takesInRow_4 : decode b_Model_takesInRow 4 = .ok (.iconst (0), 1) := by decide +kernel
theorem d_Model_takesInRow_5 : decode b_Model_takesInRow 5 = .ok (.istore_n 3, 1) := by decide +kernel
theorem d_Model_takesInRow_6 : decode b_Model_takesInRow 6 = .ok (.iconst (0), 1) := by decide +kernel
theorem d_Model_takesInRow_7 : decode b_Model_takesInRow 7 = .ok (.istore 4, 2) := by decide +kernel
theorem d_Model_takesInRow_9 : decode b_Model_takesInRow 9 = .ok (.iload 4, 2) := by decide +kernel
theorem d_Model_takesInRow_11 : decode b_Model_takesInRow 11 = .ok (.aload_n 0, 1) := by decide +kernel
theorem d_Model_takesInRow_12 : decode b_Model_takesInRow 12 = .ok (.getfield 11, 3) := by decide +kernel
theorem d_Model_takesInRow_15 : decode b_Model_takesInRow 15 = .ok (.iconst (5), 1) := by decide +kernel
theorem d_Model_takesInRow_16 : decode b_Model_takesInRow 16 = .ok (.iaload, 1) := by decide +kernel
theorem d_Model_takesInRow_17 : decode b_Model_takesInRow 17 = .ok (.if_icmp .ge (69), 3) := by decide +kernel
theorem d_Model_takesInRow_20 : decode b_Model_takesInRow 20 = .ok (.iload 4, 2) := by decide +kernel
theorem d_Model_takesInRow_22 : decode b_Model_takesInRow 22 = .ok (.iload_n 2, 1) := by decide +kernel
theorem d_Model_takesInRow_23 : decode b_Model_takesInRow 23 = .ok (.if_icmp .ne (10), 3) := by decide +kernel
theorem d_Model_takesInRow_26 : decode b_Model_takesInRow 26 = .ok (.iload 4, 2) := by decide +kernel
theorem d_Model_takesInRow_28 : decode b_Model_takesInRow 28 = .ok (.iconst (1), 1) := by decide +kernel
theorem d_Model_takesInRow_29 : decode b_Model_takesInRow 29 = .ok (.iadd, 1) := by decide +kernel
theorem d_Model_takesInRow_30 : decode b_Model_takesInRow 30 = .ok (.goto (24), 3) := by decide +kernel
theorem d_Model_takesInRow_33 : decode b_Model_takesInRow 33 = .ok (.iload 4, 2) := by decide +kernel
theorem d_Model_takesInRow_35 : decode b_Model_takesInRow 35 = .ok (.iload_n 2, 1) := by decide +kernel
theorem d_Model_takesInRow_36 : decode b_Model_takesInRow 36 = .ok (.iconst (1), 1) := by decide +kernel
theorem d_Model_takesInRow_37 : decode b_Model_takesInRow 37 = .ok (.iadd, 1) := by decide +kernel
theorem d_Model_takesInRow_38 : decode b_Model_takesInRow 38 = .ok (.if_icmp .ne (14), 3) := by decide +kernel
theorem d_Model_takesInRow_41 : decode b_Model_takesInRow 41 = .ok (.iload_n 2, 1) := by decide +kernel
theorem d_Model_takesInRow_42 : decode b_Model_takesInRow 42 = .ok (.ifCond .lt (10), 3) := by decide +kernel
theorem d_Model_takesInRow_45 : decode b_Model_takesInRow 45 = .ok (.iload 4, 2) := by decide +kernel
theorem d_Model_takesInRow_47 : decode b_Model_takesInRow 47 = .ok (.iconst (1), 1) := by decide +kernel
theorem d_Model_takesInRow_48 : decode b_Model_takesInRow 48 = .ok (.isub, 1) := by decide +kernel
theorem d_Model_takesInRow_49 : decode b_Model_takesInRow 49 = .ok (.goto (5), 3) := by decide +kernel
theorem d_Model_takesInRow_52 : decode b_Model_takesInRow 52 = .ok (.iload 4, 2) := by decide +kernel
theorem d_Model_takesInRow_54 : decode b_Model_takesInRow 54 = .ok (.istore 5, 2) := by decide +kernel
theorem d_Model_takesInRow_56 : decode b_Model_takesInRow 56 = .ok (.iload 5, 2) := by decide +kernel
theorem d_Model_takesInRow_58 : decode b_Model_takesInRow 58 = .ok (.iload_n 1, 1) := by decide +kernel
theorem d_Model_takesInRow_59 : decode b_Model_takesInRow 59 = .ok (.if_icmp .ne (11), 3) := by decide +kernel
theorem d_Model_takesInRow_62 : decode b_Model_takesInRow 62 = .ok (.aload_n 0, 1) := by decide +kernel
theorem d_Model_takesInRow_63 : decode b_Model_takesInRow 63 = .ok (.iload_n 1, 1) := by decide +kernel
theorem d_Model_takesInRow_64 : decode b_Model_takesInRow 64 = .ok (.invokevirtual 241, 3) := by decide +kernel
theorem d_Model_takesInRow_67 : decode b_Model_takesInRow 67 = .ok (.goto (4), 3) := by decide +kernel
theorem d_Model_takesInRow_70 : decode b_Model_takesInRow 70 = .ok (.iload_n 3, 1) := by decide +kernel
theorem d_Model_takesInRow_71 : decode b_Model_takesInRow 71 = .ok (.istore_n 3, 1) := by decide +kernel
theorem d_Model_takesInRow_72 : decode b_Model_takesInRow 72 = .ok (.aload_n 0, 1) := by decide +kernel
theorem d_Model_takesInRow_73 : decode b_Model_takesInRow 73 = .ok (.iload 5, 2) := by decide +kernel
theorem d_Model_takesInRow_75 : decode b_Model_takesInRow 75 = .ok (.invokevirtual 208, 3) := by decide +kernel
theorem d_Model_takesInRow_78 : decode b_Model_takesInRow 78 = .ok (.istore 6, 2) := by decide +kernel
theorem d_Model_takesInRow_80 : decode b_Model_takesInRow 80 = .ok (.iinc 4 (1), 3) := by decide +kernel
theorem d_Model_takesInRow_83 : decode b_Model_takesInRow 83 = .ok (.goto (-74), 3) := by decide +kernel
theorem d_Model_takesInRow_86 : decode b_Model_takesInRow 86 = .ok (.aload_n 0, 1) := by decide +kernel
theorem d_Model_takesInRow_87 : decode b_Model_takesInRow 87 = .ok (.invokevirtual 217, 3) := by decide +kernel
theorem d_Model_takesInRow_90 : decode b_Model_takesInRow 90 = .ok (.iload_n 3, 1) := by decide +kernel
theorem d_Model_takesInRow_91 : decode b_Model_takesInRow 91 = .ok (.ireturn, 1) := by decide +kernel
theorem zb_Model_takesInRow_71 {l : Launch} {θ : ZT} {res : Int32 × ZM} {k9 : Int32 × Int32 × Int32 × Int32 × ZM → Option (Int32 × ZM)} (hk9 : ∀ a : Int32 × Int32 × Int32 × Int32 × ZM, k9 a = some res → WZ l b_Model_takesInRow 7 (some .int) "BakedBeforeModel" 129 14 θ (zrm 39 928) (zQ mkI 129 14 θ res) a.2.2.2.2 [(0, .ref (za θ 129)), (1, .int a.1), (2, .int a.2.1), (3, .int a.2.2.1), (4, .int a.2.2.2.1)] 9 []) {x1 : Int32} {x2 : Int32} {x4 : Int32} {x5 : Int32} {y0 : Int32} {σ : ZM} (h : f_Model_takesInRow_71 k9 x1 x2 x4 x5 y0 σ = some res) : WZ l b_Model_takesInRow 7 (some .int) "BakedBeforeModel" 129 14 θ (zrm 39 928) (zQ mkI 129 14 θ res) σ [(0, .ref (za θ 129)), (1, .int x1), (2, .int x2), (4, .int x4), (5, .int x5)] 71 [.int y0] := by
  unfold f_Model_takesInRow_71 at h
  refine z_istore_n d_Model_takesInRow_71 rfl (by decide) rfl ?_
  refine z_aload_n 1 d_Model_takesInRow_72 rfl rfl ?_
  refine z_iload 5 d_Model_takesInRow_73 rfl ?_
  obtain ⟨⟨v1, s2⟩, e3, h⟩ := zbd_i h
  refine w_callV (As := [.int x5]) (kc := 22) (ci := 12) (c_Model_bakes l θ e3) cf_Model_bakes q_1104 d_Model_takesInRow_75 zl_129 rfl rfl rfl rfl rfl rfl (Nat.le_of_ble_eq_true rfl) rfl rfl ⟨Nat.le_of_ble_eq_true rfl, Nat.le_of_ble_eq_true rfl⟩ ?_
  refine z_istore d_Model_takesInRow_78 (by decide) rfl ?_
  refine z_iinc (v := x4 + (1 : Int32)) 5 d_Model_takesInRow_80 rfl rfl (by decide) rfl ?_
  refine z_goto (tgt := 9) d_Model_takesInRow_83 (by decide) ?_
  refine z_sub [3, 4, 5, 2, 0] rfl ?_
  exact hk9 (x1, x2, y0, (x4 + (1 : Int32)), s2) h
theorem zb_Model_takesInRow_54 {l : Launch} {θ : ZT} {res : Int32 × ZM} {k9 : Int32 × Int32 × Int32 × Int32 × ZM → Option (Int32 × ZM)} (hk9 : ∀ a : Int32 × Int32 × Int32 × Int32 × ZM, k9 a = some res → WZ l b_Model_takesInRow 7 (some .int) "BakedBeforeModel" 129 14 θ (zrm 39 928) (zQ mkI 129 14 θ res) a.2.2.2.2 [(0, .ref (za θ 129)), (1, .int a.1), (2, .int a.2.1), (3, .int a.2.2.1), (4, .int a.2.2.2.1)] 9 []) {x1 : Int32} {x2 : Int32} {x3 : Int32} {x4 : Int32} {y0 : Int32} {σ : ZM} (h : f_Model_takesInRow_54 k9 x1 x2 x3 x4 y0 σ = some res) : WZ l b_Model_takesInRow 7 (some .int) "BakedBeforeModel" 129 14 θ (zrm 39 928) (zQ mkI 129 14 θ res) σ [(0, .ref (za θ 129)), (1, .int x1), (2, .int x2), (3, .int x3), (4, .int x4)] 54 [.int y0] := by
  unfold f_Model_takesInRow_54 at h
  refine z_istore d_Model_takesInRow_54 (by decide) rfl ?_
  refine z_iload 0 d_Model_takesInRow_56 rfl ?_
  refine z_iload_n 2 d_Model_takesInRow_58 rfl rfl ?_
  refine z_icmp_ne (tgt := 70) d_Model_takesInRow_59 (by decide) (fun c1 => ?_) (fun c1 => ?_)
  · have h := (if_neg c1).symm.trans h
    refine z_iload_n 4 d_Model_takesInRow_70 rfl rfl ?_
    refine z_sub [1, 2, 3, 5, 0] rfl ?_
    exact zb_Model_takesInRow_71 hk9 h
  · have h := (if_pos c1).symm.trans h
    refine z_aload_n 1 d_Model_takesInRow_62 rfl rfl ?_
    refine z_iload_n 2 d_Model_takesInRow_63 rfl rfl ?_
    obtain ⟨⟨v2, s3⟩, e4, h⟩ := zbd_i h
    refine w_callV (As := [.int x1]) (kc := 22) (ci := 12) (c_Model_allTakes l θ e4) cf_Model_allTakes q_1173 d_Model_takesInRow_64 zl_129 rfl rfl rfl rfl rfl rfl (Nat.le_of_ble_eq_true rfl) rfl rfl ⟨Nat.le_of_ble_eq_true rfl, Nat.le_of_ble_eq_true rfl⟩ ?_
    refine z_goto (tgt := 71) d_Model_takesInRow_67 (by decide) ?_
    refine z_sub [1, 2, 3, 5, 0] rfl ?_
    exact zb_Model_takesInRow_71 hk9 h
theorem zb_Model_takesInRow_52 {l : Launch} {θ : ZT} {res : Int32 × ZM} {k9 : Int32 × Int32 × Int32 × Int32 × ZM → Option (Int32 × ZM)} (hk9 : ∀ a : Int32 × Int32 × Int32 × Int32 × ZM, k9 a = some res → WZ l b_Model_takesInRow 7 (some .int) "BakedBeforeModel" 129 14 θ (zrm 39 928) (zQ mkI 129 14 θ res) a.2.2.2.2 [(0, .ref (za θ 129)), (1, .int a.1), (2, .int a.2.1), (3, .int a.2.2.1), (4, .int a.2.2.2.1)] 9 []) {x1 : Int32} {x2 : Int32} {x3 : Int32} {x4 : Int32} {σ : ZM} (h : f_Model_takesInRow_52 k9 x1 x2 x3 x4 σ = some res) : WZ l b_Model_takesInRow 7 (some .int) "BakedBeforeModel" 129 14 θ (zrm 39 928) (zQ mkI 129 14 θ res) σ [(0, .ref (za θ 129)), (1, .int x1), (2, .int x2), (3, .int x3), (4, .int x4)] 52 [] := by
  unfold f_Model_takesInRow_52 at h
  refine z_iload 4 d_Model_takesInRow_52 rfl ?_
  exact zb_Model_takesInRow_54 hk9 h
theorem zb_Model_takesInRow_9 {l : Launch} {θ : ZT} {res : Int32 × ZM} {k9 : Int32 × Int32 × Int32 × Int32 × ZM → Option (Int32 × ZM)} (hk9 : ∀ a : Int32 × Int32 × Int32 × Int32 × ZM, k9 a = some res → WZ l b_Model_takesInRow 7 (some .int) "BakedBeforeModel" 129 14 θ (zrm 39 928) (zQ mkI 129 14 θ res) a.2.2.2.2 [(0, .ref (za θ 129)), (1, .int a.1), (2, .int a.2.1), (3, .int a.2.2.1), (4, .int a.2.2.2.1)] 9 []) {x1 : Int32} {x2 : Int32} {x3 : Int32} {x4 : Int32} {σ : ZM} (h : f_Model_takesInRow_9 k9 x1 x2 x3 x4 σ = some res) : WZ l b_Model_takesInRow 7 (some .int) "BakedBeforeModel" 129 14 θ (zrm 39 928) (zQ mkI 129 14 θ res) σ [(0, .ref (za θ 129)), (1, .int x1), (2, .int x2), (3, .int x3), (4, .int x4)] 9 [] := by
  unfold f_Model_takesInRow_9 at h
  refine z_iload 4 d_Model_takesInRow_9 rfl ?_
  refine z_aload_n 0 d_Model_takesInRow_11 rfl rfl ?_
  refine gf_Model_s zl_129 d_Model_takesInRow_12 q_871 ?_
  refine z_iconst (v := 5) d_Model_takesInRow_15 (by decide) ?_
  obtain ⟨c1, h⟩ := zck_i h
  refine w_iald zl_130 c1 d_Model_takesInRow_16 ?_
  refine z_icmp_ge (tgt := 86) d_Model_takesInRow_17 (by decide) (fun c2 => ?_) (fun c2 => ?_)
  · have h := (if_pos c2).symm.trans h
    refine z_aload_n 0 d_Model_takesInRow_86 rfl rfl ?_
    obtain ⟨⟨v3, s4⟩, e5, h⟩ := zbd_i h
    refine w_callV (As := []) (kc := 22) (ci := 12) (c_Model_ends l θ e5) cf_Model_ends q_1131 d_Model_takesInRow_87 zl_129 rfl rfl rfl rfl rfl rfl (Nat.le_of_ble_eq_true rfl) rfl rfl ⟨Nat.le_of_ble_eq_true rfl, Nat.le_of_ble_eq_true rfl⟩ ?_
    refine z_iload_n 3 d_Model_takesInRow_90 rfl rfl ?_
    exact z_iret d_Model_takesInRow_91 h
  · have h := (if_neg c2).symm.trans h
    refine z_iload 4 d_Model_takesInRow_20 rfl ?_
    refine z_iload_n 2 d_Model_takesInRow_22 rfl rfl ?_
    refine z_icmp_ne (tgt := 33) d_Model_takesInRow_23 (by decide) (fun c6 => ?_) (fun c6 => ?_)
    · have h := (if_neg c6).symm.trans h
      refine z_iload 4 d_Model_takesInRow_33 rfl ?_
      refine z_iload_n 2 d_Model_takesInRow_35 rfl rfl ?_
      refine z_iconst (v := 1) d_Model_takesInRow_36 (by decide) ?_
      refine z_iadd d_Model_takesInRow_37 ?_
      refine z_icmp_ne (tgt := 52) d_Model_takesInRow_38 (by decide) (fun c7 => ?_) (fun c7 => ?_)
      · have h := (if_neg c7).symm.trans h
        exact zb_Model_takesInRow_52 hk9 h
      · have h := (if_pos c7).symm.trans h
        refine z_iload_n 2 d_Model_takesInRow_41 rfl rfl ?_
        refine z_if_lt (tgt := 52) d_Model_takesInRow_42 (by decide) (fun c8 => ?_) (fun c8 => ?_)
        · have h := (if_pos c8).symm.trans h
          exact zb_Model_takesInRow_52 hk9 h
        · have h := (if_neg c8).symm.trans h
          refine z_iload 4 d_Model_takesInRow_45 rfl ?_
          refine z_iconst (v := 1) d_Model_takesInRow_47 (by decide) ?_
          refine z_isub d_Model_takesInRow_48 ?_
          refine z_goto (tgt := 54) d_Model_takesInRow_49 (by decide) ?_
          exact zb_Model_takesInRow_54 hk9 h
    · have h := (if_pos c6).symm.trans h
      refine z_iload 4 d_Model_takesInRow_26 rfl ?_
      refine z_iconst (v := 1) d_Model_takesInRow_28 (by decide) ?_
      refine z_iadd d_Model_takesInRow_29 ?_
      refine z_goto (tgt := 54) d_Model_takesInRow_30 (by decide) ?_
      exact zb_Model_takesInRow_54 hk9 h
theorem zl_Model_takesInRow_9 {l : Launch} {θ : ZT} {res : Int32 × ZM} : ∀ (N : Nat) (a : Int32 × Int32 × Int32 × Int32 × ZM), F_Model_takesInRow_9 N a = some res → WZ l b_Model_takesInRow 7 (some .int) "BakedBeforeModel" 129 14 θ (zrm 39 928) (zQ mkI 129 14 θ res) a.2.2.2.2 [(0, .ref (za θ 129)), (1, .int a.1), (2, .int a.2.1), (3, .int a.2.2.1), (4, .int a.2.2.2.1)] 9 [] := by
  intro N
  induction N with
  | zero => intro a  h; cases (show (none : Option (Int32 × ZM)) = some res from h)
  | succ N ih => intro a  h; exact zb_Model_takesInRow_9 ih (show f_Model_takesInRow_9 (F_Model_takesInRow_9 N) a.1 a.2.1 a.2.2.1 a.2.2.2.1 a.2.2.2.2 = some res from h)
theorem c_Model_takesInRow (l : Launch) (θ : ZT) {x1 : Int32} {x2 : Int32} {σ : ZM} {res : Int32 × ZM} (h : f_Model_takesInRow x1 x2 σ = some res) : zMet mkI l 129 14 θ y_Model_takesInRow b_Model_takesInRow 7 (some .int) (zrm 39 928) [.ref (za θ 129), .int x1, .int x2] σ res := by
  unfold f_Model_takesInRow at h
  refine z_met (lv := [(0, .ref (za θ 129)), (1, .int x1), (2, .int x2)]) (by decide +kernel) rfl (Nat.le_of_ble_eq_true rfl) (by decide) ?_
  refine z_aload_n 0 d_Model_takesInRow_0 rfl rfl ?_
  obtain ⟨⟨v1, s2⟩, e3, h⟩ := zbd_i h
  refine w_callV (As := []) (kc := 22) (ci := 12) (c_Model_begins l θ e3) cf_Model_begins q_1124 d_Model_takesInRow_1 zl_129 rfl rfl rfl rfl rfl rfl (Nat.le_of_ble_eq_true rfl) rfl rfl ⟨Nat.le_of_ble_eq_true rfl, Nat.le_of_ble_eq_true rfl⟩ ?_
  refine z_iconst (v := 0) d_Model_takesInRow_4 (by decide) ?_
  refine z_istore_n d_Model_takesInRow_5 rfl (by decide) rfl ?_
  refine z_iconst (v := 0) d_Model_takesInRow_6 (by decide) ?_
  refine z_istore d_Model_takesInRow_7 (by decide) rfl ?_
  refine z_sub [2, 3, 4, 1, 0] rfl ?_
  exact zl_Model_takesInRow_9 2000 (x1, x2, (0 : Int32), (0 : Int32), s2) h
theorem d_Model_swaps_0 : decode b_Model_swaps 0 = .ok (.aload_n 0, 1) := by decide +kernel
theorem d_Model_swaps_1 : decode b_Model_swaps 1 = .ok (.iload_n 1, 1) := by decide +kernel
theorem d_Model_swaps_2 : decode b_Model_swaps 2 = .ok (.invokevirtual 199, 3) := by decide +kernel
theorem d_Model_swaps_5 : decode b_Model_swaps 5 = .ok (.ifCond .eq (13), 3) := by decide +kernel
theorem d_Model_swaps_8 : decode b_Model_swaps 8 = .ok (.aload_n 0, 1) := by decide +kernel
theorem d_Model_swaps_9 : decode b_Model_swaps 9 = .ok (.iload_n 1, 1) := by decide +kernel
theorem d_Model_swaps_10 : decode b_Model_swaps 10 = .ok (.iconst (1), 1) := by decide +kernel
theorem d_Model_swaps_11 : decode b_Model_swaps 11 = .ok (.iadd, 1) := by decide +kernel
theorem d_Model_swaps_12 : decode b_Model_swaps 12 = .ok (.invokevirtual 199, 3) := by decide +kernel
theorem d_Model_swaps_15 : decode b_Model_swaps 15 = .ok (.ifCond .ne (5), 3) := by decide +kernel
theorem d_Model_swaps_18 : decode b_Model_swaps 18 = .ok (.iconst (-1), 1) := by decide +kernel
theorem d_Model_swaps_19 : decode b_Model_swaps 19 = .ok (.ireturn, 1) := by decide +kernel
theorem d_Model_swaps_20 : decode b_Model_swaps 20 = .ok (.aload_n 0, 1) := by decide +kernel
theorem d_Model_swaps_21 : decode b_Model_swaps 21 = .ok (.iload_n 1, 1) := by decide +kernel
theorem d_Model_swaps_22 : decode b_Model_swaps 22 = .ok (.bipush (-5), 2) := by decide +kernel
theorem d_Model_swaps_24 : decode b_Model_swaps 24 = .ok (.invokevirtual 258, 3) := by decide +kernel
theorem d_Model_swaps_27 : decode b_Model_swaps 27 = .ok (.istore_n 2, 1) := by decide +kernel
theorem d_Model_swaps_28 : decode b_Model_swaps 28 = .ok (.aload_n 0, 1) := by decide +kernel
theorem d_Model_swaps_29 : decode b_Model_swaps 29 = .ok (.iload_n 1, 1) := by decide +kernel
theorem d_Model_swaps_30 : decode b_Model_swaps 30 = .ok (.iconst (1), 1) := by decide +kernel
theorem d_Model_swaps_31 : decode b_Model_swaps 31 = .ok (.iadd, 1) := by decide +kernel
theorem d_Model_swaps_32 : decode b_Model_swaps 32 = .ok (.bipush (-5), 2) := by decide +kernel
theorem d_Model_swaps_34 : decode b_Model_swaps 34 = .ok (.invokevirtual 258, 3) := by decide +kernel
theorem d_Model_swaps_37 : decode b_Model_swaps 37 = .ok (.istore_n 3, 1) := by decide +kernel
theorem d_Model_swaps_38 : decode b_Model_swaps 38 = .ok (.aload_n 0, 1) := by decide +kernel
theorem d_Model_swaps_39 : decode b_Model_swaps 39 = .ok (.iload_n 1, 1) := by decide +kernel
theorem d_Model_swaps_40 : decode b_Model_swaps 40 = .ok (.iload_n 1, 1) := by decide +kernel
theorem d_Model_swaps_41 : decode b_Model_swaps 41 = .ok (.invokevirtual 258, 3) := by decide +kernel
theorem d_Model_swaps_44 : decode b_Model_swaps 44 = .ok (.istore 4, 2) := by decide +kernel
theorem d_Model_swaps_46 : decode b_Model_swaps 46 = .ok (.aload_n 0, 1) := by decide +kernel
theorem d_Model_swaps_47 : decode b_Model_swaps 47 = .ok (.iload_n 1, 1) := by decide +kernel
theorem d_Model_swaps_48 : decode b_Model_swaps 48 = .ok (.iconst (1), 1) := by decide +kernel
theorem d_Model_swaps_49 : decode b_Model_swaps 49 = .ok (.iadd, 1) := by decide +kernel
theorem d_Model_swaps_50 : decode b_Model_swaps 50 = .ok (.iload_n 1, 1) := by decide +kernel
theorem d_Model_swaps_51 : decode b_Model_swaps 51 = .ok (.invokevirtual 258, 3) := by decide +kernel
theorem d_Model_swaps_54 : decode b_Model_swaps 54 = .ok (.istore 5, 2) := by decide +kernel
theorem d_Model_swaps_56 : decode b_Model_swaps 56 = .ok (.iload 4, 2) := by decide +kernel
theorem d_Model_swaps_58 : decode b_Model_swaps 58 = .ok (.iload_n 2, 1) := by decide +kernel
theorem d_Model_swaps_59 : decode b_Model_swaps 59 = .ok (.if_icmp .gt (24), 3) := by decide +kernel
theorem d_Model_swaps_62 : decode b_Model_swaps 62 = .ok (.iload 5, 2) := by decide +kernel
theorem d_Model_swaps_64 : decode b_Model_swaps 64 = .ok (.iload_n 3, 1) := by decide +kernel
theorem d_Model_swaps_65 : decode b_Model_swaps 65 = .ok (.if_icmp .gt (18), 3) := by decide +kernel
theorem d_Model_swaps_68 : decode b_Model_swaps 68 = .ok (.iload 4, 2) := by decide +kernel
theorem d_Model_swaps_70 : decode b_Model_swaps 70 = .ok (.iload 5, 2) := by decide +kernel
theorem d_Model_swaps_72 : decode b_Model_swaps 72 = .ok (.iadd, 1) := by decide +kernel
theorem d_Model_swaps_73 : decode b_Model_swaps 73 = .ok (.iload_n 2, 1) := by decide +kernel
theorem d_Model_swaps_74 : decode b_Model_swaps 74 = .ok (.iload_n 3, 1) := by decide +kernel
theorem d_Model_swaps_75 : decode b_Model_swaps 75 = .ok (.iadd, 1) := by decide +kernel
theorem d_Model_swaps_76 : decode b_Model_swaps 76 = .ok (.if_icmp .ge (7), 3) := by decide +kernel
theorem d_Model_swaps_79 : decode b_Model_swaps 79 = .ok (.iconst (1), 1) := by decide +kernel
theorem d_Model_swaps_80 : decode b_Model_swaps 80 = .ok (.goto (4), 3) := by decide +kernel
theorem d_Model_swaps_83 : decode b_Model_swaps 83 = .ok (.iconst (0), 1) := by decide +kernel
theorem d_Model_swaps_84 : decode b_Model_swaps 84 = .ok (.ireturn, 1) := by decide +kernel
theorem c_Model_swaps (l : Launch) (θ : ZT) {x1 : Int32} {σ : ZM} {res : Int32 × ZM} (h : f_Model_swaps x1 σ = some res) : zMet mkI l 129 14 θ y_Model_swaps b_Model_swaps 6 (some .int) (zrm 40 954) [.ref (za θ 129), .int x1] σ res := by
  unfold f_Model_swaps at h
  refine z_met (lv := [(0, .ref (za θ 129)), (1, .int x1)]) (by decide +kernel) rfl (Nat.le_of_ble_eq_true rfl) (by decide) ?_
  refine z_aload_n 0 d_Model_swaps_0 rfl rfl ?_
  refine z_iload_n 1 d_Model_swaps_1 rfl rfl ?_
  obtain ⟨⟨v1, s2⟩, e3, h⟩ := zbd_i h
  refine w_callV (As := [.int x1]) (kc := 22) (ci := 12) (c_Model_isLoaf l θ e3) cf_Model_isLoaf q_1053 d_Model_swaps_2 zl_129 rfl rfl rfl rfl rfl rfl (Nat.le_of_ble_eq_true rfl) rfl rfl ⟨Nat.le_of_ble_eq_true rfl, Nat.le_of_ble_eq_true rfl⟩ ?_
  refine z_if_eq (tgt := 18) d_Model_swaps_5 (by decide) (fun c4 => ?_) (fun c4 => ?_)
  · have h := (if_pos c4).symm.trans h
    refine z_iconst (v := -1) d_Model_swaps_18 (by decide) ?_
    exact z_iret d_Model_swaps_19 h
  · have h := (if_neg c4).symm.trans h
    refine z_aload_n 0 d_Model_swaps_8 rfl rfl ?_
    refine z_iload_n 1 d_Model_swaps_9 rfl rfl ?_
    refine z_iconst (v := 1) d_Model_swaps_10 (by decide) ?_
    refine z_iadd d_Model_swaps_11 ?_
    obtain ⟨⟨v5, s6⟩, e7, h⟩ := zbd_i h
    refine w_callV (As := [.int (x1 + (1 : Int32))]) (kc := 22) (ci := 12) (c_Model_isLoaf l θ e7) cf_Model_isLoaf q_1053 d_Model_swaps_12 zl_129 rfl rfl rfl rfl rfl rfl (Nat.le_of_ble_eq_true rfl) rfl rfl ⟨Nat.le_of_ble_eq_true rfl, Nat.le_of_ble_eq_true rfl⟩ ?_
    refine z_if_ne (tgt := 20) d_Model_swaps_15 (by decide) (fun c8 => ?_) (fun c8 => ?_)
    · have h := (if_neg c8).symm.trans h
      refine z_aload_n 0 d_Model_swaps_20 rfl rfl ?_
      refine z_iload_n 1 d_Model_swaps_21 rfl rfl ?_
      refine z_bipush (v := -5) d_Model_swaps_22 (by decide) ?_
      obtain ⟨⟨v9, s10⟩, e11, h⟩ := zbd_i h
      refine w_callV (As := [.int x1, .int (-5 : Int32)]) (kc := 22) (ci := 12) (c_Model_takesInRow l θ e11) cf_Model_takesInRow q_1206 d_Model_swaps_24 zl_129 rfl rfl rfl rfl rfl rfl (Nat.le_of_ble_eq_true rfl) rfl rfl ⟨Nat.le_of_ble_eq_true rfl, Nat.le_of_ble_eq_true rfl⟩ ?_
      refine z_istore_n d_Model_swaps_27 rfl (by decide) rfl ?_
      refine z_aload_n 1 d_Model_swaps_28 rfl rfl ?_
      refine z_iload_n 2 d_Model_swaps_29 rfl rfl ?_
      refine z_iconst (v := 1) d_Model_swaps_30 (by decide) ?_
      refine z_iadd d_Model_swaps_31 ?_
      refine z_bipush (v := -5) d_Model_swaps_32 (by decide) ?_
      obtain ⟨⟨v12, s13⟩, e14, h⟩ := zbd_i h
      refine w_callV (As := [.int (x1 + (1 : Int32)), .int (-5 : Int32)]) (kc := 22) (ci := 12) (c_Model_takesInRow l θ e14) cf_Model_takesInRow q_1206 d_Model_swaps_34 zl_129 rfl rfl rfl rfl rfl rfl (Nat.le_of_ble_eq_true rfl) rfl rfl ⟨Nat.le_of_ble_eq_true rfl, Nat.le_of_ble_eq_true rfl⟩ ?_
      refine z_istore_n d_Model_swaps_37 rfl (by decide) rfl ?_
      refine z_aload_n 2 d_Model_swaps_38 rfl rfl ?_
      refine z_iload_n 3 d_Model_swaps_39 rfl rfl ?_
      refine z_iload_n 3 d_Model_swaps_40 rfl rfl ?_
      obtain ⟨⟨v15, s16⟩, e17, h⟩ := zbd_i h
      refine w_callV (As := [.int x1, .int x1]) (kc := 22) (ci := 12) (c_Model_takesInRow l θ e17) cf_Model_takesInRow q_1206 d_Model_swaps_41 zl_129 rfl rfl rfl rfl rfl rfl (Nat.le_of_ble_eq_true rfl) rfl rfl ⟨Nat.le_of_ble_eq_true rfl, Nat.le_of_ble_eq_true rfl⟩ ?_
      refine z_istore d_Model_swaps_44 (by decide) rfl ?_
      refine z_aload_n 3 d_Model_swaps_46 rfl rfl ?_
      refine z_iload_n 4 d_Model_swaps_47 rfl rfl ?_
      refine z_iconst (v := 1) d_Model_swaps_48 (by decide) ?_
      refine z_iadd d_Model_swaps_49 ?_
      refine z_iload_n 4 d_Model_swaps_50 rfl rfl ?_
      obtain ⟨⟨v18, s19⟩, e20, h⟩ := zbd_i h
      refine w_callV (As := [.int (x1 + (1 : Int32)), .int x1]) (kc := 22) (ci := 12) (c_Model_takesInRow l θ e20) cf_Model_takesInRow q_1206 d_Model_swaps_51 zl_129 rfl rfl rfl rfl rfl rfl (Nat.le_of_ble_eq_true rfl) rfl rfl ⟨Nat.le_of_ble_eq_true rfl, Nat.le_of_ble_eq_true rfl⟩ ?_
      refine z_istore d_Model_swaps_54 (by decide) rfl ?_
      refine z_iload 1 d_Model_swaps_56 rfl ?_
      refine z_iload_n 3 d_Model_swaps_58 rfl rfl ?_
      refine z_icmp_gt (tgt := 83) d_Model_swaps_59 (by decide) (fun c21 => ?_) (fun c21 => ?_)
      · have h := (if_pos c21).symm.trans h
        refine z_iconst (v := 0) d_Model_swaps_83 (by decide) ?_
        exact z_iret d_Model_swaps_84 h
      · have h := (if_neg c21).symm.trans h
        refine z_iload 0 d_Model_swaps_62 rfl ?_
        refine z_iload_n 2 d_Model_swaps_64 rfl rfl ?_
        refine z_icmp_gt (tgt := 83) d_Model_swaps_65 (by decide) (fun c22 => ?_) (fun c22 => ?_)
        · have h := (if_pos c22).symm.trans h
          refine z_iconst (v := 0) d_Model_swaps_83 (by decide) ?_
          exact z_iret d_Model_swaps_84 h
        · have h := (if_neg c22).symm.trans h
          refine z_iload 1 d_Model_swaps_68 rfl ?_
          refine z_iload 0 d_Model_swaps_70 rfl ?_
          refine z_iadd d_Model_swaps_72 ?_
          refine z_iload_n 3 d_Model_swaps_73 rfl rfl ?_
          refine z_iload_n 2 d_Model_swaps_74 rfl rfl ?_
          refine z_iadd d_Model_swaps_75 ?_
          refine z_icmp_ge (tgt := 83) d_Model_swaps_76 (by decide) (fun c23 => ?_) (fun c23 => ?_)
          · have h := (if_pos c23).symm.trans h
            refine z_iconst (v := 0) d_Model_swaps_83 (by decide) ?_
            exact z_iret d_Model_swaps_84 h
          · have h := (if_neg c23).symm.trans h
            refine z_iconst (v := 1) d_Model_swaps_79 (by decide) ?_
            refine z_goto (tgt := 84) d_Model_swaps_80 (by decide) ?_
            exact z_iret d_Model_swaps_84 h
    · have h := (if_pos c8).symm.trans h
      refine z_iconst (v := -1) d_Model_swaps_18 (by decide) ?_
      exact z_iret d_Model_swaps_19 h
theorem d_Model_span_0 : decode b_Model_span 0 = .ok (.aload_n 0, 1) := by decide +kernel
theorem d_Model_span_1 : decode b_Model_span 1 = .ok (.iload_n 1, 1) := by decide +kernel
theorem d_Model_span_2 : decode b_Model_span 2 = .ok (.invokevirtual 199, 3) := by decide +kernel
theorem d_Model_span_5 : decode b_Model_span 5 = .ok (.ifCond .eq (20), 3) := by decide +kernel
theorem d_Model_span_8 : decode b_Model_span 8 = .ok (.iload_n 2, 1) := by decide +kernel
theorem d_Model_span_9 : decode b_Model_span 9 = .ok (.invokestatic 202, 3) := by decide +kernel
theorem d_Model_span_12 : decode b_Model_span 12 = .ok (.ifCond .eq (13), 3) := by decide +kernel
theorem d_Model_span_15 : decode b_Model_span 15 = .ok (.iload 4, 2) := by decide +kernel
theorem d_Model_span_17 : decode b_Model_span 17 = .ok (.iconst (0), 1) := by decide +kernel
theorem d_Model_span_18 : decode b_Model_span 18 = .ok (.iconst (1), 1) := by decide +kernel
theorem d_Model_span_19 : decode b_Model_span 19 = .ok (.invokestatic 52, 3) := by decide +kernel
theorem d_Model_span_22 : decode b_Model_span 22 = .ok (.ifCond .ne (5), 3) := by decide +kernel
theorem d_Model_span_25 : decode b_Model_span 25 = .ok (.iconst (-1), 1) := by decide +kernel
theorem d_Model_span_26 : decode b_Model_span 26 = .ok (.ireturn, 1) := by decide +kernel
theorem d_Model_span_27 : decode b_Model_span 27 = .ok (.iload_n 3, 1) := by decide +kernel
theorem d_Model_span_28 : decode b_Model_span 28 = .ok (.iconst (0), 1) := by decide +kernel
theorem d_Model_span_29 : decode b_Model_span 29 = .ok (.sipush (9999), 3) := by decide +kernel
theorem d_Model_span_32 : decode b_Model_span 32 = .ok (.invokestatic 52, 3) := by decide +kernel
theorem d_Model_span_35 : decode b_Model_span 35 = .ok (.ifCond .ne (6), 3) := by decide +kernel
theorem d_Model_span_38 : decode b_Model_span 38 = .ok (.bipush (-2), 2) := by decide +kernel
theorem d_Model_span_40 : decode b_Model_span 40 = .ok (.ireturn, 1) := by decide +kernel
theorem d_Model_span_41 : decode b_Model_span 41 = .ok (.bipush (-5), 2) := by decide +kernel
theorem d_Model_span_43 : decode b_Model_span 43 = .ok (.istore 5, 2) := by decide +kernel
theorem d_Model_span_45 : decode b_Model_span 45 = .ok (.bipush (-5), 2) := by decide +kernel
theorem d_Model_span_47 : decode b_Model_span 47 = .ok (.istore 6, 2) := by decide +kernel
theorem d_Model_span_49 : decode b_Model_span 49 = .ok (.aload_n 0, 1) := by decide +kernel
theorem d_Model_span_50 : decode b_Model_span 50 = .ok (.getfield 11, 3) := by decide +kernel
theorem d_Model_span_53 : decode b_Model_span 53 = .ok (.iload_n 2, 1) := by decide +kernel
theorem d_Model_span_54 : decode b_Model_span 54 = .ok (.iaload, 1) := by decide +kernel
theorem d_Model_span_55 : decode b_Model_span 55 = .ok (.istore 7, 2) := by decide +kernel
theorem d_Model_span_57 : decode b_Model_span 57 = .ok (.iconst (0), 1) := by decide +kernel
theorem d_Model_span_58 : decode b_Model_span 58 = .ok (.istore 8, 2) := by decide +kernel
theorem d_Model_span_60 : decode b_Model_span 60 = .ok (.iload 8, 2) := by decide +kernel
theorem d_Model_span_62 : decode b_Model_span 62 = .ok (.sipush (999), 3) := by decide +kernel
theorem d_Model_span_65 : decode b_Model_span 65 = .ok (.if_icmp .gt (97), 3) := by decide +kernel
theorem d_Model_span_68 : decode b_Model_span 68 = .ok (.aload_n 0, 1) := by decide +kernel
theorem d_Model_span_69 : decode b_Model_span 69 = .ok (.getfield 11, 3) := by decide +kernel
theorem d_Model_span_72 : decode b_Model_span 72 = .ok (.iload_n 2, 1) := by decide +kernel
theorem d_Model_span_73 : decode b_Model_span 73 = .ok (.bipush (10), 2) := by decide +kernel
theorem d_Model_span_75 : decode b_Model_span 75 = .ok (.iload 8, 2) := by decide +kernel
theorem d_Model_span_77 : decode b_Model_span 77 = .ok (.imul, 1) := by decide +kernel
theorem d_Model_span_78 : decode b_Model_span 78 = .ok (.iastore, 1) := by decide +kernel
theorem d_Model_span_79 : decode b_Model_span 79 = .ok (.aload_n 0, 1) := by decide +kernel
theorem d_Model_span_80 : decode b_Model_span 80 = .ok (.iload_n 1, 1) := by decide +kernel
theorem d_Model_span_81 : decode b_Model_span 81 = .ok (.iload_n 2, 1) := by decide +kernel
theorem d_Model_span_82 : decode b_Model_span 82 = .ok (.invokevirtual 180, 3) := by decide +kernel
theorem d_Model_span_85 : decode b_Model_span 85 = .ok (.istore 9, 2) := by decide +kernel
theorem d_Model_span_87 : decode b_Model_span 87 = .ok (.iconst (0), 1) := by decide +kernel
theorem d_Model_span_88 : decode b_Model_span 88 = .ok (.istore 10, 2) := by decide +kernel
theorem d_Model_span_90 : decode b_Model_span 90 = .ok (.iload 10, 2) := by decide +kernel
theorem d_Model_span_92 : decode b_Model_span 92 = .ok (.bipush (10), 2) := by decide +kernel
theorem d_Model_span_94 : decode b_Model_span 94 = .ok (.if_icmp .ge (62), 3) := by decide +kernel
theorem d_Model_span_97 : decode b_Model_span 97 = .ok (.aload_n 0, 1) := by decide +kernel
theorem d_Model_span_98 : decode b_Model_span 98 = .ok (.iload_n 1, 1) := by decide +kernel
theorem d_Model_span_99 : decode b_Model_span 99 = .ok (.iload_n 2, 1) := by decide +kernel
theorem d_Model_span_100 : decode b_Model_span 100 = .ok (.iload 9, 2) := by decide +kernel
theorem d_Model_span_102 : decode b_Model_span 102 = .ok (.bipush (10), 2) := by decide +kernel
theorem d_Model_span_104 : decode b_Model_span 104 = .ok (.iload 8, 2) := by decide +kernel
theorem d_Model_span_106 : decode b_Model_span 106 = .ok (.imul, 1) := by decide +kernel
theorem d_Model_span_107 : decode b_Model_span 107 = .ok (.iload 10, 2) := by decide +kernel
theorem d_Model_span_109 : decode b_Model_span 109 = .ok (.iadd, 1) := by decide +kernel
theorem d_Model_span_110 : decode b_Model_span 110 = .ok (.invokevirtual 183, 3) := by decide +kernel
theorem d_Model_span_113 : decode b_Model_span 113 = .ok (.iload_n 3, 1) := by decide +kernel
theorem d_Model_span_114 : decode b_Model_span 114 = .ok (.if_icmp .eq (6), 3) := by decide +kernel
theorem d_Model_span_117 : decode b_Model_span 117 = .ok (.goto (33), 3) := by decide +kernel
theorem d_Model_span_120 : decode b_Model_span 120 = .ok (.iload 5, 2) := by decide +kernel
theorem d_Model_span_122 : decode b_Model_span 122 = .ok (.ifCond .ge (14), 3) := by decide +kernel
theorem d_Model_span_125 : decode b_Model_span 125 = .ok (.bipush (10), 2) := by decide +kernel
theorem d_Model_span_127 : decode b_Model_span 127 = .ok (.iload 8, 2) := by decide +kernel
theorem d_Model_span_129 : decode b_Model_span 129 = .ok (.imul, 1) := by decide +kernel
theorem d_Model_span_130 : decode b_Model_span 130 = .ok (.iload 10, 2) := by decide +kernel
theorem d_Model_span_132 : decode b_Model_span 132 = .ok (.iadd, 1) := by decide +kernel
theorem d_Model_span_133 : decode b_Model_span 133 = .ok (.goto (5), 3) := by decide +kernel
theorem d_Model_span_136 : decode b_Model_span 136 = .ok (.iload 5, 2) := by decide +kernel
theorem d_Model_span_138 : decode b_Model_span 138 = .ok (.istore 5, 2) := by decide +kernel
theorem d_Model_span_140 : decode b_Model_span 140 = .ok (.bipush (10), 2) := by decide +kernel
theorem d_Model_span_142 : decode b_Model_span 142 = .ok (.iload 8, 2) := by decide +kernel
theorem d_Model_span_144 : decode b_Model_span 144 = .ok (.imul, 1) := by decide +kernel
theorem d_Model_span_145 : decode b_Model_span 145 = .ok (.iload 10, 2) := by decide +kernel
theorem d_Model_span_147 : decode b_Model_span 147 = .ok (.iadd, 1) := by decide +kernel
theorem d_Model_span_148 : decode b_Model_span 148 = .ok (.istore 6, 2) := by decide +kernel
theorem d_Model_span_150 : decode b_Model_span 150 = .ok (.iinc 10 (1), 3) := by decide +kernel
theorem d_Model_span_153 : decode b_Model_span 153 = .ok (.goto (-63), 3) := by decide +kernel
theorem d_Model_span_156 : decode b_Model_span 156 = .ok (.iinc 8 (1), 3) := by decide +kernel
theorem d_Model_span_159 : decode b_Model_span 159 = .ok (.goto (-99), 3) := by decide +kernel
theorem d_Model_span_162 : decode b_Model_span 162 = .ok (.aload_n 0, 1) := by decide +kernel
theorem d_Model_span_163 : decode b_Model_span 163 = .ok (.getfield 11, 3) := by decide +kernel
theorem d_Model_span_166 : decode b_Model_span 166 = .ok (.iload_n 2, 1) := by decide +kernel
theorem d_Model_span_167 : decode b_Model_span 167 = .ok (.iload 7, 2) := by decide +kernel
theorem d_Model_span_169 : decode b_Model_span 169 = .ok (.iastore, 1) := by decide +kernel
theorem d_Model_span_170 : decode b_Model_span 170 = .ok (.iload 4, 2) := by decide +kernel
theorem d_Model_span_172 : decode b_Model_span 172 = .ok (.ifCond .ne (8), 3) := by decide +kernel
theorem d_Model_span_175 : decode b_Model_span 175 = .ok (.iload 5, 2) := by decide +kernel
theorem d_Model_span_177 : decode b_Model_span 177 = .ok (.goto (5), 3) := by decide +kernel
theorem d_Model_span_180 : decode b_Model_span 180 = .ok (.iload 6, 2) := by decide +kernel
theorem d_Model_span_182 : decode b_Model_span 182 = .ok (.ireturn, 1) := by decide +kernel
theorem zb_Model_span_150 {l : Launch} {θ : ZT} {res : Int32 × ZM} {k60 : Int32 × Int32 × Int32 × Int32 × Int32 × Int32 × Int32 × Int32 × ZM → Option (Int32 × ZM)} {k90 : Int32 × Int32 × Int32 × Int32 × Int32 × Int32 × Int32 × Int32 × Int32 × Int32 × ZM → Option (Int32 × ZM)} (hk60 : ∀ a : Int32 × Int32 × Int32 × Int32 × Int32 × Int32 × Int32 × Int32 × ZM, k60 a = some res → WZ l b_Model_span 11 (some .int) "BakedBeforeModel" 129 14 θ (zrm 36 860) (zQ mkI 129 14 θ res) a.2.2.2.2.2.2.2.2 [(0, .ref (za θ 129)), (1, .int a.1), (2, .int a.2.1), (3, .int a.2.2.1), (4, .int a.2.2.2.1), (5, .int a.2.2.2.2.1), (6, .int a.2.2.2.2.2.1), (7, .int a.2.2.2.2.2.2.1), (8, .int a.2.2.2.2.2.2.2.1)] 60 []) (hk90 : ∀ a : Int32 × Int32 × Int32 × Int32 × Int32 × Int32 × Int32 × Int32 × Int32 × Int32 × ZM, k90 a = some res → WZ l b_Model_span 11 (some .int) "BakedBeforeModel" 129 14 θ (zrm 36 860) (zQ mkI 129 14 θ res) a.2.2.2.2.2.2.2.2.2.2 [(0, .ref (za θ 129)), (1, .int a.1), (2, .int a.2.1), (3, .int a.2.2.1), (4, .int a.2.2.2.1), (5, .int a.2.2.2.2.1), (6, .int a.2.2.2.2.2.1), (7, .int a.2.2.2.2.2.2.1), (8, .int a.2.2.2.2.2.2.2.1), (9, .int a.2.2.2.2.2.2.2.2.1), (10, .int a.2.2.2.2.2.2.2.2.2.1)] 90 []) {x1 : Int32} {x2 : Int32} {x3 : Int32} {x4 : Int32} {x5 : Int32} {x6 : Int32} {x7 : Int32} {x8 : Int32} {x9 : Int32} {x10 : Int32} {σ : ZM} (h : f_Model_span_150 k60 k90 x1 x2 x3 x4 x5 x6 x7 x8 x9 x10 σ = some res) : WZ l b_Model_span 11 (some .int) "BakedBeforeModel" 129 14 θ (zrm 36 860) (zQ mkI 129 14 θ res) σ [(0, .ref (za θ 129)), (1, .int x1), (2, .int x2), (3, .int x3), (4, .int x4), (5, .int x5), (6, .int x6), (7, .int x7), (8, .int x8), (9, .int x9), (10, .int x10)] 150 [] := by
  unfold f_Model_span_150 at h
  refine z_iinc (v := x10 + (1 : Int32)) 10 d_Model_span_150 rfl rfl (by decide) rfl ?_
  refine z_goto (tgt := 90) d_Model_span_153 (by decide) ?_
  refine z_sub [1, 2, 3, 4, 5, 6, 7, 8, 9, 10, 0] rfl ?_
  exact hk90 (x1, x2, x3, x4, x5, x6, x7, x8, x9, (x10 + (1 : Int32)), σ) h
theorem zb_Model_span_138 {l : Launch} {θ : ZT} {res : Int32 × ZM} {k60 : Int32 × Int32 × Int32 × Int32 × Int32 × Int32 × Int32 × Int32 × ZM → Option (Int32 × ZM)} {k90 : Int32 × Int32 × Int32 × Int32 × Int32 × Int32 × Int32 × Int32 × Int32 × Int32 × ZM → Option (Int32 × ZM)} (hk60 : ∀ a : Int32 × Int32 × Int32 × Int32 × Int32 × Int32 × Int32 × Int32 × ZM, k60 a = some res → WZ l b_Model_span 11 (some .int) "BakedBeforeModel" 129 14 θ (zrm 36 860) (zQ mkI 129 14 θ res) a.2.2.2.2.2.2.2.2 [(0, .ref (za θ 129)), (1, .int a.1), (2, .int a.2.1), (3, .int a.2.2.1), (4, .int a.2.2.2.1), (5, .int a.2.2.2.2.1), (6, .int a.2.2.2.2.2.1), (7, .int a.2.2.2.2.2.2.1), (8, .int a.2.2.2.2.2.2.2.1)] 60 []) (hk90 : ∀ a : Int32 × Int32 × Int32 × Int32 × Int32 × Int32 × Int32 × Int32 × Int32 × Int32 × ZM, k90 a = some res → WZ l b_Model_span 11 (some .int) "BakedBeforeModel" 129 14 θ (zrm 36 860) (zQ mkI 129 14 θ res) a.2.2.2.2.2.2.2.2.2.2 [(0, .ref (za θ 129)), (1, .int a.1), (2, .int a.2.1), (3, .int a.2.2.1), (4, .int a.2.2.2.1), (5, .int a.2.2.2.2.1), (6, .int a.2.2.2.2.2.1), (7, .int a.2.2.2.2.2.2.1), (8, .int a.2.2.2.2.2.2.2.1), (9, .int a.2.2.2.2.2.2.2.2.1), (10, .int a.2.2.2.2.2.2.2.2.2.1)] 90 []) {x1 : Int32} {x2 : Int32} {x3 : Int32} {x4 : Int32} {x7 : Int32} {x8 : Int32} {x9 : Int32} {x10 : Int32} {y0 : Int32} {σ : ZM} (h : f_Model_span_138 k60 k90 x1 x2 x3 x4 x7 x8 x9 x10 y0 σ = some res) : WZ l b_Model_span 11 (some .int) "BakedBeforeModel" 129 14 θ (zrm 36 860) (zQ mkI 129 14 θ res) σ [(0, .ref (za θ 129)), (1, .int x1), (2, .int x2), (3, .int x3), (4, .int x4), (7, .int x7), (8, .int x8), (9, .int x9), (10, .int x10)] 138 [.int y0] := by
  unfold f_Model_span_138 at h
  refine z_istore d_Model_span_138 (by decide) rfl ?_
  refine z_bipush (v := 10) d_Model_span_140 (by decide) ?_
  refine z_iload 7 d_Model_span_142 rfl ?_
  refine z_imul d_Model_span_144 ?_
  refine z_iload 9 d_Model_span_145 rfl ?_
  refine z_iadd d_Model_span_147 ?_
  refine z_istore d_Model_span_148 (by decide) rfl ?_
  refine z_sub [2, 3, 4, 5, 6, 1, 0, 7, 8, 9, 10] rfl ?_
  exact zb_Model_span_150 hk60 hk90 h
theorem zb_Model_span_90 {l : Launch} {θ : ZT} {res : Int32 × ZM} {k60 : Int32 × Int32 × Int32 × Int32 × Int32 × Int32 × Int32 × Int32 × ZM → Option (Int32 × ZM)} (hk60 : ∀ a : Int32 × Int32 × Int32 × Int32 × Int32 × Int32 × Int32 × Int32 × ZM, k60 a = some res → WZ l b_Model_span 11 (some .int) "BakedBeforeModel" 129 14 θ (zrm 36 860) (zQ mkI 129 14 θ res) a.2.2.2.2.2.2.2.2 [(0, .ref (za θ 129)), (1, .int a.1), (2, .int a.2.1), (3, .int a.2.2.1), (4, .int a.2.2.2.1), (5, .int a.2.2.2.2.1), (6, .int a.2.2.2.2.2.1), (7, .int a.2.2.2.2.2.2.1), (8, .int a.2.2.2.2.2.2.2.1)] 60 []) {k90 : Int32 × Int32 × Int32 × Int32 × Int32 × Int32 × Int32 × Int32 × Int32 × Int32 × ZM → Option (Int32 × ZM)} (hk90 : ∀ a : Int32 × Int32 × Int32 × Int32 × Int32 × Int32 × Int32 × Int32 × Int32 × Int32 × ZM, k90 a = some res → WZ l b_Model_span 11 (some .int) "BakedBeforeModel" 129 14 θ (zrm 36 860) (zQ mkI 129 14 θ res) a.2.2.2.2.2.2.2.2.2.2 [(0, .ref (za θ 129)), (1, .int a.1), (2, .int a.2.1), (3, .int a.2.2.1), (4, .int a.2.2.2.1), (5, .int a.2.2.2.2.1), (6, .int a.2.2.2.2.2.1), (7, .int a.2.2.2.2.2.2.1), (8, .int a.2.2.2.2.2.2.2.1), (9, .int a.2.2.2.2.2.2.2.2.1), (10, .int a.2.2.2.2.2.2.2.2.2.1)] 90 []) {x1 : Int32} {x2 : Int32} {x3 : Int32} {x4 : Int32} {x5 : Int32} {x6 : Int32} {x7 : Int32} {x8 : Int32} {x9 : Int32} {x10 : Int32} {σ : ZM} (h : f_Model_span_90 k60 k90 x1 x2 x3 x4 x5 x6 x7 x8 x9 x10 σ = some res) : WZ l b_Model_span 11 (some .int) "BakedBeforeModel" 129 14 θ (zrm 36 860) (zQ mkI 129 14 θ res) σ [(0, .ref (za θ 129)), (1, .int x1), (2, .int x2), (3, .int x3), (4, .int x4), (5, .int x5), (6, .int x6), (7, .int x7), (8, .int x8), (9, .int x9), (10, .int x10)] 90 [] := by
  unfold f_Model_span_90 at h
  refine z_iload 10 d_Model_span_90 rfl ?_
  refine z_bipush (v := 10) d_Model_span_92 (by decide) ?_
  refine z_icmp_ge (tgt := 156) d_Model_span_94 (by decide) (fun c1 => ?_) (fun c1 => ?_)
  · have h := (if_pos c1).symm.trans h
    refine z_iinc (v := x8 + (1 : Int32)) 8 d_Model_span_156 rfl rfl (by decide) rfl ?_
    refine z_goto (tgt := 60) d_Model_span_159 (by decide) ?_
    refine z_sub [1, 2, 3, 4, 5, 6, 7, 8, 0] rfl ?_
    exact hk60 (x1, x2, x3, x4, x5, x6, x7, (x8 + (1 : Int32)), σ) h
  · have h := (if_neg c1).symm.trans h
    refine z_aload_n 0 d_Model_span_97 rfl rfl ?_
    refine z_iload_n 1 d_Model_span_98 rfl rfl ?_
    refine z_iload_n 2 d_Model_span_99 rfl rfl ?_
    refine z_iload 9 d_Model_span_100 rfl ?_
    refine z_bipush (v := 10) d_Model_span_102 (by decide) ?_
    refine z_iload 8 d_Model_span_104 rfl ?_
    refine z_imul d_Model_span_106 ?_
    refine z_iload 10 d_Model_span_107 rfl ?_
    refine z_iadd d_Model_span_109 ?_
    obtain ⟨⟨v2, s3⟩, e4, h⟩ := zbd_i h
    refine w_callV (As := [.int x1, .int x2, .int x9, .int (((10 : Int32) * x8) + x10)]) (kc := 22) (ci := 12) (c_Model_takesBy l θ e4) cf_Model_takesBy q_1084 d_Model_span_110 zl_129 rfl rfl rfl rfl rfl rfl (Nat.le_of_ble_eq_true rfl) rfl rfl ⟨Nat.le_of_ble_eq_true rfl, Nat.le_of_ble_eq_true rfl⟩ ?_
    refine z_iload_n 3 d_Model_span_113 rfl rfl ?_
    refine z_icmp_eq (tgt := 120) d_Model_span_114 (by decide) (fun c5 => ?_) (fun c5 => ?_)
    · have h := (if_pos c5).symm.trans h
      refine z_iload 5 d_Model_span_120 rfl ?_
      refine z_if_ge (tgt := 136) d_Model_span_122 (by decide) (fun c6 => ?_) (fun c6 => ?_)
      · have h := (if_pos c6).symm.trans h
        refine z_iload 5 d_Model_span_136 rfl ?_
        refine z_sub [0, 1, 2, 3, 4, 7, 8, 9, 10] rfl ?_
        exact zb_Model_span_138 hk60 hk90 h
      · have h := (if_neg c6).symm.trans h
        refine z_bipush (v := 10) d_Model_span_125 (by decide) ?_
        refine z_iload 8 d_Model_span_127 rfl ?_
        refine z_imul d_Model_span_129 ?_
        refine z_iload 10 d_Model_span_130 rfl ?_
        refine z_iadd d_Model_span_132 ?_
        refine z_goto (tgt := 138) d_Model_span_133 (by decide) ?_
        refine z_sub [0, 1, 2, 3, 4, 7, 8, 9, 10] rfl ?_
        exact zb_Model_span_138 hk60 hk90 h
    · have h := (if_neg c5).symm.trans h
      refine z_goto (tgt := 150) d_Model_span_117 (by decide) ?_
      exact zb_Model_span_150 hk60 hk90 h
theorem zl_Model_span_90 {l : Launch} {θ : ZT} {res : Int32 × ZM} {k60 : Int32 × Int32 × Int32 × Int32 × Int32 × Int32 × Int32 × Int32 × ZM → Option (Int32 × ZM)} (hk60 : ∀ a : Int32 × Int32 × Int32 × Int32 × Int32 × Int32 × Int32 × Int32 × ZM, k60 a = some res → WZ l b_Model_span 11 (some .int) "BakedBeforeModel" 129 14 θ (zrm 36 860) (zQ mkI 129 14 θ res) a.2.2.2.2.2.2.2.2 [(0, .ref (za θ 129)), (1, .int a.1), (2, .int a.2.1), (3, .int a.2.2.1), (4, .int a.2.2.2.1), (5, .int a.2.2.2.2.1), (6, .int a.2.2.2.2.2.1), (7, .int a.2.2.2.2.2.2.1), (8, .int a.2.2.2.2.2.2.2.1)] 60 []) : ∀ (N : Nat) (a : Int32 × Int32 × Int32 × Int32 × Int32 × Int32 × Int32 × Int32 × Int32 × Int32 × ZM), F_Model_span_90 k60 N a = some res → WZ l b_Model_span 11 (some .int) "BakedBeforeModel" 129 14 θ (zrm 36 860) (zQ mkI 129 14 θ res) a.2.2.2.2.2.2.2.2.2.2 [(0, .ref (za θ 129)), (1, .int a.1), (2, .int a.2.1), (3, .int a.2.2.1), (4, .int a.2.2.2.1), (5, .int a.2.2.2.2.1), (6, .int a.2.2.2.2.2.1), (7, .int a.2.2.2.2.2.2.1), (8, .int a.2.2.2.2.2.2.2.1), (9, .int a.2.2.2.2.2.2.2.2.1), (10, .int a.2.2.2.2.2.2.2.2.2.1)] 90 [] := by
  intro N
  induction N with
  | zero => intro a  h; cases (show (none : Option (Int32 × ZM)) = some res from h)
  | succ N ih => intro a  h; exact zb_Model_span_90 hk60 ih (show f_Model_span_90 k60 (F_Model_span_90 k60 N) a.1 a.2.1 a.2.2.1 a.2.2.2.1 a.2.2.2.2.1 a.2.2.2.2.2.1 a.2.2.2.2.2.2.1 a.2.2.2.2.2.2.2.1 a.2.2.2.2.2.2.2.2.1 a.2.2.2.2.2.2.2.2.2.1 a.2.2.2.2.2.2.2.2.2.2 = some res from h)
theorem zb_Model_span_60 {l : Launch} {θ : ZT} {res : Int32 × ZM} {k60 : Int32 × Int32 × Int32 × Int32 × Int32 × Int32 × Int32 × Int32 × ZM → Option (Int32 × ZM)} (hk60 : ∀ a : Int32 × Int32 × Int32 × Int32 × Int32 × Int32 × Int32 × Int32 × ZM, k60 a = some res → WZ l b_Model_span 11 (some .int) "BakedBeforeModel" 129 14 θ (zrm 36 860) (zQ mkI 129 14 θ res) a.2.2.2.2.2.2.2.2 [(0, .ref (za θ 129)), (1, .int a.1), (2, .int a.2.1), (3, .int a.2.2.1), (4, .int a.2.2.2.1), (5, .int a.2.2.2.2.1), (6, .int a.2.2.2.2.2.1), (7, .int a.2.2.2.2.2.2.1), (8, .int a.2.2.2.2.2.2.2.1)] 60 []) {x1 : Int32} {x2 : Int32} {x3 : Int32} {x4 : Int32} {x5 : Int32} {x6 : Int32} {x7 : Int32} {x8 : Int32} {σ : ZM} (h : f_Model_span_60 k60 x1 x2 x3 x4 x5 x6 x7 x8 σ = some res) : WZ l b_Model_span 11 (some .int) "BakedBeforeModel" 129 14 θ (zrm 36 860) (zQ mkI 129 14 θ res) σ [(0, .ref (za θ 129)), (1, .int x1), (2, .int x2), (3, .int x3), (4, .int x4), (5, .int x5), (6, .int x6), (7, .int x7), (8, .int x8)] 60 [] := by
  unfold f_Model_span_60 at h
  refine z_iload 8 d_Model_span_60 rfl ?_
  refine z_sipush (v := 999) d_Model_span_62 (by decide) ?_
  refine z_icmp_gt (tgt := 162) d_Model_span_65 (by decide) (fun c1 => ?_) (fun c1 => ?_)
  · have h := (if_pos c1).symm.trans h
    refine z_aload_n 0 d_Model_span_162 rfl rfl ?_
    refine gf_Model_s zl_129 d_Model_span_163 q_871 ?_
    refine z_iload_n 2 d_Model_span_166 rfl rfl ?_
    refine z_iload 7 d_Model_span_167 rfl ?_
    obtain ⟨c2, h⟩ := zck_i h
    refine w_iast zl_130 c2 d_Model_span_169 ?_
    refine z_iload 4 d_Model_span_170 rfl ?_
    refine z_if_ne (tgt := 180) d_Model_span_172 (by decide) (fun c3 => ?_) (fun c3 => ?_)
    · have h := (if_neg c3).symm.trans h
      refine z_iload 6 d_Model_span_180 rfl ?_
      exact z_iret d_Model_span_182 h
    · have h := (if_pos c3).symm.trans h
      refine z_iload 5 d_Model_span_175 rfl ?_
      refine z_goto (tgt := 182) d_Model_span_177 (by decide) ?_
      exact z_iret d_Model_span_182 h
  · have h := (if_neg c1).symm.trans h
    refine z_aload_n 0 d_Model_span_68 rfl rfl ?_
    refine gf_Model_s zl_129 d_Model_span_69 q_871 ?_
    refine z_iload_n 2 d_Model_span_72 rfl rfl ?_
    refine z_bipush (v := 10) d_Model_span_73 (by decide) ?_
    refine z_iload 8 d_Model_span_75 rfl ?_
    refine z_imul d_Model_span_77 ?_
    obtain ⟨c4, h⟩ := zck_i h
    refine w_iast zl_130 c4 d_Model_span_78 ?_
    refine z_aload_n 0 d_Model_span_79 rfl rfl ?_
    refine z_iload_n 1 d_Model_span_80 rfl rfl ?_
    refine z_iload_n 2 d_Model_span_81 rfl rfl ?_
    obtain ⟨⟨v5, s6⟩, e7, h⟩ := zbd_i h
    refine w_callV (As := [.int x1, .int x2]) (kc := 22) (ci := 12) (c_Model_partOf l θ e7) cf_Model_partOf q_1080 d_Model_span_82 zl_129 rfl rfl rfl rfl rfl rfl (Nat.le_of_ble_eq_true rfl) rfl rfl ⟨Nat.le_of_ble_eq_true rfl, Nat.le_of_ble_eq_true rfl⟩ ?_
    refine z_istore d_Model_span_85 (by decide) rfl ?_
    refine z_iconst (v := 0) d_Model_span_87 (by decide) ?_
    refine z_istore d_Model_span_88 (by decide) rfl ?_
    refine z_sub [2, 3, 4, 5, 6, 7, 8, 9, 10, 1, 0] rfl ?_
    exact zl_Model_span_90 hk60 2000 (x1, x2, x3, x4, x5, x6, x7, x8, v5, (0 : Int32), s6) h
theorem zl_Model_span_60 {l : Launch} {θ : ZT} {res : Int32 × ZM} : ∀ (N : Nat) (a : Int32 × Int32 × Int32 × Int32 × Int32 × Int32 × Int32 × Int32 × ZM), F_Model_span_60 N a = some res → WZ l b_Model_span 11 (some .int) "BakedBeforeModel" 129 14 θ (zrm 36 860) (zQ mkI 129 14 θ res) a.2.2.2.2.2.2.2.2 [(0, .ref (za θ 129)), (1, .int a.1), (2, .int a.2.1), (3, .int a.2.2.1), (4, .int a.2.2.2.1), (5, .int a.2.2.2.2.1), (6, .int a.2.2.2.2.2.1), (7, .int a.2.2.2.2.2.2.1), (8, .int a.2.2.2.2.2.2.2.1)] 60 [] := by
  intro N
  induction N with
  | zero => intro a  h; cases (show (none : Option (Int32 × ZM)) = some res from h)
  | succ N ih => intro a  h; exact zb_Model_span_60 ih (show f_Model_span_60 (F_Model_span_60 N) a.1 a.2.1 a.2.2.1 a.2.2.2.1 a.2.2.2.2.1 a.2.2.2.2.2.1 a.2.2.2.2.2.2.1 a.2.2.2.2.2.2.2.1 a.2.2.2.2.2.2.2.2 = some res from h)
theorem c_Model_span (l : Launch) (θ : ZT) {x1 : Int32} {x2 : Int32} {x3 : Int32} {x4 : Int32} {σ : ZM} {res : Int32 × ZM} (h : f_Model_span x1 x2 x3 x4 σ = some res) : zMet mkI l 129 14 θ y_Model_span b_Model_span 11 (some .int) (zrm 36 860) [.ref (za θ 129), .int x1, .int x2, .int x3, .int x4] σ res := by
  unfold f_Model_span at h
  refine z_met (lv := [(0, .ref (za θ 129)), (1, .int x1), (2, .int x2), (3, .int x3), (4, .int x4)]) (by decide +kernel) rfl (Nat.le_of_ble_eq_true rfl) (by decide) ?_
  refine z_aload_n 0 d_Model_span_0 rfl rfl ?_
  refine z_iload_n 1 d_Model_span_1 rfl rfl ?_
  obtain ⟨⟨v1, s2⟩, e3, h⟩ := zbd_i h
  refine w_callV (As := [.int x1]) (kc := 22) (ci := 12) (c_Model_isLoaf l θ e3) cf_Model_isLoaf q_1053 d_Model_span_2 zl_129 rfl rfl rfl rfl rfl rfl (Nat.le_of_ble_eq_true rfl) rfl rfl ⟨Nat.le_of_ble_eq_true rfl, Nat.le_of_ble_eq_true rfl⟩ ?_
  refine z_if_eq (tgt := 25) d_Model_span_5 (by decide) (fun c4 => ?_) (fun c4 => ?_)
  · have h := (if_pos c4).symm.trans h
    refine z_iconst (v := -1) d_Model_span_25 (by decide) ?_
    exact z_iret d_Model_span_26 h
  · have h := (if_neg c4).symm.trans h
    refine z_iload_n 2 d_Model_span_8 rfl rfl ?_
    obtain ⟨⟨v5, s6⟩, e7, h⟩ := zbd_i h
    refine w_callS (As := [.int x2]) (c_Model_isTaste l θ e7) cf_Model_isTaste q_1057 d_Model_span_9 rfl rfl rfl (Nat.le_of_ble_eq_true rfl) rfl rfl ⟨Nat.le_of_ble_eq_true rfl, Nat.le_of_ble_eq_true rfl⟩ ?_
    refine z_if_eq (tgt := 25) d_Model_span_12 (by decide) (fun c8 => ?_) (fun c8 => ?_)
    · have h := (if_pos c8).symm.trans h
      refine z_iconst (v := -1) d_Model_span_25 (by decide) ?_
      exact z_iret d_Model_span_26 h
    · have h := (if_neg c8).symm.trans h
      refine z_iload 4 d_Model_span_15 rfl ?_
      refine z_iconst (v := 0) d_Model_span_17 (by decide) ?_
      refine z_iconst (v := 1) d_Model_span_18 (by decide) ?_
      obtain ⟨⟨v9, s10⟩, e11, h⟩ := zbd_i h
      refine w_callS (As := [.int x4, .int (0 : Int32), .int (1 : Int32)]) (c_Model_isIn l θ e11) cf_Model_isIn q_969 d_Model_span_19 rfl rfl rfl (Nat.le_of_ble_eq_true rfl) rfl rfl ⟨Nat.le_of_ble_eq_true rfl, Nat.le_of_ble_eq_true rfl⟩ ?_
      refine z_if_ne (tgt := 27) d_Model_span_22 (by decide) (fun c12 => ?_) (fun c12 => ?_)
      · have h := (if_neg c12).symm.trans h
        refine z_iload_n 3 d_Model_span_27 rfl rfl ?_
        refine z_iconst (v := 0) d_Model_span_28 (by decide) ?_
        refine z_sipush (v := 9999) d_Model_span_29 (by decide) ?_
        obtain ⟨⟨v13, s14⟩, e15, h⟩ := zbd_i h
        refine w_callS (As := [.int x3, .int (0 : Int32), .int (9999 : Int32)]) (c_Model_isIn l θ e15) cf_Model_isIn q_969 d_Model_span_32 rfl rfl rfl (Nat.le_of_ble_eq_true rfl) rfl rfl ⟨Nat.le_of_ble_eq_true rfl, Nat.le_of_ble_eq_true rfl⟩ ?_
        refine z_if_ne (tgt := 41) d_Model_span_35 (by decide) (fun c16 => ?_) (fun c16 => ?_)
        · have h := (if_neg c16).symm.trans h
          refine z_bipush (v := -5) d_Model_span_41 (by decide) ?_
          refine z_istore d_Model_span_43 (by decide) rfl ?_
          refine z_bipush (v := -5) d_Model_span_45 (by decide) ?_
          refine z_istore d_Model_span_47 (by decide) rfl ?_
          refine z_aload_n 2 d_Model_span_49 rfl rfl ?_
          refine gf_Model_s zl_129 d_Model_span_50 q_871 ?_
          refine z_iload_n 4 d_Model_span_53 rfl rfl ?_
          obtain ⟨c17, h⟩ := zck_i h
          refine w_iald zl_130 c17 d_Model_span_54 ?_
          refine z_istore d_Model_span_55 (by decide) rfl ?_
          refine z_iconst (v := 0) d_Model_span_57 (by decide) ?_
          refine z_istore d_Model_span_58 (by decide) rfl ?_
          refine z_sub [4, 5, 6, 7, 8, 3, 2, 1, 0] rfl ?_
          exact zl_Model_span_60 2000 (x1, x2, x3, x4, (-5 : Int32), (-5 : Int32), (zI s14 130 x2.toNatClampNeg), (0 : Int32), s14) h
        · have h := (if_pos c16).symm.trans h
          refine z_bipush (v := -2) d_Model_span_38 (by decide) ?_
          exact z_iret d_Model_span_40 h
      · have h := (if_pos c12).symm.trans h
        refine z_iconst (v := -1) d_Model_span_25 (by decide) ?_
        exact z_iret d_Model_span_26 h
theorem d_Model_year_0 : decode b_Model_year 0 = .ok (.iload_n 3, 1) := by decide +kernel
theorem d_Model_year_1 : decode b_Model_year 1 = .ok (.iconst (0), 1) := by decide +kernel
theorem d_Model_year_2 : decode b_Model_year 2 = .ok (.iconst (4), 1) := by decide +kernel
theorem d_Model_year_3 : decode b_Model_year 3 = .ok (.invokestatic 52, 3) := by decide +kernel
theorem d_Model_year_6 : decode b_Model_year 6 = .ok (.ifCond .ne (6), 3) := by decide +kernel
theorem d_Model_year_9 : decode b_Model_year 9 = .ok (.ldc 254, 2) := by decide +kernel
theorem d_Model_year_11 : decode b_Model_year 11 = .ok (.ireturn, 1) := by decide +kernel
theorem d_Model_year_12 : decode b_Model_year 12 = .ok (.iload_n 1, 1) := by decide +kernel
theorem d_Model_year_13 : decode b_Model_year 13 = .ok (.iconst (0), 1) := by decide +kernel
theorem d_Model_year_14 : decode b_Model_year 14 = .ok (.bipush (60), 2) := by decide +kernel
theorem d_Model_year_16 : decode b_Model_year 16 = .ok (.invokestatic 52, 3) := by decide +kernel
theorem d_Model_year_19 : decode b_Model_year 19 = .ok (.ifCond .eq (13), 3) := by decide +kernel
theorem d_Model_year_22 : decode b_Model_year 22 = .ok (.iload_n 2, 1) := by decide +kernel
theorem d_Model_year_23 : decode b_Model_year 23 = .ok (.iconst (2), 1) := by decide +kernel
theorem d_Model_year_24 : decode b_Model_year 24 = .ok (.bipush (30), 2) := by decide +kernel
theorem d_Model_year_26 : decode b_Model_year 26 = .ok (.invokestatic 52, 3) := by decide +kernel
theorem d_Model_year_29 : decode b_Model_year 29 = .ok (.ifCond .ne (7), 3) := by decide +kernel
theorem d_Model_year_32 : decode b_Model_year 32 = .ok (.ldc_w 261, 3) := by decide +kernel
theorem d_Model_year_35 : decode b_Model_year 35 = .ok (.ireturn, 1) := by decide +kernel
theorem d_Model_year_36 : decode b_Model_year 36 = .ok (.aload_n 0, 1) := by decide +kernel
theorem d_Model_year_37 : decode b_Model_year 37 = .ok (.getfield 11, 3) := by decide +kernel
theorem d_Model_year_40 : decode b_Model_year 40 = .ok (.iconst (5), 1) := by decide +kernel
theorem d_Model_year_41 : decode b_Model_year 41 = .ok (.iaload, 1) := by decide +kernel
theorem d_Model_year_42 : decode b_Model_year 42 = .ok (.ifCond .ne (7), 3) := by decide +kernel
theorem d_Model_year_45 : decode b_Model_year 45 = .ok (.ldc_w 262, 3) := by decide +kernel
theorem d_Model_year_48 : decode b_Model_year 48 = .ok (.ireturn, 1) := by decide +kernel
theorem d_Model_year_49 : decode b_Model_year 49 = .ok (.aload_n 0, 1) := by decide +kernel
theorem d_Model_year_50 : decode b_Model_year 50 = .ok (.invokevirtual 214, 3) := by decide +kernel
theorem d_Model_year_53 : decode b_Model_year 53 = .ok (.iconst (0), 1) := by decide +kernel
theorem d_Model_year_54 : decode b_Model_year 54 = .ok (.istore 4, 2) := by decide +kernel
theorem d_Model_year_56 : decode b_Model_year 56 = .ok (.iconst (0), 1) := by decide +kernel
theorem d_Model_year_57 : decode b_Model_year 57 = .ok (.istore 5, 2) := by decide +kernel
theorem d_Model_year_59 : decode b_Model_year 59 = .ok (.iconst (0), 1) := by decide +kernel
theorem d_Model_year_60 : decode b_Model_year 60 = .ok (.istore 6, 2) := by decide +kernel
theorem d_Model_year_62 : decode b_Model_year 62 = .ok (.iload 6, 2) := by decide +kernel
theorem d_Model_year_64 : decode b_Model_year 64 = .ok (.iload_n 1, 1) := by decide +kernel
theorem d_Model_year_65 : decode b_Model_year 65 = .ok (.if_icmp .ge (56), 3) := by decide +kernel
theorem d_Model_year_68 : decode b_Model_year 68 = .ok (.aload_n 0, 1) := by decide +kernel
theorem d_Model_year_69 : decode b_Model_year 69 = .ok (.getfield 11, 3) := by decide +kernel
theorem d_Model_year_72 : decode b_Model_year 72 = .ok (.iconst (4), 1) := by decide +kernel
theorem d_Model_year_73 : decode b_Model_year 73 = .ok (.iaload, 1) := by decide +kernel
theorem d_Model_year_74 : decode b_Model_year 74 = .ok (.iload_n 2, 1) := by decide +kernel
theorem d_Model_year_75 : decode b_Model_year 75 = .ok (.irem, 1) := by decide +kernel
theorem d_Model_year_76 : decode b_Model_year 76 = .ok (.ifCond .ne (10), 3) := by decide +kernel
theorem d_Model_year_79 : decode b_Model_year 79 = .ok (.aload_n 0, 1) := by decide +kernel
theorem d_Model_year_80 : decode b_Model_year 80 = .ok (.invokevirtual 211, 3) := by decide +kernel
theorem d_Model_year_83 : decode b_Model_year 83 = .ok (.goto (32), 3) := by decide +kernel
theorem d_Model_year_86 : decode b_Model_year 86 = .ok (.iload 5, 2) := by decide +kernel
theorem d_Model_year_88 : decode b_Model_year 88 = .ok (.aload_n 0, 1) := by decide +kernel
theorem d_Model_year_89 : decode b_Model_year 89 = .ok (.iload 4, 2) := by decide +kernel
theorem d_Model_year_91 : decode b_Model_year 91 = .ok (.aload_n 0, 1) := by decide +kernel
theorem d_Model_year_92 : decode b_Model_year 92 = .ok (.getfield 11, 3) := by decide +kernel
theorem d_Model_year_95 : decode b_Model_year 95 = .ok (.iconst (5), 1) := by decide +kernel
theorem d_Model_year_96 : decode b_Model_year 96 = .ok (.iaload, 1) := by decide +kernel
theorem d_Model_year_97 : decode b_Model_year 97 = .ok (.irem, 1) := by decide +kernel
theorem d_Model_year_98 : decode b_Model_year 98 = .ok (.invokevirtual 208, 3) := by decide +kernel
theorem d_Model_year_101 : decode b_Model_year 101 = .ok (.ifCond .eq (7), 3) := by decide +kernel
theorem d_Model_year_104 : decode b_Model_year 104 = .ok (.iconst (1), 1) := by decide +kernel
theorem d_Model_year_105 : decode b_Model_year 105 = .ok (.goto (4), 3) := by decide +kernel
theorem d_Model_year_108 : decode b_Model_year 108 = .ok (.iconst (0), 1) := by decide +kernel
theorem d_Model_year_109 : decode b_Model_year 109 = .ok (.iadd, 1) := by decide +kernel
theorem d_Model_year_110 : decode b_Model_year 110 = .ok (.istore 5, 2) := by decide +kernel
theorem d_Model_year_112 : decode b_Model_year 112 = .ok (.iinc 4 (1), 3) := by decide +kernel
theorem d_Model_year_115 : decode b_Model_year 115 = .ok (.iinc 6 (1), 3) := by decide +kernel
theorem d_Model_year_118 : decode b_Model_year 118 = .ok (.goto (-56), 3) := by decide +kernel
theorem d_Model_year_121 : decode b_Model_year 121 = .ok (.iload_n 3, 1) := by decide +kernel
theorem d_Model_year_122 : decode b_Model_year 122 = .ok (.iconst (4), 1) := by decide +kernel
theorem d_Model_year_123 : decode b_Model_year 123 = .ok (.if_icmp .ne (8), 3) := by decide +kernel
theorem d_Model_year_126 : decode b_Model_year 126 = .ok (.iload 5, 2) := by decide +kernel
theorem d_Model_year_128 : decode b_Model_year 128 = .ok (.goto (9), 3) := by decide +kernel
theorem d_Model_year_131 : decode b_Model_year 131 = .ok (.aload_n 0, 1) := by decide +kernel
theorem d_Model_year_132 : decode b_Model_year 132 = .ok (.getfield 11, 3) := by decide +kernel
theorem d_Model_year_135 : decode b_Model_year 135 = .ok (.iload_n 3, 1) := by decide +kernel
theorem d_Model_year_136 : decode b_Model_year 136 = .ok (.iaload, 1) := by decide +kernel
theorem d_Model_year_137 : decode b_Model_year 137 = .ok (.istore 6, 2) := by decide +kernel
theorem d_Model_year_139 : decode b_Model_year 139 = .ok (.aload_n 0, 1) := by decide +kernel
theorem d_Model_year_140 : decode b_Model_year 140 = .ok (.invokevirtual 217, 3) := by decide +kernel
theorem d_Model_year_143 : decode b_Model_year 143 = .ok (.iload 6, 2) := by decide +kernel
theorem d_Model_year_145 : decode b_Model_year 145 = .ok (.ireturn, 1) := by decide +kernel
theorem zb_Model_year_32 {l : Launch} {θ : ZT} {res : Int32 × ZM}  {σ : ZM} (h : f_Model_year_32 σ = some res) : WZ l b_Model_year 7 (some .int) "BakedBeforeModel" 129 14 θ (zrm 39 928) (zQ mkI 129 14 θ res) σ [] 32 [] := by
  unfold f_Model_year_32 at h
  refine z_ldcw (v := -100002) d_Model_year_32 q_1218 ?_
  exact z_iret d_Model_year_35 h
theorem zb_Model_year_115 {l : Launch} {θ : ZT} {res : Int32 × ZM} {k62 : Int32 × Int32 × Int32 × Int32 × Int32 × Int32 × ZM → Option (Int32 × ZM)} (hk62 : ∀ a : Int32 × Int32 × Int32 × Int32 × Int32 × Int32 × ZM, k62 a = some res → WZ l b_Model_year 7 (some .int) "BakedBeforeModel" 129 14 θ (zrm 39 928) (zQ mkI 129 14 θ res) a.2.2.2.2.2.2 [(0, .ref (za θ 129)), (1, .int a.1), (2, .int a.2.1), (3, .int a.2.2.1), (4, .int a.2.2.2.1), (5, .int a.2.2.2.2.1), (6, .int a.2.2.2.2.2.1)] 62 []) {x1 : Int32} {x2 : Int32} {x3 : Int32} {x4 : Int32} {x5 : Int32} {x6 : Int32} {σ : ZM} (h : f_Model_year_115 k62 x1 x2 x3 x4 x5 x6 σ = some res) : WZ l b_Model_year 7 (some .int) "BakedBeforeModel" 129 14 θ (zrm 39 928) (zQ mkI 129 14 θ res) σ [(0, .ref (za θ 129)), (1, .int x1), (2, .int x2), (3, .int x3), (4, .int x4), (5, .int x5), (6, .int x6)] 115 [] := by
  unfold f_Model_year_115 at h
  refine z_iinc (v := x6 + (1 : Int32)) 6 d_Model_year_115 rfl rfl (by decide) rfl ?_
  refine z_goto (tgt := 62) d_Model_year_118 (by decide) ?_
  refine z_sub [1, 2, 3, 4, 5, 6, 0] rfl ?_
  exact hk62 (x1, x2, x3, x4, x5, (x6 + (1 : Int32)), σ) h
theorem zb_Model_year_109 {l : Launch} {θ : ZT} {res : Int32 × ZM} {k62 : Int32 × Int32 × Int32 × Int32 × Int32 × Int32 × ZM → Option (Int32 × ZM)} (hk62 : ∀ a : Int32 × Int32 × Int32 × Int32 × Int32 × Int32 × ZM, k62 a = some res → WZ l b_Model_year 7 (some .int) "BakedBeforeModel" 129 14 θ (zrm 39 928) (zQ mkI 129 14 θ res) a.2.2.2.2.2.2 [(0, .ref (za θ 129)), (1, .int a.1), (2, .int a.2.1), (3, .int a.2.2.1), (4, .int a.2.2.2.1), (5, .int a.2.2.2.2.1), (6, .int a.2.2.2.2.2.1)] 62 []) {x1 : Int32} {x2 : Int32} {x3 : Int32} {x4 : Int32} {x6 : Int32} {y0 : Int32} {y1 : Int32} {σ : ZM} (h : f_Model_year_109 k62 x1 x2 x3 x4 x6 y0 y1 σ = some res) : WZ l b_Model_year 7 (some .int) "BakedBeforeModel" 129 14 θ (zrm 39 928) (zQ mkI 129 14 θ res) σ [(0, .ref (za θ 129)), (1, .int x1), (2, .int x2), (3, .int x3), (4, .int x4), (6, .int x6)] 109 [.int y0, .int y1] := by
  unfold f_Model_year_109 at h
  refine z_iadd d_Model_year_109 ?_
  refine z_istore d_Model_year_110 (by decide) rfl ?_
  refine z_iinc (v := x4 + (1 : Int32)) 5 d_Model_year_112 rfl rfl (by decide) rfl ?_
  refine z_sub [2, 3, 4, 5, 0, 1, 6] rfl ?_
  exact zb_Model_year_115 hk62 h
theorem zb_Model_year_137 {l : Launch} {θ : ZT} {res : Int32 × ZM} {y0 : Int32} {σ : ZM} (h : f_Model_year_137 y0 σ = some res) : WZ l b_Model_year 7 (some .int) "BakedBeforeModel" 129 14 θ (zrm 39 928) (zQ mkI 129 14 θ res) σ [(0, .ref (za θ 129))] 137 [.int y0] := by
  unfold f_Model_year_137 at h
  refine z_istore d_Model_year_137 (by decide) rfl ?_
  refine z_aload_n 1 d_Model_year_139 rfl rfl ?_
  obtain ⟨⟨v1, s2⟩, e3, h⟩ := zbd_i h
  refine w_callV (As := []) (kc := 22) (ci := 12) (c_Model_ends l θ e3) cf_Model_ends q_1131 d_Model_year_140 zl_129 rfl rfl rfl rfl rfl rfl (Nat.le_of_ble_eq_true rfl) rfl rfl ⟨Nat.le_of_ble_eq_true rfl, Nat.le_of_ble_eq_true rfl⟩ ?_
  refine z_iload 0 d_Model_year_143 rfl ?_
  exact z_iret d_Model_year_145 h
theorem zb_Model_year_62 {l : Launch} {θ : ZT} {res : Int32 × ZM} {k62 : Int32 × Int32 × Int32 × Int32 × Int32 × Int32 × ZM → Option (Int32 × ZM)} (hk62 : ∀ a : Int32 × Int32 × Int32 × Int32 × Int32 × Int32 × ZM, k62 a = some res → WZ l b_Model_year 7 (some .int) "BakedBeforeModel" 129 14 θ (zrm 39 928) (zQ mkI 129 14 θ res) a.2.2.2.2.2.2 [(0, .ref (za θ 129)), (1, .int a.1), (2, .int a.2.1), (3, .int a.2.2.1), (4, .int a.2.2.2.1), (5, .int a.2.2.2.2.1), (6, .int a.2.2.2.2.2.1)] 62 []) {x1 : Int32} {x2 : Int32} {x3 : Int32} {x4 : Int32} {x5 : Int32} {x6 : Int32} {σ : ZM} (h : f_Model_year_62 k62 x1 x2 x3 x4 x5 x6 σ = some res) : WZ l b_Model_year 7 (some .int) "BakedBeforeModel" 129 14 θ (zrm 39 928) (zQ mkI 129 14 θ res) σ [(0, .ref (za θ 129)), (1, .int x1), (2, .int x2), (3, .int x3), (4, .int x4), (5, .int x5), (6, .int x6)] 62 [] := by
  unfold f_Model_year_62 at h
  refine z_iload 6 d_Model_year_62 rfl ?_
  refine z_iload_n 1 d_Model_year_64 rfl rfl ?_
  refine z_icmp_ge (tgt := 121) d_Model_year_65 (by decide) (fun c1 => ?_) (fun c1 => ?_)
  · have h := (if_pos c1).symm.trans h
    refine z_iload_n 3 d_Model_year_121 rfl rfl ?_
    refine z_iconst (v := 4) d_Model_year_122 (by decide) ?_
    refine z_icmp_ne (tgt := 131) d_Model_year_123 (by decide) (fun c2 => ?_) (fun c2 => ?_)
    · have h := (if_neg c2).symm.trans h
      refine z_aload_n 0 d_Model_year_131 rfl rfl ?_
      refine gf_Model_s zl_129 d_Model_year_132 q_871 ?_
      refine z_iload_n 3 d_Model_year_135 rfl rfl ?_
      obtain ⟨c3, h⟩ := zck_i h
      refine w_iald zl_130 c3 d_Model_year_136 ?_
      refine z_sub [0] rfl ?_
      exact zb_Model_year_137 h
    · have h := (if_pos c2).symm.trans h
      refine z_iload 5 d_Model_year_126 rfl ?_
      refine z_goto (tgt := 137) d_Model_year_128 (by decide) ?_
      refine z_sub [0] rfl ?_
      exact zb_Model_year_137 h
  · have h := (if_neg c1).symm.trans h
    refine z_aload_n 0 d_Model_year_68 rfl rfl ?_
    refine gf_Model_s zl_129 d_Model_year_69 q_871 ?_
    refine z_iconst (v := 4) d_Model_year_72 (by decide) ?_
    obtain ⟨c4, h⟩ := zck_i h
    refine w_iald zl_130 c4 d_Model_year_73 ?_
    refine z_iload_n 2 d_Model_year_74 rfl rfl ?_
    obtain ⟨c5, h⟩ := zck_i h
    refine z_irem d_Model_year_75 c5 ?_
    refine z_if_ne (tgt := 86) d_Model_year_76 (by decide) (fun c6 => ?_) (fun c6 => ?_)
    · have h := (if_neg c6).symm.trans h
      refine z_iload 5 d_Model_year_86 rfl ?_
      refine z_aload_n 0 d_Model_year_88 rfl rfl ?_
      refine z_iload 4 d_Model_year_89 rfl ?_
      refine z_aload_n 0 d_Model_year_91 rfl rfl ?_
      refine gf_Model_s zl_129 d_Model_year_92 q_871 ?_
      refine z_iconst (v := 5) d_Model_year_95 (by decide) ?_
      obtain ⟨c7, h⟩ := zck_i h
      refine w_iald zl_130 c7 d_Model_year_96 ?_
      obtain ⟨c8, h⟩ := zck_i h
      refine z_irem d_Model_year_97 c8 ?_
      obtain ⟨⟨v9, s10⟩, e11, h⟩ := zbd_i h
      refine w_callV (As := [.int (x4 - x4 / (zI σ 130 (5 : Int32).toNatClampNeg) * (zI σ 130 (5 : Int32).toNatClampNeg))]) (kc := 22) (ci := 12) (c_Model_bakes l θ e11) cf_Model_bakes q_1104 d_Model_year_98 zl_129 rfl rfl rfl rfl rfl rfl (Nat.le_of_ble_eq_true rfl) rfl rfl ⟨Nat.le_of_ble_eq_true rfl, Nat.le_of_ble_eq_true rfl⟩ ?_
      refine z_if_eq (tgt := 108) d_Model_year_101 (by decide) (fun c12 => ?_) (fun c12 => ?_)
      · have h := (if_pos c12).symm.trans h
        refine z_iconst (v := 0) d_Model_year_108 (by decide) ?_
        refine z_sub [0, 1, 2, 3, 4, 6] rfl ?_
        exact zb_Model_year_109 hk62 h
      · have h := (if_neg c12).symm.trans h
        refine z_iconst (v := 1) d_Model_year_104 (by decide) ?_
        refine z_goto (tgt := 109) d_Model_year_105 (by decide) ?_
        refine z_sub [0, 1, 2, 3, 4, 6] rfl ?_
        exact zb_Model_year_109 hk62 h
    · have h := (if_pos c6).symm.trans h
      refine z_aload_n 0 d_Model_year_79 rfl rfl ?_
      obtain ⟨⟨v13, s14⟩, e15, h⟩ := zbd_i h
      refine w_callV (As := []) (kc := 22) (ci := 12) (c_Model_cools l θ e15) cf_Model_cools q_1116 d_Model_year_80 zl_129 rfl rfl rfl rfl rfl rfl (Nat.le_of_ble_eq_true rfl) rfl rfl ⟨Nat.le_of_ble_eq_true rfl, Nat.le_of_ble_eq_true rfl⟩ ?_
      refine z_goto (tgt := 115) d_Model_year_83 (by decide) ?_
      exact zb_Model_year_115 hk62 h
theorem zl_Model_year_62 {l : Launch} {θ : ZT} {res : Int32 × ZM} : ∀ (N : Nat) (a : Int32 × Int32 × Int32 × Int32 × Int32 × Int32 × ZM), F_Model_year_62 N a = some res → WZ l b_Model_year 7 (some .int) "BakedBeforeModel" 129 14 θ (zrm 39 928) (zQ mkI 129 14 θ res) a.2.2.2.2.2.2 [(0, .ref (za θ 129)), (1, .int a.1), (2, .int a.2.1), (3, .int a.2.2.1), (4, .int a.2.2.2.1), (5, .int a.2.2.2.2.1), (6, .int a.2.2.2.2.2.1)] 62 [] := by
  intro N
  induction N with
  | zero => intro a  h; cases (show (none : Option (Int32 × ZM)) = some res from h)
  | succ N ih => intro a  h; exact zb_Model_year_62 ih (show f_Model_year_62 (F_Model_year_62 N) a.1 a.2.1 a.2.2.1 a.2.2.2.1 a.2.2.2.2.1 a.2.2.2.2.2.1 a.2.2.2.2.2.2 = some res from h)
theorem c_Model_year (l : Launch) (θ : ZT) {x1 : Int32} {x2 : Int32} {x3 : Int32} {σ : ZM} {res : Int32 × ZM} (h : f_Model_year x1 x2 x3 σ = some res) : zMet mkI l 129 14 θ y_Model_year b_Model_year 7 (some .int) (zrm 39 928) [.ref (za θ 129), .int x1, .int x2, .int x3] σ res := by
  unfold f_Model_year at h
  refine z_met (lv := [(0, .ref (za θ 129)), (1, .int x1), (2, .int x2), (3, .int x3)]) (by decide +kernel) rfl (Nat.le_of_ble_eq_true rfl) (by decide) ?_
  refine z_iload_n 3 d_Model_year_0 rfl rfl ?_
  refine z_iconst (v := 0) d_Model_year_1 (by decide) ?_
  refine z_iconst (v := 4) d_Model_year_2 (by decide) ?_
  obtain ⟨⟨v1, s2⟩, e3, h⟩ := zbd_i h
  refine w_callS (As := [.int x3, .int (0 : Int32), .int (4 : Int32)]) (c_Model_isIn l θ e3) cf_Model_isIn q_969 d_Model_year_3 rfl rfl rfl (Nat.le_of_ble_eq_true rfl) rfl rfl ⟨Nat.le_of_ble_eq_true rfl, Nat.le_of_ble_eq_true rfl⟩ ?_
  refine z_if_ne (tgt := 12) d_Model_year_6 (by decide) (fun c4 => ?_) (fun c4 => ?_)
  · have h := (if_neg c4).symm.trans h
    refine z_iload_n 1 d_Model_year_12 rfl rfl ?_
    refine z_iconst (v := 0) d_Model_year_13 (by decide) ?_
    refine z_bipush (v := 60) d_Model_year_14 (by decide) ?_
    obtain ⟨⟨v5, s6⟩, e7, h⟩ := zbd_i h
    refine w_callS (As := [.int x1, .int (0 : Int32), .int (60 : Int32)]) (c_Model_isIn l θ e7) cf_Model_isIn q_969 d_Model_year_16 rfl rfl rfl (Nat.le_of_ble_eq_true rfl) rfl rfl ⟨Nat.le_of_ble_eq_true rfl, Nat.le_of_ble_eq_true rfl⟩ ?_
    refine z_if_eq (tgt := 32) d_Model_year_19 (by decide) (fun c8 => ?_) (fun c8 => ?_)
    · have h := (if_pos c8).symm.trans h
      refine z_sub [] rfl ?_
      exact zb_Model_year_32 h
    · have h := (if_neg c8).symm.trans h
      refine z_iload_n 2 d_Model_year_22 rfl rfl ?_
      refine z_iconst (v := 2) d_Model_year_23 (by decide) ?_
      refine z_bipush (v := 30) d_Model_year_24 (by decide) ?_
      obtain ⟨⟨v9, s10⟩, e11, h⟩ := zbd_i h
      refine w_callS (As := [.int x2, .int (2 : Int32), .int (30 : Int32)]) (c_Model_isIn l θ e11) cf_Model_isIn q_969 d_Model_year_26 rfl rfl rfl (Nat.le_of_ble_eq_true rfl) rfl rfl ⟨Nat.le_of_ble_eq_true rfl, Nat.le_of_ble_eq_true rfl⟩ ?_
      refine z_if_ne (tgt := 36) d_Model_year_29 (by decide) (fun c12 => ?_) (fun c12 => ?_)
      · have h := (if_neg c12).symm.trans h
        refine z_aload_n 0 d_Model_year_36 rfl rfl ?_
        refine gf_Model_s zl_129 d_Model_year_37 q_871 ?_
        refine z_iconst (v := 5) d_Model_year_40 (by decide) ?_
        obtain ⟨c13, h⟩ := zck_i h
        refine w_iald zl_130 c13 d_Model_year_41 ?_
        refine z_if_ne (tgt := 49) d_Model_year_42 (by decide) (fun c14 => ?_) (fun c14 => ?_)
        · have h := (if_neg c14).symm.trans h
          refine z_aload_n 0 d_Model_year_49 rfl rfl ?_
          obtain ⟨⟨v15, s16⟩, e17, h⟩ := zbd_i h
          refine w_callV (As := []) (kc := 22) (ci := 12) (c_Model_begins l θ e17) cf_Model_begins q_1124 d_Model_year_50 zl_129 rfl rfl rfl rfl rfl rfl (Nat.le_of_ble_eq_true rfl) rfl rfl ⟨Nat.le_of_ble_eq_true rfl, Nat.le_of_ble_eq_true rfl⟩ ?_
          refine z_iconst (v := 0) d_Model_year_53 (by decide) ?_
          refine z_istore d_Model_year_54 (by decide) rfl ?_
          refine z_iconst (v := 0) d_Model_year_56 (by decide) ?_
          refine z_istore d_Model_year_57 (by decide) rfl ?_
          refine z_iconst (v := 0) d_Model_year_59 (by decide) ?_
          refine z_istore d_Model_year_60 (by decide) rfl ?_
          refine z_sub [3, 4, 5, 6, 2, 1, 0] rfl ?_
          exact zl_Model_year_62 2000 (x1, x2, x3, (0 : Int32), (0 : Int32), (0 : Int32), s16) h
        · have h := (if_pos c14).symm.trans h
          refine z_ldcw (v := -100003) d_Model_year_45 q_1219 ?_
          exact z_iret d_Model_year_48 h
      · have h := (if_pos c12).symm.trans h
        refine z_sub [] rfl ?_
        exact zb_Model_year_32 h
  · have h := (if_pos c4).symm.trans h
    refine z_ldc (v := -100001) d_Model_year_9 q_1197 ?_
    exact z_iret d_Model_year_11 h
theorem d_Model_common_0 : decode b_Model_common 0 = .ok (.iload_n 1, 1) := by decide +kernel
theorem d_Model_common_1 : decode b_Model_common 1 = .ok (.ifCond .ne (7), 3) := by decide +kernel
theorem d_Model_common_4 : decode b_Model_common 4 = .ok (.iload_n 0, 1) := by decide +kernel
theorem d_Model_common_5 : decode b_Model_common 5 = .ok (.goto (10), 3) := by decide +kernel
theorem d_Model_common_8 : decode b_Model_common 8 = .ok (.iload_n 1, 1) := by decide +kernel
theorem d_Model_common_9 : decode b_Model_common 9 = .ok (.iload_n 0, 1) := by decide +kernel
theorem d_Model_common_10 : decode b_Model_common 10 = .ok (.iload_n 1, 1) := by decide +kernel
theorem d_Model_common_11 : decode b_Model_common 11 = .ok (.irem, 1) := by decide +kernel
theorem d_Model_common_12 : decode b_Model_common 12 = .ok (.invokestatic 263, 3) := by decide +kernel
theorem d_Model_common_15 : decode b_Model_common 15 = .ok (.ireturn, 1) := by decide +kernel
theorem c_Model_common (l : Launch) (θ : ZT) {rec : Int32 × Int32 × ZM → Option (Int32 × ZM)} (n : Nat) (hrec : ∀ (a : Int32 × Int32 × ZM) (r : Int32 × ZM), rec a = some r → zMet mkI l 129 14 θ y_Model_common b_Model_common 2 (some .int) (zrm (2 + 1 * n) (100 + 21 * n)) [.int a.1, .int a.2.1] a.2.2 r) {x0 : Int32} {x1 : Int32} {σ : ZM} {res : Int32 × ZM} (h : f_Model_common rec x0 x1 σ = some res) : zMet mkI l 129 14 θ y_Model_common b_Model_common 2 (some .int) (zrm (2 + 1 * (n + 1)) (100 + 21 * (n + 1))) [.int x0, .int x1] σ res := by
  unfold f_Model_common at h
  refine z_met (lv := [(0, .int x0), (1, .int x1)]) (by decide +kernel) rfl (Nat.le_of_ble_eq_true rfl) (by decide) ?_
  refine z_iload_n 1 d_Model_common_0 rfl rfl ?_
  refine z_if_ne (tgt := 8) d_Model_common_1 (by decide) (fun c1 => ?_) (fun c1 => ?_)
  · have h := (if_neg c1).symm.trans h
    refine z_iload_n 1 d_Model_common_8 rfl rfl ?_
    refine z_iload_n 0 d_Model_common_9 rfl rfl ?_
    refine z_iload_n 1 d_Model_common_10 rfl rfl ?_
    obtain ⟨c2, h⟩ := zck_i h
    refine z_irem d_Model_common_11 c2 ?_
    obtain ⟨⟨v3, s4⟩, e5, h⟩ := zbd_i h
    refine w_callS (As := [.int x1, .int (x0 - x0 / x1 * x1)]) (hrec (x1, (x0 - x0 / x1 * x1), σ) _ e5) cf_Model_common q_1228 d_Model_common_12 rfl rfl rfl (Nat.le_of_ble_eq_true rfl) rfl rfl ⟨by simp only [zrm]; omega, by simp only [zrm]; omega⟩ ?_
    exact z_iret d_Model_common_15 h
  · have h := (if_pos c1).symm.trans h
    refine z_iload_n 0 d_Model_common_4 rfl rfl ?_
    refine z_goto (tgt := 15) d_Model_common_5 (by decide) ?_
    exact z_iret d_Model_common_15 h
theorem cn_Model_common (l : Launch) (θ : ZT) : ∀ (n : Nat) (a : Int32 × Int32 × ZM) (r : Int32 × ZM), F_Model_common n a = some r → zMet mkI l 129 14 θ y_Model_common b_Model_common 2 (some .int) (zrm (2 + 1 * n) (100 + 21 * n)) [.int a.1, .int a.2.1] a.2.2 r := by
  intro n
  induction n with
  | zero => intro a r h; cases (show (none : Option (Int32 × ZM)) = some r from h)
  | succ n ih => intro a r h; exact c_Model_common l θ n ih (show f_Model_common (F_Model_common n) a.1 a.2.1 a.2.2 = some r from h)
theorem d_Model_lowest_0 : decode b_Model_lowest 0 = .ok (.iload_n 1, 1) := by decide +kernel
theorem d_Model_lowest_1 : decode b_Model_lowest 1 = .ok (.iload_n 0, 1) := by decide +kernel
theorem d_Model_lowest_2 : decode b_Model_lowest 2 = .ok (.invokestatic 263, 3) := by decide +kernel
theorem d_Model_lowest_5 : decode b_Model_lowest 5 = .ok (.istore_n 3, 1) := by decide +kernel
theorem d_Model_lowest_6 : decode b_Model_lowest 6 = .ok (.iload_n 2, 1) := by decide +kernel
theorem d_Model_lowest_7 : decode b_Model_lowest 7 = .ok (.ifCond .ne (10), 3) := by decide +kernel
theorem d_Model_lowest_10 : decode b_Model_lowest 10 = .ok (.iload_n 0, 1) := by decide +kernel
theorem d_Model_lowest_11 : decode b_Model_lowest 11 = .ok (.iload_n 3, 1) := by decide +kernel
theorem d_Model_lowest_12 : decode b_Model_lowest 12 = .ok (.idiv, 1) := by decide +kernel
theorem d_Model_lowest_13 : decode b_Model_lowest 13 = .ok (.i2l, 1) := by decide +kernel
theorem d_Model_lowest_14 : decode b_Model_lowest 14 = .ok (.goto (7), 3) := by decide +kernel
theorem d_Model_lowest_17 : decode b_Model_lowest 17 = .ok (.iload_n 1, 1) := by decide +kernel
theorem d_Model_lowest_18 : decode b_Model_lowest 18 = .ok (.iload_n 3, 1) := by decide +kernel
theorem d_Model_lowest_19 : decode b_Model_lowest 19 = .ok (.idiv, 1) := by decide +kernel
theorem d_Model_lowest_20 : decode b_Model_lowest 20 = .ok (.i2l, 1) := by decide +kernel
theorem d_Model_lowest_21 : decode b_Model_lowest 21 = .ok (.lreturn, 1) := by decide +kernel
theorem c_Model_lowest (l : Launch) (θ : ZT) {x0 : Int32} {x1 : Int32} {x2 : Int32} {σ : ZM} {res : Int64 × ZM} (h : f_Model_lowest x0 x1 x2 σ = some res) : zMet mkL l 129 14 θ y_Model_lowest b_Model_lowest 4 (some .long) (zrm 23 541) [.int x0, .int x1, .int x2] σ res := by
  unfold f_Model_lowest at h
  refine z_met (lv := [(0, .int x0), (1, .int x1), (2, .int x2)]) (by decide +kernel) rfl (Nat.le_of_ble_eq_true rfl) (by decide) ?_
  refine z_iload_n 1 d_Model_lowest_0 rfl rfl ?_
  refine z_iload_n 0 d_Model_lowest_1 rfl rfl ?_
  obtain ⟨⟨v1, s2⟩, e3, h⟩ := zbd_i h
  refine w_callS (As := [.int x1, .int x0]) (cn_Model_common l θ 20 (x1, x0, σ) _ e3) cf_Model_common q_1228 d_Model_lowest_2 rfl rfl rfl (Nat.le_of_ble_eq_true rfl) rfl rfl ⟨Nat.le_of_ble_eq_true rfl, Nat.le_of_ble_eq_true rfl⟩ ?_
  refine z_istore_n d_Model_lowest_5 rfl (by decide) rfl ?_
  refine z_iload_n 3 d_Model_lowest_6 rfl rfl ?_
  refine z_if_ne (tgt := 17) d_Model_lowest_7 (by decide) (fun c4 => ?_) (fun c4 => ?_)
  · have h := (if_neg c4).symm.trans h
    refine z_iload_n 2 d_Model_lowest_17 rfl rfl ?_
    refine z_iload_n 0 d_Model_lowest_18 rfl rfl ?_
    obtain ⟨c5, h⟩ := zck_i h
    refine z_idiv d_Model_lowest_19 c5 ?_
    refine z_i2l d_Model_lowest_20 ?_
    exact z_lret d_Model_lowest_21 h
  · have h := (if_pos c4).symm.trans h
    refine z_iload_n 1 d_Model_lowest_10 rfl rfl ?_
    refine z_iload_n 0 d_Model_lowest_11 rfl rfl ?_
    obtain ⟨c6, h⟩ := zck_i h
    refine z_idiv d_Model_lowest_12 c6 ?_
    refine z_i2l d_Model_lowest_13 ?_
    refine z_goto (tgt := 21) d_Model_lowest_14 (by decide) ?_
    exact z_lret d_Model_lowest_21 h
theorem d_Model_odds_0 : decode b_Model_odds 0 = .ok (.aload_n 0, 1) := by decide +kernel
theorem d_Model_odds_1 : decode b_Model_odds 1 = .ok (.iload_n 1, 1) := by decide +kernel
theorem d_Model_odds_2 : decode b_Model_odds 2 = .ok (.invokevirtual 199, 3) := by decide +kernel
theorem d_Model_odds_5 : decode b_Model_odds 5 = .ok (.ifCond .eq (22), 3) := by decide +kernel
theorem d_Model_odds_8 : decode b_Model_odds 8 = .ok (.iload_n 2, 1) := by decide +kernel
theorem d_Model_odds_9 : decode b_Model_odds 9 = .ok (.iconst (0), 1) := by decide +kernel
theorem d_Model_odds_10 : decode b_Model_odds 10 = .ok (.iconst (1), 1) := by decide +kernel
theorem d_Model_odds_11 : decode b_Model_odds 11 = .ok (.invokestatic 52, 3) := by decide +kernel
theorem d_Model_odds_14 : decode b_Model_odds 14 = .ok (.ifCond .eq (13), 3) := by decide +kernel
theorem d_Model_odds_17 : decode b_Model_odds 17 = .ok (.aload_n 0, 1) := by decide +kernel
theorem d_Model_odds_18 : decode b_Model_odds 18 = .ok (.getfield 11, 3) := by decide +kernel
theorem d_Model_odds_21 : decode b_Model_odds 21 = .ok (.iconst (5), 1) := by decide +kernel
theorem d_Model_odds_22 : decode b_Model_odds 22 = .ok (.iaload, 1) := by decide +kernel
theorem d_Model_odds_23 : decode b_Model_odds 23 = .ok (.iconst (1), 1) := by decide +kernel
theorem d_Model_odds_24 : decode b_Model_odds 24 = .ok (.if_icmp .ne (7), 3) := by decide +kernel
theorem d_Model_odds_27 : decode b_Model_odds 27 = .ok (.ldc2_w 266, 3) := by decide +kernel
theorem d_Model_odds_30 : decode b_Model_odds 30 = .ok (.lreturn, 1) := by decide +kernel
theorem d_Model_odds_31 : decode b_Model_odds 31 = .ok (.iconst (0), 1) := by decide +kernel
theorem d_Model_odds_32 : decode b_Model_odds 32 = .ok (.istore_n 3, 1) := by decide +kernel
theorem d_Model_odds_33 : decode b_Model_odds 33 = .ok (.iconst (0), 1) := by decide +kernel
theorem d_Model_odds_34 : decode b_Model_odds 34 = .ok (.istore 4, 2) := by decide +kernel
theorem d_Model_odds_36 : decode b_Model_odds 36 = .ok (.iload 4, 2) := by decide +kernel
theorem d_Model_odds_38 : decode b_Model_odds 38 = .ok (.aload_n 0, 1) := by decide +kernel
theorem d_Model_odds_39 : decode b_Model_odds 39 = .ok (.getfield 11, 3) := by decide +kernel
theorem d_Model_odds_42 : decode b_Model_odds 42 = .ok (.iconst (5), 1) := by decide +kernel
theorem d_Model_odds_43 : decode b_Model_odds 43 = .ok (.iaload, 1) := by decide +kernel
theorem d_Model_odds_44 : decode b_Model_odds 44 = .ok (.if_icmp .ge (50), 3) := by decide +kernel
theorem d_Model_odds_47 : decode b_Model_odds 47 = .ok (.iload 4, 2) := by decide +kernel
theorem d_Model_odds_49 : decode b_Model_odds 49 = .ok (.iload_n 1, 1) := by decide +kernel
theorem d_Model_odds_50 : decode b_Model_odds 50 = .ok (.if_icmp .ne (6), 3) := by decide +kernel
theorem d_Model_odds_53 : decode b_Model_odds 53 = .ok (.goto (35), 3) := by decide +kernel
theorem d_Model_odds_56 : decode b_Model_odds 56 = .ok (.aload_n 0, 1) := by decide +kernel
theorem d_Model_odds_57 : decode b_Model_odds 57 = .ok (.invokevirtual 214, 3) := by decide +kernel
theorem d_Model_odds_60 : decode b_Model_odds 60 = .ok (.aload_n 0, 1) := by decide +kernel
theorem d_Model_odds_61 : decode b_Model_odds 61 = .ok (.iload 4, 2) := by decide +kernel
theorem d_Model_odds_63 : decode b_Model_odds 63 = .ok (.invokevirtual 208, 3) := by decide +kernel
theorem d_Model_odds_66 : decode b_Model_odds 66 = .ok (.istore 5, 2) := by decide +kernel
theorem d_Model_odds_68 : decode b_Model_odds 68 = .ok (.iload_n 3, 1) := by decide +kernel
theorem d_Model_odds_69 : decode b_Model_odds 69 = .ok (.aload_n 0, 1) := by decide +kernel
theorem d_Model_odds_70 : decode b_Model_odds 70 = .ok (.iload_n 1, 1) := by decide +kernel
theorem d_Model_odds_71 : decode b_Model_odds 71 = .ok (.invokevirtual 190, 3) := by decide +kernel
theorem d_Model_odds_74 : decode b_Model_odds 74 = .ok (.ifCond .eq (7), 3) := by decide +kernel
theorem d_Model_odds_77 : decode b_Model_odds 77 = .ok (.iconst (1), 1) := by decide +kernel
theorem d_Model_odds_78 : decode b_Model_odds 78 = .ok (.goto (4), 3) := by decide +kernel
theorem d_Model_odds_81 : decode b_Model_odds 81 = .ok (.iconst (0), 1) := by decide +kernel
theorem d_Model_odds_82 : decode b_Model_odds 82 = .ok (.iadd, 1) := by decide +kernel
theorem d_Model_odds_83 : decode b_Model_odds 83 = .ok (.istore_n 3, 1) := by decide +kernel
theorem d_Model_odds_84 : decode b_Model_odds 84 = .ok (.aload_n 0, 1) := by decide +kernel
theorem d_Model_odds_85 : decode b_Model_odds 85 = .ok (.invokevirtual 217, 3) := by decide +kernel
theorem d_Model_odds_88 : decode b_Model_odds 88 = .ok (.iinc 4 (1), 3) := by decide +kernel
theorem d_Model_odds_91 : decode b_Model_odds 91 = .ok (.goto (-55), 3) := by decide +kernel
theorem d_Model_odds_94 : decode b_Model_odds 94 = .ok (.iload_n 3, 1) := by decide +kernel
theorem d_Model_odds_95 : decode b_Model_odds 95 = .ok (.aload_n 0, 1) := by decide +kernel
theorem d_Model_odds_96 : decode b_Model_odds 96 = .ok (.getfield 11, 3) := by decide +kernel
theorem d_Model_odds_99 : decode b_Model_odds 99 = .ok (.iconst (5), 1) := by decide +kernel
theorem d_Model_odds_100 : decode b_Model_odds 100 = .ok (.iaload, 1) := by decide +kernel
theorem d_Model_odds_101 : decode b_Model_odds 101 = .ok (.iconst (1), 1) := by decide +kernel
theorem d_Model_odds_102 : decode b_Model_odds 102 = .ok (.isub, 1) := by decide +kernel
theorem d_Model_odds_103 : decode b_Model_odds 103 = .ok (.iload_n 2, 1) := by decide +kernel
theorem d_Model_odds_104 : decode b_Model_odds 104 = .ok (.invokestatic 268, 3) := by decide +kernel
theorem d_Model_odds_107 : decode b_Model_odds 107 = .ok (.lreturn, 1) := by decide +kernel
theorem zb_Model_odds_27 {l : Launch} {θ : ZT} {res : Int64 × ZM}  {σ : ZM} (h : f_Model_odds_27 σ = some res) : WZ l b_Model_odds 6 (some .long) "BakedBeforeModel" 129 14 θ (zrm 39 928) (zQ mkL 129 14 θ res) σ [] 27 [] := by
  unfold f_Model_odds_27 at h
  refine z_ldc2 (v := -9223372036854775808) d_Model_odds_27 q_1224 ?_
  exact z_lret d_Model_odds_30 h
theorem zb_Model_odds_88 {l : Launch} {θ : ZT} {res : Int64 × ZM} {k36 : Int32 × Int32 × Int32 × Int32 × ZM → Option (Int64 × ZM)} (hk36 : ∀ a : Int32 × Int32 × Int32 × Int32 × ZM, k36 a = some res → WZ l b_Model_odds 6 (some .long) "BakedBeforeModel" 129 14 θ (zrm 39 928) (zQ mkL 129 14 θ res) a.2.2.2.2 [(0, .ref (za θ 129)), (1, .int a.1), (2, .int a.2.1), (3, .int a.2.2.1), (4, .int a.2.2.2.1)] 36 []) {x1 : Int32} {x2 : Int32} {x3 : Int32} {x4 : Int32} {σ : ZM} (h : f_Model_odds_88 k36 x1 x2 x3 x4 σ = some res) : WZ l b_Model_odds 6 (some .long) "BakedBeforeModel" 129 14 θ (zrm 39 928) (zQ mkL 129 14 θ res) σ [(0, .ref (za θ 129)), (1, .int x1), (2, .int x2), (3, .int x3), (4, .int x4)] 88 [] := by
  unfold f_Model_odds_88 at h
  refine z_iinc (v := x4 + (1 : Int32)) 4 d_Model_odds_88 rfl rfl (by decide) rfl ?_
  refine z_goto (tgt := 36) d_Model_odds_91 (by decide) ?_
  refine z_sub [1, 2, 3, 4, 0] rfl ?_
  exact hk36 (x1, x2, x3, (x4 + (1 : Int32)), σ) h
theorem zb_Model_odds_82 {l : Launch} {θ : ZT} {res : Int64 × ZM} {k36 : Int32 × Int32 × Int32 × Int32 × ZM → Option (Int64 × ZM)} (hk36 : ∀ a : Int32 × Int32 × Int32 × Int32 × ZM, k36 a = some res → WZ l b_Model_odds 6 (some .long) "BakedBeforeModel" 129 14 θ (zrm 39 928) (zQ mkL 129 14 θ res) a.2.2.2.2 [(0, .ref (za θ 129)), (1, .int a.1), (2, .int a.2.1), (3, .int a.2.2.1), (4, .int a.2.2.2.1)] 36 []) {x1 : Int32} {x2 : Int32} {x4 : Int32} {y0 : Int32} {y1 : Int32} {σ : ZM} (h : f_Model_odds_82 k36 x1 x2 x4 y0 y1 σ = some res) : WZ l b_Model_odds 6 (some .long) "BakedBeforeModel" 129 14 θ (zrm 39 928) (zQ mkL 129 14 θ res) σ [(0, .ref (za θ 129)), (1, .int x1), (2, .int x2), (4, .int x4)] 82 [.int y0, .int y1] := by
  unfold f_Model_odds_82 at h
  refine z_iadd d_Model_odds_82 ?_
  refine z_istore_n d_Model_odds_83 rfl (by decide) rfl ?_
  refine z_aload_n 1 d_Model_odds_84 rfl rfl ?_
  obtain ⟨⟨v1, s2⟩, e3, h⟩ := zbd_i h
  refine w_callV (As := []) (kc := 22) (ci := 12) (c_Model_ends l θ e3) cf_Model_ends q_1131 d_Model_odds_85 zl_129 rfl rfl rfl rfl rfl rfl (Nat.le_of_ble_eq_true rfl) rfl rfl ⟨Nat.le_of_ble_eq_true rfl, Nat.le_of_ble_eq_true rfl⟩ ?_
  refine z_sub [1, 2, 3, 0, 4] rfl ?_
  exact zb_Model_odds_88 hk36 h
theorem zb_Model_odds_36 {l : Launch} {θ : ZT} {res : Int64 × ZM} {k36 : Int32 × Int32 × Int32 × Int32 × ZM → Option (Int64 × ZM)} (hk36 : ∀ a : Int32 × Int32 × Int32 × Int32 × ZM, k36 a = some res → WZ l b_Model_odds 6 (some .long) "BakedBeforeModel" 129 14 θ (zrm 39 928) (zQ mkL 129 14 θ res) a.2.2.2.2 [(0, .ref (za θ 129)), (1, .int a.1), (2, .int a.2.1), (3, .int a.2.2.1), (4, .int a.2.2.2.1)] 36 []) {x1 : Int32} {x2 : Int32} {x3 : Int32} {x4 : Int32} {σ : ZM} (h : f_Model_odds_36 k36 x1 x2 x3 x4 σ = some res) : WZ l b_Model_odds 6 (some .long) "BakedBeforeModel" 129 14 θ (zrm 39 928) (zQ mkL 129 14 θ res) σ [(0, .ref (za θ 129)), (1, .int x1), (2, .int x2), (3, .int x3), (4, .int x4)] 36 [] := by
  unfold f_Model_odds_36 at h
  refine z_iload 4 d_Model_odds_36 rfl ?_
  refine z_aload_n 0 d_Model_odds_38 rfl rfl ?_
  refine gf_Model_s zl_129 d_Model_odds_39 q_871 ?_
  refine z_iconst (v := 5) d_Model_odds_42 (by decide) ?_
  obtain ⟨c1, h⟩ := zck_i h
  refine w_iald zl_130 c1 d_Model_odds_43 ?_
  refine z_icmp_ge (tgt := 94) d_Model_odds_44 (by decide) (fun c2 => ?_) (fun c2 => ?_)
  · have h := (if_pos c2).symm.trans h
    refine z_iload_n 3 d_Model_odds_94 rfl rfl ?_
    refine z_aload_n 0 d_Model_odds_95 rfl rfl ?_
    refine gf_Model_s zl_129 d_Model_odds_96 q_871 ?_
    refine z_iconst (v := 5) d_Model_odds_99 (by decide) ?_
    obtain ⟨c3, h⟩ := zck_i h
    refine w_iald zl_130 c3 d_Model_odds_100 ?_
    refine z_iconst (v := 1) d_Model_odds_101 (by decide) ?_
    refine z_isub d_Model_odds_102 ?_
    refine z_iload_n 2 d_Model_odds_103 rfl rfl ?_
    obtain ⟨⟨v4, s5⟩, e6, h⟩ := zbd_i h
    refine w_callS (As := [.int x3, .int ((zI σ 130 (5 : Int32).toNatClampNeg) - (1 : Int32)), .int x2]) (c_Model_lowest l θ e6) cf_Model_lowest q_1225 d_Model_odds_104 rfl rfl rfl (Nat.le_of_ble_eq_true rfl) rfl rfl ⟨Nat.le_of_ble_eq_true rfl, Nat.le_of_ble_eq_true rfl⟩ ?_
    exact z_lret d_Model_odds_107 h
  · have h := (if_neg c2).symm.trans h
    refine z_iload 4 d_Model_odds_47 rfl ?_
    refine z_iload_n 1 d_Model_odds_49 rfl rfl ?_
    refine z_icmp_ne (tgt := 56) d_Model_odds_50 (by decide) (fun c7 => ?_) (fun c7 => ?_)
    · have h := (if_neg c7).symm.trans h
      refine z_aload_n 0 d_Model_odds_56 rfl rfl ?_
      obtain ⟨⟨v8, s9⟩, e10, h⟩ := zbd_i h
      refine w_callV (As := []) (kc := 22) (ci := 12) (c_Model_begins l θ e10) cf_Model_begins q_1124 d_Model_odds_57 zl_129 rfl rfl rfl rfl rfl rfl (Nat.le_of_ble_eq_true rfl) rfl rfl ⟨Nat.le_of_ble_eq_true rfl, Nat.le_of_ble_eq_true rfl⟩ ?_
      refine z_aload_n 0 d_Model_odds_60 rfl rfl ?_
      refine z_iload 4 d_Model_odds_61 rfl ?_
      obtain ⟨⟨v11, s12⟩, e13, h⟩ := zbd_i h
      refine w_callV (As := [.int x4]) (kc := 22) (ci := 12) (c_Model_bakes l θ e13) cf_Model_bakes q_1104 d_Model_odds_63 zl_129 rfl rfl rfl rfl rfl rfl (Nat.le_of_ble_eq_true rfl) rfl rfl ⟨Nat.le_of_ble_eq_true rfl, Nat.le_of_ble_eq_true rfl⟩ ?_
      refine z_istore d_Model_odds_66 (by decide) rfl ?_
      refine z_iload_n 4 d_Model_odds_68 rfl rfl ?_
      refine z_aload_n 1 d_Model_odds_69 rfl rfl ?_
      refine z_iload_n 2 d_Model_odds_70 rfl rfl ?_
      obtain ⟨⟨v14, s15⟩, e16, h⟩ := zbd_i h
      refine w_callV (As := [.int x1]) (kc := 22) (ci := 12) (c_Model_isSpoiled l θ e16) cf_Model_isSpoiled q_1072 d_Model_odds_71 zl_129 rfl rfl rfl rfl rfl rfl (Nat.le_of_ble_eq_true rfl) rfl rfl ⟨Nat.le_of_ble_eq_true rfl, Nat.le_of_ble_eq_true rfl⟩ ?_
      refine z_if_eq (tgt := 81) d_Model_odds_74 (by decide) (fun c17 => ?_) (fun c17 => ?_)
      · have h := (if_pos c17).symm.trans h
        refine z_iconst (v := 0) d_Model_odds_81 (by decide) ?_
        refine z_sub [1, 2, 3, 5] rfl ?_
        exact zb_Model_odds_82 hk36 h
      · have h := (if_neg c17).symm.trans h
        refine z_iconst (v := 1) d_Model_odds_77 (by decide) ?_
        refine z_goto (tgt := 82) d_Model_odds_78 (by decide) ?_
        refine z_sub [1, 2, 3, 5] rfl ?_
        exact zb_Model_odds_82 hk36 h
    · have h := (if_pos c7).symm.trans h
      refine z_goto (tgt := 88) d_Model_odds_53 (by decide) ?_
      exact zb_Model_odds_88 hk36 h
theorem zl_Model_odds_36 {l : Launch} {θ : ZT} {res : Int64 × ZM} : ∀ (N : Nat) (a : Int32 × Int32 × Int32 × Int32 × ZM), F_Model_odds_36 N a = some res → WZ l b_Model_odds 6 (some .long) "BakedBeforeModel" 129 14 θ (zrm 39 928) (zQ mkL 129 14 θ res) a.2.2.2.2 [(0, .ref (za θ 129)), (1, .int a.1), (2, .int a.2.1), (3, .int a.2.2.1), (4, .int a.2.2.2.1)] 36 [] := by
  intro N
  induction N with
  | zero => intro a  h; cases (show (none : Option (Int64 × ZM)) = some res from h)
  | succ N ih => intro a  h; exact zb_Model_odds_36 ih (show f_Model_odds_36 (F_Model_odds_36 N) a.1 a.2.1 a.2.2.1 a.2.2.2.1 a.2.2.2.2 = some res from h)
theorem c_Model_odds (l : Launch) (θ : ZT) {x1 : Int32} {x2 : Int32} {σ : ZM} {res : Int64 × ZM} (h : f_Model_odds x1 x2 σ = some res) : zMet mkL l 129 14 θ y_Model_odds b_Model_odds 6 (some .long) (zrm 39 928) [.ref (za θ 129), .int x1, .int x2] σ res := by
  unfold f_Model_odds at h
  refine z_met (lv := [(0, .ref (za θ 129)), (1, .int x1), (2, .int x2)]) (by decide +kernel) rfl (Nat.le_of_ble_eq_true rfl) (by decide) ?_
  refine z_aload_n 0 d_Model_odds_0 rfl rfl ?_
  refine z_iload_n 1 d_Model_odds_1 rfl rfl ?_
  obtain ⟨⟨v1, s2⟩, e3, h⟩ := zbd_i h
  refine w_callV (As := [.int x1]) (kc := 22) (ci := 12) (c_Model_isLoaf l θ e3) cf_Model_isLoaf q_1053 d_Model_odds_2 zl_129 rfl rfl rfl rfl rfl rfl (Nat.le_of_ble_eq_true rfl) rfl rfl ⟨Nat.le_of_ble_eq_true rfl, Nat.le_of_ble_eq_true rfl⟩ ?_
  refine z_if_eq (tgt := 27) d_Model_odds_5 (by decide) (fun c4 => ?_) (fun c4 => ?_)
  · have h := (if_pos c4).symm.trans h
    refine z_sub [] rfl ?_
    exact zb_Model_odds_27 h
  · have h := (if_neg c4).symm.trans h
    refine z_iload_n 2 d_Model_odds_8 rfl rfl ?_
    refine z_iconst (v := 0) d_Model_odds_9 (by decide) ?_
    refine z_iconst (v := 1) d_Model_odds_10 (by decide) ?_
    obtain ⟨⟨v5, s6⟩, e7, h⟩ := zbd_i h
    refine w_callS (As := [.int x2, .int (0 : Int32), .int (1 : Int32)]) (c_Model_isIn l θ e7) cf_Model_isIn q_969 d_Model_odds_11 rfl rfl rfl (Nat.le_of_ble_eq_true rfl) rfl rfl ⟨Nat.le_of_ble_eq_true rfl, Nat.le_of_ble_eq_true rfl⟩ ?_
    refine z_if_eq (tgt := 27) d_Model_odds_14 (by decide) (fun c8 => ?_) (fun c8 => ?_)
    · have h := (if_pos c8).symm.trans h
      refine z_sub [] rfl ?_
      exact zb_Model_odds_27 h
    · have h := (if_neg c8).symm.trans h
      refine z_aload_n 0 d_Model_odds_17 rfl rfl ?_
      refine gf_Model_s zl_129 d_Model_odds_18 q_871 ?_
      refine z_iconst (v := 5) d_Model_odds_21 (by decide) ?_
      obtain ⟨c9, h⟩ := zck_i h
      refine w_iald zl_130 c9 d_Model_odds_22 ?_
      refine z_iconst (v := 1) d_Model_odds_23 (by decide) ?_
      refine z_icmp_ne (tgt := 31) d_Model_odds_24 (by decide) (fun c10 => ?_) (fun c10 => ?_)
      · have h := (if_neg c10).symm.trans h
        refine z_iconst (v := 0) d_Model_odds_31 (by decide) ?_
        refine z_istore_n d_Model_odds_32 rfl (by decide) rfl ?_
        refine z_iconst (v := 0) d_Model_odds_33 (by decide) ?_
        refine z_istore d_Model_odds_34 (by decide) rfl ?_
        refine z_sub [2, 3, 4, 1, 0] rfl ?_
        exact zl_Model_odds_36 2000 (x1, x2, (0 : Int32), (0 : Int32), s6) h
      · have h := (if_pos c10).symm.trans h
        refine z_sub [] rfl ?_
        exact zb_Model_odds_27 h
theorem d_Model_mean_0 : decode b_Model_mean 0 = .ok (.iload_n 1, 1) := by decide +kernel
theorem d_Model_mean_1 : decode b_Model_mean 1 = .ok (.invokestatic 202, 3) := by decide +kernel
theorem d_Model_mean_4 : decode b_Model_mean 4 = .ok (.ifCond .eq (21), 3) := by decide +kernel
theorem d_Model_mean_7 : decode b_Model_mean 7 = .ok (.iload_n 2, 1) := by decide +kernel
theorem d_Model_mean_8 : decode b_Model_mean 8 = .ok (.iconst (0), 1) := by decide +kernel
theorem d_Model_mean_9 : decode b_Model_mean 9 = .ok (.iconst (1), 1) := by decide +kernel
theorem d_Model_mean_10 : decode b_Model_mean 10 = .ok (.invokestatic 52, 3) := by decide +kernel
theorem d_Model_mean_13 : decode b_Model_mean 13 = .ok (.ifCond .eq (12), 3) := by decide +kernel
theorem d_Model_mean_16 : decode b_Model_mean 16 = .ok (.aload_n 0, 1) := by decide +kernel
theorem d_Model_mean_17 : decode b_Model_mean 17 = .ok (.getfield 11, 3) := by decide +kernel
theorem d_Model_mean_20 : decode b_Model_mean 20 = .ok (.iconst (5), 1) := by decide +kernel
theorem d_Model_mean_21 : decode b_Model_mean 21 = .ok (.iaload, 1) := by decide +kernel
theorem d_Model_mean_22 : decode b_Model_mean 22 = .ok (.ifCond .ne (7), 3) := by decide +kernel
theorem d_Model_mean_25 : decode b_Model_mean 25 = .ok (.ldc2_w 266, 3) := by decide +kernel
theorem d_Model_mean_28 : decode b_Model_mean 28 = .ok (.lreturn, 1) := by decide +kernel
theorem d_Model_mean_29 : decode b_Model_mean 29 = .ok (.iconst (0), 1) := by decide +kernel
theorem d_Model_mean_30 : decode b_Model_mean 30 = .ok (.istore_n 3, 1) := by decide +kernel
theorem d_Model_mean_31 : decode b_Model_mean 31 = .ok (.iconst (0), 1) := by decide +kernel
theorem d_Model_mean_32 : decode b_Model_mean 32 = .ok (.istore 4, 2) := by decide +kernel
theorem d_Model_mean_34 : decode b_Model_mean 34 = .ok (.iload 4, 2) := by decide +kernel
theorem d_Model_mean_36 : decode b_Model_mean 36 = .ok (.aload_n 0, 1) := by decide +kernel
theorem d_Model_mean_37 : decode b_Model_mean 37 = .ok (.getfield 11, 3) := by decide +kernel
theorem d_Model_mean_40 : decode b_Model_mean 40 = .ok (.iconst (5), 1) := by decide +kernel
theorem d_Model_mean_41 : decode b_Model_mean 41 = .ok (.iaload, 1) := by decide +kernel
theorem d_Model_mean_42 : decode b_Model_mean 42 = .ok (.if_icmp .ge (19), 3) := by decide +kernel
theorem d_Model_mean_45 : decode b_Model_mean 45 = .ok (.iload_n 3, 1) := by decide +kernel
theorem d_Model_mean_46 : decode b_Model_mean 46 = .ok (.aload_n 0, 1) := by decide +kernel
theorem d_Model_mean_47 : decode b_Model_mean 47 = .ok (.iload 4, 2) := by decide +kernel
theorem d_Model_mean_49 : decode b_Model_mean 49 = .ok (.iload_n 1, 1) := by decide +kernel
theorem d_Model_mean_50 : decode b_Model_mean 50 = .ok (.invokevirtual 187, 3) := by decide +kernel
theorem d_Model_mean_53 : decode b_Model_mean 53 = .ok (.iadd, 1) := by decide +kernel
theorem d_Model_mean_54 : decode b_Model_mean 54 = .ok (.istore_n 3, 1) := by decide +kernel
theorem d_Model_mean_55 : decode b_Model_mean 55 = .ok (.iinc 4 (1), 3) := by decide +kernel
theorem d_Model_mean_58 : decode b_Model_mean 58 = .ok (.goto (-24), 3) := by decide +kernel
theorem d_Model_mean_61 : decode b_Model_mean 61 = .ok (.iload_n 3, 1) := by decide +kernel
theorem d_Model_mean_62 : decode b_Model_mean 62 = .ok (.aload_n 0, 1) := by decide +kernel
theorem d_Model_mean_63 : decode b_Model_mean 63 = .ok (.getfield 11, 3) := by decide +kernel
theorem d_Model_mean_66 : decode b_Model_mean 66 = .ok (.iconst (5), 1) := by decide +kernel
theorem d_Model_mean_67 : decode b_Model_mean 67 = .ok (.iaload, 1) := by decide +kernel
theorem d_Model_mean_68 : decode b_Model_mean 68 = .ok (.iload_n 2, 1) := by decide +kernel
theorem d_Model_mean_69 : decode b_Model_mean 69 = .ok (.invokestatic 268, 3) := by decide +kernel
theorem d_Model_mean_72 : decode b_Model_mean 72 = .ok (.lreturn, 1) := by decide +kernel
theorem zb_Model_mean_25 {l : Launch} {θ : ZT} {res : Int64 × ZM}  {σ : ZM} (h : f_Model_mean_25 σ = some res) : WZ l b_Model_mean 5 (some .long) "BakedBeforeModel" 129 14 θ (zrm 37 882) (zQ mkL 129 14 θ res) σ [] 25 [] := by
  unfold f_Model_mean_25 at h
  refine z_ldc2 (v := -9223372036854775808) d_Model_mean_25 q_1224 ?_
  exact z_lret d_Model_mean_28 h
theorem zb_Model_mean_34 {l : Launch} {θ : ZT} {res : Int64 × ZM} {k34 : Int32 × Int32 × Int32 × Int32 × ZM → Option (Int64 × ZM)} (hk34 : ∀ a : Int32 × Int32 × Int32 × Int32 × ZM, k34 a = some res → WZ l b_Model_mean 5 (some .long) "BakedBeforeModel" 129 14 θ (zrm 37 882) (zQ mkL 129 14 θ res) a.2.2.2.2 [(0, .ref (za θ 129)), (1, .int a.1), (2, .int a.2.1), (3, .int a.2.2.1), (4, .int a.2.2.2.1)] 34 []) {x1 : Int32} {x2 : Int32} {x3 : Int32} {x4 : Int32} {σ : ZM} (h : f_Model_mean_34 k34 x1 x2 x3 x4 σ = some res) : WZ l b_Model_mean 5 (some .long) "BakedBeforeModel" 129 14 θ (zrm 37 882) (zQ mkL 129 14 θ res) σ [(0, .ref (za θ 129)), (1, .int x1), (2, .int x2), (3, .int x3), (4, .int x4)] 34 [] := by
  unfold f_Model_mean_34 at h
  refine z_iload 4 d_Model_mean_34 rfl ?_
  refine z_aload_n 0 d_Model_mean_36 rfl rfl ?_
  refine gf_Model_s zl_129 d_Model_mean_37 q_871 ?_
  refine z_iconst (v := 5) d_Model_mean_40 (by decide) ?_
  obtain ⟨c1, h⟩ := zck_i h
  refine w_iald zl_130 c1 d_Model_mean_41 ?_
  refine z_icmp_ge (tgt := 61) d_Model_mean_42 (by decide) (fun c2 => ?_) (fun c2 => ?_)
  · have h := (if_pos c2).symm.trans h
    refine z_iload_n 3 d_Model_mean_61 rfl rfl ?_
    refine z_aload_n 0 d_Model_mean_62 rfl rfl ?_
    refine gf_Model_s zl_129 d_Model_mean_63 q_871 ?_
    refine z_iconst (v := 5) d_Model_mean_66 (by decide) ?_
    obtain ⟨c3, h⟩ := zck_i h
    refine w_iald zl_130 c3 d_Model_mean_67 ?_
    refine z_iload_n 2 d_Model_mean_68 rfl rfl ?_
    obtain ⟨⟨v4, s5⟩, e6, h⟩ := zbd_i h
    refine w_callS (As := [.int x3, .int (zI σ 130 (5 : Int32).toNatClampNeg), .int x2]) (c_Model_lowest l θ e6) cf_Model_lowest q_1225 d_Model_mean_69 rfl rfl rfl (Nat.le_of_ble_eq_true rfl) rfl rfl ⟨Nat.le_of_ble_eq_true rfl, Nat.le_of_ble_eq_true rfl⟩ ?_
    exact z_lret d_Model_mean_72 h
  · have h := (if_neg c2).symm.trans h
    refine z_iload_n 3 d_Model_mean_45 rfl rfl ?_
    refine z_aload_n 0 d_Model_mean_46 rfl rfl ?_
    refine z_iload 4 d_Model_mean_47 rfl ?_
    refine z_iload_n 1 d_Model_mean_49 rfl rfl ?_
    obtain ⟨⟨v7, s8⟩, e9, h⟩ := zbd_i h
    refine w_callV (As := [.int x4, .int x1]) (kc := 22) (ci := 12) (c_Model_takesOf l θ e9) cf_Model_takesOf q_1076 d_Model_mean_50 zl_129 rfl rfl rfl rfl rfl rfl (Nat.le_of_ble_eq_true rfl) rfl rfl ⟨Nat.le_of_ble_eq_true rfl, Nat.le_of_ble_eq_true rfl⟩ ?_
    refine z_iadd d_Model_mean_53 ?_
    refine z_istore_n d_Model_mean_54 rfl (by decide) rfl ?_
    refine z_iinc (v := x4 + (1 : Int32)) 4 d_Model_mean_55 rfl rfl (by decide) rfl ?_
    refine z_goto (tgt := 34) d_Model_mean_58 (by decide) ?_
    refine z_sub [2, 3, 4, 1, 0] rfl ?_
    exact hk34 (x1, x2, (x3 + v7), (x4 + (1 : Int32)), s8) h
theorem zl_Model_mean_34 {l : Launch} {θ : ZT} {res : Int64 × ZM} : ∀ (N : Nat) (a : Int32 × Int32 × Int32 × Int32 × ZM), F_Model_mean_34 N a = some res → WZ l b_Model_mean 5 (some .long) "BakedBeforeModel" 129 14 θ (zrm 37 882) (zQ mkL 129 14 θ res) a.2.2.2.2 [(0, .ref (za θ 129)), (1, .int a.1), (2, .int a.2.1), (3, .int a.2.2.1), (4, .int a.2.2.2.1)] 34 [] := by
  intro N
  induction N with
  | zero => intro a  h; cases (show (none : Option (Int64 × ZM)) = some res from h)
  | succ N ih => intro a  h; exact zb_Model_mean_34 ih (show f_Model_mean_34 (F_Model_mean_34 N) a.1 a.2.1 a.2.2.1 a.2.2.2.1 a.2.2.2.2 = some res from h)
theorem c_Model_mean (l : Launch) (θ : ZT) {x1 : Int32} {x2 : Int32} {σ : ZM} {res : Int64 × ZM} (h : f_Model_mean x1 x2 σ = some res) : zMet mkL l 129 14 θ y_Model_mean b_Model_mean 5 (some .long) (zrm 37 882) [.ref (za θ 129), .int x1, .int x2] σ res := by
  unfold f_Model_mean at h
  refine z_met (lv := [(0, .ref (za θ 129)), (1, .int x1), (2, .int x2)]) (by decide +kernel) rfl (Nat.le_of_ble_eq_true rfl) (by decide) ?_
  refine z_iload_n 1 d_Model_mean_0 rfl rfl ?_
  obtain ⟨⟨v1, s2⟩, e3, h⟩ := zbd_i h
  refine w_callS (As := [.int x1]) (c_Model_isTaste l θ e3) cf_Model_isTaste q_1057 d_Model_mean_1 rfl rfl rfl (Nat.le_of_ble_eq_true rfl) rfl rfl ⟨Nat.le_of_ble_eq_true rfl, Nat.le_of_ble_eq_true rfl⟩ ?_
  refine z_if_eq (tgt := 25) d_Model_mean_4 (by decide) (fun c4 => ?_) (fun c4 => ?_)
  · have h := (if_pos c4).symm.trans h
    refine z_sub [] rfl ?_
    exact zb_Model_mean_25 h
  · have h := (if_neg c4).symm.trans h
    refine z_iload_n 2 d_Model_mean_7 rfl rfl ?_
    refine z_iconst (v := 0) d_Model_mean_8 (by decide) ?_
    refine z_iconst (v := 1) d_Model_mean_9 (by decide) ?_
    obtain ⟨⟨v5, s6⟩, e7, h⟩ := zbd_i h
    refine w_callS (As := [.int x2, .int (0 : Int32), .int (1 : Int32)]) (c_Model_isIn l θ e7) cf_Model_isIn q_969 d_Model_mean_10 rfl rfl rfl (Nat.le_of_ble_eq_true rfl) rfl rfl ⟨Nat.le_of_ble_eq_true rfl, Nat.le_of_ble_eq_true rfl⟩ ?_
    refine z_if_eq (tgt := 25) d_Model_mean_13 (by decide) (fun c8 => ?_) (fun c8 => ?_)
    · have h := (if_pos c8).symm.trans h
      refine z_sub [] rfl ?_
      exact zb_Model_mean_25 h
    · have h := (if_neg c8).symm.trans h
      refine z_aload_n 0 d_Model_mean_16 rfl rfl ?_
      refine gf_Model_s zl_129 d_Model_mean_17 q_871 ?_
      refine z_iconst (v := 5) d_Model_mean_20 (by decide) ?_
      obtain ⟨c9, h⟩ := zck_i h
      refine w_iald zl_130 c9 d_Model_mean_21 ?_
      refine z_if_ne (tgt := 29) d_Model_mean_22 (by decide) (fun c10 => ?_) (fun c10 => ?_)
      · have h := (if_neg c10).symm.trans h
        refine z_iconst (v := 0) d_Model_mean_29 (by decide) ?_
        refine z_istore_n d_Model_mean_30 rfl (by decide) rfl ?_
        refine z_iconst (v := 0) d_Model_mean_31 (by decide) ?_
        refine z_istore d_Model_mean_32 (by decide) rfl ?_
        refine z_sub [2, 3, 4, 1, 0] rfl ?_
        exact zl_Model_mean_34 2000 (x1, x2, (0 : Int32), (0 : Int32), s6) h
      · have h := (if_pos c10).symm.trans h
        refine z_sub [] rfl ?_
        exact zb_Model_mean_25 h
theorem d_Model_book_0 : decode b_Model_book 0 = .ok (.iload_n 1, 1) := by decide +kernel
theorem d_Model_book_1 : decode b_Model_book 1 = .ok (.iconst (-1), 1) := by decide +kernel
theorem d_Model_book_2 : decode b_Model_book 2 = .ok (.if_icmp .ne (13), 3) := by decide +kernel
theorem d_Model_book_5 : decode b_Model_book 5 = .ok (.aload_n 0, 1) := by decide +kernel
theorem d_Model_book_6 : decode b_Model_book 6 = .ok (.getfield 11, 3) := by decide +kernel
theorem d_Model_book_9 : decode b_Model_book 9 = .ok (.bipush (7), 2) := by decide +kernel
theorem d_Model_book_11 : decode b_Model_book 11 = .ok (.iconst (0), 1) := by decide +kernel
theorem d_Model_book_12 : decode b_Model_book 12 = .ok (.iastore, 1) := by decide +kernel
theorem d_Model_book_13 : decode b_Model_book 13 = .ok (.iconst (0), 1) := by decide +kernel
theorem d_Model_book_14 : decode b_Model_book 14 = .ok (.ireturn, 1) := by decide +kernel
theorem d_Model_book_15 : decode b_Model_book 15 = .ok (.iload_n 1, 1) := by decide +kernel
theorem d_Model_book_16 : decode b_Model_book 16 = .ok (.bipush (-2), 2) := by decide +kernel
theorem d_Model_book_18 : decode b_Model_book 18 = .ok (.if_icmp .eq (13), 3) := by decide +kernel
theorem d_Model_book_21 : decode b_Model_book 21 = .ok (.aload_n 0, 1) := by decide +kernel
theorem d_Model_book_22 : decode b_Model_book 22 = .ok (.iload_n 1, 1) := by decide +kernel
theorem d_Model_book_23 : decode b_Model_book 23 = .ok (.invokevirtual 199, 3) := by decide +kernel
theorem d_Model_book_26 : decode b_Model_book 26 = .ok (.ifCond .ne (5), 3) := by decide +kernel
theorem d_Model_book_29 : decode b_Model_book 29 = .ok (.iconst (-1), 1) := by decide +kernel
theorem d_Model_book_30 : decode b_Model_book 30 = .ok (.ireturn, 1) := by decide +kernel
theorem d_Model_book_31 : decode b_Model_book 31 = .ok (.aload_n 0, 1) := by decide +kernel
theorem d_Model_book_32 : decode b_Model_book 32 = .ok (.getfield 11, 3) := by decide +kernel
theorem d_Model_book_35 : decode b_Model_book 35 = .ok (.bipush (7), 2) := by decide +kernel
theorem d_Model_book_37 : decode b_Model_book 37 = .ok (.iaload, 1) := by decide +kernel
theorem d_Model_book_38 : decode b_Model_book 38 = .ok (.bipush (12), 2) := by decide +kernel
theorem d_Model_book_40 : decode b_Model_book 40 = .ok (.if_icmp .ne (6), 3) := by decide +kernel
theorem d_Model_book_43 : decode b_Model_book 43 = .ok (.bipush (-4), 2) := by decide +kernel
theorem d_Model_book_45 : decode b_Model_book 45 = .ok (.ireturn, 1) := by decide +kernel
theorem d_Model_book_46 : decode b_Model_book 46 = .ok (.aload_n 0, 1) := by decide +kernel
theorem d_Model_book_47 : decode b_Model_book 47 = .ok (.getfield 11, 3) := by decide +kernel
theorem d_Model_book_50 : decode b_Model_book 50 = .ok (.bipush (68), 2) := by decide +kernel
theorem d_Model_book_52 : decode b_Model_book 52 = .ok (.iconst (2), 1) := by decide +kernel
theorem d_Model_book_53 : decode b_Model_book 53 = .ok (.aload_n 0, 1) := by decide +kernel
theorem d_Model_book_54 : decode b_Model_book 54 = .ok (.getfield 11, 3) := by decide +kernel
theorem d_Model_book_57 : decode b_Model_book 57 = .ok (.bipush (7), 2) := by decide +kernel
theorem d_Model_book_59 : decode b_Model_book 59 = .ok (.iaload, 1) := by decide +kernel
theorem d_Model_book_60 : decode b_Model_book 60 = .ok (.imul, 1) := by decide +kernel
theorem d_Model_book_61 : decode b_Model_book 61 = .ok (.iadd, 1) := by decide +kernel
theorem d_Model_book_62 : decode b_Model_book 62 = .ok (.iload_n 1, 1) := by decide +kernel
theorem d_Model_book_63 : decode b_Model_book 63 = .ok (.iastore, 1) := by decide +kernel
theorem d_Model_book_64 : decode b_Model_book 64 = .ok (.aload_n 0, 1) := by decide +kernel
theorem d_Model_book_65 : decode b_Model_book 65 = .ok (.getfield 11, 3) := by decide +kernel
theorem d_Model_book_68 : decode b_Model_book 68 = .ok (.bipush (68), 2) := by decide +kernel
theorem d_Model_book_70 : decode b_Model_book 70 = .ok (.iconst (2), 1) := by decide +kernel
theorem d_Model_book_71 : decode b_Model_book 71 = .ok (.aload_n 0, 1) := by decide +kernel
theorem d_Model_book_72 : decode b_Model_book 72 = .ok (.getfield 11, 3) := by decide +kernel
theorem d_Model_book_75 : decode b_Model_book 75 = .ok (.bipush (7), 2) := by decide +kernel
theorem d_Model_book_77 : decode b_Model_book 77 = .ok (.iaload, 1) := by decide +kernel
theorem d_Model_book_78 : decode b_Model_book 78 = .ok (.imul, 1) := by decide +kernel
theorem d_Model_book_79 : decode b_Model_book 79 = .ok (.iadd, 1) := by decide +kernel
theorem d_Model_book_80 : decode b_Model_book 80 = .ok (.iconst (1), 1) := by decide +kernel
theorem d_Model_book_81 : decode b_Model_book 81 = .ok (.iadd, 1) := by decide +kernel
theorem d_Model_book_82 : decode b_Model_book 82 = .ok (.iload_n 2, 1) := by decide +kernel
theorem d_Model_book_83 : decode b_Model_book 83 = .ok (.ifCond .eq (7), 3) := by decide +kernel
theorem d_Model_book_86 : decode b_Model_book 86 = .ok (.iconst (1), 1) := by decide +kernel
theorem d_Model_book_87 : decode b_Model_book 87 = .ok (.goto (4), 3) := by decide +kernel
theorem d_Model_book_90 : decode b_Model_book 90 = .ok (.iconst (0), 1) := by decide +kernel
theorem d_Model_book_91 : decode b_Model_book 91 = .ok (.iastore, 1) := by decide +kernel
theorem d_Model_book_92 : decode b_Model_book 92 = .ok (.aload_n 0, 1) := by decide +kernel
theorem d_Model_book_93 : decode b_Model_book 93 = .ok (.getfield 11, 3) := by decide +kernel
theorem d_Model_book_96 : decode b_Model_book 96 = .ok (.bipush (7), 2) := by decide +kernel
theorem d_Model_book_98 : decode b_Model_book 98 = .ok (.dup2, 1) := by decide +kernel
theorem d_Model_book_99 : decode b_Model_book 99 = .ok (.iaload, 1) := by decide +kernel
theorem d_Model_book_100 : decode b_Model_book 100 = .ok (.iconst (1), 1) := by decide +kernel
theorem d_Model_book_101 : decode b_Model_book 101 = .ok (.iadd, 1) := by decide +kernel
theorem d_Model_book_102 : decode b_Model_book 102 = .ok (.iastore, 1) := by decide +kernel
theorem d_Model_book_103 : decode b_Model_book 103 = .ok (.aload_n 0, 1) := by decide +kernel
theorem d_Model_book_104 : decode b_Model_book 104 = .ok (.getfield 11, 3) := by decide +kernel
theorem d_Model_book_107 : decode b_Model_book 107 = .ok (.bipush (7), 2) := by decide +kernel
theorem d_Model_book_109 : decode b_Model_book 109 = .ok (.iaload, 1) := by decide +kernel
theorem d_Model_book_110 : decode b_Model_book 110 = .ok (.ireturn, 1) := by decide +kernel
theorem zb_Model_book_91 {l : Launch} {θ : ZT} {res : Int32 × ZM} {y0 : Int32} {y1 : Int32} {σ : ZM} (h : f_Model_book_91 y0 y1 σ = some res) : WZ l b_Model_book 3 (some .int) "BakedBeforeModel" 129 14 θ (zrm 3 103) (zQ mkI 129 14 θ res) σ [(0, .ref (za θ 129))] 91 [.int y0, .int y1, .ref (za θ 130)] := by
  unfold f_Model_book_91 at h
  obtain ⟨c1, h⟩ := zck_i h
  refine w_iast zl_130 c1 d_Model_book_91 ?_
  refine z_aload_n 0 d_Model_book_92 rfl rfl ?_
  refine gf_Model_s zl_129 d_Model_book_93 q_871 ?_
  refine z_bipush (v := 7) d_Model_book_96 (by decide) ?_
  refine z_dup2 d_Model_book_98 rfl rfl ?_
  obtain ⟨c2, h⟩ := zck_i h
  refine w_iald zl_130 c2 d_Model_book_99 ?_
  refine z_iconst (v := 1) d_Model_book_100 (by decide) ?_
  refine z_iadd d_Model_book_101 ?_
  obtain ⟨c3, h⟩ := zck_i h
  refine w_iast zl_130 c3 d_Model_book_102 ?_
  refine z_aload_n 0 d_Model_book_103 rfl rfl ?_
  refine gf_Model_s zl_129 d_Model_book_104 q_871 ?_
  refine z_bipush (v := 7) d_Model_book_107 (by decide) ?_
  obtain ⟨c4, h⟩ := zck_i h
  refine w_iald zl_130 c4 d_Model_book_109 ?_
  exact z_iret d_Model_book_110 h
theorem zb_Model_book_31 {l : Launch} {θ : ZT} {res : Int32 × ZM} {x1 : Int32} {x2 : Int32} {σ : ZM} (h : f_Model_book_31 x1 x2 σ = some res) : WZ l b_Model_book 3 (some .int) "BakedBeforeModel" 129 14 θ (zrm 3 103) (zQ mkI 129 14 θ res) σ [(0, .ref (za θ 129)), (1, .int x1), (2, .int x2)] 31 [] := by
  unfold f_Model_book_31 at h
  refine z_aload_n 0 d_Model_book_31 rfl rfl ?_
  refine gf_Model_s zl_129 d_Model_book_32 q_871 ?_
  refine z_bipush (v := 7) d_Model_book_35 (by decide) ?_
  obtain ⟨c1, h⟩ := zck_i h
  refine w_iald zl_130 c1 d_Model_book_37 ?_
  refine z_bipush (v := 12) d_Model_book_38 (by decide) ?_
  refine z_icmp_ne (tgt := 46) d_Model_book_40 (by decide) (fun c2 => ?_) (fun c2 => ?_)
  · have h := (if_neg c2).symm.trans h
    refine z_aload_n 0 d_Model_book_46 rfl rfl ?_
    refine gf_Model_s zl_129 d_Model_book_47 q_871 ?_
    refine z_bipush (v := 68) d_Model_book_50 (by decide) ?_
    refine z_iconst (v := 2) d_Model_book_52 (by decide) ?_
    refine z_aload_n 0 d_Model_book_53 rfl rfl ?_
    refine gf_Model_s zl_129 d_Model_book_54 q_871 ?_
    refine z_bipush (v := 7) d_Model_book_57 (by decide) ?_
    obtain ⟨c3, h⟩ := zck_i h
    refine w_iald zl_130 c3 d_Model_book_59 ?_
    refine z_imul d_Model_book_60 ?_
    refine z_iadd d_Model_book_61 ?_
    refine z_iload_n 1 d_Model_book_62 rfl rfl ?_
    obtain ⟨c4, h⟩ := zck_i h
    refine w_iast zl_130 c4 d_Model_book_63 ?_
    refine z_aload_n 0 d_Model_book_64 rfl rfl ?_
    refine gf_Model_s zl_129 d_Model_book_65 q_871 ?_
    refine z_bipush (v := 68) d_Model_book_68 (by decide) ?_
    refine z_iconst (v := 2) d_Model_book_70 (by decide) ?_
    refine z_aload_n 0 d_Model_book_71 rfl rfl ?_
    refine gf_Model_s zl_129 d_Model_book_72 q_871 ?_
    refine z_bipush (v := 7) d_Model_book_75 (by decide) ?_
    obtain ⟨c5, h⟩ := zck_i h
    refine w_iald zl_130 c5 d_Model_book_77 ?_
    refine z_imul d_Model_book_78 ?_
    refine z_iadd d_Model_book_79 ?_
    refine z_iconst (v := 1) d_Model_book_80 (by decide) ?_
    refine z_iadd d_Model_book_81 ?_
    refine z_iload_n 2 d_Model_book_82 rfl rfl ?_
    refine z_if_eq (tgt := 90) d_Model_book_83 (by decide) (fun c6 => ?_) (fun c6 => ?_)
    · have h := (if_pos c6).symm.trans h
      refine z_iconst (v := 0) d_Model_book_90 (by decide) ?_
      refine z_sub [0] rfl ?_
      exact zb_Model_book_91 h
    · have h := (if_neg c6).symm.trans h
      refine z_iconst (v := 1) d_Model_book_86 (by decide) ?_
      refine z_goto (tgt := 91) d_Model_book_87 (by decide) ?_
      refine z_sub [0] rfl ?_
      exact zb_Model_book_91 h
  · have h := (if_pos c2).symm.trans h
    refine z_bipush (v := -4) d_Model_book_43 (by decide) ?_
    exact z_iret d_Model_book_45 h
theorem c_Model_book (l : Launch) (θ : ZT) {x1 : Int32} {x2 : Int32} {σ : ZM} {res : Int32 × ZM} (h : f_Model_book x1 x2 σ = some res) : zMet mkI l 129 14 θ y_Model_book b_Model_book 3 (some .int) (zrm 3 103) [.ref (za θ 129), .int x1, .int x2] σ res := by
  unfold f_Model_book at h
  refine z_met (lv := [(0, .ref (za θ 129)), (1, .int x1), (2, .int x2)]) (by decide +kernel) rfl (Nat.le_of_ble_eq_true rfl) (by decide) ?_
  refine z_iload_n 1 d_Model_book_0 rfl rfl ?_
  refine z_iconst (v := -1) d_Model_book_1 (by decide) ?_
  refine z_icmp_ne (tgt := 15) d_Model_book_2 (by decide) (fun c1 => ?_) (fun c1 => ?_)
  · have h := (if_neg c1).symm.trans h
    refine z_iload_n 1 d_Model_book_15 rfl rfl ?_
    refine z_bipush (v := -2) d_Model_book_16 (by decide) ?_
    refine z_icmp_eq (tgt := 31) d_Model_book_18 (by decide) (fun c2 => ?_) (fun c2 => ?_)
    · have h := (if_pos c2).symm.trans h
      exact zb_Model_book_31 h
    · have h := (if_neg c2).symm.trans h
      refine z_aload_n 0 d_Model_book_21 rfl rfl ?_
      refine z_iload_n 1 d_Model_book_22 rfl rfl ?_
      obtain ⟨⟨v3, s4⟩, e5, h⟩ := zbd_i h
      refine w_callV (As := [.int x1]) (kc := 22) (ci := 12) (c_Model_isLoaf l θ e5) cf_Model_isLoaf q_1053 d_Model_book_23 zl_129 rfl rfl rfl rfl rfl rfl (Nat.le_of_ble_eq_true rfl) rfl rfl ⟨Nat.le_of_ble_eq_true rfl, Nat.le_of_ble_eq_true rfl⟩ ?_
      refine z_if_ne (tgt := 31) d_Model_book_26 (by decide) (fun c6 => ?_) (fun c6 => ?_)
      · have h := (if_neg c6).symm.trans h
        exact zb_Model_book_31 h
      · have h := (if_pos c6).symm.trans h
        refine z_iconst (v := -1) d_Model_book_29 (by decide) ?_
        exact z_iret d_Model_book_30 h
  · have h := (if_pos c1).symm.trans h
    refine z_aload_n 0 d_Model_book_5 rfl rfl ?_
    refine gf_Model_s zl_129 d_Model_book_6 q_871 ?_
    refine z_bipush (v := 7) d_Model_book_9 (by decide) ?_
    refine z_iconst (v := 0) d_Model_book_11 (by decide) ?_
    obtain ⟨c7, h⟩ := zck_i h
    refine w_iast zl_130 c7 d_Model_book_12 ?_
    refine z_iconst (v := 0) d_Model_book_13 (by decide) ?_
    exact z_iret d_Model_book_14 h
theorem d_Model_isBookedSo_0 : decode b_Model_isBookedSo 0 = .ok (.aload_n 0, 1) := by decide +kernel
theorem d_Model_isBookedSo_1 : decode b_Model_isBookedSo 1 = .ok (.getfield 11, 3) := by decide +kernel
theorem d_Model_isBookedSo_4 : decode b_Model_isBookedSo 4 = .ok (.bipush (68), 2) := by decide +kernel
theorem d_Model_isBookedSo_6 : decode b_Model_isBookedSo 6 = .ok (.iconst (2), 1) := by decide +kernel
theorem d_Model_isBookedSo_7 : decode b_Model_isBookedSo 7 = .ok (.iload_n 1, 1) := by decide +kernel
theorem d_Model_isBookedSo_8 : decode b_Model_isBookedSo 8 = .ok (.imul, 1) := by decide +kernel
theorem d_Model_isBookedSo_9 : decode b_Model_isBookedSo 9 = .ok (.iadd, 1) := by decide +kernel
theorem d_Model_isBookedSo_10 : decode b_Model_isBookedSo 10 = .ok (.iaload, 1) := by decide +kernel
theorem d_Model_isBookedSo_11 : decode b_Model_isBookedSo 11 = .ok (.istore_n 2, 1) := by decide +kernel
theorem d_Model_isBookedSo_12 : decode b_Model_isBookedSo 12 = .ok (.aload_n 0, 1) := by decide +kernel
theorem d_Model_isBookedSo_13 : decode b_Model_isBookedSo 13 = .ok (.getfield 11, 3) := by decide +kernel
theorem d_Model_isBookedSo_16 : decode b_Model_isBookedSo 16 = .ok (.bipush (68), 2) := by decide +kernel
theorem d_Model_isBookedSo_18 : decode b_Model_isBookedSo 18 = .ok (.iconst (2), 1) := by decide +kernel
theorem d_Model_isBookedSo_19 : decode b_Model_isBookedSo 19 = .ok (.iload_n 1, 1) := by decide +kernel
theorem d_Model_isBookedSo_20 : decode b_Model_isBookedSo 20 = .ok (.imul, 1) := by decide +kernel
theorem d_Model_isBookedSo_21 : decode b_Model_isBookedSo 21 = .ok (.iadd, 1) := by decide +kernel
theorem d_Model_isBookedSo_22 : decode b_Model_isBookedSo 22 = .ok (.iconst (1), 1) := by decide +kernel
theorem d_Model_isBookedSo_23 : decode b_Model_isBookedSo 23 = .ok (.iadd, 1) := by decide +kernel
theorem d_Model_isBookedSo_24 : decode b_Model_isBookedSo 24 = .ok (.iaload, 1) := by decide +kernel
theorem d_Model_isBookedSo_25 : decode b_Model_isBookedSo 25 = .ok (.iconst (1), 1) := by decide +kernel
theorem d_Model_isBookedSo_26 : decode b_Model_isBookedSo 26 = .ok (.if_icmp .ne (7), 3) := by decide +kernel
theorem d_Model_isBookedSo_29 : decode b_Model_isBookedSo 29 = .ok (.iconst (1), 1) := by decide +kernel
theorem d_Model_isBookedSo_30 : decode b_Model_isBookedSo 30 = .ok (.goto (4), 3) := by decide +kernel
theorem d_Model_isBookedSo_33 : decode b_Model_isBookedSo 33 = .ok (.iconst (0), 1) := by decide +kernel
theorem d_Model_isBookedSo_34 : decode b_Model_isBookedSo 34 = .ok (.istore_n 3, 1) := by decide +kernel
theorem d_Model_isBookedSo_35 : decode b_Model_isBookedSo 35 = .ok (.iload_n 2, 1) := by decide +kernel
theorem d_Model_isBookedSo_36 : decode b_Model_isBookedSo 36 = .ok (.ifCond .lt (18), 3) := by decide +kernel
theorem d_Model_isBookedSo_39 : decode b_Model_isBookedSo 39 = .ok (.aload_n 0, 1) := by decide +kernel
theorem d_Model_isBookedSo_40 : decode b_Model_isBookedSo 40 = .ok (.iload_n 2, 1) := by decide +kernel
theorem d_Model_isBookedSo_41 : decode b_Model_isBookedSo 41 = .ok (.invokevirtual 208, 3) := by decide +kernel
theorem d_Model_isBookedSo_44 : decode b_Model_isBookedSo 44 = .ok (.iload_n 3, 1) := by decide +kernel
theorem d_Model_isBookedSo_45 : decode b_Model_isBookedSo 45 = .ok (.if_icmp .ne (7), 3) := by decide +kernel
theorem d_Model_isBookedSo_48 : decode b_Model_isBookedSo 48 = .ok (.iconst (1), 1) := by decide +kernel
theorem d_Model_isBookedSo_49 : decode b_Model_isBookedSo 49 = .ok (.goto (4), 3) := by decide +kernel
theorem d_Model_isBookedSo_52 : decode b_Model_isBookedSo 52 = .ok (.iconst (0), 1) := by decide +kernel
theorem d_Model_isBookedSo_53 : decode b_Model_isBookedSo 53 = .ok (.ireturn, 1) := by decide +kernel
theorem d_Model_isBookedSo_54 : decode b_Model_isBookedSo 54 = .ok (.aload_n 0, 1) := by decide +kernel
theorem d_Model_isBookedSo_55 : decode b_Model_isBookedSo 55 = .ok (.invokevirtual 211, 3) := by decide +kernel
theorem d_Model_isBookedSo_58 : decode b_Model_isBookedSo 58 = .ok (.iload_n 3, 1) := by decide +kernel
theorem d_Model_isBookedSo_59 : decode b_Model_isBookedSo 59 = .ok (.ifCond .ne (7), 3) := by decide +kernel
theorem d_Model_isBookedSo_62 : decode b_Model_isBookedSo 62 = .ok (.iconst (1), 1) := by decide +kernel
theorem d_Model_isBookedSo_63 : decode b_Model_isBookedSo 63 = .ok (.goto (4), 3) := by decide +kernel
theorem d_Model_isBookedSo_66 : decode b_Model_isBookedSo 66 = .ok (.iconst (0), 1) := by decide +kernel
theorem d_Model_isBookedSo_67 : decode b_Model_isBookedSo 67 = .ok (.ireturn, 1) := by decide +kernel
theorem zb_Model_isBookedSo_34 {l : Launch} {θ : ZT} {res : Int32 × ZM} {x2 : Int32} {y0 : Int32} {σ : ZM} (h : f_Model_isBookedSo_34 x2 y0 σ = some res) : WZ l b_Model_isBookedSo 4 (some .boolean) "BakedBeforeModel" 129 14 θ (zrm 39 928) (zQ mkI 129 14 θ res) σ [(0, .ref (za θ 129)), (2, .int x2)] 34 [.int y0] := by
  unfold f_Model_isBookedSo_34 at h
  refine z_istore_n d_Model_isBookedSo_34 rfl (by decide) rfl ?_
  refine z_iload_n 2 d_Model_isBookedSo_35 rfl rfl ?_
  refine z_if_lt (tgt := 54) d_Model_isBookedSo_36 (by decide) (fun c1 => ?_) (fun c1 => ?_)
  · have h := (if_pos c1).symm.trans h
    refine z_aload_n 1 d_Model_isBookedSo_54 rfl rfl ?_
    obtain ⟨⟨v2, s3⟩, e4, h⟩ := zbd_i h
    refine w_callV (As := []) (kc := 22) (ci := 12) (c_Model_cools l θ e4) cf_Model_cools q_1116 d_Model_isBookedSo_55 zl_129 rfl rfl rfl rfl rfl rfl (Nat.le_of_ble_eq_true rfl) rfl rfl ⟨Nat.le_of_ble_eq_true rfl, Nat.le_of_ble_eq_true rfl⟩ ?_
    refine z_iload_n 0 d_Model_isBookedSo_58 rfl rfl ?_
    refine z_if_ne (tgt := 66) d_Model_isBookedSo_59 (by decide) (fun c5 => ?_) (fun c5 => ?_)
    · have h := (if_neg c5).symm.trans h
      refine z_iconst (v := 0) d_Model_isBookedSo_66 (by decide) ?_
      exact z_zret d_Model_isBookedSo_67 (by decide) h
    · have h := (if_pos c5).symm.trans h
      refine z_iconst (v := 1) d_Model_isBookedSo_62 (by decide) ?_
      refine z_goto (tgt := 67) d_Model_isBookedSo_63 (by decide) ?_
      exact z_zret d_Model_isBookedSo_67 (by decide) h
  · have h := (if_neg c1).symm.trans h
    refine z_aload_n 1 d_Model_isBookedSo_39 rfl rfl ?_
    refine z_iload_n 2 d_Model_isBookedSo_40 rfl rfl ?_
    obtain ⟨⟨v6, s7⟩, e8, h⟩ := zbd_i h
    refine w_callV (As := [.int x2]) (kc := 22) (ci := 12) (c_Model_bakes l θ e8) cf_Model_bakes q_1104 d_Model_isBookedSo_41 zl_129 rfl rfl rfl rfl rfl rfl (Nat.le_of_ble_eq_true rfl) rfl rfl ⟨Nat.le_of_ble_eq_true rfl, Nat.le_of_ble_eq_true rfl⟩ ?_
    refine z_iload_n 0 d_Model_isBookedSo_44 rfl rfl ?_
    refine z_icmp_ne (tgt := 52) d_Model_isBookedSo_45 (by decide) (fun c9 => ?_) (fun c9 => ?_)
    · have h := (if_neg c9).symm.trans h
      refine z_iconst (v := 0) d_Model_isBookedSo_52 (by decide) ?_
      exact z_zret d_Model_isBookedSo_53 (by decide) h
    · have h := (if_pos c9).symm.trans h
      refine z_iconst (v := 1) d_Model_isBookedSo_48 (by decide) ?_
      refine z_goto (tgt := 53) d_Model_isBookedSo_49 (by decide) ?_
      exact z_zret d_Model_isBookedSo_53 (by decide) h
theorem c_Model_isBookedSo (l : Launch) (θ : ZT) {x1 : Int32} {σ : ZM} {res : Int32 × ZM} (h : f_Model_isBookedSo x1 σ = some res) : zMet mkI l 129 14 θ y_Model_isBookedSo b_Model_isBookedSo 4 (some .boolean) (zrm 39 928) [.ref (za θ 129), .int x1] σ res := by
  unfold f_Model_isBookedSo at h
  refine z_met (lv := [(0, .ref (za θ 129)), (1, .int x1)]) (by decide +kernel) rfl (Nat.le_of_ble_eq_true rfl) (by decide) ?_
  refine z_aload_n 0 d_Model_isBookedSo_0 rfl rfl ?_
  refine gf_Model_s zl_129 d_Model_isBookedSo_1 q_871 ?_
  refine z_bipush (v := 68) d_Model_isBookedSo_4 (by decide) ?_
  refine z_iconst (v := 2) d_Model_isBookedSo_6 (by decide) ?_
  refine z_iload_n 1 d_Model_isBookedSo_7 rfl rfl ?_
  refine z_imul d_Model_isBookedSo_8 ?_
  refine z_iadd d_Model_isBookedSo_9 ?_
  obtain ⟨c1, h⟩ := zck_i h
  refine w_iald zl_130 c1 d_Model_isBookedSo_10 ?_
  refine z_istore_n d_Model_isBookedSo_11 rfl (by decide) rfl ?_
  refine z_aload_n 1 d_Model_isBookedSo_12 rfl rfl ?_
  refine gf_Model_s zl_129 d_Model_isBookedSo_13 q_871 ?_
  refine z_bipush (v := 68) d_Model_isBookedSo_16 (by decide) ?_
  refine z_iconst (v := 2) d_Model_isBookedSo_18 (by decide) ?_
  refine z_iload_n 2 d_Model_isBookedSo_19 rfl rfl ?_
  refine z_imul d_Model_isBookedSo_20 ?_
  refine z_iadd d_Model_isBookedSo_21 ?_
  refine z_iconst (v := 1) d_Model_isBookedSo_22 (by decide) ?_
  refine z_iadd d_Model_isBookedSo_23 ?_
  obtain ⟨c2, h⟩ := zck_i h
  refine w_iald zl_130 c2 d_Model_isBookedSo_24 ?_
  refine z_iconst (v := 1) d_Model_isBookedSo_25 (by decide) ?_
  refine z_icmp_ne (tgt := 33) d_Model_isBookedSo_26 (by decide) (fun c3 => ?_) (fun c3 => ?_)
  · have h := (if_neg c3).symm.trans h
    refine z_iconst (v := 0) d_Model_isBookedSo_33 (by decide) ?_
    refine z_sub [1, 0] rfl ?_
    exact zb_Model_isBookedSo_34 h
  · have h := (if_pos c3).symm.trans h
    refine z_iconst (v := 1) d_Model_isBookedSo_29 (by decide) ?_
    refine z_goto (tgt := 34) d_Model_isBookedSo_30 (by decide) ?_
    refine z_sub [1, 0] rfl ?_
    exact zb_Model_isBookedSo_34 h
theorem d_Model_looked_0 : decode b_Model_looked 0 = .ok (.bipush (-5), 2) := by decide +kernel
theorem d_Model_looked_2 : decode b_Model_looked 2 = .ok (.istore_n 1, 1) := by decide +kernel
theorem d_Model_looked_3 : decode b_Model_looked 3 = .ok (.aload_n 0, 1) := by decide +kernel
theorem d_Model_looked_4 : decode b_Model_looked 4 = .ok (.invokevirtual 214, 3) := by decide +kernel
theorem d_Model_looked_7 : decode b_Model_looked 7 = .ok (.iconst (0), 1) := by decide +kernel
theorem d_Model_looked_8 : decode b_Model_looked 8 = .ok (.istore_n 2, 1) := by decide +kernel
theorem d_Model_looked_9 : decode b_Model_looked 9 = .ok (.iload_n 2, 1) := by decide +kernel
theorem d_Model_looked_10 : decode b_Model_looked 10 = .ok (.aload_n 0, 1) := by decide +kernel
theorem d_Model_looked_11 : decode b_Model_looked 11 = .ok (.getfield 11, 3) := by decide +kernel
theorem d_Model_looked_14 : decode b_Model_looked 14 = .ok (.bipush (7), 2) := by decide +kernel
theorem d_Model_looked_16 : decode b_Model_looked 16 = .ok (.iaload, 1) := by decide +kernel
theorem d_Model_looked_17 : decode b_Model_looked 17 = .ok (.if_icmp .ge (28), 3) := by decide +kernel
theorem d_Model_looked_20 : decode b_Model_looked 20 = .ok (.iload_n 1, 1) := by decide +kernel
theorem d_Model_looked_21 : decode b_Model_looked 21 = .ok (.ifCond .ge (24), 3) := by decide +kernel
theorem d_Model_looked_24 : decode b_Model_looked 24 = .ok (.aload_n 0, 1) := by decide +kernel
theorem d_Model_looked_25 : decode b_Model_looked 25 = .ok (.iload_n 2, 1) := by decide +kernel
theorem d_Model_looked_26 : decode b_Model_looked 26 = .ok (.invokevirtual 272, 3) := by decide +kernel
theorem d_Model_looked_29 : decode b_Model_looked 29 = .ok (.ifCond .eq (8), 3) := by decide +kernel
theorem d_Model_looked_32 : decode b_Model_looked 32 = .ok (.bipush (-5), 2) := by decide +kernel
theorem d_Model_looked_34 : decode b_Model_looked 34 = .ok (.goto (4), 3) := by decide +kernel
theorem d_Model_looked_37 : decode b_Model_looked 37 = .ok (.iload_n 2, 1) := by decide +kernel
theorem d_Model_looked_38 : decode b_Model_looked 38 = .ok (.istore_n 1, 1) := by decide +kernel
theorem d_Model_looked_39 : decode b_Model_looked 39 = .ok (.iinc 2 (1), 3) := by decide +kernel
theorem d_Model_looked_42 : decode b_Model_looked 42 = .ok (.goto (-33), 3) := by decide +kernel
theorem d_Model_looked_45 : decode b_Model_looked 45 = .ok (.aload_n 0, 1) := by decide +kernel
theorem d_Model_looked_46 : decode b_Model_looked 46 = .ok (.invokevirtual 217, 3) := by decide +kernel
theorem d_Model_looked_49 : decode b_Model_looked 49 = .ok (.iload_n 1, 1) := by decide +kernel
theorem d_Model_looked_50 : decode b_Model_looked 50 = .ok (.ireturn, 1) := by decide +kernel
theorem zb_Model_looked_38 {l : Launch} {θ : ZT} {res : Int32 × ZM} {k9 : Int32 × Int32 × ZM → Option (Int32 × ZM)} (hk9 : ∀ a : Int32 × Int32 × ZM, k9 a = some res → WZ l b_Model_looked 3 (some .int) "BakedBeforeModel" 129 14 θ (zrm 40 951) (zQ mkI 129 14 θ res) a.2.2 [(0, .ref (za θ 129)), (1, .int a.1), (2, .int a.2.1)] 9 []) {x2 : Int32} {y0 : Int32} {σ : ZM} (h : f_Model_looked_38 k9 x2 y0 σ = some res) : WZ l b_Model_looked 3 (some .int) "BakedBeforeModel" 129 14 θ (zrm 40 951) (zQ mkI 129 14 θ res) σ [(0, .ref (za θ 129)), (2, .int x2)] 38 [.int y0] := by
  unfold f_Model_looked_38 at h
  refine z_istore_n d_Model_looked_38 rfl (by decide) rfl ?_
  refine z_iinc (v := x2 + (1 : Int32)) 2 d_Model_looked_39 rfl rfl (by decide) rfl ?_
  refine z_goto (tgt := 9) d_Model_looked_42 (by decide) ?_
  refine z_sub [2, 1, 0] rfl ?_
  exact hk9 (y0, (x2 + (1 : Int32)), σ) h
theorem zb_Model_looked_45 {l : Launch} {θ : ZT} {res : Int32 × ZM} {x1 : Int32} {σ : ZM} (h : f_Model_looked_45 x1 σ = some res) : WZ l b_Model_looked 3 (some .int) "BakedBeforeModel" 129 14 θ (zrm 40 951) (zQ mkI 129 14 θ res) σ [(0, .ref (za θ 129)), (1, .int x1)] 45 [] := by
  unfold f_Model_looked_45 at h
  refine z_aload_n 0 d_Model_looked_45 rfl rfl ?_
  obtain ⟨⟨v1, s2⟩, e3, h⟩ := zbd_i h
  refine w_callV (As := []) (kc := 22) (ci := 12) (c_Model_ends l θ e3) cf_Model_ends q_1131 d_Model_looked_46 zl_129 rfl rfl rfl rfl rfl rfl (Nat.le_of_ble_eq_true rfl) rfl rfl ⟨Nat.le_of_ble_eq_true rfl, Nat.le_of_ble_eq_true rfl⟩ ?_
  refine z_iload_n 1 d_Model_looked_49 rfl rfl ?_
  exact z_iret d_Model_looked_50 h
theorem zb_Model_looked_9 {l : Launch} {θ : ZT} {res : Int32 × ZM} {k9 : Int32 × Int32 × ZM → Option (Int32 × ZM)} (hk9 : ∀ a : Int32 × Int32 × ZM, k9 a = some res → WZ l b_Model_looked 3 (some .int) "BakedBeforeModel" 129 14 θ (zrm 40 951) (zQ mkI 129 14 θ res) a.2.2 [(0, .ref (za θ 129)), (1, .int a.1), (2, .int a.2.1)] 9 []) {x1 : Int32} {x2 : Int32} {σ : ZM} (h : f_Model_looked_9 k9 x1 x2 σ = some res) : WZ l b_Model_looked 3 (some .int) "BakedBeforeModel" 129 14 θ (zrm 40 951) (zQ mkI 129 14 θ res) σ [(0, .ref (za θ 129)), (1, .int x1), (2, .int x2)] 9 [] := by
  unfold f_Model_looked_9 at h
  refine z_iload_n 2 d_Model_looked_9 rfl rfl ?_
  refine z_aload_n 0 d_Model_looked_10 rfl rfl ?_
  refine gf_Model_s zl_129 d_Model_looked_11 q_871 ?_
  refine z_bipush (v := 7) d_Model_looked_14 (by decide) ?_
  obtain ⟨c1, h⟩ := zck_i h
  refine w_iald zl_130 c1 d_Model_looked_16 ?_
  refine z_icmp_ge (tgt := 45) d_Model_looked_17 (by decide) (fun c2 => ?_) (fun c2 => ?_)
  · have h := (if_pos c2).symm.trans h
    refine z_sub [0, 1] rfl ?_
    exact zb_Model_looked_45 h
  · have h := (if_neg c2).symm.trans h
    refine z_iload_n 1 d_Model_looked_20 rfl rfl ?_
    refine z_if_ge (tgt := 45) d_Model_looked_21 (by decide) (fun c3 => ?_) (fun c3 => ?_)
    · have h := (if_pos c3).symm.trans h
      refine z_sub [0, 1] rfl ?_
      exact zb_Model_looked_45 h
    · have h := (if_neg c3).symm.trans h
      refine z_aload_n 0 d_Model_looked_24 rfl rfl ?_
      refine z_iload_n 2 d_Model_looked_25 rfl rfl ?_
      obtain ⟨⟨v4, s5⟩, e6, h⟩ := zbd_i h
      refine w_callV (As := [.int x2]) (kc := 22) (ci := 12) (c_Model_isBookedSo l θ e6) cf_Model_isBookedSo q_1243 d_Model_looked_26 zl_129 rfl rfl rfl rfl rfl rfl (Nat.le_of_ble_eq_true rfl) rfl rfl ⟨Nat.le_of_ble_eq_true rfl, Nat.le_of_ble_eq_true rfl⟩ ?_
      refine z_if_eq (tgt := 37) d_Model_looked_29 (by decide) (fun c7 => ?_) (fun c7 => ?_)
      · have h := (if_pos c7).symm.trans h
        refine z_iload_n 2 d_Model_looked_37 rfl rfl ?_
        refine z_sub [0, 2] rfl ?_
        exact zb_Model_looked_38 hk9 h
      · have h := (if_neg c7).symm.trans h
        refine z_bipush (v := -5) d_Model_looked_32 (by decide) ?_
        refine z_goto (tgt := 38) d_Model_looked_34 (by decide) ?_
        refine z_sub [0, 2] rfl ?_
        exact zb_Model_looked_38 hk9 h
theorem zl_Model_looked_9 {l : Launch} {θ : ZT} {res : Int32 × ZM} : ∀ (N : Nat) (a : Int32 × Int32 × ZM), F_Model_looked_9 N a = some res → WZ l b_Model_looked 3 (some .int) "BakedBeforeModel" 129 14 θ (zrm 40 951) (zQ mkI 129 14 θ res) a.2.2 [(0, .ref (za θ 129)), (1, .int a.1), (2, .int a.2.1)] 9 [] := by
  intro N
  induction N with
  | zero => intro a  h; cases (show (none : Option (Int32 × ZM)) = some res from h)
  | succ N ih => intro a  h; exact zb_Model_looked_9 ih (show f_Model_looked_9 (F_Model_looked_9 N) a.1 a.2.1 a.2.2 = some res from h)
theorem c_Model_looked (l : Launch) (θ : ZT)  {σ : ZM} {res : Int32 × ZM} (h : f_Model_looked σ = some res) : zMet mkI l 129 14 θ y_Model_looked b_Model_looked 3 (some .int) (zrm 40 951) [.ref (za θ 129)] σ res := by
  unfold f_Model_looked at h
  refine z_met (lv := [(0, .ref (za θ 129))]) (by decide +kernel) rfl (Nat.le_of_ble_eq_true rfl) (by decide) ?_
  refine z_bipush (v := -5) d_Model_looked_0 (by decide) ?_
  refine z_istore_n d_Model_looked_2 rfl (by decide) rfl ?_
  refine z_aload_n 1 d_Model_looked_3 rfl rfl ?_
  obtain ⟨⟨v1, s2⟩, e3, h⟩ := zbd_i h
  refine w_callV (As := []) (kc := 22) (ci := 12) (c_Model_begins l θ e3) cf_Model_begins q_1124 d_Model_looked_4 zl_129 rfl rfl rfl rfl rfl rfl (Nat.le_of_ble_eq_true rfl) rfl rfl ⟨Nat.le_of_ble_eq_true rfl, Nat.le_of_ble_eq_true rfl⟩ ?_
  refine z_iconst (v := 0) d_Model_looked_7 (by decide) ?_
  refine z_istore_n d_Model_looked_8 rfl (by decide) rfl ?_
  refine z_sub [2, 1, 0] rfl ?_
  exact zl_Model_looked_9 2000 ((-5 : Int32), (0 : Int32), s2) h
theorem d_Model_isTape_0 : decode b_Model_isTape 0 = .ok (.iload_n 0, 1) := by decide +kernel
theorem d_Model_isTape_1 : decode b_Model_isTape 1 = .ok (.iconst (0), 1) := by decide +kernel
theorem d_Model_isTape_2 : decode b_Model_isTape 2 = .ok (.iconst (5), 1) := by decide +kernel
theorem d_Model_isTape_3 : decode b_Model_isTape 3 = .ok (.invokestatic 52, 3) := by decide +kernel
theorem d_Model_isTape_6 : decode b_Model_isTape 6 = .ok (.ireturn, 1) := by decide +kernel
theorem c_Model_isTape (l : Launch) (θ : ZT) {x0 : Int32} {σ : ZM} {res : Int32 × ZM} (h : f_Model_isTape x0 σ = some res) : zMet mkI l 129 14 θ y_Model_isTape b_Model_isTape 1 (some .boolean) (zrm 2 82) [.int x0] σ res := by
  unfold f_Model_isTape at h
  refine z_met (lv := [(0, .int x0)]) (by decide +kernel) rfl (Nat.le_of_ble_eq_true rfl) (by decide) ?_
  refine z_iload_n 0 d_Model_isTape_0 rfl rfl ?_
  refine z_iconst (v := 0) d_Model_isTape_1 (by decide) ?_
  refine z_iconst (v := 5) d_Model_isTape_2 (by decide) ?_
  obtain ⟨⟨v1, s2⟩, e3, h⟩ := zbd_i h
  refine w_callS (As := [.int x0, .int (0 : Int32), .int (5 : Int32)]) (c_Model_isIn l θ e3) cf_Model_isIn q_969 d_Model_isTape_3 rfl rfl rfl (Nat.le_of_ble_eq_true rfl) rfl rfl ⟨Nat.le_of_ble_eq_true rfl, Nat.le_of_ble_eq_true rfl⟩ ?_
  obtain ⟨c4, h⟩ := zck_i h
  exact z_zret d_Model_isTape_6 c4 h
theorem d_Model_judge_0 : decode b_Model_judge 0 = .ok (.iload_n 1, 1) := by decide +kernel
theorem d_Model_judge_1 : decode b_Model_judge 1 = .ok (.invokestatic 275, 3) := by decide +kernel
theorem d_Model_judge_4 : decode b_Model_judge 4 = .ok (.ifCond .ne (5), 3) := by decide +kernel
theorem d_Model_judge_7 : decode b_Model_judge 7 = .ok (.iconst (-1), 1) := by decide +kernel
theorem d_Model_judge_8 : decode b_Model_judge 8 = .ok (.ireturn, 1) := by decide +kernel
theorem d_Model_judge_9 : decode b_Model_judge 9 = .ok (.aload_n 0, 1) := by decide +kernel
theorem d_Model_judge_10 : decode b_Model_judge 10 = .ok (.getfield 39, 3) := by decide +kernel
theorem d_Model_judge_13 : decode b_Model_judge 13 = .ok (.iload_n 1, 1) := by decide +kernel
theorem d_Model_judge_14 : decode b_Model_judge 14 = .ok (.iaload, 1) := by decide +kernel
theorem d_Model_judge_15 : decode b_Model_judge 15 = .ok (.ifCond .lt (16), 3) := by decide +kernel
theorem d_Model_judge_18 : decode b_Model_judge 18 = .ok (.aload_n 0, 1) := by decide +kernel
theorem d_Model_judge_19 : decode b_Model_judge 19 = .ok (.getfield 39, 3) := by decide +kernel
theorem d_Model_judge_22 : decode b_Model_judge 22 = .ok (.iload_n 1, 1) := by decide +kernel
theorem d_Model_judge_23 : decode b_Model_judge 23 = .ok (.iaload, 1) := by decide +kernel
theorem d_Model_judge_24 : decode b_Model_judge 24 = .ok (.iconst (1), 1) := by decide +kernel
theorem d_Model_judge_25 : decode b_Model_judge 25 = .ok (.if_icmp .eq (6), 3) := by decide +kernel
theorem d_Model_judge_28 : decode b_Model_judge 28 = .ok (.bipush (-12), 2) := by decide +kernel
theorem d_Model_judge_30 : decode b_Model_judge 30 = .ok (.ireturn, 1) := by decide +kernel
theorem d_Model_judge_31 : decode b_Model_judge 31 = .ok (.aload_n 0, 1) := by decide +kernel
theorem d_Model_judge_32 : decode b_Model_judge 32 = .ok (.getfield 39, 3) := by decide +kernel
theorem d_Model_judge_35 : decode b_Model_judge 35 = .ok (.iload_n 1, 1) := by decide +kernel
theorem d_Model_judge_36 : decode b_Model_judge 36 = .ok (.iaload, 1) := by decide +kernel
theorem d_Model_judge_37 : decode b_Model_judge 37 = .ok (.ifCond .lt (7), 3) := by decide +kernel
theorem d_Model_judge_40 : decode b_Model_judge 40 = .ok (.iload_n 2, 1) := by decide +kernel
theorem d_Model_judge_41 : decode b_Model_judge 41 = .ok (.ifCond .ge (6), 3) := by decide +kernel
theorem d_Model_judge_44 : decode b_Model_judge 44 = .ok (.bipush (100), 2) := by decide +kernel
theorem d_Model_judge_46 : decode b_Model_judge 46 = .ok (.ireturn, 1) := by decide +kernel
theorem d_Model_judge_47 : decode b_Model_judge 47 = .ok (.iconst (0), 1) := by decide +kernel
theorem d_Model_judge_48 : decode b_Model_judge 48 = .ok (.istore_n 3, 1) := by decide +kernel
theorem d_Model_judge_49 : decode b_Model_judge 49 = .ok (.iload_n 3, 1) := by decide +kernel
theorem d_Model_judge_50 : decode b_Model_judge 50 = .ok (.iconst (4), 1) := by decide +kernel
theorem d_Model_judge_51 : decode b_Model_judge 51 = .ok (.if_icmp .ge (52), 3) := by decide +kernel
theorem d_Model_judge_54 : decode b_Model_judge 54 = .ok (.iload_n 2, 1) := by decide +kernel
theorem d_Model_judge_55 : decode b_Model_judge 55 = .ok (.aload_n 0, 1) := by decide +kernel
theorem d_Model_judge_56 : decode b_Model_judge 56 = .ok (.getfield 42, 3) := by decide +kernel
theorem d_Model_judge_59 : decode b_Model_judge 59 = .ok (.iload_n 1, 1) := by decide +kernel
theorem d_Model_judge_60 : decode b_Model_judge 60 = .ok (.iaload, 1) := by decide +kernel
theorem d_Model_judge_61 : decode b_Model_judge 61 = .ok (.iload_n 3, 1) := by decide +kernel
theorem d_Model_judge_62 : decode b_Model_judge 62 = .ok (.isub, 1) := by decide +kernel
theorem d_Model_judge_63 : decode b_Model_judge 63 = .ok (.if_icmp .lt (8), 3) := by decide +kernel
theorem d_Model_judge_66 : decode b_Model_judge 66 = .ok (.bipush (100), 2) := by decide +kernel
theorem d_Model_judge_68 : decode b_Model_judge 68 = .ok (.iload_n 3, 1) := by decide +kernel
theorem d_Model_judge_69 : decode b_Model_judge 69 = .ok (.iadd, 1) := by decide +kernel
theorem d_Model_judge_70 : decode b_Model_judge 70 = .ok (.ireturn, 1) := by decide +kernel
theorem d_Model_judge_71 : decode b_Model_judge 71 = .ok (.aload_n 0, 1) := by decide +kernel
theorem d_Model_judge_72 : decode b_Model_judge 72 = .ok (.getfield 45, 3) := by decide +kernel
theorem d_Model_judge_75 : decode b_Model_judge 75 = .ok (.bipush (60), 2) := by decide +kernel
theorem d_Model_judge_77 : decode b_Model_judge 77 = .ok (.iload_n 1, 1) := by decide +kernel
theorem d_Model_judge_78 : decode b_Model_judge 78 = .ok (.imul, 1) := by decide +kernel
theorem d_Model_judge_79 : decode b_Model_judge 79 = .ok (.iload_n 2, 1) := by decide +kernel
theorem d_Model_judge_80 : decode b_Model_judge 80 = .ok (.iadd, 1) := by decide +kernel
theorem d_Model_judge_81 : decode b_Model_judge 81 = .ok (.iload_n 3, 1) := by decide +kernel
theorem d_Model_judge_82 : decode b_Model_judge 82 = .ok (.iadd, 1) := by decide +kernel
theorem d_Model_judge_83 : decode b_Model_judge 83 = .ok (.laload, 1) := by decide +kernel
theorem d_Model_judge_84 : decode b_Model_judge 84 = .ok (.aload_n 0, 1) := by decide +kernel
theorem d_Model_judge_85 : decode b_Model_judge 85 = .ok (.getfield 11, 3) := by decide +kernel
theorem d_Model_judge_88 : decode b_Model_judge 88 = .ok (.iload_n 3, 1) := by decide +kernel
theorem d_Model_judge_89 : decode b_Model_judge 89 = .ok (.iaload, 1) := by decide +kernel
theorem d_Model_judge_90 : decode b_Model_judge 90 = .ok (.i2l, 1) := by decide +kernel
theorem d_Model_judge_91 : decode b_Model_judge 91 = .ok (.lcmp, 1) := by decide +kernel
theorem d_Model_judge_92 : decode b_Model_judge 92 = .ok (.ifCond .eq (5), 3) := by decide +kernel
theorem d_Model_judge_95 : decode b_Model_judge 95 = .ok (.iload_n 3, 1) := by decide +kernel
theorem d_Model_judge_96 : decode b_Model_judge 96 = .ok (.ireturn, 1) := by decide +kernel
theorem d_Model_judge_97 : decode b_Model_judge 97 = .ok (.iinc 3 (1), 3) := by decide +kernel
theorem d_Model_judge_100 : decode b_Model_judge 100 = .ok (.goto (-51), 3) := by decide +kernel
theorem d_Model_judge_103 : decode b_Model_judge 103 = .ok (.bipush (-5), 2) := by decide +kernel
theorem d_Model_judge_105 : decode b_Model_judge 105 = .ok (.ireturn, 1) := by decide +kernel
theorem zb_Model_judge_49 {l : Launch} {θ : ZT} {res : Int32 × ZM} {k49 : Int32 × Int32 × Int32 × ZM → Option (Int32 × ZM)} (hk49 : ∀ a : Int32 × Int32 × Int32 × ZM, k49 a = some res → WZ l b_Model_judge 4 (some .int) "BakedBeforeModel" 129 14 θ (zrm 3 102) (zQ mkI 129 14 θ res) a.2.2.2 [(0, .ref (za θ 129)), (1, .int a.1), (2, .int a.2.1), (3, .int a.2.2.1)] 49 []) {x1 : Int32} {x2 : Int32} {x3 : Int32} {σ : ZM} (h : f_Model_judge_49 k49 x1 x2 x3 σ = some res) : WZ l b_Model_judge 4 (some .int) "BakedBeforeModel" 129 14 θ (zrm 3 102) (zQ mkI 129 14 θ res) σ [(0, .ref (za θ 129)), (1, .int x1), (2, .int x2), (3, .int x3)] 49 [] := by
  unfold f_Model_judge_49 at h
  refine z_iload_n 3 d_Model_judge_49 rfl rfl ?_
  refine z_iconst (v := 4) d_Model_judge_50 (by decide) ?_
  refine z_icmp_ge (tgt := 103) d_Model_judge_51 (by decide) (fun c1 => ?_) (fun c1 => ?_)
  · have h := (if_pos c1).symm.trans h
    refine z_bipush (v := -5) d_Model_judge_103 (by decide) ?_
    exact z_iret d_Model_judge_105 h
  · have h := (if_neg c1).symm.trans h
    refine z_iload_n 2 d_Model_judge_54 rfl rfl ?_
    refine z_aload_n 0 d_Model_judge_55 rfl rfl ?_
    refine gf_Model_tapeLong zl_129 d_Model_judge_56 q_897 ?_
    refine z_iload_n 1 d_Model_judge_59 rfl rfl ?_
    obtain ⟨c2, h⟩ := zck_i h
    refine w_iald zl_140 c2 d_Model_judge_60 ?_
    refine z_iload_n 3 d_Model_judge_61 rfl rfl ?_
    refine z_isub d_Model_judge_62 ?_
    refine z_icmp_lt (tgt := 71) d_Model_judge_63 (by decide) (fun c3 => ?_) (fun c3 => ?_)
    · have h := (if_pos c3).symm.trans h
      refine z_aload_n 0 d_Model_judge_71 rfl rfl ?_
      refine gf_Model_item zl_129 d_Model_judge_72 q_898 ?_
      refine z_bipush (v := 60) d_Model_judge_75 (by decide) ?_
      refine z_iload_n 1 d_Model_judge_77 rfl rfl ?_
      refine z_imul d_Model_judge_78 ?_
      refine z_iload_n 2 d_Model_judge_79 rfl rfl ?_
      refine z_iadd d_Model_judge_80 ?_
      refine z_iload_n 3 d_Model_judge_81 rfl rfl ?_
      refine z_iadd d_Model_judge_82 ?_
      obtain ⟨c4, h⟩ := zck_i h
      refine w_lald zl_141 c4 d_Model_judge_83 ?_
      refine z_aload_n 0 d_Model_judge_84 rfl rfl ?_
      refine gf_Model_s zl_129 d_Model_judge_85 q_871 ?_
      refine z_iload_n 3 d_Model_judge_88 rfl rfl ?_
      obtain ⟨c5, h⟩ := zck_i h
      refine w_iald zl_130 c5 d_Model_judge_89 ?_
      refine z_i2l d_Model_judge_90 ?_
      refine z_lcmp d_Model_judge_91 ?_
      refine z_if_eq (tgt := 97) d_Model_judge_92 (by decide) (fun c6 => ?_) (fun c6 => ?_)
      · have h := (if_pos c6).symm.trans h
        refine z_iinc (v := x3 + (1 : Int32)) 3 d_Model_judge_97 rfl rfl (by decide) rfl ?_
        refine z_goto (tgt := 49) d_Model_judge_100 (by decide) ?_
        refine z_sub [1, 2, 3, 0] rfl ?_
        exact hk49 (x1, x2, (x3 + (1 : Int32)), σ) h
      · have h := (if_neg c6).symm.trans h
        refine z_iload_n 3 d_Model_judge_95 rfl rfl ?_
        exact z_iret d_Model_judge_96 h
    · have h := (if_neg c3).symm.trans h
      refine z_bipush (v := 100) d_Model_judge_66 (by decide) ?_
      refine z_iload_n 3 d_Model_judge_68 rfl rfl ?_
      refine z_iadd d_Model_judge_69 ?_
      exact z_iret d_Model_judge_70 h
theorem zl_Model_judge_49 {l : Launch} {θ : ZT} {res : Int32 × ZM} : ∀ (N : Nat) (a : Int32 × Int32 × Int32 × ZM), F_Model_judge_49 N a = some res → WZ l b_Model_judge 4 (some .int) "BakedBeforeModel" 129 14 θ (zrm 3 102) (zQ mkI 129 14 θ res) a.2.2.2 [(0, .ref (za θ 129)), (1, .int a.1), (2, .int a.2.1), (3, .int a.2.2.1)] 49 [] := by
  intro N
  induction N with
  | zero => intro a  h; cases (show (none : Option (Int32 × ZM)) = some res from h)
  | succ N ih => intro a  h; exact zb_Model_judge_49 ih (show f_Model_judge_49 (F_Model_judge_49 N) a.1 a.2.1 a.2.2.1 a.2.2.2 = some res from h)
theorem zb_Model_judge_31 {l : Launch} {θ : ZT} {res : Int32 × ZM} {x1 : Int32} {x2 : Int32} {σ : ZM} (h : f_Model_judge_31 x1 x2 σ = some res) : WZ l b_Model_judge 4 (some .int) "BakedBeforeModel" 129 14 θ (zrm 3 102) (zQ mkI 129 14 θ res) σ [(0, .ref (za θ 129)), (1, .int x1), (2, .int x2)] 31 [] := by
  unfold f_Model_judge_31 at h
  refine z_aload_n 0 d_Model_judge_31 rfl rfl ?_
  refine gf_Model_tapeSort zl_129 d_Model_judge_32 q_896 ?_
  refine z_iload_n 1 d_Model_judge_35 rfl rfl ?_
  obtain ⟨c1, h⟩ := zck_i h
  refine w_iald zl_139 c1 d_Model_judge_36 ?_
  refine z_if_lt (tgt := 44) d_Model_judge_37 (by decide) (fun c2 => ?_) (fun c2 => ?_)
  · have h := (if_pos c2).symm.trans h
    refine z_bipush (v := 100) d_Model_judge_44 (by decide) ?_
    exact z_iret d_Model_judge_46 h
  · have h := (if_neg c2).symm.trans h
    refine z_iload_n 2 d_Model_judge_40 rfl rfl ?_
    refine z_if_ge (tgt := 47) d_Model_judge_41 (by decide) (fun c3 => ?_) (fun c3 => ?_)
    · have h := (if_pos c3).symm.trans h
      refine z_iconst (v := 0) d_Model_judge_47 (by decide) ?_
      refine z_istore_n d_Model_judge_48 rfl (by decide) rfl ?_
      refine z_sub [1, 2, 3, 0] rfl ?_
      exact zl_Model_judge_49 2000 (x1, x2, (0 : Int32), σ) h
    · have h := (if_neg c3).symm.trans h
      refine z_bipush (v := 100) d_Model_judge_44 (by decide) ?_
      exact z_iret d_Model_judge_46 h
theorem c_Model_judge (l : Launch) (θ : ZT) {x1 : Int32} {x2 : Int32} {σ : ZM} {res : Int32 × ZM} (h : f_Model_judge x1 x2 σ = some res) : zMet mkI l 129 14 θ y_Model_judge b_Model_judge 4 (some .int) (zrm 3 102) [.ref (za θ 129), .int x1, .int x2] σ res := by
  unfold f_Model_judge at h
  refine z_met (lv := [(0, .ref (za θ 129)), (1, .int x1), (2, .int x2)]) (by decide +kernel) rfl (Nat.le_of_ble_eq_true rfl) (by decide) ?_
  refine z_iload_n 1 d_Model_judge_0 rfl rfl ?_
  obtain ⟨⟨v1, s2⟩, e3, h⟩ := zbd_i h
  refine w_callS (As := [.int x1]) (c_Model_isTape l θ e3) cf_Model_isTape q_1251 d_Model_judge_1 rfl rfl rfl (Nat.le_of_ble_eq_true rfl) rfl rfl ⟨Nat.le_of_ble_eq_true rfl, Nat.le_of_ble_eq_true rfl⟩ ?_
  refine z_if_ne (tgt := 9) d_Model_judge_4 (by decide) (fun c4 => ?_) (fun c4 => ?_)
  · have h := (if_neg c4).symm.trans h
    refine z_aload_n 0 d_Model_judge_9 rfl rfl ?_
    refine gf_Model_tapeSort zl_129 d_Model_judge_10 q_896 ?_
    refine z_iload_n 1 d_Model_judge_13 rfl rfl ?_
    obtain ⟨c5, h⟩ := zck_i h
    refine w_iald zl_139 c5 d_Model_judge_14 ?_
    refine z_if_lt (tgt := 31) d_Model_judge_15 (by decide) (fun c6 => ?_) (fun c6 => ?_)
    · have h := (if_pos c6).symm.trans h
      exact zb_Model_judge_31 h
    · have h := (if_neg c6).symm.trans h
      refine z_aload_n 0 d_Model_judge_18 rfl rfl ?_
      refine gf_Model_tapeSort zl_129 d_Model_judge_19 q_896 ?_
      refine z_iload_n 1 d_Model_judge_22 rfl rfl ?_
      obtain ⟨c7, h⟩ := zck_i h
      refine w_iald zl_139 c7 d_Model_judge_23 ?_
      refine z_iconst (v := 1) d_Model_judge_24 (by decide) ?_
      refine z_icmp_eq (tgt := 31) d_Model_judge_25 (by decide) (fun c8 => ?_) (fun c8 => ?_)
      · have h := (if_pos c8).symm.trans h
        exact zb_Model_judge_31 h
      · have h := (if_neg c8).symm.trans h
        refine z_bipush (v := -12) d_Model_judge_28 (by decide) ?_
        exact z_iret d_Model_judge_30 h
  · have h := (if_pos c4).symm.trans h
    refine z_iconst (v := -1) d_Model_judge_7 (by decide) ?_
    exact z_iret d_Model_judge_8 h
theorem d_Model_image_0 : decode b_Model_image 0 = .ok (.aload_n 0, 1) := by decide +kernel
theorem d_Model_image_1 : decode b_Model_image 1 = .ok (.getfield 11, 3) := by decide +kernel
theorem d_Model_image_4 : decode b_Model_image 4 = .ok (.aload_n 0, 1) := by decide +kernel
theorem d_Model_image_5 : decode b_Model_image 5 = .ok (.getfield 15, 3) := by decide +kernel
theorem d_Model_image_8 : decode b_Model_image 8 = .ok (.invokestatic 56, 3) := by decide +kernel
theorem d_Model_image_11 : decode b_Model_image 11 = .ok (.aload_n 0, 1) := by decide +kernel
theorem d_Model_image_12 : decode b_Model_image 12 = .ok (.iconst (1), 1) := by decide +kernel
theorem d_Model_image_13 : decode b_Model_image 13 = .ok (.putfield 278, 3) := by decide +kernel
theorem d_Model_image_16 : decode b_Model_image 16 = .ok (.aload_n 0, 1) := by decide +kernel
theorem d_Model_image_17 : decode b_Model_image 17 = .ok (.getfield 11, 3) := by decide +kernel
theorem d_Model_image_20 : decode b_Model_image 20 = .ok (.iconst (5), 1) := by decide +kernel
theorem d_Model_image_21 : decode b_Model_image 21 = .ok (.iaload, 1) := by decide +kernel
theorem d_Model_image_22 : decode b_Model_image 22 = .ok (.ireturn, 1) := by decide +kernel
theorem c_Model_image (l : Launch) (θ : ZT)  {σ : ZM} {res : Int32 × ZM} (h : f_Model_image σ = some res) : zMet mkI l 129 14 θ y_Model_image b_Model_image 1 (some .int) (zrm 2 82) [.ref (za θ 129)] σ res := by
  unfold f_Model_image at h
  refine z_met (lv := [(0, .ref (za θ 129))]) (by decide +kernel) rfl (Nat.le_of_ble_eq_true rfl) (by decide) ?_
  refine z_aload_n 0 d_Model_image_0 rfl rfl ?_
  refine gf_Model_s zl_129 d_Model_image_1 q_871 ?_
  refine z_aload_n 0 d_Model_image_4 rfl rfl ?_
  refine gf_Model_image zl_129 d_Model_image_5 q_872 ?_
  obtain ⟨⟨v1, s2⟩, e3, h⟩ := zbd_i h
  refine w_callS (As := [.ref (za θ 130), .ref (za θ 131)]) (c_Model_lays l θ e3) cf_Model_lays q_1128 d_Model_image_8 rfl rfl rfl (Nat.le_of_ble_eq_true rfl) rfl rfl ⟨Nat.le_of_ble_eq_true rfl, Nat.le_of_ble_eq_true rfl⟩ ?_
  refine z_aload_n 0 d_Model_image_11 rfl rfl ?_
  refine z_iconst (v := 1) d_Model_image_12 (by decide) ?_
  refine pf_Model_hasImage zl_129 (by decide) d_Model_image_13 q_874 ?_
  refine z_aload_n 0 d_Model_image_16 rfl rfl ?_
  refine gf_Model_s zl_129 d_Model_image_17 q_871 ?_
  refine z_iconst (v := 5) d_Model_image_20 (by decide) ?_
  obtain ⟨c4, h⟩ := zck_i h
  refine w_iald zl_130 c4 d_Model_image_21 ?_
  exact z_iret d_Model_image_22 h
theorem d_Model_undo_0 : decode b_Model_undo 0 = .ok (.aload_n 0, 1) := by decide +kernel
theorem d_Model_undo_1 : decode b_Model_undo 1 = .ok (.getfield 278, 3) := by decide +kernel
theorem d_Model_undo_4 : decode b_Model_undo 4 = .ok (.ifCond .ne (6), 3) := by decide +kernel
theorem d_Model_undo_7 : decode b_Model_undo 7 = .ok (.bipush (-3), 2) := by decide +kernel
theorem d_Model_undo_9 : decode b_Model_undo 9 = .ok (.ireturn, 1) := by decide +kernel
theorem d_Model_undo_10 : decode b_Model_undo 10 = .ok (.aload_n 0, 1) := by decide +kernel
theorem d_Model_undo_11 : decode b_Model_undo 11 = .ok (.getfield 15, 3) := by decide +kernel
theorem d_Model_undo_14 : decode b_Model_undo 14 = .ok (.aload_n 0, 1) := by decide +kernel
theorem d_Model_undo_15 : decode b_Model_undo 15 = .ok (.getfield 11, 3) := by decide +kernel
theorem d_Model_undo_18 : decode b_Model_undo 18 = .ok (.invokestatic 56, 3) := by decide +kernel
theorem d_Model_undo_21 : decode b_Model_undo 21 = .ok (.aload_n 0, 1) := by decide +kernel
theorem d_Model_undo_22 : decode b_Model_undo 22 = .ok (.getfield 11, 3) := by decide +kernel
theorem d_Model_undo_25 : decode b_Model_undo 25 = .ok (.iconst (5), 1) := by decide +kernel
theorem d_Model_undo_26 : decode b_Model_undo 26 = .ok (.iaload, 1) := by decide +kernel
theorem d_Model_undo_27 : decode b_Model_undo 27 = .ok (.ireturn, 1) := by decide +kernel
theorem c_Model_undo (l : Launch) (θ : ZT)  {σ : ZM} {res : Int32 × ZM} (h : f_Model_undo σ = some res) : zMet mkI l 129 14 θ y_Model_undo b_Model_undo 1 (some .int) (zrm 2 82) [.ref (za θ 129)] σ res := by
  unfold f_Model_undo at h
  refine z_met (lv := [(0, .ref (za θ 129))]) (by decide +kernel) rfl (Nat.le_of_ble_eq_true rfl) (by decide) ?_
  refine z_aload_n 0 d_Model_undo_0 rfl rfl ?_
  refine gf_Model_hasImage zl_129 d_Model_undo_1 q_874 ?_
  refine z_if_ne (tgt := 10) d_Model_undo_4 (by decide) (fun c1 => ?_) (fun c1 => ?_)
  · have h := (if_neg c1).symm.trans h
    refine z_aload_n 0 d_Model_undo_10 rfl rfl ?_
    refine gf_Model_image zl_129 d_Model_undo_11 q_872 ?_
    refine z_aload_n 0 d_Model_undo_14 rfl rfl ?_
    refine gf_Model_s zl_129 d_Model_undo_15 q_871 ?_
    obtain ⟨⟨v2, s3⟩, e4, h⟩ := zbd_i h
    refine w_callS (As := [.ref (za θ 131), .ref (za θ 130)]) (c_Model_lays l θ e4) cf_Model_lays q_1128 d_Model_undo_18 rfl rfl rfl (Nat.le_of_ble_eq_true rfl) rfl rfl ⟨Nat.le_of_ble_eq_true rfl, Nat.le_of_ble_eq_true rfl⟩ ?_
    refine z_aload_n 0 d_Model_undo_21 rfl rfl ?_
    refine gf_Model_s zl_129 d_Model_undo_22 q_871 ?_
    refine z_iconst (v := 5) d_Model_undo_25 (by decide) ?_
    obtain ⟨c5, h⟩ := zck_i h
    refine w_iald zl_130 c5 d_Model_undo_26 ?_
    exact z_iret d_Model_undo_27 h
  · have h := (if_pos c1).symm.trans h
    refine z_bipush (v := -3) d_Model_undo_7 (by decide) ?_
    exact z_iret d_Model_undo_9 h
theorem d_Model_runs_0 : decode b_Model_runs 0 = .ok (.aload_n 0, 1) := by decide +kernel
theorem d_Model_runs_1 : decode b_Model_runs 1 = .ok (.getfield 281, 3) := by decide +kernel
theorem d_Model_runs_4 : decode b_Model_runs 4 = .ok (.bipush (20), 2) := by decide +kernel
theorem d_Model_runs_6 : decode b_Model_runs 6 = .ok (.if_icmp .ge (13), 3) := by decide +kernel
theorem d_Model_runs_9 : decode b_Model_runs 9 = .ok (.aload_n 0, 1) := by decide +kernel
theorem d_Model_runs_10 : decode b_Model_runs 10 = .ok (.getfield 49, 3) := by decide +kernel
theorem d_Model_runs_13 : decode b_Model_runs 13 = .ok (.aload_n 0, 1) := by decide +kernel
theorem d_Model_runs_14 : decode b_Model_runs 14 = .ok (.getfield 281, 3) := by decide +kernel
theorem d_Model_runs_17 : decode b_Model_runs 17 = .ok (.iload_n 1, 1) := by decide +kernel
theorem d_Model_runs_18 : decode b_Model_runs 18 = .ok (.iastore, 1) := by decide +kernel
theorem d_Model_runs_19 : decode b_Model_runs 19 = .ok (.aload_n 0, 1) := by decide +kernel
theorem d_Model_runs_20 : decode b_Model_runs 20 = .ok (.dup, 1) := by decide +kernel
theorem d_Model_runs_21 : decode b_Model_runs 21 = .ok (.getfield 281, 3) := by decide +kernel
theorem d_Model_runs_24 : decode b_Model_runs 24 = .ok (.iconst (1), 1) := by decide +kernel
theorem d_Model_runs_25 : decode b_Model_runs 25 = .ok (.iadd, 1) := by decide +kernel
theorem d_Model_runs_26 : decode b_Model_runs 26 = .ok (.putfield 281, 3) := by decide +kernel
theorem d_Model_runs_29 : decode b_Model_runs 29 = .ok (.return_, 1) := by decide +kernel
theorem zb_Model_runs_19 {l : Launch} {θ : ZT} {res : Unit × ZM}  {σ : ZM} (h : f_Model_runs_19 σ = some res) : WZ l b_Model_runs 2 none "BakedBeforeModel" 129 14 θ (zrm 1 60) (zQ mkV 129 14 θ res) σ [(0, .ref (za θ 129))] 19 [] := by
  unfold f_Model_runs_19 at h
  refine z_aload_n 0 d_Model_runs_19 rfl rfl ?_
  refine z_dup d_Model_runs_20 rfl ?_
  refine gf_Model_ran zl_129 d_Model_runs_21 q_900 ?_
  refine z_iconst (v := 1) d_Model_runs_24 (by decide) ?_
  refine z_iadd d_Model_runs_25 ?_
  refine pf_Model_ran zl_129 d_Model_runs_26 q_900 ?_
  exact z_vret d_Model_runs_29 h
theorem c_Model_runs (l : Launch) (θ : ZT) {x1 : Int32} {σ : ZM} {res : Unit × ZM} (h : f_Model_runs x1 σ = some res) : zMet mkV l 129 14 θ y_Model_runs b_Model_runs 2 none (zrm 1 60) [.ref (za θ 129), .int x1] σ res := by
  unfold f_Model_runs at h
  refine z_met (lv := [(0, .ref (za θ 129)), (1, .int x1)]) (by decide +kernel) rfl (Nat.le_of_ble_eq_true rfl) (by decide) ?_
  refine z_aload_n 0 d_Model_runs_0 rfl rfl ?_
  refine gf_Model_ran zl_129 d_Model_runs_1 q_900 ?_
  refine z_bipush (v := 20) d_Model_runs_4 (by decide) ?_
  refine z_icmp_ge (tgt := 19) d_Model_runs_6 (by decide) (fun c1 => ?_) (fun c1 => ?_)
  · have h := (if_pos c1).symm.trans h
    refine z_sub [0] rfl ?_
    exact zb_Model_runs_19 h
  · have h := (if_neg c1).symm.trans h
    refine z_aload_n 0 d_Model_runs_9 rfl rfl ?_
    refine gf_Model_trace zl_129 d_Model_runs_10 q_899 ?_
    refine z_aload_n 0 d_Model_runs_13 rfl rfl ?_
    refine gf_Model_ran zl_129 d_Model_runs_14 q_900 ?_
    refine z_iload_n 1 d_Model_runs_17 rfl rfl ?_
    obtain ⟨c2, h⟩ := zck_i h
    refine w_iast zl_142 c2 d_Model_runs_18 ?_
    refine z_sub [0] rfl ?_
    exact zb_Model_runs_19 h
theorem d_Model_rises_0 : decode b_Model_rises 0 = .ok (.iload_n 1, 1) := by decide +kernel
theorem d_Model_rises_1 : decode b_Model_rises 1 = .ok (.tableswitch (86) (2) (6) #[71, 86, 35, 71, 49], 35) := by decide +kernel
theorem d_Model_rises_36 : decode b_Model_rises 36 = .ok (.aload_n 0, 1) := by decide +kernel
theorem d_Model_rises_37 : decode b_Model_rises 37 = .ok (.bipush (50), 2) := by decide +kernel
theorem d_Model_rises_39 : decode b_Model_rises 39 = .ok (.invokevirtual 284, 3) := by decide +kernel
theorem d_Model_rises_42 : decode b_Model_rises 42 = .ok (.aload_n 0, 1) := by decide +kernel
theorem d_Model_rises_43 : decode b_Model_rises 43 = .ok (.iconst (1), 1) := by decide +kernel
theorem d_Model_rises_44 : decode b_Model_rises 44 = .ok (.iload_n 2, 1) := by decide +kernel
theorem d_Model_rises_45 : decode b_Model_rises 45 = .ok (.invokevirtual 288, 3) := by decide +kernel
theorem d_Model_rises_48 : decode b_Model_rises 48 = .ok (.ineg, 1) := by decide +kernel
theorem d_Model_rises_49 : decode b_Model_rises 49 = .ok (.ireturn, 1) := by decide +kernel
theorem d_Model_rises_50 : decode b_Model_rises 50 = .ok (.aload_n 0, 1) := by decide +kernel
theorem d_Model_rises_51 : decode b_Model_rises 51 = .ok (.bipush (71), 2) := by decide +kernel
theorem d_Model_rises_53 : decode b_Model_rises 53 = .ok (.invokevirtual 284, 3) := by decide +kernel
theorem d_Model_rises_56 : decode b_Model_rises 56 = .ok (.aload_n 0, 1) := by decide +kernel
theorem d_Model_rises_57 : decode b_Model_rises 57 = .ok (.iconst (3), 1) := by decide +kernel
theorem d_Model_rises_58 : decode b_Model_rises 58 = .ok (.iload_n 2, 1) := by decide +kernel
theorem d_Model_rises_59 : decode b_Model_rises 59 = .ok (.invokevirtual 288, 3) := by decide +kernel
theorem d_Model_rises_62 : decode b_Model_rises 62 = .ok (.aload_n 0, 1) := by decide +kernel
theorem d_Model_rises_63 : decode b_Model_rises 63 = .ok (.aload_n 0, 1) := by decide +kernel
theorem d_Model_rises_64 : decode b_Model_rises 64 = .ok (.getfield 291, 3) := by decide +kernel
theorem d_Model_rises_67 : decode b_Model_rises 67 = .ok (.invokevirtual 102, 3) := by decide +kernel
theorem d_Model_rises_70 : decode b_Model_rises 70 = .ok (.ixor, 1) := by decide +kernel
theorem d_Model_rises_71 : decode b_Model_rises 71 = .ok (.ireturn, 1) := by decide +kernel
theorem d_Model_rises_72 : decode b_Model_rises 72 = .ok (.aload_n 0, 1) := by decide +kernel
theorem d_Model_rises_73 : decode b_Model_rises 73 = .ok (.bipush (30), 2) := by decide +kernel
theorem d_Model_rises_75 : decode b_Model_rises 75 = .ok (.invokevirtual 284, 3) := by decide +kernel
theorem d_Model_rises_78 : decode b_Model_rises 78 = .ok (.aload_n 0, 1) := by decide +kernel
theorem d_Model_rises_79 : decode b_Model_rises 79 = .ok (.iconst (0), 1) := by decide +kernel
theorem d_Model_rises_80 : decode b_Model_rises 80 = .ok (.iload_n 2, 1) := by decide +kernel
theorem d_Model_rises_81 : decode b_Model_rises 81 = .ok (.iconst (3), 1) := by decide +kernel
theorem d_Model_rises_82 : decode b_Model_rises 82 = .ok (.imul, 1) := by decide +kernel
theorem d_Model_rises_83 : decode b_Model_rises 83 = .ok (.invokevirtual 288, 3) := by decide +kernel
theorem d_Model_rises_86 : decode b_Model_rises 86 = .ok (.ireturn, 1) := by decide +kernel
theorem d_Model_rises_87 : decode b_Model_rises 87 = .ok (.aload_n 0, 1) := by decide +kernel
theorem d_Model_rises_88 : decode b_Model_rises 88 = .ok (.bipush (10), 2) := by decide +kernel
theorem d_Model_rises_90 : decode b_Model_rises 90 = .ok (.invokevirtual 284, 3) := by decide +kernel
theorem d_Model_rises_93 : decode b_Model_rises 93 = .ok (.iload_n 2, 1) := by decide +kernel
theorem d_Model_rises_94 : decode b_Model_rises 94 = .ok (.aload_n 0, 1) := by decide +kernel
theorem d_Model_rises_95 : decode b_Model_rises 95 = .ok (.getfield 291, 3) := by decide +kernel
theorem d_Model_rises_98 : decode b_Model_rises 98 = .ok (.iadd, 1) := by decide +kernel
theorem d_Model_rises_99 : decode b_Model_rises 99 = .ok (.ireturn, 1) := by decide +kernel
theorem zb_Model_rises_72 {l : Launch} {θ : ZT} {res : Int32 × ZM} {rec : Int32 × Int32 × ZM → Option (Int32 × ZM)} (n : Nat) (hrec : ∀ (a : Int32 × Int32 × ZM) (r : Int32 × ZM), rec a = some r → zMet mkI l 129 14 θ y_Model_rises b_Model_rises 3 (some .int) (zrm (3 + 1 * n) (103 + 22 * n)) [.ref (za θ 129), .int a.1, .int a.2.1] a.2.2 r) {x2 : Int32} {σ : ZM} (h : f_Model_rises_72 rec x2 σ = some res) : WZ l b_Model_rises 3 (some .int) "BakedBeforeModel" 129 14 θ (zrm (3 + 1 * (n + 1)) (103 + 22 * (n + 1))) (zQ mkI 129 14 θ res) σ [(0, .ref (za θ 129)), (2, .int x2)] 72 [] := by
  unfold f_Model_rises_72 at h
  refine z_aload_n 0 d_Model_rises_72 rfl rfl ?_
  refine z_bipush (v := 30) d_Model_rises_73 (by decide) ?_
  obtain ⟨⟨v1, s2⟩, e3, h⟩ := zbd_i h
  refine w_callV (As := [.int (30 : Int32)]) (kc := 22) (ci := 12) (c_Model_runs l θ e3) cf_Model_runs q_1270 d_Model_rises_75 zl_129 rfl rfl rfl rfl rfl rfl (Nat.le_of_ble_eq_true rfl) rfl rfl ⟨by simp only [zrm]; omega, by simp only [zrm]; omega⟩ ?_
  refine z_aload_n 0 d_Model_rises_78 rfl rfl ?_
  refine z_iconst (v := 0) d_Model_rises_79 (by decide) ?_
  refine z_iload_n 1 d_Model_rises_80 rfl rfl ?_
  refine z_iconst (v := 3) d_Model_rises_81 (by decide) ?_
  refine z_imul d_Model_rises_82 ?_
  obtain ⟨⟨v4, s5⟩, e6, h⟩ := zbd_i h
  refine w_callV (As := [.int (0 : Int32), .int (x2 * (3 : Int32))]) (kc := 22) (ci := 12) (hrec ((0 : Int32), (x2 * (3 : Int32)), s2) _ e6) cf_Model_rises q_1266 d_Model_rises_83 zl_129 rfl rfl rfl rfl rfl rfl (Nat.le_of_ble_eq_true rfl) rfl rfl ⟨by simp only [zrm]; omega, by simp only [zrm]; omega⟩ ?_
  exact z_iret d_Model_rises_86 h
theorem zb_Model_rises_87 {l : Launch} {θ : ZT} {res : Int32 × ZM} {rec : Int32 × Int32 × ZM → Option (Int32 × ZM)} (n : Nat) (hrec : ∀ (a : Int32 × Int32 × ZM) (r : Int32 × ZM), rec a = some r → zMet mkI l 129 14 θ y_Model_rises b_Model_rises 3 (some .int) (zrm (3 + 1 * n) (103 + 22 * n)) [.ref (za θ 129), .int a.1, .int a.2.1] a.2.2 r) {x2 : Int32} {σ : ZM} (h : f_Model_rises_87 rec x2 σ = some res) : WZ l b_Model_rises 3 (some .int) "BakedBeforeModel" 129 14 θ (zrm (3 + 1 * (n + 1)) (103 + 22 * (n + 1))) (zQ mkI 129 14 θ res) σ [(0, .ref (za θ 129)), (2, .int x2)] 87 [] := by
  unfold f_Model_rises_87 at h
  refine z_aload_n 0 d_Model_rises_87 rfl rfl ?_
  refine z_bipush (v := 10) d_Model_rises_88 (by decide) ?_
  obtain ⟨⟨v1, s2⟩, e3, h⟩ := zbd_i h
  refine w_callV (As := [.int (10 : Int32)]) (kc := 22) (ci := 12) (c_Model_runs l θ e3) cf_Model_runs q_1270 d_Model_rises_90 zl_129 rfl rfl rfl rfl rfl rfl (Nat.le_of_ble_eq_true rfl) rfl rfl ⟨by simp only [zrm]; omega, by simp only [zrm]; omega⟩ ?_
  refine z_iload_n 1 d_Model_rises_93 rfl rfl ?_
  refine z_aload_n 0 d_Model_rises_94 rfl rfl ?_
  refine gf_Model_own zl_129 d_Model_rises_95 q_901 ?_
  refine z_iadd d_Model_rises_98 ?_
  exact z_iret d_Model_rises_99 h
theorem c_Model_rises (l : Launch) (θ : ZT) {rec : Int32 × Int32 × ZM → Option (Int32 × ZM)} (n : Nat) (hrec : ∀ (a : Int32 × Int32 × ZM) (r : Int32 × ZM), rec a = some r → zMet mkI l 129 14 θ y_Model_rises b_Model_rises 3 (some .int) (zrm (3 + 1 * n) (103 + 22 * n)) [.ref (za θ 129), .int a.1, .int a.2.1] a.2.2 r) {x1 : Int32} {x2 : Int32} {σ : ZM} {res : Int32 × ZM} (h : f_Model_rises rec x1 x2 σ = some res) : zMet mkI l 129 14 θ y_Model_rises b_Model_rises 3 (some .int) (zrm (3 + 1 * (n + 1)) (103 + 22 * (n + 1))) [.ref (za θ 129), .int x1, .int x2] σ res := by
  unfold f_Model_rises at h
  refine z_met (lv := [(0, .ref (za θ 129)), (1, .int x1), (2, .int x2)]) (by decide +kernel) rfl (Nat.le_of_ble_eq_true rfl) (by decide) ?_
  refine z_iload_n 1 d_Model_rises_0 rfl rfl ?_
  by_cases c1 : x1 = (2 : Int32)
  · have h := (if_pos c1).symm.trans h
    refine z_tableIn (k := 2) (off := 71) (tgt := 72) d_Model_rises_1 c1 (by decide) ?_
    refine z_sub [0, 2] rfl ?_
    exact zb_Model_rises_72 n hrec h
  have h := (if_neg c1).symm.trans h
  by_cases c2 : x1 = (3 : Int32)
  · have h := (if_pos c2).symm.trans h
    refine z_tableIn (k := 3) (off := 86) (tgt := 87) d_Model_rises_1 c2 (by decide) ?_
    refine z_sub [0, 2] rfl ?_
    exact zb_Model_rises_87 n hrec h
  have h := (if_neg c2).symm.trans h
  by_cases c3 : x1 = (4 : Int32)
  · have h := (if_pos c3).symm.trans h
    refine z_tableIn (k := 4) (off := 35) (tgt := 36) d_Model_rises_1 c3 (by decide) ?_
    refine z_aload_n 0 d_Model_rises_36 rfl rfl ?_
    refine z_bipush (v := 50) d_Model_rises_37 (by decide) ?_
    obtain ⟨⟨v4, s5⟩, e6, h⟩ := zbd_i h
    refine w_callV (As := [.int (50 : Int32)]) (kc := 22) (ci := 12) (c_Model_runs l θ e6) cf_Model_runs q_1270 d_Model_rises_39 zl_129 rfl rfl rfl rfl rfl rfl (Nat.le_of_ble_eq_true rfl) rfl rfl ⟨by simp only [zrm]; omega, by simp only [zrm]; omega⟩ ?_
    refine z_aload_n 0 d_Model_rises_42 rfl rfl ?_
    refine z_iconst (v := 1) d_Model_rises_43 (by decide) ?_
    refine z_iload_n 2 d_Model_rises_44 rfl rfl ?_
    obtain ⟨⟨v7, s8⟩, e9, h⟩ := zbd_i h
    refine w_callV (As := [.int (1 : Int32), .int x2]) (kc := 22) (ci := 12) (hrec ((1 : Int32), x2, s5) _ e9) cf_Model_rises q_1266 d_Model_rises_45 zl_129 rfl rfl rfl rfl rfl rfl (Nat.le_of_ble_eq_true rfl) rfl rfl ⟨by simp only [zrm]; omega, by simp only [zrm]; omega⟩ ?_
    refine z_ineg d_Model_rises_48 ?_
    exact z_iret d_Model_rises_49 h
  have h := (if_neg c3).symm.trans h
  by_cases c10 : x1 = (5 : Int32)
  · have h := (if_pos c10).symm.trans h
    refine z_tableIn (k := 5) (off := 71) (tgt := 72) d_Model_rises_1 c10 (by decide) ?_
    refine z_sub [0, 2] rfl ?_
    exact zb_Model_rises_72 n hrec h
  have h := (if_neg c10).symm.trans h
  by_cases c11 : x1 = (6 : Int32)
  · have h := (if_pos c11).symm.trans h
    refine z_tableIn (k := 6) (off := 49) (tgt := 50) d_Model_rises_1 c11 (by decide) ?_
    refine z_aload_n 0 d_Model_rises_50 rfl rfl ?_
    refine z_bipush (v := 71) d_Model_rises_51 (by decide) ?_
    obtain ⟨⟨v12, s13⟩, e14, h⟩ := zbd_i h
    refine w_callV (As := [.int (71 : Int32)]) (kc := 22) (ci := 12) (c_Model_runs l θ e14) cf_Model_runs q_1270 d_Model_rises_53 zl_129 rfl rfl rfl rfl rfl rfl (Nat.le_of_ble_eq_true rfl) rfl rfl ⟨by simp only [zrm]; omega, by simp only [zrm]; omega⟩ ?_
    refine z_aload_n 0 d_Model_rises_56 rfl rfl ?_
    refine z_iconst (v := 3) d_Model_rises_57 (by decide) ?_
    refine z_iload_n 2 d_Model_rises_58 rfl rfl ?_
    obtain ⟨⟨v15, s16⟩, e17, h⟩ := zbd_i h
    refine w_callV (As := [.int (3 : Int32), .int x2]) (kc := 22) (ci := 12) (hrec ((3 : Int32), x2, s13) _ e17) cf_Model_rises q_1266 d_Model_rises_59 zl_129 rfl rfl rfl rfl rfl rfl (Nat.le_of_ble_eq_true rfl) rfl rfl ⟨by simp only [zrm]; omega, by simp only [zrm]; omega⟩ ?_
    refine z_aload_n 0 d_Model_rises_62 rfl rfl ?_
    refine z_aload_n 0 d_Model_rises_63 rfl rfl ?_
    refine gf_Model_own zl_129 d_Model_rises_64 q_901 ?_
    obtain ⟨⟨v18, s19⟩, e20, h⟩ := zbd_i h
    refine w_callV (As := [.int (zI s16 129 30)]) (kc := 22) (ci := 12) (c_Model_number l θ e20) cf_Model_number q_1041 d_Model_rises_67 zl_129 rfl rfl rfl rfl rfl rfl (Nat.le_of_ble_eq_true rfl) rfl rfl ⟨by simp only [zrm]; omega, by simp only [zrm]; omega⟩ ?_
    refine z_ixor d_Model_rises_70 ?_
    exact z_iret d_Model_rises_71 h
  have h := (if_neg c11).symm.trans h
  have nc1 := lv_neT (a := 2) c1 (by decide)
  have nc2 := lv_neT (a := 3) c2 (by decide)
  have nc3 := lv_neT (a := 4) c3 (by decide)
  have nc10 := lv_neT (a := 5) c10 (by decide)
  have nc11 := lv_neT (a := 6) c11 (by decide)
  refine z_tableOut (tgt := 87) d_Model_rises_1 (by omega) (by decide) ?_
  refine z_sub [0, 2] rfl ?_
  exact zb_Model_rises_87 n hrec h
theorem cn_Model_rises (l : Launch) (θ : ZT) : ∀ (n : Nat) (a : Int32 × Int32 × ZM) (r : Int32 × ZM), F_Model_rises n a = some r → zMet mkI l 129 14 θ y_Model_rises b_Model_rises 3 (some .int) (zrm (3 + 1 * n) (103 + 22 * n)) [.ref (za θ 129), .int a.1, .int a.2.1] a.2.2 r := by
  intro n
  induction n with
  | zero => intro a r h; cases (show (none : Option (Int32 × ZM)) = some r from h)
  | succ n ih => intro a r h; exact c_Model_rises l θ n ih (show f_Model_rises (F_Model_rises n) a.1 a.2.1 a.2.2 = some r from h)
theorem d_Model_bakesFrom_0 : decode b_Model_bakesFrom 0 = .ok (.iload_n 1, 1) := by decide +kernel
theorem d_Model_bakesFrom_1 : decode b_Model_bakesFrom 1 = .ok (.lookupswitch (88) #[(1, 50), (4, 35), (6, 66)], 35) := by decide +kernel
theorem d_Model_bakesFrom_36 : decode b_Model_bakesFrom 36 = .ok (.aload_n 0, 1) := by decide +kernel
theorem d_Model_bakesFrom_37 : decode b_Model_bakesFrom 37 = .ok (.bipush (51), 2) := by decide +kernel
theorem d_Model_bakesFrom_39 : decode b_Model_bakesFrom 39 = .ok (.invokevirtual 284, 3) := by decide +kernel
theorem d_Model_bakesFrom_42 : decode b_Model_bakesFrom 42 = .ok (.aload_n 0, 1) := by decide +kernel
theorem d_Model_bakesFrom_43 : decode b_Model_bakesFrom 43 = .ok (.iconst (1), 1) := by decide +kernel
theorem d_Model_bakesFrom_44 : decode b_Model_bakesFrom 44 = .ok (.iload_n 2, 1) := by decide +kernel
theorem d_Model_bakesFrom_45 : decode b_Model_bakesFrom 45 = .ok (.iconst (1), 1) := by decide +kernel
theorem d_Model_bakesFrom_46 : decode b_Model_bakesFrom 46 = .ok (.iadd, 1) := by decide +kernel
theorem d_Model_bakesFrom_47 : decode b_Model_bakesFrom 47 = .ok (.invokevirtual 294, 3) := by decide +kernel
theorem d_Model_bakesFrom_50 : decode b_Model_bakesFrom 50 = .ok (.ireturn, 1) := by decide +kernel
theorem d_Model_bakesFrom_51 : decode b_Model_bakesFrom 51 = .ok (.aload_n 0, 1) := by decide +kernel
theorem d_Model_bakesFrom_52 : decode b_Model_bakesFrom 52 = .ok (.bipush (20), 2) := by decide +kernel
theorem d_Model_bakesFrom_54 : decode b_Model_bakesFrom 54 = .ok (.invokevirtual 284, 3) := by decide +kernel
theorem d_Model_bakesFrom_57 : decode b_Model_bakesFrom 57 = .ok (.aload_n 0, 1) := by decide +kernel
theorem d_Model_bakesFrom_58 : decode b_Model_bakesFrom 58 = .ok (.iconst (0), 1) := by decide +kernel
theorem d_Model_bakesFrom_59 : decode b_Model_bakesFrom 59 = .ok (.iload_n 2, 1) := by decide +kernel
theorem d_Model_bakesFrom_60 : decode b_Model_bakesFrom 60 = .ok (.invokevirtual 294, 3) := by decide +kernel
theorem d_Model_bakesFrom_63 : decode b_Model_bakesFrom 63 = .ok (.bipush (6), 2) := by decide +kernel
theorem d_Model_bakesFrom_65 : decode b_Model_bakesFrom 65 = .ok (.ixor, 1) := by decide +kernel
theorem d_Model_bakesFrom_66 : decode b_Model_bakesFrom 66 = .ok (.ireturn, 1) := by decide +kernel
theorem d_Model_bakesFrom_67 : decode b_Model_bakesFrom 67 = .ok (.aload_n 0, 1) := by decide +kernel
theorem d_Model_bakesFrom_68 : decode b_Model_bakesFrom 68 = .ok (.bipush (70), 2) := by decide +kernel
theorem d_Model_bakesFrom_70 : decode b_Model_bakesFrom 70 = .ok (.invokevirtual 284, 3) := by decide +kernel
theorem d_Model_bakesFrom_73 : decode b_Model_bakesFrom 73 = .ok (.aload_n 0, 1) := by decide +kernel
theorem d_Model_bakesFrom_74 : decode b_Model_bakesFrom 74 = .ok (.iconst (3), 1) := by decide +kernel
theorem d_Model_bakesFrom_75 : decode b_Model_bakesFrom 75 = .ok (.iload_n 2, 1) := by decide +kernel
theorem d_Model_bakesFrom_76 : decode b_Model_bakesFrom 76 = .ok (.invokevirtual 294, 3) := by decide +kernel
theorem d_Model_bakesFrom_79 : decode b_Model_bakesFrom 79 = .ok (.istore_n 3, 1) := by decide +kernel
theorem d_Model_bakesFrom_80 : decode b_Model_bakesFrom 80 = .ok (.iload_n 3, 1) := by decide +kernel
theorem d_Model_bakesFrom_81 : decode b_Model_bakesFrom 81 = .ok (.aload_n 0, 1) := by decide +kernel
theorem d_Model_bakesFrom_82 : decode b_Model_bakesFrom 82 = .ok (.iconst (3), 1) := by decide +kernel
theorem d_Model_bakesFrom_83 : decode b_Model_bakesFrom 83 = .ok (.iconst (2), 1) := by decide +kernel
theorem d_Model_bakesFrom_84 : decode b_Model_bakesFrom 84 = .ok (.invokevirtual 288, 3) := by decide +kernel
theorem d_Model_bakesFrom_87 : decode b_Model_bakesFrom 87 = .ok (.iadd, 1) := by decide +kernel
theorem d_Model_bakesFrom_88 : decode b_Model_bakesFrom 88 = .ok (.ireturn, 1) := by decide +kernel
theorem d_Model_bakesFrom_89 : decode b_Model_bakesFrom 89 = .ok (.aload_n 0, 1) := by decide +kernel
theorem d_Model_bakesFrom_90 : decode b_Model_bakesFrom 90 = .ok (.bipush (11), 2) := by decide +kernel
theorem d_Model_bakesFrom_92 : decode b_Model_bakesFrom 92 = .ok (.invokevirtual 284, 3) := by decide +kernel
theorem d_Model_bakesFrom_95 : decode b_Model_bakesFrom 95 = .ok (.aload_n 0, 1) := by decide +kernel
theorem d_Model_bakesFrom_96 : decode b_Model_bakesFrom 96 = .ok (.aload_n 0, 1) := by decide +kernel
theorem d_Model_bakesFrom_97 : decode b_Model_bakesFrom 97 = .ok (.aload_n 0, 1) := by decide +kernel
theorem d_Model_bakesFrom_98 : decode b_Model_bakesFrom 98 = .ok (.getfield 291, 3) := by decide +kernel
theorem d_Model_bakesFrom_101 : decode b_Model_bakesFrom 101 = .ok (.invokevirtual 92, 3) := by decide +kernel
theorem d_Model_bakesFrom_104 : decode b_Model_bakesFrom 104 = .ok (.iload_n 2, 1) := by decide +kernel
theorem d_Model_bakesFrom_105 : decode b_Model_bakesFrom 105 = .ok (.invokevirtual 288, 3) := by decide +kernel
theorem d_Model_bakesFrom_108 : decode b_Model_bakesFrom 108 = .ok (.aload_n 0, 1) := by decide +kernel
theorem d_Model_bakesFrom_109 : decode b_Model_bakesFrom 109 = .ok (.aload_n 0, 1) := by decide +kernel
theorem d_Model_bakesFrom_110 : decode b_Model_bakesFrom 110 = .ok (.getfield 291, 3) := by decide +kernel
theorem d_Model_bakesFrom_113 : decode b_Model_bakesFrom 113 = .ok (.invokevirtual 102, 3) := by decide +kernel
theorem d_Model_bakesFrom_116 : decode b_Model_bakesFrom 116 = .ok (.isub, 1) := by decide +kernel
theorem d_Model_bakesFrom_117 : decode b_Model_bakesFrom 117 = .ok (.ireturn, 1) := by decide +kernel
theorem c_Model_bakesFrom (l : Launch) (θ : ZT) {rec : Int32 × Int32 × ZM → Option (Int32 × ZM)} (n : Nat) (hrec : ∀ (a : Int32 × Int32 × ZM) (r : Int32 × ZM), rec a = some r → zMet mkI l 129 14 θ y_Model_bakesFrom b_Model_bakesFrom 4 (some .int) (zrm (10 + 1 * n) (257 + 23 * n)) [.ref (za θ 129), .int a.1, .int a.2.1] a.2.2 r) {x1 : Int32} {x2 : Int32} {σ : ZM} {res : Int32 × ZM} (h : f_Model_bakesFrom rec x1 x2 σ = some res) : zMet mkI l 129 14 θ y_Model_bakesFrom b_Model_bakesFrom 4 (some .int) (zrm (10 + 1 * (n + 1)) (257 + 23 * (n + 1))) [.ref (za θ 129), .int x1, .int x2] σ res := by
  unfold f_Model_bakesFrom at h
  refine z_met (lv := [(0, .ref (za θ 129)), (1, .int x1), (2, .int x2)]) (by decide +kernel) rfl (Nat.le_of_ble_eq_true rfl) (by decide) ?_
  refine z_iload_n 1 d_Model_bakesFrom_0 rfl rfl ?_
  by_cases c1 : x1 = (1 : Int32)
  · have h := (if_pos c1).symm.trans h
    refine z_lookup (off := 50) (tgt := 51) d_Model_bakesFrom_1 (by decide) (by rw [c1]; decide) (by decide) ?_
    refine z_aload_n 0 d_Model_bakesFrom_51 rfl rfl ?_
    refine z_bipush (v := 20) d_Model_bakesFrom_52 (by decide) ?_
    obtain ⟨⟨v2, s3⟩, e4, h⟩ := zbd_i h
    refine w_callV (As := [.int (20 : Int32)]) (kc := 22) (ci := 12) (c_Model_runs l θ e4) cf_Model_runs q_1270 d_Model_bakesFrom_54 zl_129 rfl rfl rfl rfl rfl rfl (Nat.le_of_ble_eq_true rfl) rfl rfl ⟨by simp only [zrm]; omega, by simp only [zrm]; omega⟩ ?_
    refine z_aload_n 0 d_Model_bakesFrom_57 rfl rfl ?_
    refine z_iconst (v := 0) d_Model_bakesFrom_58 (by decide) ?_
    refine z_iload_n 2 d_Model_bakesFrom_59 rfl rfl ?_
    obtain ⟨⟨v5, s6⟩, e7, h⟩ := zbd_i h
    refine w_callV (As := [.int (0 : Int32), .int x2]) (kc := 22) (ci := 12) (hrec ((0 : Int32), x2, s3) _ e7) cf_Model_bakesFrom q_1274 d_Model_bakesFrom_60 zl_129 rfl rfl rfl rfl rfl rfl (Nat.le_of_ble_eq_true rfl) rfl rfl ⟨by simp only [zrm]; omega, by simp only [zrm]; omega⟩ ?_
    refine z_bipush (v := 6) d_Model_bakesFrom_63 (by decide) ?_
    refine z_ixor d_Model_bakesFrom_65 ?_
    exact z_iret d_Model_bakesFrom_66 h
  have h := (if_neg c1).symm.trans h
  by_cases c8 : x1 = (4 : Int32)
  · have h := (if_pos c8).symm.trans h
    refine z_lookup (off := 35) (tgt := 36) d_Model_bakesFrom_1 (by decide) (by rw [c8]; decide) (by decide) ?_
    refine z_aload_n 0 d_Model_bakesFrom_36 rfl rfl ?_
    refine z_bipush (v := 51) d_Model_bakesFrom_37 (by decide) ?_
    obtain ⟨⟨v9, s10⟩, e11, h⟩ := zbd_i h
    refine w_callV (As := [.int (51 : Int32)]) (kc := 22) (ci := 12) (c_Model_runs l θ e11) cf_Model_runs q_1270 d_Model_bakesFrom_39 zl_129 rfl rfl rfl rfl rfl rfl (Nat.le_of_ble_eq_true rfl) rfl rfl ⟨by simp only [zrm]; omega, by simp only [zrm]; omega⟩ ?_
    refine z_aload_n 0 d_Model_bakesFrom_42 rfl rfl ?_
    refine z_iconst (v := 1) d_Model_bakesFrom_43 (by decide) ?_
    refine z_iload_n 2 d_Model_bakesFrom_44 rfl rfl ?_
    refine z_iconst (v := 1) d_Model_bakesFrom_45 (by decide) ?_
    refine z_iadd d_Model_bakesFrom_46 ?_
    obtain ⟨⟨v12, s13⟩, e14, h⟩ := zbd_i h
    refine w_callV (As := [.int (1 : Int32), .int (x2 + (1 : Int32))]) (kc := 22) (ci := 12) (hrec ((1 : Int32), (x2 + (1 : Int32)), s10) _ e14) cf_Model_bakesFrom q_1274 d_Model_bakesFrom_47 zl_129 rfl rfl rfl rfl rfl rfl (Nat.le_of_ble_eq_true rfl) rfl rfl ⟨by simp only [zrm]; omega, by simp only [zrm]; omega⟩ ?_
    exact z_iret d_Model_bakesFrom_50 h
  have h := (if_neg c8).symm.trans h
  by_cases c15 : x1 = (6 : Int32)
  · have h := (if_pos c15).symm.trans h
    refine z_lookup (off := 66) (tgt := 67) d_Model_bakesFrom_1 (by decide) (by rw [c15]; decide) (by decide) ?_
    refine z_aload_n 0 d_Model_bakesFrom_67 rfl rfl ?_
    refine z_bipush (v := 70) d_Model_bakesFrom_68 (by decide) ?_
    obtain ⟨⟨v16, s17⟩, e18, h⟩ := zbd_i h
    refine w_callV (As := [.int (70 : Int32)]) (kc := 22) (ci := 12) (c_Model_runs l θ e18) cf_Model_runs q_1270 d_Model_bakesFrom_70 zl_129 rfl rfl rfl rfl rfl rfl (Nat.le_of_ble_eq_true rfl) rfl rfl ⟨by simp only [zrm]; omega, by simp only [zrm]; omega⟩ ?_
    refine z_aload_n 0 d_Model_bakesFrom_73 rfl rfl ?_
    refine z_iconst (v := 3) d_Model_bakesFrom_74 (by decide) ?_
    refine z_iload_n 2 d_Model_bakesFrom_75 rfl rfl ?_
    obtain ⟨⟨v19, s20⟩, e21, h⟩ := zbd_i h
    refine w_callV (As := [.int (3 : Int32), .int x2]) (kc := 22) (ci := 12) (hrec ((3 : Int32), x2, s17) _ e21) cf_Model_bakesFrom q_1274 d_Model_bakesFrom_76 zl_129 rfl rfl rfl rfl rfl rfl (Nat.le_of_ble_eq_true rfl) rfl rfl ⟨by simp only [zrm]; omega, by simp only [zrm]; omega⟩ ?_
    refine z_istore_n d_Model_bakesFrom_79 rfl (by decide) rfl ?_
    refine z_iload_n 0 d_Model_bakesFrom_80 rfl rfl ?_
    refine z_aload_n 1 d_Model_bakesFrom_81 rfl rfl ?_
    refine z_iconst (v := 3) d_Model_bakesFrom_82 (by decide) ?_
    refine z_iconst (v := 2) d_Model_bakesFrom_83 (by decide) ?_
    obtain ⟨⟨v22, s23⟩, e24, h⟩ := zbd_i h
    refine w_callV (As := [.int (3 : Int32), .int (2 : Int32)]) (kc := 22) (ci := 12) (cn_Model_rises l θ 6 ((3 : Int32), (2 : Int32), s20) _ e24) cf_Model_rises q_1266 d_Model_bakesFrom_84 zl_129 rfl rfl rfl rfl rfl rfl (Nat.le_of_ble_eq_true rfl) rfl rfl ⟨by simp only [zrm]; omega, by simp only [zrm]; omega⟩ ?_
    refine z_iadd d_Model_bakesFrom_87 ?_
    exact z_iret d_Model_bakesFrom_88 h
  have h := (if_neg c15).symm.trans h
  refine z_lookup (off := 88) (tgt := 89) d_Model_bakesFrom_1 (by decide) ((lv_osw c1 (by decide)).trans ((lv_osw c8 (by decide)).trans ((lv_osw c15 (by decide)).trans (rfl)))) (by decide) ?_
  refine z_aload_n 0 d_Model_bakesFrom_89 rfl rfl ?_
  refine z_bipush (v := 11) d_Model_bakesFrom_90 (by decide) ?_
  obtain ⟨⟨v25, s26⟩, e27, h⟩ := zbd_i h
  refine w_callV (As := [.int (11 : Int32)]) (kc := 22) (ci := 12) (c_Model_runs l θ e27) cf_Model_runs q_1270 d_Model_bakesFrom_92 zl_129 rfl rfl rfl rfl rfl rfl (Nat.le_of_ble_eq_true rfl) rfl rfl ⟨by simp only [zrm]; omega, by simp only [zrm]; omega⟩ ?_
  refine z_aload_n 0 d_Model_bakesFrom_95 rfl rfl ?_
  refine z_aload_n 0 d_Model_bakesFrom_96 rfl rfl ?_
  refine z_aload_n 0 d_Model_bakesFrom_97 rfl rfl ?_
  refine gf_Model_own zl_129 d_Model_bakesFrom_98 q_901 ?_
  obtain ⟨⟨v28, s29⟩, e30, h⟩ := zbd_i h
  refine w_callV (As := [.int (zI s26 129 30)]) (kc := 22) (ci := 12) (c_Model_kind l θ e30) cf_Model_kind q_1033 d_Model_bakesFrom_101 zl_129 rfl rfl rfl rfl rfl rfl (Nat.le_of_ble_eq_true rfl) rfl rfl ⟨by simp only [zrm]; omega, by simp only [zrm]; omega⟩ ?_
  refine z_iload_n 2 d_Model_bakesFrom_104 rfl rfl ?_
  obtain ⟨⟨v31, s32⟩, e33, h⟩ := zbd_i h
  refine w_callV (As := [.int v28, .int x2]) (kc := 22) (ci := 12) (cn_Model_rises l θ 6 (v28, x2, s29) _ e33) cf_Model_rises q_1266 d_Model_bakesFrom_105 zl_129 rfl rfl rfl rfl rfl rfl (Nat.le_of_ble_eq_true rfl) rfl rfl ⟨by simp only [zrm]; omega, by simp only [zrm]; omega⟩ ?_
  refine z_aload_n 0 d_Model_bakesFrom_108 rfl rfl ?_
  refine z_aload_n 0 d_Model_bakesFrom_109 rfl rfl ?_
  refine gf_Model_own zl_129 d_Model_bakesFrom_110 q_901 ?_
  obtain ⟨⟨v34, s35⟩, e36, h⟩ := zbd_i h
  refine w_callV (As := [.int (zI s32 129 30)]) (kc := 22) (ci := 12) (c_Model_number l θ e36) cf_Model_number q_1041 d_Model_bakesFrom_113 zl_129 rfl rfl rfl rfl rfl rfl (Nat.le_of_ble_eq_true rfl) rfl rfl ⟨by simp only [zrm]; omega, by simp only [zrm]; omega⟩ ?_
  refine z_isub d_Model_bakesFrom_116 ?_
  exact z_iret d_Model_bakesFrom_117 h
theorem cn_Model_bakesFrom (l : Launch) (θ : ZT) : ∀ (n : Nat) (a : Int32 × Int32 × ZM) (r : Int32 × ZM), F_Model_bakesFrom n a = some r → zMet mkI l 129 14 θ y_Model_bakesFrom b_Model_bakesFrom 4 (some .int) (zrm (10 + 1 * n) (257 + 23 * n)) [.ref (za θ 129), .int a.1, .int a.2.1] a.2.2 r := by
  intro n
  induction n with
  | zero => intro a r h; cases (show (none : Option (Int32 × ZM)) = some r from h)
  | succ n ih => intro a r h; exact c_Model_bakesFrom l θ n ih (show f_Model_bakesFrom (F_Model_bakesFrom n) a.1 a.2.1 a.2.2 = some r from h)
theorem d_Model_tells_0 : decode b_Model_tells 0 = .ok (.iload_n 1, 1) := by decide +kernel
theorem d_Model_tells_1 : decode b_Model_tells 1 = .ok (.tableswitch (78) (3) (6) #[49, 78, 31, 49], 31) := by decide +kernel
theorem d_Model_tells_32 : decode b_Model_tells 32 = .ok (.aload_n 0, 1) := by decide +kernel
theorem d_Model_tells_33 : decode b_Model_tells 33 = .ok (.bipush (60), 2) := by decide +kernel
theorem d_Model_tells_35 : decode b_Model_tells 35 = .ok (.invokevirtual 284, 3) := by decide +kernel
theorem d_Model_tells_38 : decode b_Model_tells 38 = .ok (.aload_n 0, 1) := by decide +kernel
theorem d_Model_tells_39 : decode b_Model_tells 39 = .ok (.iconst (2), 1) := by decide +kernel
theorem d_Model_tells_40 : decode b_Model_tells 40 = .ok (.iload_n 2, 1) := by decide +kernel
theorem d_Model_tells_41 : decode b_Model_tells 41 = .ok (.aload_n 0, 1) := by decide +kernel
theorem d_Model_tells_42 : decode b_Model_tells 42 = .ok (.getfield 291, 3) := by decide +kernel
theorem d_Model_tells_45 : decode b_Model_tells 45 = .ok (.isub, 1) := by decide +kernel
theorem d_Model_tells_46 : decode b_Model_tells 46 = .ok (.invokevirtual 297, 3) := by decide +kernel
theorem d_Model_tells_49 : decode b_Model_tells 49 = .ok (.ireturn, 1) := by decide +kernel
theorem d_Model_tells_50 : decode b_Model_tells 50 = .ok (.aload_n 0, 1) := by decide +kernel
theorem d_Model_tells_51 : decode b_Model_tells 51 = .ok (.bipush (40), 2) := by decide +kernel
theorem d_Model_tells_53 : decode b_Model_tells 53 = .ok (.invokevirtual 284, 3) := by decide +kernel
theorem d_Model_tells_56 : decode b_Model_tells 56 = .ok (.aload_n 0, 1) := by decide +kernel
theorem d_Model_tells_57 : decode b_Model_tells 57 = .ok (.iconst (0), 1) := by decide +kernel
theorem d_Model_tells_58 : decode b_Model_tells 58 = .ok (.iload_n 2, 1) := by decide +kernel
theorem d_Model_tells_59 : decode b_Model_tells 59 = .ok (.invokevirtual 297, 3) := by decide +kernel
theorem d_Model_tells_62 : decode b_Model_tells 62 = .ok (.istore_n 3, 1) := by decide +kernel
theorem d_Model_tells_63 : decode b_Model_tells 63 = .ok (.iload_n 3, 1) := by decide +kernel
theorem d_Model_tells_64 : decode b_Model_tells 64 = .ok (.aload_n 0, 1) := by decide +kernel
theorem d_Model_tells_65 : decode b_Model_tells 65 = .ok (.aload_n 0, 1) := by decide +kernel
theorem d_Model_tells_66 : decode b_Model_tells 66 = .ok (.aload_n 0, 1) := by decide +kernel
theorem d_Model_tells_67 : decode b_Model_tells 67 = .ok (.getfield 291, 3) := by decide +kernel
theorem d_Model_tells_70 : decode b_Model_tells 70 = .ok (.invokevirtual 92, 3) := by decide +kernel
theorem d_Model_tells_73 : decode b_Model_tells 73 = .ok (.iconst (1), 1) := by decide +kernel
theorem d_Model_tells_74 : decode b_Model_tells 74 = .ok (.invokevirtual 294, 3) := by decide +kernel
theorem d_Model_tells_77 : decode b_Model_tells 77 = .ok (.iadd, 1) := by decide +kernel
theorem d_Model_tells_78 : decode b_Model_tells 78 = .ok (.ireturn, 1) := by decide +kernel
theorem d_Model_tells_79 : decode b_Model_tells 79 = .ok (.aload_n 0, 1) := by decide +kernel
theorem d_Model_tells_80 : decode b_Model_tells 80 = .ok (.bipush (12), 2) := by decide +kernel
theorem d_Model_tells_82 : decode b_Model_tells 82 = .ok (.invokevirtual 284, 3) := by decide +kernel
theorem d_Model_tells_85 : decode b_Model_tells 85 = .ok (.aload_n 0, 1) := by decide +kernel
theorem d_Model_tells_86 : decode b_Model_tells 86 = .ok (.aload_n 0, 1) := by decide +kernel
theorem d_Model_tells_87 : decode b_Model_tells 87 = .ok (.aload_n 0, 1) := by decide +kernel
theorem d_Model_tells_88 : decode b_Model_tells 88 = .ok (.getfield 291, 3) := by decide +kernel
theorem d_Model_tells_91 : decode b_Model_tells 91 = .ok (.invokevirtual 92, 3) := by decide +kernel
theorem d_Model_tells_94 : decode b_Model_tells 94 = .ok (.iload_n 2, 1) := by decide +kernel
theorem d_Model_tells_95 : decode b_Model_tells 95 = .ok (.invokevirtual 294, 3) := by decide +kernel
theorem d_Model_tells_98 : decode b_Model_tells 98 = .ok (.iconst (2), 1) := by decide +kernel
theorem d_Model_tells_99 : decode b_Model_tells 99 = .ok (.imul, 1) := by decide +kernel
theorem d_Model_tells_100 : decode b_Model_tells 100 = .ok (.ireturn, 1) := by decide +kernel
theorem zb_Model_tells_50 {l : Launch} {θ : ZT} {res : Int32 × ZM} {rec : Int32 × Int32 × ZM → Option (Int32 × ZM)} (n : Nat) (hrec : ∀ (a : Int32 × Int32 × ZM) (r : Int32 × ZM), rec a = some r → zMet mkI l 129 14 θ y_Model_tells b_Model_tells 4 (some .int) (zrm (19 + 1 * n) (464 + 23 * n)) [.ref (za θ 129), .int a.1, .int a.2.1] a.2.2 r) {x2 : Int32} {σ : ZM} (h : f_Model_tells_50 rec x2 σ = some res) : WZ l b_Model_tells 4 (some .int) "BakedBeforeModel" 129 14 θ (zrm (19 + 1 * (n + 1)) (464 + 23 * (n + 1))) (zQ mkI 129 14 θ res) σ [(0, .ref (za θ 129)), (2, .int x2)] 50 [] := by
  unfold f_Model_tells_50 at h
  refine z_aload_n 0 d_Model_tells_50 rfl rfl ?_
  refine z_bipush (v := 40) d_Model_tells_51 (by decide) ?_
  obtain ⟨⟨v1, s2⟩, e3, h⟩ := zbd_i h
  refine w_callV (As := [.int (40 : Int32)]) (kc := 22) (ci := 12) (c_Model_runs l θ e3) cf_Model_runs q_1270 d_Model_tells_53 zl_129 rfl rfl rfl rfl rfl rfl (Nat.le_of_ble_eq_true rfl) rfl rfl ⟨by simp only [zrm]; omega, by simp only [zrm]; omega⟩ ?_
  refine z_aload_n 0 d_Model_tells_56 rfl rfl ?_
  refine z_iconst (v := 0) d_Model_tells_57 (by decide) ?_
  refine z_iload_n 1 d_Model_tells_58 rfl rfl ?_
  obtain ⟨⟨v4, s5⟩, e6, h⟩ := zbd_i h
  refine w_callV (As := [.int (0 : Int32), .int x2]) (kc := 22) (ci := 12) (hrec ((0 : Int32), x2, s2) _ e6) cf_Model_tells q_1278 d_Model_tells_59 zl_129 rfl rfl rfl rfl rfl rfl (Nat.le_of_ble_eq_true rfl) rfl rfl ⟨by simp only [zrm]; omega, by simp only [zrm]; omega⟩ ?_
  refine z_istore_n d_Model_tells_62 rfl (by decide) rfl ?_
  refine z_iload_n 0 d_Model_tells_63 rfl rfl ?_
  refine z_aload_n 1 d_Model_tells_64 rfl rfl ?_
  refine z_aload_n 1 d_Model_tells_65 rfl rfl ?_
  refine z_aload_n 1 d_Model_tells_66 rfl rfl ?_
  refine gf_Model_own zl_129 d_Model_tells_67 q_901 ?_
  obtain ⟨⟨v7, s8⟩, e9, h⟩ := zbd_i h
  refine w_callV (As := [.int (zI s5 129 30)]) (kc := 22) (ci := 12) (c_Model_kind l θ e9) cf_Model_kind q_1033 d_Model_tells_70 zl_129 rfl rfl rfl rfl rfl rfl (Nat.le_of_ble_eq_true rfl) rfl rfl ⟨by simp only [zrm]; omega, by simp only [zrm]; omega⟩ ?_
  refine z_iconst (v := 1) d_Model_tells_73 (by decide) ?_
  obtain ⟨⟨v10, s11⟩, e12, h⟩ := zbd_i h
  refine w_callV (As := [.int v7, .int (1 : Int32)]) (kc := 22) (ci := 12) (cn_Model_bakesFrom l θ 8 (v7, (1 : Int32), s8) _ e12) cf_Model_bakesFrom q_1274 d_Model_tells_74 zl_129 rfl rfl rfl rfl rfl rfl (Nat.le_of_ble_eq_true rfl) rfl rfl ⟨by simp only [zrm]; omega, by simp only [zrm]; omega⟩ ?_
  refine z_iadd d_Model_tells_77 ?_
  exact z_iret d_Model_tells_78 h
theorem zb_Model_tells_79 {l : Launch} {θ : ZT} {res : Int32 × ZM} {rec : Int32 × Int32 × ZM → Option (Int32 × ZM)} (n : Nat) (hrec : ∀ (a : Int32 × Int32 × ZM) (r : Int32 × ZM), rec a = some r → zMet mkI l 129 14 θ y_Model_tells b_Model_tells 4 (some .int) (zrm (19 + 1 * n) (464 + 23 * n)) [.ref (za θ 129), .int a.1, .int a.2.1] a.2.2 r) {x2 : Int32} {σ : ZM} (h : f_Model_tells_79 rec x2 σ = some res) : WZ l b_Model_tells 4 (some .int) "BakedBeforeModel" 129 14 θ (zrm (19 + 1 * (n + 1)) (464 + 23 * (n + 1))) (zQ mkI 129 14 θ res) σ [(0, .ref (za θ 129)), (2, .int x2)] 79 [] := by
  unfold f_Model_tells_79 at h
  refine z_aload_n 0 d_Model_tells_79 rfl rfl ?_
  refine z_bipush (v := 12) d_Model_tells_80 (by decide) ?_
  obtain ⟨⟨v1, s2⟩, e3, h⟩ := zbd_i h
  refine w_callV (As := [.int (12 : Int32)]) (kc := 22) (ci := 12) (c_Model_runs l θ e3) cf_Model_runs q_1270 d_Model_tells_82 zl_129 rfl rfl rfl rfl rfl rfl (Nat.le_of_ble_eq_true rfl) rfl rfl ⟨by simp only [zrm]; omega, by simp only [zrm]; omega⟩ ?_
  refine z_aload_n 0 d_Model_tells_85 rfl rfl ?_
  refine z_aload_n 0 d_Model_tells_86 rfl rfl ?_
  refine z_aload_n 0 d_Model_tells_87 rfl rfl ?_
  refine gf_Model_own zl_129 d_Model_tells_88 q_901 ?_
  obtain ⟨⟨v4, s5⟩, e6, h⟩ := zbd_i h
  refine w_callV (As := [.int (zI s2 129 30)]) (kc := 22) (ci := 12) (c_Model_kind l θ e6) cf_Model_kind q_1033 d_Model_tells_91 zl_129 rfl rfl rfl rfl rfl rfl (Nat.le_of_ble_eq_true rfl) rfl rfl ⟨by simp only [zrm]; omega, by simp only [zrm]; omega⟩ ?_
  refine z_iload_n 1 d_Model_tells_94 rfl rfl ?_
  obtain ⟨⟨v7, s8⟩, e9, h⟩ := zbd_i h
  refine w_callV (As := [.int v4, .int x2]) (kc := 22) (ci := 12) (cn_Model_bakesFrom l θ 8 (v4, x2, s5) _ e9) cf_Model_bakesFrom q_1274 d_Model_tells_95 zl_129 rfl rfl rfl rfl rfl rfl (Nat.le_of_ble_eq_true rfl) rfl rfl ⟨by simp only [zrm]; omega, by simp only [zrm]; omega⟩ ?_
  refine z_iconst (v := 2) d_Model_tells_98 (by decide) ?_
  refine z_imul d_Model_tells_99 ?_
  exact z_iret d_Model_tells_100 h
theorem c_Model_tells (l : Launch) (θ : ZT) {rec : Int32 × Int32 × ZM → Option (Int32 × ZM)} (n : Nat) (hrec : ∀ (a : Int32 × Int32 × ZM) (r : Int32 × ZM), rec a = some r → zMet mkI l 129 14 θ y_Model_tells b_Model_tells 4 (some .int) (zrm (19 + 1 * n) (464 + 23 * n)) [.ref (za θ 129), .int a.1, .int a.2.1] a.2.2 r) {x1 : Int32} {x2 : Int32} {σ : ZM} {res : Int32 × ZM} (h : f_Model_tells rec x1 x2 σ = some res) : zMet mkI l 129 14 θ y_Model_tells b_Model_tells 4 (some .int) (zrm (19 + 1 * (n + 1)) (464 + 23 * (n + 1))) [.ref (za θ 129), .int x1, .int x2] σ res := by
  unfold f_Model_tells at h
  refine z_met (lv := [(0, .ref (za θ 129)), (1, .int x1), (2, .int x2)]) (by decide +kernel) rfl (Nat.le_of_ble_eq_true rfl) (by decide) ?_
  refine z_iload_n 1 d_Model_tells_0 rfl rfl ?_
  by_cases c1 : x1 = (3 : Int32)
  · have h := (if_pos c1).symm.trans h
    refine z_tableIn (k := 3) (off := 49) (tgt := 50) d_Model_tells_1 c1 (by decide) ?_
    refine z_sub [0, 2] rfl ?_
    exact zb_Model_tells_50 n hrec h
  have h := (if_neg c1).symm.trans h
  by_cases c2 : x1 = (4 : Int32)
  · have h := (if_pos c2).symm.trans h
    refine z_tableIn (k := 4) (off := 78) (tgt := 79) d_Model_tells_1 c2 (by decide) ?_
    refine z_sub [0, 2] rfl ?_
    exact zb_Model_tells_79 n hrec h
  have h := (if_neg c2).symm.trans h
  by_cases c3 : x1 = (5 : Int32)
  · have h := (if_pos c3).symm.trans h
    refine z_tableIn (k := 5) (off := 31) (tgt := 32) d_Model_tells_1 c3 (by decide) ?_
    refine z_aload_n 0 d_Model_tells_32 rfl rfl ?_
    refine z_bipush (v := 60) d_Model_tells_33 (by decide) ?_
    obtain ⟨⟨v4, s5⟩, e6, h⟩ := zbd_i h
    refine w_callV (As := [.int (60 : Int32)]) (kc := 22) (ci := 12) (c_Model_runs l θ e6) cf_Model_runs q_1270 d_Model_tells_35 zl_129 rfl rfl rfl rfl rfl rfl (Nat.le_of_ble_eq_true rfl) rfl rfl ⟨by simp only [zrm]; omega, by simp only [zrm]; omega⟩ ?_
    refine z_aload_n 0 d_Model_tells_38 rfl rfl ?_
    refine z_iconst (v := 2) d_Model_tells_39 (by decide) ?_
    refine z_iload_n 2 d_Model_tells_40 rfl rfl ?_
    refine z_aload_n 0 d_Model_tells_41 rfl rfl ?_
    refine gf_Model_own zl_129 d_Model_tells_42 q_901 ?_
    refine z_isub d_Model_tells_45 ?_
    obtain ⟨⟨v7, s8⟩, e9, h⟩ := zbd_i h
    refine w_callV (As := [.int (2 : Int32), .int (x2 - (zI s5 129 30))]) (kc := 22) (ci := 12) (hrec ((2 : Int32), (x2 - (zI s5 129 30)), s5) _ e9) cf_Model_tells q_1278 d_Model_tells_46 zl_129 rfl rfl rfl rfl rfl rfl (Nat.le_of_ble_eq_true rfl) rfl rfl ⟨by simp only [zrm]; omega, by simp only [zrm]; omega⟩ ?_
    exact z_iret d_Model_tells_49 h
  have h := (if_neg c3).symm.trans h
  by_cases c10 : x1 = (6 : Int32)
  · have h := (if_pos c10).symm.trans h
    refine z_tableIn (k := 6) (off := 49) (tgt := 50) d_Model_tells_1 c10 (by decide) ?_
    refine z_sub [0, 2] rfl ?_
    exact zb_Model_tells_50 n hrec h
  have h := (if_neg c10).symm.trans h
  have nc1 := lv_neT (a := 3) c1 (by decide)
  have nc2 := lv_neT (a := 4) c2 (by decide)
  have nc3 := lv_neT (a := 5) c3 (by decide)
  have nc10 := lv_neT (a := 6) c10 (by decide)
  refine z_tableOut (tgt := 79) d_Model_tells_1 (by omega) (by decide) ?_
  refine z_sub [0, 2] rfl ?_
  exact zb_Model_tells_79 n hrec h
theorem cn_Model_tells (l : Launch) (θ : ZT) : ∀ (n : Nat) (a : Int32 × Int32 × ZM) (r : Int32 × ZM), F_Model_tells n a = some r → zMet mkI l 129 14 θ y_Model_tells b_Model_tells 4 (some .int) (zrm (19 + 1 * n) (464 + 23 * n)) [.ref (za θ 129), .int a.1, .int a.2.1] a.2.2 r := by
  intro n
  induction n with
  | zero => intro a r h; cases (show (none : Option (Int32 × ZM)) = some r from h)
  | succ n ih => intro a r h; exact c_Model_tells l θ n ih (show f_Model_tells (F_Model_tells n) a.1 a.2.1 a.2.2 = some r from h)
