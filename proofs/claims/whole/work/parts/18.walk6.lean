/-! walks: Model_bakes Model_cools Model_loaf Model_set Model_of Model_oven Model_told Model_bake Model_cold Model_would Model_spoiledBy Model_orders Model_order Model_memberOf Model_isWellBy Model_colds Model_takesAt Model_place Model_isSpoiledBehind Model_guilty Model_spoiledIn -/
theorem d_Model_bakes_0 : decode b_Model_bakes 0 = .ok (.aload_n 0, 1) := by decide +kernel
theorem d_Model_bakes_1 : decode b_Model_bakes 1 = .ok (.iload_n 1, 1) := by decide +kernel
theorem d_Model_bakes_2 : decode b_Model_bakes 2 = .ok (.invokevirtual 190, 3) := by decide +kernel
theorem d_Model_bakes_5 : decode b_Model_bakes 5 = .ok (.istore_n 2, 1) := by decide +kernel
theorem d_Model_bakes_6 : decode b_Model_bakes 6 = .ok (.iconst (0), 1) := by decide +kernel
theorem d_Model_bakes_7 : decode b_Model_bakes 7 = .ok (.istore_n 3, 1) := by decide +kernel
theorem d_Model_bakes_8 : decode b_Model_bakes 8 = .ok (.iload_n 3, 1) := by decide +kernel
theorem d_Model_bakes_9 : decode b_Model_bakes 9 = .ok (.iconst (4), 1) := by decide +kernel
theorem d_Model_bakes_10 : decode b_Model_bakes 10 = .ok (.if_icmp .ge (53), 3) := by decide +kernel
theorem d_Model_bakes_13 : decode b_Model_bakes 13 = .ok (.aload_n 0, 1) := by decide +kernel
theorem d_Model_bakes_14 : decode b_Model_bakes 14 = .ok (.getfield 11, 3) := by decide +kernel
theorem d_Model_bakes_17 : decode b_Model_bakes 17 = .ok (.iload_n 3, 1) := by decide +kernel
theorem d_Model_bakes_18 : decode b_Model_bakes 18 = .ok (.iaload, 1) := by decide +kernel
theorem d_Model_bakes_19 : decode b_Model_bakes 19 = .ok (.aload_n 0, 1) := by decide +kernel
theorem d_Model_bakes_20 : decode b_Model_bakes 20 = .ok (.iload_n 1, 1) := by decide +kernel
theorem d_Model_bakes_21 : decode b_Model_bakes 21 = .ok (.iload_n 3, 1) := by decide +kernel
theorem d_Model_bakes_22 : decode b_Model_bakes 22 = .ok (.invokevirtual 187, 3) := by decide +kernel
theorem d_Model_bakes_25 : decode b_Model_bakes 25 = .ok (.isub, 1) := by decide +kernel
theorem d_Model_bakes_26 : decode b_Model_bakes 26 = .ok (.aload_n 0, 1) := by decide +kernel
theorem d_Model_bakes_27 : decode b_Model_bakes 27 = .ok (.iload_n 1, 1) := by decide +kernel
theorem d_Model_bakes_28 : decode b_Model_bakes 28 = .ok (.iload_n 3, 1) := by decide +kernel
theorem d_Model_bakes_29 : decode b_Model_bakes 29 = .ok (.invokevirtual 193, 3) := by decide +kernel
theorem d_Model_bakes_32 : decode b_Model_bakes 32 = .ok (.iadd, 1) := by decide +kernel
theorem d_Model_bakes_33 : decode b_Model_bakes 33 = .ok (.istore 4, 2) := by decide +kernel
theorem d_Model_bakes_35 : decode b_Model_bakes 35 = .ok (.aload_n 0, 1) := by decide +kernel
theorem d_Model_bakes_36 : decode b_Model_bakes 36 = .ok (.getfield 30, 3) := by decide +kernel
theorem d_Model_bakes_39 : decode b_Model_bakes 39 = .ok (.iload_n 3, 1) := by decide +kernel
theorem d_Model_bakes_40 : decode b_Model_bakes 40 = .ok (.iload 4, 2) := by decide +kernel
theorem d_Model_bakes_42 : decode b_Model_bakes 42 = .ok (.sipush (9999), 3) := by decide +kernel
theorem d_Model_bakes_45 : decode b_Model_bakes 45 = .ok (.if_icmp .le (9), 3) := by decide +kernel
theorem d_Model_bakes_48 : decode b_Model_bakes 48 = .ok (.sipush (9999), 3) := by decide +kernel
theorem d_Model_bakes_51 : decode b_Model_bakes 51 = .ok (.goto (5), 3) := by decide +kernel
theorem d_Model_bakes_54 : decode b_Model_bakes 54 = .ok (.iload 4, 2) := by decide +kernel
theorem d_Model_bakes_56 : decode b_Model_bakes 56 = .ok (.iastore, 1) := by decide +kernel
theorem d_Model_bakes_57 : decode b_Model_bakes 57 = .ok (.iinc 3 (1), 3) := by decide +kernel
theorem d_Model_bakes_60 : decode b_Model_bakes 60 = .ok (.goto (-52), 3) := by decide +kernel
theorem d_Model_bakes_63 : decode b_Model_bakes 63 = .ok (.iconst (0), 1) := by decide +kernel
theorem d_Model_bakes_64 : decode b_Model_bakes 64 = .ok (.istore_n 3, 1) := by decide +kernel
theorem d_Model_bakes_65 : decode b_Model_bakes 65 = .ok (.iload_n 3, 1) := by decide +kernel
theorem d_Model_bakes_66 : decode b_Model_bakes 66 = .ok (.iconst (4), 1) := by decide +kernel
theorem d_Model_bakes_67 : decode b_Model_bakes 67 = .ok (.if_icmp .ge (21), 3) := by decide +kernel
theorem d_Model_bakes_70 : decode b_Model_bakes 70 = .ok (.aload_n 0, 1) := by decide +kernel
theorem d_Model_bakes_71 : decode b_Model_bakes 71 = .ok (.getfield 11, 3) := by decide +kernel
theorem d_Model_bakes_74 : decode b_Model_bakes 74 = .ok (.iload_n 3, 1) := by decide +kernel
theorem d_Model_bakes_75 : decode b_Model_bakes 75 = .ok (.aload_n 0, 1) := by decide +kernel
theorem d_Model_bakes_76 : decode b_Model_bakes 76 = .ok (.getfield 30, 3) := by decide +kernel
theorem d_Model_bakes_79 : decode b_Model_bakes 79 = .ok (.iload_n 3, 1) := by decide +kernel
theorem d_Model_bakes_80 : decode b_Model_bakes 80 = .ok (.iaload, 1) := by decide +kernel
theorem d_Model_bakes_81 : decode b_Model_bakes 81 = .ok (.iastore, 1) := by decide +kernel
theorem d_Model_bakes_82 : decode b_Model_bakes 82 = .ok (.iinc 3 (1), 3) := by decide +kernel
theorem d_Model_bakes_85 : decode b_Model_bakes 85 = .ok (.goto (-20), 3) := by decide +kernel
theorem d_Model_bakes_88 : decode b_Model_bakes 88 = .ok (.aload_n 0, 1) := by decide +kernel
theorem d_Model_bakes_89 : decode b_Model_bakes 89 = .ok (.invokevirtual 196, 3) := by decide +kernel
theorem d_Model_bakes_92 : decode b_Model_bakes 92 = .ok (.iload_n 2, 1) := by decide +kernel
theorem d_Model_bakes_93 : decode b_Model_bakes 93 = .ok (.ireturn, 1) := by decide +kernel
theorem zb_Model_bakes_56 {l : Launch} {θ : ZT} {res : Int32 × ZM} {k8 : Int32 × Int32 × Int32 × ZM → Option (Int32 × ZM)} (hk8 : ∀ a : Int32 × Int32 × Int32 × ZM, k8 a = some res → WZ l b_Model_bakes 5 (some .boolean) "BakedBeforeModel" 129 14 θ (zrm 38 904) (zQ mkI 129 14 θ res) a.2.2.2 [(0, .ref (za θ 129)), (1, .int a.1), (2, .int a.2.1), (3, .int a.2.2.1)] 8 []) {x1 : Int32} {x2 : Int32} {x3 : Int32} {y0 : Int32} {y1 : Int32} {σ : ZM} (h : f_Model_bakes_56 k8 x1 x2 x3 y0 y1 σ = some res) : WZ l b_Model_bakes 5 (some .boolean) "BakedBeforeModel" 129 14 θ (zrm 38 904) (zQ mkI 129 14 θ res) σ [(0, .ref (za θ 129)), (1, .int x1), (2, .int x2), (3, .int x3)] 56 [.int y0, .int y1, .ref (za θ 136)] := by
  unfold f_Model_bakes_56 at h
  obtain ⟨c1, h⟩ := zck_i h
  refine w_iast zl_136 c1 d_Model_bakes_56 ?_
  refine z_iinc (v := x3 + (1 : Int32)) 3 d_Model_bakes_57 rfl rfl (by decide) rfl ?_
  refine z_goto (tgt := 8) d_Model_bakes_60 (by decide) ?_
  refine z_sub [1, 2, 3, 0] rfl ?_
  exact hk8 (x1, x2, (x3 + (1 : Int32)), (zsI σ 136 y1.toNatClampNeg y0)) h
theorem zb_Model_bakes_65 {l : Launch} {θ : ZT} {res : Int32 × ZM} {k65 : Int32 × Int32 × ZM → Option (Int32 × ZM)} (hk65 : ∀ a : Int32 × Int32 × ZM, k65 a = some res → WZ l b_Model_bakes 5 (some .boolean) "BakedBeforeModel" 129 14 θ (zrm 38 904) (zQ mkI 129 14 θ res) a.2.2 [(0, .ref (za θ 129)), (2, .int a.1), (3, .int a.2.1)] 65 []) {x2 : Int32} {x3 : Int32} {σ : ZM} (h : f_Model_bakes_65 k65 x2 x3 σ = some res) : WZ l b_Model_bakes 5 (some .boolean) "BakedBeforeModel" 129 14 θ (zrm 38 904) (zQ mkI 129 14 θ res) σ [(0, .ref (za θ 129)), (2, .int x2), (3, .int x3)] 65 [] := by
  unfold f_Model_bakes_65 at h
  refine z_iload_n 2 d_Model_bakes_65 rfl rfl ?_
  refine z_iconst (v := 4) d_Model_bakes_66 (by decide) ?_
  refine z_icmp_ge (tgt := 88) d_Model_bakes_67 (by decide) (fun c1 => ?_) (fun c1 => ?_)
  · have h := (if_pos c1).symm.trans h
    refine z_aload_n 0 d_Model_bakes_88 rfl rfl ?_
    obtain ⟨⟨v2, s3⟩, e4, h⟩ := zbd_i h
    refine w_callV (As := []) (kc := 22) (ci := 12) (c_Model_ages l θ e4) cf_Model_ages q_1108 d_Model_bakes_89 zl_129 rfl rfl rfl rfl rfl rfl (Nat.le_of_ble_eq_true rfl) rfl rfl ⟨Nat.le_of_ble_eq_true rfl, Nat.le_of_ble_eq_true rfl⟩ ?_
    refine z_iload_n 1 d_Model_bakes_92 rfl rfl ?_
    obtain ⟨c5, h⟩ := zck_i h
    exact z_zret d_Model_bakes_93 c5 h
  · have h := (if_neg c1).symm.trans h
    refine z_aload_n 0 d_Model_bakes_70 rfl rfl ?_
    refine gf_Model_s zl_129 d_Model_bakes_71 q_871 ?_
    refine z_iload_n 2 d_Model_bakes_74 rfl rfl ?_
    refine z_aload_n 0 d_Model_bakes_75 rfl rfl ?_
    refine gf_Model_held zl_129 d_Model_bakes_76 q_892 ?_
    refine z_iload_n 2 d_Model_bakes_79 rfl rfl ?_
    obtain ⟨c6, h⟩ := zck_i h
    refine w_iald zl_136 c6 d_Model_bakes_80 ?_
    obtain ⟨c7, h⟩ := zck_i h
    refine w_iast zl_130 c7 d_Model_bakes_81 ?_
    refine z_iinc (v := x3 + (1 : Int32)) 2 d_Model_bakes_82 rfl rfl (by decide) rfl ?_
    refine z_goto (tgt := 65) d_Model_bakes_85 (by decide) ?_
    refine z_sub [1, 2, 0] rfl ?_
    exact hk65 (x2, (x3 + (1 : Int32)), (zsI σ 130 x3.toNatClampNeg (zI σ 136 x3.toNatClampNeg))) h
theorem zl_Model_bakes_65 {l : Launch} {θ : ZT} {res : Int32 × ZM} : ∀ (N : Nat) (a : Int32 × Int32 × ZM), F_Model_bakes_65 N a = some res → WZ l b_Model_bakes 5 (some .boolean) "BakedBeforeModel" 129 14 θ (zrm 38 904) (zQ mkI 129 14 θ res) a.2.2 [(0, .ref (za θ 129)), (2, .int a.1), (3, .int a.2.1)] 65 [] := by
  intro N
  induction N with
  | zero => intro a  h; cases (show (none : Option (Int32 × ZM)) = some res from h)
  | succ N ih => intro a  h; exact zb_Model_bakes_65 ih (show f_Model_bakes_65 (F_Model_bakes_65 N) a.1 a.2.1 a.2.2 = some res from h)
theorem zb_Model_bakes_8 {l : Launch} {θ : ZT} {res : Int32 × ZM} {k8 : Int32 × Int32 × Int32 × ZM → Option (Int32 × ZM)} (hk8 : ∀ a : Int32 × Int32 × Int32 × ZM, k8 a = some res → WZ l b_Model_bakes 5 (some .boolean) "BakedBeforeModel" 129 14 θ (zrm 38 904) (zQ mkI 129 14 θ res) a.2.2.2 [(0, .ref (za θ 129)), (1, .int a.1), (2, .int a.2.1), (3, .int a.2.2.1)] 8 []) {x1 : Int32} {x2 : Int32} {x3 : Int32} {σ : ZM} (h : f_Model_bakes_8 k8 x1 x2 x3 σ = some res) : WZ l b_Model_bakes 5 (some .boolean) "BakedBeforeModel" 129 14 θ (zrm 38 904) (zQ mkI 129 14 θ res) σ [(0, .ref (za θ 129)), (1, .int x1), (2, .int x2), (3, .int x3)] 8 [] := by
  unfold f_Model_bakes_8 at h
  refine z_iload_n 3 d_Model_bakes_8 rfl rfl ?_
  refine z_iconst (v := 4) d_Model_bakes_9 (by decide) ?_
  refine z_icmp_ge (tgt := 63) d_Model_bakes_10 (by decide) (fun c1 => ?_) (fun c1 => ?_)
  · have h := (if_pos c1).symm.trans h
    refine z_iconst (v := 0) d_Model_bakes_63 (by decide) ?_
    refine z_istore_n d_Model_bakes_64 rfl (by decide) rfl ?_
    refine z_sub [1, 3, 0] rfl ?_
    exact zl_Model_bakes_65 2000 (x2, (0 : Int32), σ) h
  · have h := (if_neg c1).symm.trans h
    refine z_aload_n 0 d_Model_bakes_13 rfl rfl ?_
    refine gf_Model_s zl_129 d_Model_bakes_14 q_871 ?_
    refine z_iload_n 3 d_Model_bakes_17 rfl rfl ?_
    obtain ⟨c2, h⟩ := zck_i h
    refine w_iald zl_130 c2 d_Model_bakes_18 ?_
    refine z_aload_n 0 d_Model_bakes_19 rfl rfl ?_
    refine z_iload_n 1 d_Model_bakes_20 rfl rfl ?_
    refine z_iload_n 3 d_Model_bakes_21 rfl rfl ?_
    obtain ⟨⟨v3, s4⟩, e5, h⟩ := zbd_i h
    refine w_callV (As := [.int x1, .int x3]) (kc := 22) (ci := 12) (c_Model_takesOf l θ e5) cf_Model_takesOf q_1076 d_Model_bakes_22 zl_129 rfl rfl rfl rfl rfl rfl (Nat.le_of_ble_eq_true rfl) rfl rfl ⟨Nat.le_of_ble_eq_true rfl, Nat.le_of_ble_eq_true rfl⟩ ?_
    refine z_isub d_Model_bakes_25 ?_
    refine z_aload_n 0 d_Model_bakes_26 rfl rfl ?_
    refine z_iload_n 1 d_Model_bakes_27 rfl rfl ?_
    refine z_iload_n 3 d_Model_bakes_28 rfl rfl ?_
    obtain ⟨⟨v6, s7⟩, e8, h⟩ := zbd_i h
    refine w_callV (As := [.int x1, .int x3]) (kc := 22) (ci := 12) (c_Model_leavesOf l θ e8) cf_Model_leavesOf q_1088 d_Model_bakes_29 zl_129 rfl rfl rfl rfl rfl rfl (Nat.le_of_ble_eq_true rfl) rfl rfl ⟨Nat.le_of_ble_eq_true rfl, Nat.le_of_ble_eq_true rfl⟩ ?_
    refine z_iadd d_Model_bakes_32 ?_
    refine z_istore d_Model_bakes_33 (by decide) rfl ?_
    refine z_aload_n 1 d_Model_bakes_35 rfl rfl ?_
    refine gf_Model_held zl_129 d_Model_bakes_36 q_892 ?_
    refine z_iload_n 4 d_Model_bakes_39 rfl rfl ?_
    refine z_iload 0 d_Model_bakes_40 rfl ?_
    refine z_sipush (v := 9999) d_Model_bakes_42 (by decide) ?_
    refine z_icmp_le (tgt := 54) d_Model_bakes_45 (by decide) (fun c9 => ?_) (fun c9 => ?_)
    · have h := (if_pos c9).symm.trans h
      refine z_iload 0 d_Model_bakes_54 rfl ?_
      refine z_sub [1, 2, 3, 4] rfl ?_
      exact zb_Model_bakes_56 hk8 h
    · have h := (if_neg c9).symm.trans h
      refine z_sipush (v := 9999) d_Model_bakes_48 (by decide) ?_
      refine z_goto (tgt := 56) d_Model_bakes_51 (by decide) ?_
      refine z_sub [1, 2, 3, 4] rfl ?_
      exact zb_Model_bakes_56 hk8 h
theorem zl_Model_bakes_8 {l : Launch} {θ : ZT} {res : Int32 × ZM} : ∀ (N : Nat) (a : Int32 × Int32 × Int32 × ZM), F_Model_bakes_8 N a = some res → WZ l b_Model_bakes 5 (some .boolean) "BakedBeforeModel" 129 14 θ (zrm 38 904) (zQ mkI 129 14 θ res) a.2.2.2 [(0, .ref (za θ 129)), (1, .int a.1), (2, .int a.2.1), (3, .int a.2.2.1)] 8 [] := by
  intro N
  induction N with
  | zero => intro a  h; cases (show (none : Option (Int32 × ZM)) = some res from h)
  | succ N ih => intro a  h; exact zb_Model_bakes_8 ih (show f_Model_bakes_8 (F_Model_bakes_8 N) a.1 a.2.1 a.2.2.1 a.2.2.2 = some res from h)
theorem c_Model_bakes (l : Launch) (θ : ZT) {x1 : Int32} {σ : ZM} {res : Int32 × ZM} (h : f_Model_bakes x1 σ = some res) : zMet mkI l 129 14 θ y_Model_bakes b_Model_bakes 5 (some .boolean) (zrm 38 904) [.ref (za θ 129), .int x1] σ res := by
  unfold f_Model_bakes at h
  refine z_met (lv := [(0, .ref (za θ 129)), (1, .int x1)]) (by decide +kernel) rfl (Nat.le_of_ble_eq_true rfl) (by decide) ?_
  refine z_aload_n 0 d_Model_bakes_0 rfl rfl ?_
  refine z_iload_n 1 d_Model_bakes_1 rfl rfl ?_
  obtain ⟨⟨v1, s2⟩, e3, h⟩ := zbd_i h
  refine w_callV (As := [.int x1]) (kc := 22) (ci := 12) (c_Model_isSpoiled l θ e3) cf_Model_isSpoiled q_1072 d_Model_bakes_2 zl_129 rfl rfl rfl rfl rfl rfl (Nat.le_of_ble_eq_true rfl) rfl rfl ⟨Nat.le_of_ble_eq_true rfl, Nat.le_of_ble_eq_true rfl⟩ ?_
  refine z_istore_n d_Model_bakes_5 rfl (by decide) rfl ?_
  refine z_iconst (v := 0) d_Model_bakes_6 (by decide) ?_
  refine z_istore_n d_Model_bakes_7 rfl (by decide) rfl ?_
  refine z_sub [2, 3, 1, 0] rfl ?_
  exact zl_Model_bakes_8 2000 (x1, v1, (0 : Int32), s2) h
theorem d_Model_cools_0 : decode b_Model_cools 0 = .ok (.aload_n 0, 1) := by decide +kernel
theorem d_Model_cools_1 : decode b_Model_cools 1 = .ok (.iconst (0), 1) := by decide +kernel
theorem d_Model_cools_2 : decode b_Model_cools 2 = .ok (.iconst (0), 1) := by decide +kernel
theorem d_Model_cools_3 : decode b_Model_cools 3 = .ok (.invokevirtual 176, 3) := by decide +kernel
theorem d_Model_cools_6 : decode b_Model_cools 6 = .ok (.aload_n 0, 1) := by decide +kernel
theorem d_Model_cools_7 : decode b_Model_cools 7 = .ok (.getfield 151, 3) := by decide +kernel
theorem d_Model_cools_10 : decode b_Model_cools 10 = .ok (.istore_n 1, 1) := by decide +kernel
theorem d_Model_cools_11 : decode b_Model_cools 11 = .ok (.iconst (0), 1) := by decide +kernel
theorem d_Model_cools_12 : decode b_Model_cools 12 = .ok (.istore_n 2, 1) := by decide +kernel
theorem d_Model_cools_13 : decode b_Model_cools 13 = .ok (.iload_n 2, 1) := by decide +kernel
theorem d_Model_cools_14 : decode b_Model_cools 14 = .ok (.iconst (4), 1) := by decide +kernel
theorem d_Model_cools_15 : decode b_Model_cools 15 = .ok (.if_icmp .ge (41), 3) := by decide +kernel
theorem d_Model_cools_18 : decode b_Model_cools 18 = .ok (.iload_n 1, 1) := by decide +kernel
theorem d_Model_cools_19 : decode b_Model_cools 19 = .ok (.aload_n 0, 1) := by decide +kernel
theorem d_Model_cools_20 : decode b_Model_cools 20 = .ok (.getfield 11, 3) := by decide +kernel
theorem d_Model_cools_23 : decode b_Model_cools 23 = .ok (.iload_n 2, 1) := by decide +kernel
theorem d_Model_cools_24 : decode b_Model_cools 24 = .ok (.iaload, 1) := by decide +kernel
theorem d_Model_cools_25 : decode b_Model_cools 25 = .ok (.imul, 1) := by decide +kernel
theorem d_Model_cools_26 : decode b_Model_cools 26 = .ok (.bipush (100), 2) := by decide +kernel
theorem d_Model_cools_28 : decode b_Model_cools 28 = .ok (.idiv, 1) := by decide +kernel
theorem d_Model_cools_29 : decode b_Model_cools 29 = .ok (.istore_n 3, 1) := by decide +kernel
theorem d_Model_cools_30 : decode b_Model_cools 30 = .ok (.aload_n 0, 1) := by decide +kernel
theorem d_Model_cools_31 : decode b_Model_cools 31 = .ok (.getfield 11, 3) := by decide +kernel
theorem d_Model_cools_34 : decode b_Model_cools 34 = .ok (.iload_n 2, 1) := by decide +kernel
theorem d_Model_cools_35 : decode b_Model_cools 35 = .ok (.iload_n 3, 1) := by decide +kernel
theorem d_Model_cools_36 : decode b_Model_cools 36 = .ok (.sipush (9999), 3) := by decide +kernel
theorem d_Model_cools_39 : decode b_Model_cools 39 = .ok (.if_icmp .le (9), 3) := by decide +kernel
theorem d_Model_cools_42 : decode b_Model_cools 42 = .ok (.sipush (9999), 3) := by decide +kernel
theorem d_Model_cools_45 : decode b_Model_cools 45 = .ok (.goto (4), 3) := by decide +kernel
theorem d_Model_cools_48 : decode b_Model_cools 48 = .ok (.iload_n 3, 1) := by decide +kernel
theorem d_Model_cools_49 : decode b_Model_cools 49 = .ok (.iastore, 1) := by decide +kernel
theorem d_Model_cools_50 : decode b_Model_cools 50 = .ok (.iinc 2 (1), 3) := by decide +kernel
theorem d_Model_cools_53 : decode b_Model_cools 53 = .ok (.goto (-40), 3) := by decide +kernel
theorem d_Model_cools_56 : decode b_Model_cools 56 = .ok (.aload_n 0, 1) := by decide +kernel
theorem d_Model_cools_57 : decode b_Model_cools 57 = .ok (.invokevirtual 196, 3) := by decide +kernel
theorem d_Model_cools_60 : decode b_Model_cools 60 = .ok (.return_, 1) := by decide +kernel
theorem zb_Model_cools_49 {l : Launch} {θ : ZT} {res : Unit × ZM} {k13 : Int32 × Int32 × ZM → Option (Unit × ZM)} (hk13 : ∀ a : Int32 × Int32 × ZM, k13 a = some res → WZ l b_Model_cools 4 none "BakedBeforeModel" 129 14 θ (zrm 35 838) (zQ mkV 129 14 θ res) a.2.2 [(0, .ref (za θ 129)), (1, .int a.1), (2, .int a.2.1)] 13 []) {x1 : Int32} {x2 : Int32} {y0 : Int32} {y1 : Int32} {σ : ZM} (h : f_Model_cools_49 k13 x1 x2 y0 y1 σ = some res) : WZ l b_Model_cools 4 none "BakedBeforeModel" 129 14 θ (zrm 35 838) (zQ mkV 129 14 θ res) σ [(0, .ref (za θ 129)), (1, .int x1), (2, .int x2)] 49 [.int y0, .int y1, .ref (za θ 130)] := by
  unfold f_Model_cools_49 at h
  obtain ⟨c1, h⟩ := zck_i h
  refine w_iast zl_130 c1 d_Model_cools_49 ?_
  refine z_iinc (v := x2 + (1 : Int32)) 2 d_Model_cools_50 rfl rfl (by decide) rfl ?_
  refine z_goto (tgt := 13) d_Model_cools_53 (by decide) ?_
  refine z_sub [1, 2, 0] rfl ?_
  exact hk13 (x1, (x2 + (1 : Int32)), (zsI σ 130 y1.toNatClampNeg y0)) h
theorem zb_Model_cools_13 {l : Launch} {θ : ZT} {res : Unit × ZM} {k13 : Int32 × Int32 × ZM → Option (Unit × ZM)} (hk13 : ∀ a : Int32 × Int32 × ZM, k13 a = some res → WZ l b_Model_cools 4 none "BakedBeforeModel" 129 14 θ (zrm 35 838) (zQ mkV 129 14 θ res) a.2.2 [(0, .ref (za θ 129)), (1, .int a.1), (2, .int a.2.1)] 13 []) {x1 : Int32} {x2 : Int32} {σ : ZM} (h : f_Model_cools_13 k13 x1 x2 σ = some res) : WZ l b_Model_cools 4 none "BakedBeforeModel" 129 14 θ (zrm 35 838) (zQ mkV 129 14 θ res) σ [(0, .ref (za θ 129)), (1, .int x1), (2, .int x2)] 13 [] := by
  unfold f_Model_cools_13 at h
  refine z_iload_n 2 d_Model_cools_13 rfl rfl ?_
  refine z_iconst (v := 4) d_Model_cools_14 (by decide) ?_
  refine z_icmp_ge (tgt := 56) d_Model_cools_15 (by decide) (fun c1 => ?_) (fun c1 => ?_)
  · have h := (if_pos c1).symm.trans h
    refine z_aload_n 0 d_Model_cools_56 rfl rfl ?_
    obtain ⟨⟨v2, s3⟩, e4, h⟩ := zbd_i h
    refine w_callV (As := []) (kc := 22) (ci := 12) (c_Model_ages l θ e4) cf_Model_ages q_1108 d_Model_cools_57 zl_129 rfl rfl rfl rfl rfl rfl (Nat.le_of_ble_eq_true rfl) rfl rfl ⟨Nat.le_of_ble_eq_true rfl, Nat.le_of_ble_eq_true rfl⟩ ?_
    exact z_vret d_Model_cools_60 h
  · have h := (if_neg c1).symm.trans h
    refine z_iload_n 1 d_Model_cools_18 rfl rfl ?_
    refine z_aload_n 0 d_Model_cools_19 rfl rfl ?_
    refine gf_Model_s zl_129 d_Model_cools_20 q_871 ?_
    refine z_iload_n 2 d_Model_cools_23 rfl rfl ?_
    obtain ⟨c5, h⟩ := zck_i h
    refine w_iald zl_130 c5 d_Model_cools_24 ?_
    refine z_imul d_Model_cools_25 ?_
    refine z_bipush (v := 100) d_Model_cools_26 (by decide) ?_
    refine z_idiv d_Model_cools_28 (by decide) ?_
    refine z_istore_n d_Model_cools_29 rfl (by decide) rfl ?_
    refine z_aload_n 1 d_Model_cools_30 rfl rfl ?_
    refine gf_Model_s zl_129 d_Model_cools_31 q_871 ?_
    refine z_iload_n 3 d_Model_cools_34 rfl rfl ?_
    refine z_iload_n 0 d_Model_cools_35 rfl rfl ?_
    refine z_sipush (v := 9999) d_Model_cools_36 (by decide) ?_
    refine z_icmp_le (tgt := 48) d_Model_cools_39 (by decide) (fun c6 => ?_) (fun c6 => ?_)
    · have h := (if_pos c6).symm.trans h
      refine z_iload_n 0 d_Model_cools_48 rfl rfl ?_
      refine z_sub [1, 2, 3] rfl ?_
      exact zb_Model_cools_49 hk13 h
    · have h := (if_neg c6).symm.trans h
      refine z_sipush (v := 9999) d_Model_cools_42 (by decide) ?_
      refine z_goto (tgt := 49) d_Model_cools_45 (by decide) ?_
      refine z_sub [1, 2, 3] rfl ?_
      exact zb_Model_cools_49 hk13 h
theorem zl_Model_cools_13 {l : Launch} {θ : ZT} {res : Unit × ZM} : ∀ (N : Nat) (a : Int32 × Int32 × ZM), F_Model_cools_13 N a = some res → WZ l b_Model_cools 4 none "BakedBeforeModel" 129 14 θ (zrm 35 838) (zQ mkV 129 14 θ res) a.2.2 [(0, .ref (za θ 129)), (1, .int a.1), (2, .int a.2.1)] 13 [] := by
  intro N
  induction N with
  | zero => intro a  h; cases (show (none : Option (Unit × ZM)) = some res from h)
  | succ N ih => intro a  h; exact zb_Model_cools_13 ih (show f_Model_cools_13 (F_Model_cools_13 N) a.1 a.2.1 a.2.2 = some res from h)
theorem c_Model_cools (l : Launch) (θ : ZT)  {σ : ZM} {res : Unit × ZM} (h : f_Model_cools σ = some res) : zMet mkV l 129 14 θ y_Model_cools b_Model_cools 4 none (zrm 35 838) [.ref (za θ 129)] σ res := by
  unfold f_Model_cools at h
  refine z_met (lv := [(0, .ref (za θ 129))]) (by decide +kernel) rfl (Nat.le_of_ble_eq_true rfl) (by decide) ?_
  refine z_aload_n 0 d_Model_cools_0 rfl rfl ?_
  refine z_iconst (v := 0) d_Model_cools_1 (by decide) ?_
  refine z_iconst (v := 0) d_Model_cools_2 (by decide) ?_
  obtain ⟨⟨v1, s2⟩, e3, h⟩ := zbd_i h
  refine w_callV (As := [.int (0 : Int32), .int (0 : Int32)]) (kc := 22) (ci := 12) (c_Model_readsNow l θ e3) cf_Model_readsNow q_1068 d_Model_cools_3 zl_129 rfl rfl rfl rfl rfl rfl (Nat.le_of_ble_eq_true rfl) rfl rfl ⟨Nat.le_of_ble_eq_true rfl, Nat.le_of_ble_eq_true rfl⟩ ?_
  refine z_aload_n 0 d_Model_cools_6 rfl rfl ?_
  refine gf_Model_cold zl_129 d_Model_cools_7 q_890 ?_
  refine z_istore_n d_Model_cools_10 rfl (by decide) rfl ?_
  refine z_iconst (v := 0) d_Model_cools_11 (by decide) ?_
  refine z_istore_n d_Model_cools_12 rfl (by decide) rfl ?_
  refine z_sub [2, 1, 0] rfl ?_
  exact zl_Model_cools_13 2000 ((zI s2 129 19), (0 : Int32), s2) h
theorem d_Model_loaf_0 : decode b_Model_loaf 0 = .ok (.iload_n 1, 1) := by decide +kernel
theorem d_Model_loaf_1 : decode b_Model_loaf 1 = .ok (.iconst (0), 1) := by decide +kernel
theorem d_Model_loaf_2 : decode b_Model_loaf 2 = .ok (.bipush (6), 2) := by decide +kernel
theorem d_Model_loaf_4 : decode b_Model_loaf 4 = .ok (.invokestatic 52, 3) := by decide +kernel
theorem d_Model_loaf_7 : decode b_Model_loaf 7 = .ok (.ifCond .ne (5), 3) := by decide +kernel
theorem d_Model_loaf_10 : decode b_Model_loaf 10 = .ok (.iconst (-1), 1) := by decide +kernel
theorem d_Model_loaf_11 : decode b_Model_loaf 11 = .ok (.ireturn, 1) := by decide +kernel
theorem d_Model_loaf_12 : decode b_Model_loaf 12 = .ok (.iload_n 2, 1) := by decide +kernel
theorem d_Model_loaf_13 : decode b_Model_loaf 13 = .ok (.iconst (0), 1) := by decide +kernel
theorem d_Model_loaf_14 : decode b_Model_loaf 14 = .ok (.bipush (9), 2) := by decide +kernel
theorem d_Model_loaf_16 : decode b_Model_loaf 16 = .ok (.invokestatic 52, 3) := by decide +kernel
theorem d_Model_loaf_19 : decode b_Model_loaf 19 = .ok (.ifCond .ne (6), 3) := by decide +kernel
theorem d_Model_loaf_22 : decode b_Model_loaf 22 = .ok (.bipush (-2), 2) := by decide +kernel
theorem d_Model_loaf_24 : decode b_Model_loaf 24 = .ok (.ireturn, 1) := by decide +kernel
theorem d_Model_loaf_25 : decode b_Model_loaf 25 = .ok (.aload_n 0, 1) := by decide +kernel
theorem d_Model_loaf_26 : decode b_Model_loaf 26 = .ok (.getfield 11, 3) := by decide +kernel
theorem d_Model_loaf_29 : decode b_Model_loaf 29 = .ok (.iconst (5), 1) := by decide +kernel
theorem d_Model_loaf_30 : decode b_Model_loaf 30 = .ok (.iaload, 1) := by decide +kernel
theorem d_Model_loaf_31 : decode b_Model_loaf 31 = .ok (.bipush (6), 2) := by decide +kernel
theorem d_Model_loaf_33 : decode b_Model_loaf 33 = .ok (.if_icmp .ne (6), 3) := by decide +kernel
theorem d_Model_loaf_36 : decode b_Model_loaf 36 = .ok (.bipush (-4), 2) := by decide +kernel
theorem d_Model_loaf_38 : decode b_Model_loaf 38 = .ok (.ireturn, 1) := by decide +kernel
theorem d_Model_loaf_39 : decode b_Model_loaf 39 = .ok (.aload_n 0, 1) := by decide +kernel
theorem d_Model_loaf_40 : decode b_Model_loaf 40 = .ok (.getfield 11, 3) := by decide +kernel
theorem d_Model_loaf_43 : decode b_Model_loaf 43 = .ok (.iconst (5), 1) := by decide +kernel
theorem d_Model_loaf_44 : decode b_Model_loaf 44 = .ok (.iaload, 1) := by decide +kernel
theorem d_Model_loaf_45 : decode b_Model_loaf 45 = .ok (.istore_n 3, 1) := by decide +kernel
theorem d_Model_loaf_46 : decode b_Model_loaf 46 = .ok (.aload_n 0, 1) := by decide +kernel
theorem d_Model_loaf_47 : decode b_Model_loaf 47 = .ok (.getfield 11, 3) := by decide +kernel
theorem d_Model_loaf_50 : decode b_Model_loaf 50 = .ok (.bipush (8), 2) := by decide +kernel
theorem d_Model_loaf_52 : decode b_Model_loaf 52 = .ok (.bipush (10), 2) := by decide +kernel
theorem d_Model_loaf_54 : decode b_Model_loaf 54 = .ok (.iload_n 3, 1) := by decide +kernel
theorem d_Model_loaf_55 : decode b_Model_loaf 55 = .ok (.imul, 1) := by decide +kernel
theorem d_Model_loaf_56 : decode b_Model_loaf 56 = .ok (.iadd, 1) := by decide +kernel
theorem d_Model_loaf_57 : decode b_Model_loaf 57 = .ok (.iload_n 1, 1) := by decide +kernel
theorem d_Model_loaf_58 : decode b_Model_loaf 58 = .ok (.iastore, 1) := by decide +kernel
theorem d_Model_loaf_59 : decode b_Model_loaf 59 = .ok (.aload_n 0, 1) := by decide +kernel
theorem d_Model_loaf_60 : decode b_Model_loaf 60 = .ok (.getfield 11, 3) := by decide +kernel
theorem d_Model_loaf_63 : decode b_Model_loaf 63 = .ok (.bipush (8), 2) := by decide +kernel
theorem d_Model_loaf_65 : decode b_Model_loaf 65 = .ok (.bipush (10), 2) := by decide +kernel
theorem d_Model_loaf_67 : decode b_Model_loaf 67 = .ok (.iload_n 3, 1) := by decide +kernel
theorem d_Model_loaf_68 : decode b_Model_loaf 68 = .ok (.imul, 1) := by decide +kernel
theorem d_Model_loaf_69 : decode b_Model_loaf 69 = .ok (.iadd, 1) := by decide +kernel
theorem d_Model_loaf_70 : decode b_Model_loaf 70 = .ok (.iconst (1), 1) := by decide +kernel
theorem d_Model_loaf_71 : decode b_Model_loaf 71 = .ok (.iadd, 1) := by decide +kernel
theorem d_Model_loaf_72 : decode b_Model_loaf 72 = .ok (.iload_n 2, 1) := by decide +kernel
theorem d_Model_loaf_73 : decode b_Model_loaf 73 = .ok (.iastore, 1) := by decide +kernel
theorem d_Model_loaf_74 : decode b_Model_loaf 74 = .ok (.iconst (0), 1) := by decide +kernel
theorem d_Model_loaf_75 : decode b_Model_loaf 75 = .ok (.istore 4, 2) := by decide +kernel
theorem d_Model_loaf_77 : decode b_Model_loaf 77 = .ok (.iload 4, 2) := by decide +kernel
theorem d_Model_loaf_79 : decode b_Model_loaf 79 = .ok (.iconst (4), 1) := by decide +kernel
theorem d_Model_loaf_80 : decode b_Model_loaf 80 = .ok (.if_icmp .ge (47), 3) := by decide +kernel
theorem d_Model_loaf_83 : decode b_Model_loaf 83 = .ok (.aload_n 0, 1) := by decide +kernel
theorem d_Model_loaf_84 : decode b_Model_loaf 84 = .ok (.getfield 11, 3) := by decide +kernel
theorem d_Model_loaf_87 : decode b_Model_loaf 87 = .ok (.bipush (8), 2) := by decide +kernel
theorem d_Model_loaf_89 : decode b_Model_loaf 89 = .ok (.bipush (10), 2) := by decide +kernel
theorem d_Model_loaf_91 : decode b_Model_loaf 91 = .ok (.iload_n 3, 1) := by decide +kernel
theorem d_Model_loaf_92 : decode b_Model_loaf 92 = .ok (.imul, 1) := by decide +kernel
theorem d_Model_loaf_93 : decode b_Model_loaf 93 = .ok (.iadd, 1) := by decide +kernel
theorem d_Model_loaf_94 : decode b_Model_loaf 94 = .ok (.iconst (2), 1) := by decide +kernel
theorem d_Model_loaf_95 : decode b_Model_loaf 95 = .ok (.iadd, 1) := by decide +kernel
theorem d_Model_loaf_96 : decode b_Model_loaf 96 = .ok (.iload 4, 2) := by decide +kernel
theorem d_Model_loaf_98 : decode b_Model_loaf 98 = .ok (.iadd, 1) := by decide +kernel
theorem d_Model_loaf_99 : decode b_Model_loaf 99 = .ok (.iconst (0), 1) := by decide +kernel
theorem d_Model_loaf_100 : decode b_Model_loaf 100 = .ok (.iastore, 1) := by decide +kernel
theorem d_Model_loaf_101 : decode b_Model_loaf 101 = .ok (.aload_n 0, 1) := by decide +kernel
theorem d_Model_loaf_102 : decode b_Model_loaf 102 = .ok (.getfield 11, 3) := by decide +kernel
theorem d_Model_loaf_105 : decode b_Model_loaf 105 = .ok (.bipush (8), 2) := by decide +kernel
theorem d_Model_loaf_107 : decode b_Model_loaf 107 = .ok (.bipush (10), 2) := by decide +kernel
theorem d_Model_loaf_109 : decode b_Model_loaf 109 = .ok (.iload_n 3, 1) := by decide +kernel
theorem d_Model_loaf_110 : decode b_Model_loaf 110 = .ok (.imul, 1) := by decide +kernel
theorem d_Model_loaf_111 : decode b_Model_loaf 111 = .ok (.iadd, 1) := by decide +kernel
theorem d_Model_loaf_112 : decode b_Model_loaf 112 = .ok (.bipush (6), 2) := by decide +kernel
theorem d_Model_loaf_114 : decode b_Model_loaf 114 = .ok (.iadd, 1) := by decide +kernel
theorem d_Model_loaf_115 : decode b_Model_loaf 115 = .ok (.iload 4, 2) := by decide +kernel
theorem d_Model_loaf_117 : decode b_Model_loaf 117 = .ok (.iadd, 1) := by decide +kernel
theorem d_Model_loaf_118 : decode b_Model_loaf 118 = .ok (.bipush (9), 2) := by decide +kernel
theorem d_Model_loaf_120 : decode b_Model_loaf 120 = .ok (.iastore, 1) := by decide +kernel
theorem d_Model_loaf_121 : decode b_Model_loaf 121 = .ok (.iinc 4 (1), 3) := by decide +kernel
theorem d_Model_loaf_124 : decode b_Model_loaf 124 = .ok (.goto (-47), 3) := by decide +kernel
theorem d_Model_loaf_127 : decode b_Model_loaf 127 = .ok (.aload_n 0, 1) := by decide +kernel
theorem d_Model_loaf_128 : decode b_Model_loaf 128 = .ok (.getfield 11, 3) := by decide +kernel
theorem d_Model_loaf_131 : decode b_Model_loaf 131 = .ok (.iconst (5), 1) := by decide +kernel
theorem d_Model_loaf_132 : decode b_Model_loaf 132 = .ok (.dup2, 1) := by decide +kernel
theorem d_Model_loaf_133 : decode b_Model_loaf 133 = .ok (.iaload, 1) := by decide +kernel
theorem d_Model_loaf_134 : decode b_Model_loaf 134 = .ok (.iconst (1), 1) := by decide +kernel
theorem d_Model_loaf_135 : decode b_Model_loaf 135 = .ok (.iadd, 1) := by decide +kernel
theorem d_Model_loaf_136 : decode b_Model_loaf 136 = .ok (.iastore, 1) := by decide +kernel
theorem d_Model_loaf_137 : decode b_Model_loaf 137 = .ok (.iload_n 3, 1) := by decide +kernel
theorem d_Model_loaf_138 : decode b_Model_loaf 138 = .ok (.ireturn, 1) := by decide +kernel
theorem zb_Model_loaf_77 {l : Launch} {θ : ZT} {res : Int32 × ZM} {k77 : Int32 × Int32 × ZM → Option (Int32 × ZM)} (hk77 : ∀ a : Int32 × Int32 × ZM, k77 a = some res → WZ l b_Model_loaf 5 (some .int) "BakedBeforeModel" 129 14 θ (zrm 2 82) (zQ mkI 129 14 θ res) a.2.2 [(0, .ref (za θ 129)), (3, .int a.1), (4, .int a.2.1)] 77 []) {x3 : Int32} {x4 : Int32} {σ : ZM} (h : f_Model_loaf_77 k77 x3 x4 σ = some res) : WZ l b_Model_loaf 5 (some .int) "BakedBeforeModel" 129 14 θ (zrm 2 82) (zQ mkI 129 14 θ res) σ [(0, .ref (za θ 129)), (3, .int x3), (4, .int x4)] 77 [] := by
  unfold f_Model_loaf_77 at h
  refine z_iload 2 d_Model_loaf_77 rfl ?_
  refine z_iconst (v := 4) d_Model_loaf_79 (by decide) ?_
  refine z_icmp_ge (tgt := 127) d_Model_loaf_80 (by decide) (fun c1 => ?_) (fun c1 => ?_)
  · have h := (if_pos c1).symm.trans h
    refine z_aload_n 0 d_Model_loaf_127 rfl rfl ?_
    refine gf_Model_s zl_129 d_Model_loaf_128 q_871 ?_
    refine z_iconst (v := 5) d_Model_loaf_131 (by decide) ?_
    refine z_dup2 d_Model_loaf_132 rfl rfl ?_
    obtain ⟨c2, h⟩ := zck_i h
    refine w_iald zl_130 c2 d_Model_loaf_133 ?_
    refine z_iconst (v := 1) d_Model_loaf_134 (by decide) ?_
    refine z_iadd d_Model_loaf_135 ?_
    obtain ⟨c3, h⟩ := zck_i h
    refine w_iast zl_130 c3 d_Model_loaf_136 ?_
    refine z_iload_n 1 d_Model_loaf_137 rfl rfl ?_
    exact z_iret d_Model_loaf_138 h
  · have h := (if_neg c1).symm.trans h
    refine z_aload_n 0 d_Model_loaf_83 rfl rfl ?_
    refine gf_Model_s zl_129 d_Model_loaf_84 q_871 ?_
    refine z_bipush (v := 8) d_Model_loaf_87 (by decide) ?_
    refine z_bipush (v := 10) d_Model_loaf_89 (by decide) ?_
    refine z_iload_n 1 d_Model_loaf_91 rfl rfl ?_
    refine z_imul d_Model_loaf_92 ?_
    refine z_iadd d_Model_loaf_93 ?_
    refine z_iconst (v := 2) d_Model_loaf_94 (by decide) ?_
    refine z_iadd d_Model_loaf_95 ?_
    refine z_iload 2 d_Model_loaf_96 rfl ?_
    refine z_iadd d_Model_loaf_98 ?_
    refine z_iconst (v := 0) d_Model_loaf_99 (by decide) ?_
    obtain ⟨c4, h⟩ := zck_i h
    refine w_iast zl_130 c4 d_Model_loaf_100 ?_
    refine z_aload_n 0 d_Model_loaf_101 rfl rfl ?_
    refine gf_Model_s zl_129 d_Model_loaf_102 q_871 ?_
    refine z_bipush (v := 8) d_Model_loaf_105 (by decide) ?_
    refine z_bipush (v := 10) d_Model_loaf_107 (by decide) ?_
    refine z_iload_n 1 d_Model_loaf_109 rfl rfl ?_
    refine z_imul d_Model_loaf_110 ?_
    refine z_iadd d_Model_loaf_111 ?_
    refine z_bipush (v := 6) d_Model_loaf_112 (by decide) ?_
    refine z_iadd d_Model_loaf_114 ?_
    refine z_iload 2 d_Model_loaf_115 rfl ?_
    refine z_iadd d_Model_loaf_117 ?_
    refine z_bipush (v := 9) d_Model_loaf_118 (by decide) ?_
    obtain ⟨c5, h⟩ := zck_i h
    refine w_iast zl_130 c5 d_Model_loaf_120 ?_
    refine z_iinc (v := x4 + (1 : Int32)) 2 d_Model_loaf_121 rfl rfl (by decide) rfl ?_
    refine z_goto (tgt := 77) d_Model_loaf_124 (by decide) ?_
    refine z_sub [1, 2, 0] rfl ?_
    exact hk77 (x3, (x4 + (1 : Int32)), (zsI (zsI σ 130 ((((8 : Int32) + ((10 : Int32) * x3)) + (2 : Int32)) + x4).toNatClampNeg (0 : Int32)) 130 ((((8 : Int32) + ((10 : Int32) * x3)) + (6 : Int32)) + x4).toNatClampNeg (9 : Int32))) h
theorem zl_Model_loaf_77 {l : Launch} {θ : ZT} {res : Int32 × ZM} : ∀ (N : Nat) (a : Int32 × Int32 × ZM), F_Model_loaf_77 N a = some res → WZ l b_Model_loaf 5 (some .int) "BakedBeforeModel" 129 14 θ (zrm 2 82) (zQ mkI 129 14 θ res) a.2.2 [(0, .ref (za θ 129)), (3, .int a.1), (4, .int a.2.1)] 77 [] := by
  intro N
  induction N with
  | zero => intro a  h; cases (show (none : Option (Int32 × ZM)) = some res from h)
  | succ N ih => intro a  h; exact zb_Model_loaf_77 ih (show f_Model_loaf_77 (F_Model_loaf_77 N) a.1 a.2.1 a.2.2 = some res from h)
theorem c_Model_loaf (l : Launch) (θ : ZT) {x1 : Int32} {x2 : Int32} {σ : ZM} {res : Int32 × ZM} (h : f_Model_loaf x1 x2 σ = some res) : zMet mkI l 129 14 θ y_Model_loaf b_Model_loaf 5 (some .int) (zrm 2 82) [.ref (za θ 129), .int x1, .int x2] σ res := by
  unfold f_Model_loaf at h
  refine z_met (lv := [(0, .ref (za θ 129)), (1, .int x1), (2, .int x2)]) (by decide +kernel) rfl (Nat.le_of_ble_eq_true rfl) (by decide) ?_
  refine z_iload_n 1 d_Model_loaf_0 rfl rfl ?_
  refine z_iconst (v := 0) d_Model_loaf_1 (by decide) ?_
  refine z_bipush (v := 6) d_Model_loaf_2 (by decide) ?_
  obtain ⟨⟨v1, s2⟩, e3, h⟩ := zbd_i h
  refine w_callS (As := [.int x1, .int (0 : Int32), .int (6 : Int32)]) (c_Model_isIn l θ e3) cf_Model_isIn q_969 d_Model_loaf_4 rfl rfl rfl (Nat.le_of_ble_eq_true rfl) rfl rfl ⟨Nat.le_of_ble_eq_true rfl, Nat.le_of_ble_eq_true rfl⟩ ?_
  refine z_if_ne (tgt := 12) d_Model_loaf_7 (by decide) (fun c4 => ?_) (fun c4 => ?_)
  · have h := (if_neg c4).symm.trans h
    refine z_iload_n 2 d_Model_loaf_12 rfl rfl ?_
    refine z_iconst (v := 0) d_Model_loaf_13 (by decide) ?_
    refine z_bipush (v := 9) d_Model_loaf_14 (by decide) ?_
    obtain ⟨⟨v5, s6⟩, e7, h⟩ := zbd_i h
    refine w_callS (As := [.int x2, .int (0 : Int32), .int (9 : Int32)]) (c_Model_isIn l θ e7) cf_Model_isIn q_969 d_Model_loaf_16 rfl rfl rfl (Nat.le_of_ble_eq_true rfl) rfl rfl ⟨Nat.le_of_ble_eq_true rfl, Nat.le_of_ble_eq_true rfl⟩ ?_
    refine z_if_ne (tgt := 25) d_Model_loaf_19 (by decide) (fun c8 => ?_) (fun c8 => ?_)
    · have h := (if_neg c8).symm.trans h
      refine z_aload_n 0 d_Model_loaf_25 rfl rfl ?_
      refine gf_Model_s zl_129 d_Model_loaf_26 q_871 ?_
      refine z_iconst (v := 5) d_Model_loaf_29 (by decide) ?_
      obtain ⟨c9, h⟩ := zck_i h
      refine w_iald zl_130 c9 d_Model_loaf_30 ?_
      refine z_bipush (v := 6) d_Model_loaf_31 (by decide) ?_
      refine z_icmp_ne (tgt := 39) d_Model_loaf_33 (by decide) (fun c10 => ?_) (fun c10 => ?_)
      · have h := (if_neg c10).symm.trans h
        refine z_aload_n 0 d_Model_loaf_39 rfl rfl ?_
        refine gf_Model_s zl_129 d_Model_loaf_40 q_871 ?_
        refine z_iconst (v := 5) d_Model_loaf_43 (by decide) ?_
        obtain ⟨c11, h⟩ := zck_i h
        refine w_iald zl_130 c11 d_Model_loaf_44 ?_
        refine z_istore_n d_Model_loaf_45 rfl (by decide) rfl ?_
        refine z_aload_n 1 d_Model_loaf_46 rfl rfl ?_
        refine gf_Model_s zl_129 d_Model_loaf_47 q_871 ?_
        refine z_bipush (v := 8) d_Model_loaf_50 (by decide) ?_
        refine z_bipush (v := 10) d_Model_loaf_52 (by decide) ?_
        refine z_iload_n 0 d_Model_loaf_54 rfl rfl ?_
        refine z_imul d_Model_loaf_55 ?_
        refine z_iadd d_Model_loaf_56 ?_
        refine z_iload_n 2 d_Model_loaf_57 rfl rfl ?_
        obtain ⟨c12, h⟩ := zck_i h
        refine w_iast zl_130 c12 d_Model_loaf_58 ?_
        refine z_aload_n 1 d_Model_loaf_59 rfl rfl ?_
        refine gf_Model_s zl_129 d_Model_loaf_60 q_871 ?_
        refine z_bipush (v := 8) d_Model_loaf_63 (by decide) ?_
        refine z_bipush (v := 10) d_Model_loaf_65 (by decide) ?_
        refine z_iload_n 0 d_Model_loaf_67 rfl rfl ?_
        refine z_imul d_Model_loaf_68 ?_
        refine z_iadd d_Model_loaf_69 ?_
        refine z_iconst (v := 1) d_Model_loaf_70 (by decide) ?_
        refine z_iadd d_Model_loaf_71 ?_
        refine z_iload_n 3 d_Model_loaf_72 rfl rfl ?_
        obtain ⟨c13, h⟩ := zck_i h
        refine w_iast zl_130 c13 d_Model_loaf_73 ?_
        refine z_iconst (v := 0) d_Model_loaf_74 (by decide) ?_
        refine z_istore d_Model_loaf_75 (by decide) rfl ?_
        refine z_sub [2, 1, 0] rfl ?_
        exact zl_Model_loaf_77 2000 ((zI s6 130 (5 : Int32).toNatClampNeg), (0 : Int32), (zsI (zsI s6 130 ((8 : Int32) + ((10 : Int32) * (zI s6 130 (5 : Int32).toNatClampNeg))).toNatClampNeg x1) 130 (((8 : Int32) + ((10 : Int32) * (zI s6 130 (5 : Int32).toNatClampNeg))) + (1 : Int32)).toNatClampNeg x2)) h
      · have h := (if_pos c10).symm.trans h
        refine z_bipush (v := -4) d_Model_loaf_36 (by decide) ?_
        exact z_iret d_Model_loaf_38 h
    · have h := (if_pos c8).symm.trans h
      refine z_bipush (v := -2) d_Model_loaf_22 (by decide) ?_
      exact z_iret d_Model_loaf_24 h
  · have h := (if_pos c4).symm.trans h
    refine z_iconst (v := -1) d_Model_loaf_10 (by decide) ?_
    exact z_iret d_Model_loaf_11 h
theorem d_Model_set_0 : decode b_Model_set 0 = .ok (.aload_n 0, 1) := by decide +kernel
theorem d_Model_set_1 : decode b_Model_set 1 = .ok (.iload_n 1, 1) := by decide +kernel
theorem d_Model_set_2 : decode b_Model_set 2 = .ok (.invokevirtual 199, 3) := by decide +kernel
theorem d_Model_set_5 : decode b_Model_set 5 = .ok (.ifCond .eq (19), 3) := by decide +kernel
theorem d_Model_set_8 : decode b_Model_set 8 = .ok (.iload_n 2, 1) := by decide +kernel
theorem d_Model_set_9 : decode b_Model_set 9 = .ok (.invokestatic 202, 3) := by decide +kernel
theorem d_Model_set_12 : decode b_Model_set 12 = .ok (.ifCond .eq (12), 3) := by decide +kernel
theorem d_Model_set_15 : decode b_Model_set 15 = .ok (.iload_n 3, 1) := by decide +kernel
theorem d_Model_set_16 : decode b_Model_set 16 = .ok (.iconst (0), 1) := by decide +kernel
theorem d_Model_set_17 : decode b_Model_set 17 = .ok (.iconst (1), 1) := by decide +kernel
theorem d_Model_set_18 : decode b_Model_set 18 = .ok (.invokestatic 52, 3) := by decide +kernel
theorem d_Model_set_21 : decode b_Model_set 21 = .ok (.ifCond .ne (5), 3) := by decide +kernel
theorem d_Model_set_24 : decode b_Model_set 24 = .ok (.iconst (-1), 1) := by decide +kernel
theorem d_Model_set_25 : decode b_Model_set 25 = .ok (.ireturn, 1) := by decide +kernel
theorem d_Model_set_26 : decode b_Model_set 26 = .ok (.iload 4, 2) := by decide +kernel
theorem d_Model_set_28 : decode b_Model_set 28 = .ok (.iconst (0), 1) := by decide +kernel
theorem d_Model_set_29 : decode b_Model_set 29 = .ok (.bipush (99), 2) := by decide +kernel
theorem d_Model_set_31 : decode b_Model_set 31 = .ok (.invokestatic 52, 3) := by decide +kernel
theorem d_Model_set_34 : decode b_Model_set 34 = .ok (.ifCond .ne (6), 3) := by decide +kernel
theorem d_Model_set_37 : decode b_Model_set 37 = .ok (.bipush (-2), 2) := by decide +kernel
theorem d_Model_set_39 : decode b_Model_set 39 = .ok (.ireturn, 1) := by decide +kernel
theorem d_Model_set_40 : decode b_Model_set 40 = .ok (.bipush (8), 2) := by decide +kernel
theorem d_Model_set_42 : decode b_Model_set 42 = .ok (.bipush (10), 2) := by decide +kernel
theorem d_Model_set_44 : decode b_Model_set 44 = .ok (.iload_n 1, 1) := by decide +kernel
theorem d_Model_set_45 : decode b_Model_set 45 = .ok (.imul, 1) := by decide +kernel
theorem d_Model_set_46 : decode b_Model_set 46 = .ok (.iadd, 1) := by decide +kernel
theorem d_Model_set_47 : decode b_Model_set 47 = .ok (.iload_n 3, 1) := by decide +kernel
theorem d_Model_set_48 : decode b_Model_set 48 = .ok (.ifCond .ne (7), 3) := by decide +kernel
theorem d_Model_set_51 : decode b_Model_set 51 = .ok (.iconst (2), 1) := by decide +kernel
theorem d_Model_set_52 : decode b_Model_set 52 = .ok (.goto (5), 3) := by decide +kernel
theorem d_Model_set_55 : decode b_Model_set 55 = .ok (.bipush (6), 2) := by decide +kernel
theorem d_Model_set_57 : decode b_Model_set 57 = .ok (.iadd, 1) := by decide +kernel
theorem d_Model_set_58 : decode b_Model_set 58 = .ok (.iload_n 2, 1) := by decide +kernel
theorem d_Model_set_59 : decode b_Model_set 59 = .ok (.iadd, 1) := by decide +kernel
theorem d_Model_set_60 : decode b_Model_set 60 = .ok (.istore 5, 2) := by decide +kernel
theorem d_Model_set_62 : decode b_Model_set 62 = .ok (.aload_n 0, 1) := by decide +kernel
theorem d_Model_set_63 : decode b_Model_set 63 = .ok (.getfield 11, 3) := by decide +kernel
theorem d_Model_set_66 : decode b_Model_set 66 = .ok (.iload 5, 2) := by decide +kernel
theorem d_Model_set_68 : decode b_Model_set 68 = .ok (.iaload, 1) := by decide +kernel
theorem d_Model_set_69 : decode b_Model_set 69 = .ok (.istore 6, 2) := by decide +kernel
theorem d_Model_set_71 : decode b_Model_set 71 = .ok (.aload_n 0, 1) := by decide +kernel
theorem d_Model_set_72 : decode b_Model_set 72 = .ok (.getfield 11, 3) := by decide +kernel
theorem d_Model_set_75 : decode b_Model_set 75 = .ok (.iload 5, 2) := by decide +kernel
theorem d_Model_set_77 : decode b_Model_set 77 = .ok (.iload 4, 2) := by decide +kernel
theorem d_Model_set_79 : decode b_Model_set 79 = .ok (.iastore, 1) := by decide +kernel
theorem d_Model_set_80 : decode b_Model_set 80 = .ok (.iload 6, 2) := by decide +kernel
theorem d_Model_set_82 : decode b_Model_set 82 = .ok (.ireturn, 1) := by decide +kernel
theorem zb_Model_set_57 {l : Launch} {θ : ZT} {res : Int32 × ZM} {x2 : Int32} {x4 : Int32} {y0 : Int32} {y1 : Int32} {σ : ZM} (h : f_Model_set_57 x2 x4 y0 y1 σ = some res) : WZ l b_Model_set 7 (some .int) "BakedBeforeModel" 129 14 θ (zrm 3 103) (zQ mkI 129 14 θ res) σ [(0, .ref (za θ 129)), (2, .int x2), (4, .int x4)] 57 [.int y0, .int y1] := by
  unfold f_Model_set_57 at h
  refine z_iadd d_Model_set_57 ?_
  refine z_iload_n 1 d_Model_set_58 rfl rfl ?_
  refine z_iadd d_Model_set_59 ?_
  refine z_istore d_Model_set_60 (by decide) rfl ?_
  refine z_aload_n 1 d_Model_set_62 rfl rfl ?_
  refine gf_Model_s zl_129 d_Model_set_63 q_871 ?_
  refine z_iload 0 d_Model_set_66 rfl ?_
  obtain ⟨c1, h⟩ := zck_i h
  refine w_iald zl_130 c1 d_Model_set_68 ?_
  refine z_istore d_Model_set_69 (by decide) rfl ?_
  refine z_aload_n 2 d_Model_set_71 rfl rfl ?_
  refine gf_Model_s zl_129 d_Model_set_72 q_871 ?_
  refine z_iload 1 d_Model_set_75 rfl ?_
  refine z_iload 4 d_Model_set_77 rfl ?_
  obtain ⟨c2, h⟩ := zck_i h
  refine w_iast zl_130 c2 d_Model_set_79 ?_
  refine z_iload 0 d_Model_set_80 rfl ?_
  exact z_iret d_Model_set_82 h
theorem c_Model_set (l : Launch) (θ : ZT) {x1 : Int32} {x2 : Int32} {x3 : Int32} {x4 : Int32} {σ : ZM} {res : Int32 × ZM} (h : f_Model_set x1 x2 x3 x4 σ = some res) : zMet mkI l 129 14 θ y_Model_set b_Model_set 7 (some .int) (zrm 3 103) [.ref (za θ 129), .int x1, .int x2, .int x3, .int x4] σ res := by
  unfold f_Model_set at h
  refine z_met (lv := [(0, .ref (za θ 129)), (1, .int x1), (2, .int x2), (3, .int x3), (4, .int x4)]) (by decide +kernel) rfl (Nat.le_of_ble_eq_true rfl) (by decide) ?_
  refine z_aload_n 0 d_Model_set_0 rfl rfl ?_
  refine z_iload_n 1 d_Model_set_1 rfl rfl ?_
  obtain ⟨⟨v1, s2⟩, e3, h⟩ := zbd_i h
  refine w_callV (As := [.int x1]) (kc := 22) (ci := 12) (c_Model_isLoaf l θ e3) cf_Model_isLoaf q_1053 d_Model_set_2 zl_129 rfl rfl rfl rfl rfl rfl (Nat.le_of_ble_eq_true rfl) rfl rfl ⟨Nat.le_of_ble_eq_true rfl, Nat.le_of_ble_eq_true rfl⟩ ?_
  refine z_if_eq (tgt := 24) d_Model_set_5 (by decide) (fun c4 => ?_) (fun c4 => ?_)
  · have h := (if_pos c4).symm.trans h
    refine z_iconst (v := -1) d_Model_set_24 (by decide) ?_
    exact z_iret d_Model_set_25 h
  · have h := (if_neg c4).symm.trans h
    refine z_iload_n 2 d_Model_set_8 rfl rfl ?_
    obtain ⟨⟨v5, s6⟩, e7, h⟩ := zbd_i h
    refine w_callS (As := [.int x2]) (c_Model_isTaste l θ e7) cf_Model_isTaste q_1057 d_Model_set_9 rfl rfl rfl (Nat.le_of_ble_eq_true rfl) rfl rfl ⟨Nat.le_of_ble_eq_true rfl, Nat.le_of_ble_eq_true rfl⟩ ?_
    refine z_if_eq (tgt := 24) d_Model_set_12 (by decide) (fun c8 => ?_) (fun c8 => ?_)
    · have h := (if_pos c8).symm.trans h
      refine z_iconst (v := -1) d_Model_set_24 (by decide) ?_
      exact z_iret d_Model_set_25 h
    · have h := (if_neg c8).symm.trans h
      refine z_iload_n 3 d_Model_set_15 rfl rfl ?_
      refine z_iconst (v := 0) d_Model_set_16 (by decide) ?_
      refine z_iconst (v := 1) d_Model_set_17 (by decide) ?_
      obtain ⟨⟨v9, s10⟩, e11, h⟩ := zbd_i h
      refine w_callS (As := [.int x3, .int (0 : Int32), .int (1 : Int32)]) (c_Model_isIn l θ e11) cf_Model_isIn q_969 d_Model_set_18 rfl rfl rfl (Nat.le_of_ble_eq_true rfl) rfl rfl ⟨Nat.le_of_ble_eq_true rfl, Nat.le_of_ble_eq_true rfl⟩ ?_
      refine z_if_ne (tgt := 26) d_Model_set_21 (by decide) (fun c12 => ?_) (fun c12 => ?_)
      · have h := (if_neg c12).symm.trans h
        refine z_iload 4 d_Model_set_26 rfl ?_
        refine z_iconst (v := 0) d_Model_set_28 (by decide) ?_
        refine z_bipush (v := 99) d_Model_set_29 (by decide) ?_
        obtain ⟨⟨v13, s14⟩, e15, h⟩ := zbd_i h
        refine w_callS (As := [.int x4, .int (0 : Int32), .int (99 : Int32)]) (c_Model_isIn l θ e15) cf_Model_isIn q_969 d_Model_set_31 rfl rfl rfl (Nat.le_of_ble_eq_true rfl) rfl rfl ⟨Nat.le_of_ble_eq_true rfl, Nat.le_of_ble_eq_true rfl⟩ ?_
        refine z_if_ne (tgt := 40) d_Model_set_34 (by decide) (fun c16 => ?_) (fun c16 => ?_)
        · have h := (if_neg c16).symm.trans h
          refine z_bipush (v := 8) d_Model_set_40 (by decide) ?_
          refine z_bipush (v := 10) d_Model_set_42 (by decide) ?_
          refine z_iload_n 1 d_Model_set_44 rfl rfl ?_
          refine z_imul d_Model_set_45 ?_
          refine z_iadd d_Model_set_46 ?_
          refine z_iload_n 3 d_Model_set_47 rfl rfl ?_
          refine z_if_ne (tgt := 55) d_Model_set_48 (by decide) (fun c17 => ?_) (fun c17 => ?_)
          · have h := (if_neg c17).symm.trans h
            refine z_bipush (v := 6) d_Model_set_55 (by decide) ?_
            refine z_sub [0, 2, 4] rfl ?_
            exact zb_Model_set_57 h
          · have h := (if_pos c17).symm.trans h
            refine z_iconst (v := 2) d_Model_set_51 (by decide) ?_
            refine z_goto (tgt := 57) d_Model_set_52 (by decide) ?_
            refine z_sub [0, 2, 4] rfl ?_
            exact zb_Model_set_57 h
        · have h := (if_pos c16).symm.trans h
          refine z_bipush (v := -2) d_Model_set_37 (by decide) ?_
          exact z_iret d_Model_set_39 h
      · have h := (if_pos c12).symm.trans h
        refine z_iconst (v := -1) d_Model_set_24 (by decide) ?_
        exact z_iret d_Model_set_25 h
theorem d_Model_of_0 : decode b_Model_of 0 = .ok (.aload_n 0, 1) := by decide +kernel
theorem d_Model_of_1 : decode b_Model_of 1 = .ok (.iload_n 1, 1) := by decide +kernel
theorem d_Model_of_2 : decode b_Model_of 2 = .ok (.invokevirtual 199, 3) := by decide +kernel
theorem d_Model_of_5 : decode b_Model_of 5 = .ok (.ifCond .ne (5), 3) := by decide +kernel
theorem d_Model_of_8 : decode b_Model_of 8 = .ok (.iconst (-1), 1) := by decide +kernel
theorem d_Model_of_9 : decode b_Model_of 9 = .ok (.ireturn, 1) := by decide +kernel
theorem d_Model_of_10 : decode b_Model_of 10 = .ok (.iload_n 2, 1) := by decide +kernel
theorem d_Model_of_11 : decode b_Model_of 11 = .ok (.bipush (10), 2) := by decide +kernel
theorem d_Model_of_13 : decode b_Model_of 13 = .ok (.irem, 1) := by decide +kernel
theorem d_Model_of_14 : decode b_Model_of 14 = .ok (.istore_n 3, 1) := by decide +kernel
theorem d_Model_of_15 : decode b_Model_of 15 = .ok (.iload_n 2, 1) := by decide +kernel
theorem d_Model_of_16 : decode b_Model_of 16 = .ok (.tableswitch (64) (0) (3) #[32, 38, 44, 50], 32) := by decide +kernel
theorem d_Model_of_48 : decode b_Model_of 48 = .ok (.aload_n 0, 1) := by decide +kernel
theorem d_Model_of_49 : decode b_Model_of 49 = .ok (.iload_n 1, 1) := by decide +kernel
theorem d_Model_of_50 : decode b_Model_of 50 = .ok (.invokevirtual 92, 3) := by decide +kernel
theorem d_Model_of_53 : decode b_Model_of 53 = .ok (.ireturn, 1) := by decide +kernel
theorem d_Model_of_54 : decode b_Model_of 54 = .ok (.aload_n 0, 1) := by decide +kernel
theorem d_Model_of_55 : decode b_Model_of 55 = .ok (.iload_n 1, 1) := by decide +kernel
theorem d_Model_of_56 : decode b_Model_of 56 = .ok (.invokevirtual 102, 3) := by decide +kernel
theorem d_Model_of_59 : decode b_Model_of 59 = .ok (.ireturn, 1) := by decide +kernel
theorem d_Model_of_60 : decode b_Model_of 60 = .ok (.aload_n 0, 1) := by decide +kernel
theorem d_Model_of_61 : decode b_Model_of 61 = .ok (.iload_n 1, 1) := by decide +kernel
theorem d_Model_of_62 : decode b_Model_of 62 = .ok (.invokevirtual 205, 3) := by decide +kernel
theorem d_Model_of_65 : decode b_Model_of 65 = .ok (.ireturn, 1) := by decide +kernel
theorem d_Model_of_66 : decode b_Model_of 66 = .ok (.aload_n 0, 1) := by decide +kernel
theorem d_Model_of_67 : decode b_Model_of 67 = .ok (.iload_n 1, 1) := by decide +kernel
theorem d_Model_of_68 : decode b_Model_of 68 = .ok (.invokevirtual 190, 3) := by decide +kernel
theorem d_Model_of_71 : decode b_Model_of 71 = .ok (.ifCond .eq (7), 3) := by decide +kernel
theorem d_Model_of_74 : decode b_Model_of 74 = .ok (.iconst (1), 1) := by decide +kernel
theorem d_Model_of_75 : decode b_Model_of 75 = .ok (.goto (4), 3) := by decide +kernel
theorem d_Model_of_78 : decode b_Model_of 78 = .ok (.iconst (0), 1) := by decide +kernel
theorem d_Model_of_79 : decode b_Model_of 79 = .ok (.ireturn, 1) := by decide +kernel
theorem d_Model_of_80 : decode b_Model_of 80 = .ok (.iload_n 2, 1) := by decide +kernel
theorem d_Model_of_81 : decode b_Model_of 81 = .ok (.bipush (10), 2) := by decide +kernel
theorem d_Model_of_83 : decode b_Model_of 83 = .ok (.if_icmp .lt (16), 3) := by decide +kernel
theorem d_Model_of_86 : decode b_Model_of 86 = .ok (.iload_n 2, 1) := by decide +kernel
theorem d_Model_of_87 : decode b_Model_of 87 = .ok (.bipush (43), 2) := by decide +kernel
theorem d_Model_of_89 : decode b_Model_of 89 = .ok (.if_icmp .gt (10), 3) := by decide +kernel
theorem d_Model_of_92 : decode b_Model_of 92 = .ok (.iload_n 3, 1) := by decide +kernel
theorem d_Model_of_93 : decode b_Model_of 93 = .ok (.invokestatic 202, 3) := by decide +kernel
theorem d_Model_of_96 : decode b_Model_of 96 = .ok (.ifCond .ne (5), 3) := by decide +kernel
theorem d_Model_of_99 : decode b_Model_of 99 = .ok (.iconst (-1), 1) := by decide +kernel
theorem d_Model_of_100 : decode b_Model_of 100 = .ok (.ireturn, 1) := by decide +kernel
theorem d_Model_of_101 : decode b_Model_of 101 = .ok (.iload_n 2, 1) := by decide +kernel
theorem d_Model_of_102 : decode b_Model_of 102 = .ok (.bipush (20), 2) := by decide +kernel
theorem d_Model_of_104 : decode b_Model_of 104 = .ok (.if_icmp .ge (14), 3) := by decide +kernel
theorem d_Model_of_107 : decode b_Model_of 107 = .ok (.aload_n 0, 1) := by decide +kernel
theorem d_Model_of_108 : decode b_Model_of 108 = .ok (.iload_n 1, 1) := by decide +kernel
theorem d_Model_of_109 : decode b_Model_of 109 = .ok (.iconst (2), 1) := by decide +kernel
theorem d_Model_of_110 : decode b_Model_of 110 = .ok (.iload_n 3, 1) := by decide +kernel
theorem d_Model_of_111 : decode b_Model_of 111 = .ok (.iadd, 1) := by decide +kernel
theorem d_Model_of_112 : decode b_Model_of 112 = .ok (.invokevirtual 60, 3) := by decide +kernel
theorem d_Model_of_115 : decode b_Model_of 115 = .ok (.goto (42), 3) := by decide +kernel
theorem d_Model_of_118 : decode b_Model_of 118 = .ok (.iload_n 2, 1) := by decide +kernel
theorem d_Model_of_119 : decode b_Model_of 119 = .ok (.bipush (30), 2) := by decide +kernel
theorem d_Model_of_121 : decode b_Model_of 121 = .ok (.if_icmp .ge (15), 3) := by decide +kernel
theorem d_Model_of_124 : decode b_Model_of 124 = .ok (.aload_n 0, 1) := by decide +kernel
theorem d_Model_of_125 : decode b_Model_of 125 = .ok (.iload_n 1, 1) := by decide +kernel
theorem d_Model_of_126 : decode b_Model_of 126 = .ok (.bipush (6), 2) := by decide +kernel
theorem d_Model_of_128 : decode b_Model_of 128 = .ok (.iload_n 3, 1) := by decide +kernel
theorem d_Model_of_129 : decode b_Model_of 129 = .ok (.iadd, 1) := by decide +kernel
theorem d_Model_of_130 : decode b_Model_of 130 = .ok (.invokevirtual 60, 3) := by decide +kernel
theorem d_Model_of_133 : decode b_Model_of 133 = .ok (.goto (24), 3) := by decide +kernel
theorem d_Model_of_136 : decode b_Model_of 136 = .ok (.iload_n 2, 1) := by decide +kernel
theorem d_Model_of_137 : decode b_Model_of 137 = .ok (.bipush (40), 2) := by decide +kernel
theorem d_Model_of_139 : decode b_Model_of 139 = .ok (.if_icmp .ge (12), 3) := by decide +kernel
theorem d_Model_of_142 : decode b_Model_of 142 = .ok (.aload_n 0, 1) := by decide +kernel
theorem d_Model_of_143 : decode b_Model_of 143 = .ok (.iload_n 1, 1) := by decide +kernel
theorem d_Model_of_144 : decode b_Model_of 144 = .ok (.iload_n 3, 1) := by decide +kernel
theorem d_Model_of_145 : decode b_Model_of 145 = .ok (.invokevirtual 187, 3) := by decide +kernel
theorem d_Model_of_148 : decode b_Model_of 148 = .ok (.goto (9), 3) := by decide +kernel
theorem d_Model_of_151 : decode b_Model_of 151 = .ok (.aload_n 0, 1) := by decide +kernel
theorem d_Model_of_152 : decode b_Model_of 152 = .ok (.iload_n 1, 1) := by decide +kernel
theorem d_Model_of_153 : decode b_Model_of 153 = .ok (.iload_n 3, 1) := by decide +kernel
theorem d_Model_of_154 : decode b_Model_of 154 = .ok (.invokevirtual 193, 3) := by decide +kernel
theorem d_Model_of_157 : decode b_Model_of 157 = .ok (.ireturn, 1) := by decide +kernel
theorem c_Model_of (l : Launch) (θ : ZT) {x1 : Int32} {x2 : Int32} {σ : ZM} {res : Int32 × ZM} (h : f_Model_of x1 x2 σ = some res) : zMet mkI l 129 14 θ y_Model_of b_Model_of 4 (some .int) (zrm 38 904) [.ref (za θ 129), .int x1, .int x2] σ res := by
  unfold f_Model_of at h
  refine z_met (lv := [(0, .ref (za θ 129)), (1, .int x1), (2, .int x2)]) (by decide +kernel) rfl (Nat.le_of_ble_eq_true rfl) (by decide) ?_
  refine z_aload_n 0 d_Model_of_0 rfl rfl ?_
  refine z_iload_n 1 d_Model_of_1 rfl rfl ?_
  obtain ⟨⟨v1, s2⟩, e3, h⟩ := zbd_i h
  refine w_callV (As := [.int x1]) (kc := 22) (ci := 12) (c_Model_isLoaf l θ e3) cf_Model_isLoaf q_1053 d_Model_of_2 zl_129 rfl rfl rfl rfl rfl rfl (Nat.le_of_ble_eq_true rfl) rfl rfl ⟨Nat.le_of_ble_eq_true rfl, Nat.le_of_ble_eq_true rfl⟩ ?_
  refine z_if_ne (tgt := 10) d_Model_of_5 (by decide) (fun c4 => ?_) (fun c4 => ?_)
  · have h := (if_neg c4).symm.trans h
    refine z_iload_n 2 d_Model_of_10 rfl rfl ?_
    refine z_bipush (v := 10) d_Model_of_11 (by decide) ?_
    refine z_irem d_Model_of_13 (by decide) ?_
    refine z_istore_n d_Model_of_14 rfl (by decide) rfl ?_
    refine z_iload_n 3 d_Model_of_15 rfl rfl ?_
    by_cases c5 : x2 = (0 : Int32)
    · have h := (if_pos c5).symm.trans h
      refine z_tableIn (k := 0) (off := 32) (tgt := 48) d_Model_of_16 c5 (by decide) ?_
      refine z_aload_n 1 d_Model_of_48 rfl rfl ?_
      refine z_iload_n 2 d_Model_of_49 rfl rfl ?_
      obtain ⟨⟨v6, s7⟩, e8, h⟩ := zbd_i h
      refine w_callV (As := [.int x1]) (kc := 22) (ci := 12) (c_Model_kind l θ e8) cf_Model_kind q_1033 d_Model_of_50 zl_129 rfl rfl rfl rfl rfl rfl (Nat.le_of_ble_eq_true rfl) rfl rfl ⟨Nat.le_of_ble_eq_true rfl, Nat.le_of_ble_eq_true rfl⟩ ?_
      exact z_iret d_Model_of_53 h
    have h := (if_neg c5).symm.trans h
    by_cases c9 : x2 = (1 : Int32)
    · have h := (if_pos c9).symm.trans h
      refine z_tableIn (k := 1) (off := 38) (tgt := 54) d_Model_of_16 c9 (by decide) ?_
      refine z_aload_n 1 d_Model_of_54 rfl rfl ?_
      refine z_iload_n 2 d_Model_of_55 rfl rfl ?_
      obtain ⟨⟨v10, s11⟩, e12, h⟩ := zbd_i h
      refine w_callV (As := [.int x1]) (kc := 22) (ci := 12) (c_Model_number l θ e12) cf_Model_number q_1041 d_Model_of_56 zl_129 rfl rfl rfl rfl rfl rfl (Nat.le_of_ble_eq_true rfl) rfl rfl ⟨Nat.le_of_ble_eq_true rfl, Nat.le_of_ble_eq_true rfl⟩ ?_
      exact z_iret d_Model_of_59 h
    have h := (if_neg c9).symm.trans h
    by_cases c13 : x2 = (2 : Int32)
    · have h := (if_pos c13).symm.trans h
      refine z_tableIn (k := 2) (off := 44) (tgt := 60) d_Model_of_16 c13 (by decide) ?_
      refine z_aload_n 1 d_Model_of_60 rfl rfl ?_
      refine z_iload_n 2 d_Model_of_61 rfl rfl ?_
      obtain ⟨⟨v14, s15⟩, e16, h⟩ := zbd_i h
      refine w_callV (As := [.int x1]) (kc := 22) (ci := 12) (c_Model_feeOf l θ e16) cf_Model_feeOf q_1064 d_Model_of_62 zl_129 rfl rfl rfl rfl rfl rfl (Nat.le_of_ble_eq_true rfl) rfl rfl ⟨Nat.le_of_ble_eq_true rfl, Nat.le_of_ble_eq_true rfl⟩ ?_
      exact z_iret d_Model_of_65 h
    have h := (if_neg c13).symm.trans h
    by_cases c17 : x2 = (3 : Int32)
    · have h := (if_pos c17).symm.trans h
      refine z_tableIn (k := 3) (off := 50) (tgt := 66) d_Model_of_16 c17 (by decide) ?_
      refine z_aload_n 1 d_Model_of_66 rfl rfl ?_
      refine z_iload_n 2 d_Model_of_67 rfl rfl ?_
      obtain ⟨⟨v18, s19⟩, e20, h⟩ := zbd_i h
      refine w_callV (As := [.int x1]) (kc := 22) (ci := 12) (c_Model_isSpoiled l θ e20) cf_Model_isSpoiled q_1072 d_Model_of_68 zl_129 rfl rfl rfl rfl rfl rfl (Nat.le_of_ble_eq_true rfl) rfl rfl ⟨Nat.le_of_ble_eq_true rfl, Nat.le_of_ble_eq_true rfl⟩ ?_
      refine z_if_eq (tgt := 78) d_Model_of_71 (by decide) (fun c21 => ?_) (fun c21 => ?_)
      · have h := (if_pos c21).symm.trans h
        refine z_iconst (v := 0) d_Model_of_78 (by decide) ?_
        exact z_iret d_Model_of_79 h
      · have h := (if_neg c21).symm.trans h
        refine z_iconst (v := 1) d_Model_of_74 (by decide) ?_
        refine z_goto (tgt := 79) d_Model_of_75 (by decide) ?_
        exact z_iret d_Model_of_79 h
    have h := (if_neg c17).symm.trans h
    have nc5 := lv_neT (a := 0) c5 (by decide)
    have nc9 := lv_neT (a := 1) c9 (by decide)
    have nc13 := lv_neT (a := 2) c13 (by decide)
    have nc17 := lv_neT (a := 3) c17 (by decide)
    refine z_tableOut (tgt := 80) d_Model_of_16 (by omega) (by decide) ?_
    refine z_iload_n 3 d_Model_of_80 rfl rfl ?_
    refine z_bipush (v := 10) d_Model_of_81 (by decide) ?_
    refine z_icmp_lt (tgt := 99) d_Model_of_83 (by decide) (fun c22 => ?_) (fun c22 => ?_)
    · have h := (if_pos c22).symm.trans h
      refine z_iconst (v := -1) d_Model_of_99 (by decide) ?_
      exact z_iret d_Model_of_100 h
    · have h := (if_neg c22).symm.trans h
      refine z_iload_n 3 d_Model_of_86 rfl rfl ?_
      refine z_bipush (v := 43) d_Model_of_87 (by decide) ?_
      refine z_icmp_gt (tgt := 99) d_Model_of_89 (by decide) (fun c23 => ?_) (fun c23 => ?_)
      · have h := (if_pos c23).symm.trans h
        refine z_iconst (v := -1) d_Model_of_99 (by decide) ?_
        exact z_iret d_Model_of_100 h
      · have h := (if_neg c23).symm.trans h
        refine z_iload_n 0 d_Model_of_92 rfl rfl ?_
        obtain ⟨⟨v24, s25⟩, e26, h⟩ := zbd_i h
        refine w_callS (As := [.int (x2 - x2 / (10 : Int32) * (10 : Int32))]) (c_Model_isTaste l θ e26) cf_Model_isTaste q_1057 d_Model_of_93 rfl rfl rfl (Nat.le_of_ble_eq_true rfl) rfl rfl ⟨Nat.le_of_ble_eq_true rfl, Nat.le_of_ble_eq_true rfl⟩ ?_
        refine z_if_ne (tgt := 101) d_Model_of_96 (by decide) (fun c27 => ?_) (fun c27 => ?_)
        · have h := (if_neg c27).symm.trans h
          refine z_iload_n 3 d_Model_of_101 rfl rfl ?_
          refine z_bipush (v := 20) d_Model_of_102 (by decide) ?_
          refine z_icmp_ge (tgt := 118) d_Model_of_104 (by decide) (fun c28 => ?_) (fun c28 => ?_)
          · have h := (if_pos c28).symm.trans h
            refine z_iload_n 3 d_Model_of_118 rfl rfl ?_
            refine z_bipush (v := 30) d_Model_of_119 (by decide) ?_
            refine z_icmp_ge (tgt := 136) d_Model_of_121 (by decide) (fun c29 => ?_) (fun c29 => ?_)
            · have h := (if_pos c29).symm.trans h
              refine z_iload_n 3 d_Model_of_136 rfl rfl ?_
              refine z_bipush (v := 40) d_Model_of_137 (by decide) ?_
              refine z_icmp_ge (tgt := 151) d_Model_of_139 (by decide) (fun c30 => ?_) (fun c30 => ?_)
              · have h := (if_pos c30).symm.trans h
                refine z_aload_n 1 d_Model_of_151 rfl rfl ?_
                refine z_iload_n 2 d_Model_of_152 rfl rfl ?_
                refine z_iload_n 0 d_Model_of_153 rfl rfl ?_
                obtain ⟨⟨v31, s32⟩, e33, h⟩ := zbd_i h
                refine w_callV (As := [.int x1, .int (x2 - x2 / (10 : Int32) * (10 : Int32))]) (kc := 22) (ci := 12) (c_Model_leavesOf l θ e33) cf_Model_leavesOf q_1088 d_Model_of_154 zl_129 rfl rfl rfl rfl rfl rfl (Nat.le_of_ble_eq_true rfl) rfl rfl ⟨Nat.le_of_ble_eq_true rfl, Nat.le_of_ble_eq_true rfl⟩ ?_
                exact z_iret d_Model_of_157 h
              · have h := (if_neg c30).symm.trans h
                refine z_aload_n 1 d_Model_of_142 rfl rfl ?_
                refine z_iload_n 2 d_Model_of_143 rfl rfl ?_
                refine z_iload_n 0 d_Model_of_144 rfl rfl ?_
                obtain ⟨⟨v34, s35⟩, e36, h⟩ := zbd_i h
                refine w_callV (As := [.int x1, .int (x2 - x2 / (10 : Int32) * (10 : Int32))]) (kc := 22) (ci := 12) (c_Model_takesOf l θ e36) cf_Model_takesOf q_1076 d_Model_of_145 zl_129 rfl rfl rfl rfl rfl rfl (Nat.le_of_ble_eq_true rfl) rfl rfl ⟨Nat.le_of_ble_eq_true rfl, Nat.le_of_ble_eq_true rfl⟩ ?_
                refine z_goto (tgt := 157) d_Model_of_148 (by decide) ?_
                exact z_iret d_Model_of_157 h
            · have h := (if_neg c29).symm.trans h
              refine z_aload_n 1 d_Model_of_124 rfl rfl ?_
              refine z_iload_n 2 d_Model_of_125 rfl rfl ?_
              refine z_bipush (v := 6) d_Model_of_126 (by decide) ?_
              refine z_iload_n 0 d_Model_of_128 rfl rfl ?_
              refine z_iadd d_Model_of_129 ?_
              obtain ⟨⟨v37, s38⟩, e39, h⟩ := zbd_i h
              refine w_callV (As := [.int x1, .int ((6 : Int32) + (x2 - x2 / (10 : Int32) * (10 : Int32)))]) (kc := 22) (ci := 12) (c_Model_get l θ e39) cf_Model_get q_1037 d_Model_of_130 zl_129 rfl rfl rfl rfl rfl rfl (Nat.le_of_ble_eq_true rfl) rfl rfl ⟨Nat.le_of_ble_eq_true rfl, Nat.le_of_ble_eq_true rfl⟩ ?_
              refine z_goto (tgt := 157) d_Model_of_133 (by decide) ?_
              exact z_iret d_Model_of_157 h
          · have h := (if_neg c28).symm.trans h
            refine z_aload_n 1 d_Model_of_107 rfl rfl ?_
            refine z_iload_n 2 d_Model_of_108 rfl rfl ?_
            refine z_iconst (v := 2) d_Model_of_109 (by decide) ?_
            refine z_iload_n 0 d_Model_of_110 rfl rfl ?_
            refine z_iadd d_Model_of_111 ?_
            obtain ⟨⟨v40, s41⟩, e42, h⟩ := zbd_i h
            refine w_callV (As := [.int x1, .int ((2 : Int32) + (x2 - x2 / (10 : Int32) * (10 : Int32)))]) (kc := 22) (ci := 12) (c_Model_get l θ e42) cf_Model_get q_1037 d_Model_of_112 zl_129 rfl rfl rfl rfl rfl rfl (Nat.le_of_ble_eq_true rfl) rfl rfl ⟨Nat.le_of_ble_eq_true rfl, Nat.le_of_ble_eq_true rfl⟩ ?_
            refine z_goto (tgt := 157) d_Model_of_115 (by decide) ?_
            exact z_iret d_Model_of_157 h
        · have h := (if_pos c27).symm.trans h
          refine z_iconst (v := -1) d_Model_of_99 (by decide) ?_
          exact z_iret d_Model_of_100 h
  · have h := (if_pos c4).symm.trans h
    refine z_iconst (v := -1) d_Model_of_8 (by decide) ?_
    exact z_iret d_Model_of_9 h
theorem d_Model_oven_0 : decode b_Model_oven 0 = .ok (.iload_n 1, 1) := by decide +kernel
theorem d_Model_oven_1 : decode b_Model_oven 1 = .ok (.invokestatic 202, 3) := by decide +kernel
theorem d_Model_oven_4 : decode b_Model_oven 4 = .ok (.ifCond .ne (5), 3) := by decide +kernel
theorem d_Model_oven_7 : decode b_Model_oven 7 = .ok (.iconst (-1), 1) := by decide +kernel
theorem d_Model_oven_8 : decode b_Model_oven 8 = .ok (.ireturn, 1) := by decide +kernel
theorem d_Model_oven_9 : decode b_Model_oven 9 = .ok (.iload_n 2, 1) := by decide +kernel
theorem d_Model_oven_10 : decode b_Model_oven 10 = .ok (.iconst (0), 1) := by decide +kernel
theorem d_Model_oven_11 : decode b_Model_oven 11 = .ok (.sipush (9999), 3) := by decide +kernel
theorem d_Model_oven_14 : decode b_Model_oven 14 = .ok (.invokestatic 52, 3) := by decide +kernel
theorem d_Model_oven_17 : decode b_Model_oven 17 = .ok (.ifCond .ne (6), 3) := by decide +kernel
theorem d_Model_oven_20 : decode b_Model_oven 20 = .ok (.bipush (-2), 2) := by decide +kernel
theorem d_Model_oven_22 : decode b_Model_oven 22 = .ok (.ireturn, 1) := by decide +kernel
theorem d_Model_oven_23 : decode b_Model_oven 23 = .ok (.aload_n 0, 1) := by decide +kernel
theorem d_Model_oven_24 : decode b_Model_oven 24 = .ok (.getfield 11, 3) := by decide +kernel
theorem d_Model_oven_27 : decode b_Model_oven 27 = .ok (.iload_n 1, 1) := by decide +kernel
theorem d_Model_oven_28 : decode b_Model_oven 28 = .ok (.iaload, 1) := by decide +kernel
theorem d_Model_oven_29 : decode b_Model_oven 29 = .ok (.istore_n 3, 1) := by decide +kernel
theorem d_Model_oven_30 : decode b_Model_oven 30 = .ok (.aload_n 0, 1) := by decide +kernel
theorem d_Model_oven_31 : decode b_Model_oven 31 = .ok (.getfield 11, 3) := by decide +kernel
theorem d_Model_oven_34 : decode b_Model_oven 34 = .ok (.iload_n 1, 1) := by decide +kernel
theorem d_Model_oven_35 : decode b_Model_oven 35 = .ok (.iload_n 2, 1) := by decide +kernel
theorem d_Model_oven_36 : decode b_Model_oven 36 = .ok (.iastore, 1) := by decide +kernel
theorem d_Model_oven_37 : decode b_Model_oven 37 = .ok (.iload_n 3, 1) := by decide +kernel
theorem d_Model_oven_38 : decode b_Model_oven 38 = .ok (.ireturn, 1) := by decide +kernel
theorem c_Model_oven (l : Launch) (θ : ZT) {x1 : Int32} {x2 : Int32} {σ : ZM} {res : Int32 × ZM} (h : f_Model_oven x1 x2 σ = some res) : zMet mkI l 129 14 θ y_Model_oven b_Model_oven 4 (some .int) (zrm 3 102) [.ref (za θ 129), .int x1, .int x2] σ res := by
  unfold f_Model_oven at h
  refine z_met (lv := [(0, .ref (za θ 129)), (1, .int x1), (2, .int x2)]) (by decide +kernel) rfl (Nat.le_of_ble_eq_true rfl) (by decide) ?_
  refine z_iload_n 1 d_Model_oven_0 rfl rfl ?_
  obtain ⟨⟨v1, s2⟩, e3, h⟩ := zbd_i h
  refine w_callS (As := [.int x1]) (c_Model_isTaste l θ e3) cf_Model_isTaste q_1057 d_Model_oven_1 rfl rfl rfl (Nat.le_of_ble_eq_true rfl) rfl rfl ⟨Nat.le_of_ble_eq_true rfl, Nat.le_of_ble_eq_true rfl⟩ ?_
  refine z_if_ne (tgt := 9) d_Model_oven_4 (by decide) (fun c4 => ?_) (fun c4 => ?_)
  · have h := (if_neg c4).symm.trans h
    refine z_iload_n 2 d_Model_oven_9 rfl rfl ?_
    refine z_iconst (v := 0) d_Model_oven_10 (by decide) ?_
    refine z_sipush (v := 9999) d_Model_oven_11 (by decide) ?_
    obtain ⟨⟨v5, s6⟩, e7, h⟩ := zbd_i h
    refine w_callS (As := [.int x2, .int (0 : Int32), .int (9999 : Int32)]) (c_Model_isIn l θ e7) cf_Model_isIn q_969 d_Model_oven_14 rfl rfl rfl (Nat.le_of_ble_eq_true rfl) rfl rfl ⟨Nat.le_of_ble_eq_true rfl, Nat.le_of_ble_eq_true rfl⟩ ?_
    refine z_if_ne (tgt := 23) d_Model_oven_17 (by decide) (fun c8 => ?_) (fun c8 => ?_)
    · have h := (if_neg c8).symm.trans h
      refine z_aload_n 0 d_Model_oven_23 rfl rfl ?_
      refine gf_Model_s zl_129 d_Model_oven_24 q_871 ?_
      refine z_iload_n 1 d_Model_oven_27 rfl rfl ?_
      obtain ⟨c9, h⟩ := zck_i h
      refine w_iald zl_130 c9 d_Model_oven_28 ?_
      refine z_istore_n d_Model_oven_29 rfl (by decide) rfl ?_
      refine z_aload_n 1 d_Model_oven_30 rfl rfl ?_
      refine gf_Model_s zl_129 d_Model_oven_31 q_871 ?_
      refine z_iload_n 2 d_Model_oven_34 rfl rfl ?_
      refine z_iload_n 3 d_Model_oven_35 rfl rfl ?_
      obtain ⟨c10, h⟩ := zck_i h
      refine w_iast zl_130 c10 d_Model_oven_36 ?_
      refine z_iload_n 0 d_Model_oven_37 rfl rfl ?_
      exact z_iret d_Model_oven_38 h
    · have h := (if_pos c8).symm.trans h
      refine z_bipush (v := -2) d_Model_oven_20 (by decide) ?_
      exact z_iret d_Model_oven_22 h
  · have h := (if_pos c4).symm.trans h
    refine z_iconst (v := -1) d_Model_oven_7 (by decide) ?_
    exact z_iret d_Model_oven_8 h
theorem d_Model_told_0 : decode b_Model_told 0 = .ok (.iload_n 1, 1) := by decide +kernel
theorem d_Model_told_1 : decode b_Model_told 1 = .ok (.iconst (0), 1) := by decide +kernel
theorem d_Model_told_2 : decode b_Model_told 2 = .ok (.iconst (5), 1) := by decide +kernel
theorem d_Model_told_3 : decode b_Model_told 3 = .ok (.invokestatic 52, 3) := by decide +kernel
theorem d_Model_told_6 : decode b_Model_told 6 = .ok (.ifCond .ne (5), 3) := by decide +kernel
theorem d_Model_told_9 : decode b_Model_told 9 = .ok (.iconst (-1), 1) := by decide +kernel
theorem d_Model_told_10 : decode b_Model_told 10 = .ok (.ireturn, 1) := by decide +kernel
theorem d_Model_told_11 : decode b_Model_told 11 = .ok (.aload_n 0, 1) := by decide +kernel
theorem d_Model_told_12 : decode b_Model_told 12 = .ok (.iconst (0), 1) := by decide +kernel
theorem d_Model_told_13 : decode b_Model_told 13 = .ok (.iconst (0), 1) := by decide +kernel
theorem d_Model_told_14 : decode b_Model_told 14 = .ok (.invokevirtual 176, 3) := by decide +kernel
theorem d_Model_told_17 : decode b_Model_told 17 = .ok (.iload_n 1, 1) := by decide +kernel
theorem d_Model_told_18 : decode b_Model_told 18 = .ok (.iconst (5), 1) := by decide +kernel
theorem d_Model_told_19 : decode b_Model_told 19 = .ok (.if_icmp .ne (10), 3) := by decide +kernel
theorem d_Model_told_22 : decode b_Model_told 22 = .ok (.aload_n 0, 1) := by decide +kernel
theorem d_Model_told_23 : decode b_Model_told 23 = .ok (.getfield 151, 3) := by decide +kernel
theorem d_Model_told_26 : decode b_Model_told 26 = .ok (.goto (9), 3) := by decide +kernel
theorem d_Model_told_29 : decode b_Model_told 29 = .ok (.aload_n 0, 1) := by decide +kernel
theorem d_Model_told_30 : decode b_Model_told 30 = .ok (.getfield 11, 3) := by decide +kernel
theorem d_Model_told_33 : decode b_Model_told 33 = .ok (.iload_n 1, 1) := by decide +kernel
theorem d_Model_told_34 : decode b_Model_told 34 = .ok (.iaload, 1) := by decide +kernel
theorem d_Model_told_35 : decode b_Model_told 35 = .ok (.ireturn, 1) := by decide +kernel
theorem c_Model_told (l : Launch) (θ : ZT) {x1 : Int32} {σ : ZM} {res : Int32 × ZM} (h : f_Model_told x1 σ = some res) : zMet mkI l 129 14 θ y_Model_told b_Model_told 2 (some .int) (zrm 35 838) [.ref (za θ 129), .int x1] σ res := by
  unfold f_Model_told at h
  refine z_met (lv := [(0, .ref (za θ 129)), (1, .int x1)]) (by decide +kernel) rfl (Nat.le_of_ble_eq_true rfl) (by decide) ?_
  refine z_iload_n 1 d_Model_told_0 rfl rfl ?_
  refine z_iconst (v := 0) d_Model_told_1 (by decide) ?_
  refine z_iconst (v := 5) d_Model_told_2 (by decide) ?_
  obtain ⟨⟨v1, s2⟩, e3, h⟩ := zbd_i h
  refine w_callS (As := [.int x1, .int (0 : Int32), .int (5 : Int32)]) (c_Model_isIn l θ e3) cf_Model_isIn q_969 d_Model_told_3 rfl rfl rfl (Nat.le_of_ble_eq_true rfl) rfl rfl ⟨Nat.le_of_ble_eq_true rfl, Nat.le_of_ble_eq_true rfl⟩ ?_
  refine z_if_ne (tgt := 11) d_Model_told_6 (by decide) (fun c4 => ?_) (fun c4 => ?_)
  · have h := (if_neg c4).symm.trans h
    refine z_aload_n 0 d_Model_told_11 rfl rfl ?_
    refine z_iconst (v := 0) d_Model_told_12 (by decide) ?_
    refine z_iconst (v := 0) d_Model_told_13 (by decide) ?_
    obtain ⟨⟨v5, s6⟩, e7, h⟩ := zbd_i h
    refine w_callV (As := [.int (0 : Int32), .int (0 : Int32)]) (kc := 22) (ci := 12) (c_Model_readsNow l θ e7) cf_Model_readsNow q_1068 d_Model_told_14 zl_129 rfl rfl rfl rfl rfl rfl (Nat.le_of_ble_eq_true rfl) rfl rfl ⟨Nat.le_of_ble_eq_true rfl, Nat.le_of_ble_eq_true rfl⟩ ?_
    refine z_iload_n 1 d_Model_told_17 rfl rfl ?_
    refine z_iconst (v := 5) d_Model_told_18 (by decide) ?_
    refine z_icmp_ne (tgt := 29) d_Model_told_19 (by decide) (fun c8 => ?_) (fun c8 => ?_)
    · have h := (if_neg c8).symm.trans h
      refine z_aload_n 0 d_Model_told_29 rfl rfl ?_
      refine gf_Model_s zl_129 d_Model_told_30 q_871 ?_
      refine z_iload_n 1 d_Model_told_33 rfl rfl ?_
      obtain ⟨c9, h⟩ := zck_i h
      refine w_iald zl_130 c9 d_Model_told_34 ?_
      exact z_iret d_Model_told_35 h
    · have h := (if_pos c8).symm.trans h
      refine z_aload_n 0 d_Model_told_22 rfl rfl ?_
      refine gf_Model_cold zl_129 d_Model_told_23 q_890 ?_
      refine z_goto (tgt := 35) d_Model_told_26 (by decide) ?_
      exact z_iret d_Model_told_35 h
  · have h := (if_pos c4).symm.trans h
    refine z_iconst (v := -1) d_Model_told_9 (by decide) ?_
    exact z_iret d_Model_told_10 h
theorem d_Model_bake_0 : decode b_Model_bake 0 = .ok (.aload_n 0, 1) := by decide +kernel
theorem d_Model_bake_1 : decode b_Model_bake 1 = .ok (.iload_n 1, 1) := by decide +kernel
theorem d_Model_bake_2 : decode b_Model_bake 2 = .ok (.invokevirtual 199, 3) := by decide +kernel
theorem d_Model_bake_5 : decode b_Model_bake 5 = .ok (.ifCond .ne (7), 3) := by decide +kernel
theorem d_Model_bake_8 : decode b_Model_bake 8 = .ok (.iconst (-1), 1) := by decide +kernel
theorem d_Model_bake_9 : decode b_Model_bake 9 = .ok (.goto (16), 3) := by decide +kernel
theorem d_Model_bake_12 : decode b_Model_bake 12 = .ok (.aload_n 0, 1) := by decide +kernel
theorem d_Model_bake_13 : decode b_Model_bake 13 = .ok (.iload_n 1, 1) := by decide +kernel
theorem d_Model_bake_14 : decode b_Model_bake 14 = .ok (.invokevirtual 208, 3) := by decide +kernel
theorem d_Model_bake_17 : decode b_Model_bake 17 = .ok (.ifCond .eq (7), 3) := by decide +kernel
theorem d_Model_bake_20 : decode b_Model_bake 20 = .ok (.iconst (1), 1) := by decide +kernel
theorem d_Model_bake_21 : decode b_Model_bake 21 = .ok (.goto (4), 3) := by decide +kernel
theorem d_Model_bake_24 : decode b_Model_bake 24 = .ok (.iconst (0), 1) := by decide +kernel
theorem d_Model_bake_25 : decode b_Model_bake 25 = .ok (.ireturn, 1) := by decide +kernel
theorem c_Model_bake (l : Launch) (θ : ZT) {x1 : Int32} {σ : ZM} {res : Int32 × ZM} (h : f_Model_bake x1 σ = some res) : zMet mkI l 129 14 θ y_Model_bake b_Model_bake 2 (some .int) (zrm 39 928) [.ref (za θ 129), .int x1] σ res := by
  unfold f_Model_bake at h
  refine z_met (lv := [(0, .ref (za θ 129)), (1, .int x1)]) (by decide +kernel) rfl (Nat.le_of_ble_eq_true rfl) (by decide) ?_
  refine z_aload_n 0 d_Model_bake_0 rfl rfl ?_
  refine z_iload_n 1 d_Model_bake_1 rfl rfl ?_
  obtain ⟨⟨v1, s2⟩, e3, h⟩ := zbd_i h
  refine w_callV (As := [.int x1]) (kc := 22) (ci := 12) (c_Model_isLoaf l θ e3) cf_Model_isLoaf q_1053 d_Model_bake_2 zl_129 rfl rfl rfl rfl rfl rfl (Nat.le_of_ble_eq_true rfl) rfl rfl ⟨Nat.le_of_ble_eq_true rfl, Nat.le_of_ble_eq_true rfl⟩ ?_
  refine z_if_ne (tgt := 12) d_Model_bake_5 (by decide) (fun c4 => ?_) (fun c4 => ?_)
  · have h := (if_neg c4).symm.trans h
    refine z_aload_n 0 d_Model_bake_12 rfl rfl ?_
    refine z_iload_n 1 d_Model_bake_13 rfl rfl ?_
    obtain ⟨⟨v5, s6⟩, e7, h⟩ := zbd_i h
    refine w_callV (As := [.int x1]) (kc := 22) (ci := 12) (c_Model_bakes l θ e7) cf_Model_bakes q_1104 d_Model_bake_14 zl_129 rfl rfl rfl rfl rfl rfl (Nat.le_of_ble_eq_true rfl) rfl rfl ⟨Nat.le_of_ble_eq_true rfl, Nat.le_of_ble_eq_true rfl⟩ ?_
    refine z_if_eq (tgt := 24) d_Model_bake_17 (by decide) (fun c8 => ?_) (fun c8 => ?_)
    · have h := (if_pos c8).symm.trans h
      refine z_iconst (v := 0) d_Model_bake_24 (by decide) ?_
      exact z_iret d_Model_bake_25 h
    · have h := (if_neg c8).symm.trans h
      refine z_iconst (v := 1) d_Model_bake_20 (by decide) ?_
      refine z_goto (tgt := 25) d_Model_bake_21 (by decide) ?_
      exact z_iret d_Model_bake_25 h
  · have h := (if_pos c4).symm.trans h
    refine z_iconst (v := -1) d_Model_bake_8 (by decide) ?_
    refine z_goto (tgt := 25) d_Model_bake_9 (by decide) ?_
    exact z_iret d_Model_bake_25 h
theorem d_Model_cold_0 : decode b_Model_cold 0 = .ok (.aload_n 0, 1) := by decide +kernel
theorem d_Model_cold_1 : decode b_Model_cold 1 = .ok (.invokevirtual 211, 3) := by decide +kernel
theorem d_Model_cold_4 : decode b_Model_cold 4 = .ok (.aload_n 0, 1) := by decide +kernel
theorem d_Model_cold_5 : decode b_Model_cold 5 = .ok (.getfield 11, 3) := by decide +kernel
theorem d_Model_cold_8 : decode b_Model_cold 8 = .ok (.iconst (4), 1) := by decide +kernel
theorem d_Model_cold_9 : decode b_Model_cold 9 = .ok (.iaload, 1) := by decide +kernel
theorem d_Model_cold_10 : decode b_Model_cold 10 = .ok (.ireturn, 1) := by decide +kernel
theorem c_Model_cold (l : Launch) (θ : ZT)  {σ : ZM} {res : Int32 × ZM} (h : f_Model_cold σ = some res) : zMet mkI l 129 14 θ y_Model_cold b_Model_cold 1 (some .int) (zrm 36 861) [.ref (za θ 129)] σ res := by
  unfold f_Model_cold at h
  refine z_met (lv := [(0, .ref (za θ 129))]) (by decide +kernel) rfl (Nat.le_of_ble_eq_true rfl) (by decide) ?_
  refine z_aload_n 0 d_Model_cold_0 rfl rfl ?_
  obtain ⟨⟨v1, s2⟩, e3, h⟩ := zbd_i h
  refine w_callV (As := []) (kc := 22) (ci := 12) (c_Model_cools l θ e3) cf_Model_cools q_1116 d_Model_cold_1 zl_129 rfl rfl rfl rfl rfl rfl (Nat.le_of_ble_eq_true rfl) rfl rfl ⟨Nat.le_of_ble_eq_true rfl, Nat.le_of_ble_eq_true rfl⟩ ?_
  refine z_aload_n 0 d_Model_cold_4 rfl rfl ?_
  refine gf_Model_s zl_129 d_Model_cold_5 q_871 ?_
  refine z_iconst (v := 4) d_Model_cold_8 (by decide) ?_
  obtain ⟨c4, h⟩ := zck_i h
  refine w_iald zl_130 c4 d_Model_cold_9 ?_
  exact z_iret d_Model_cold_10 h
theorem d_Model_would_0 : decode b_Model_would 0 = .ok (.aload_n 0, 1) := by decide +kernel
theorem d_Model_would_1 : decode b_Model_would 1 = .ok (.iload_n 1, 1) := by decide +kernel
theorem d_Model_would_2 : decode b_Model_would 2 = .ok (.invokevirtual 199, 3) := by decide +kernel
theorem d_Model_would_5 : decode b_Model_would 5 = .ok (.ifCond .eq (25), 3) := by decide +kernel
theorem d_Model_would_8 : decode b_Model_would 8 = .ok (.iload_n 2, 1) := by decide +kernel
theorem d_Model_would_9 : decode b_Model_would 9 = .ok (.iconst (-1), 1) := by decide +kernel
theorem d_Model_would_10 : decode b_Model_would 10 = .ok (.if_icmp .eq (11), 3) := by decide +kernel
theorem d_Model_would_13 : decode b_Model_would 13 = .ok (.aload_n 0, 1) := by decide +kernel
theorem d_Model_would_14 : decode b_Model_would 14 = .ok (.iload_n 2, 1) := by decide +kernel
theorem d_Model_would_15 : decode b_Model_would 15 = .ok (.invokevirtual 199, 3) := by decide +kernel
theorem d_Model_would_18 : decode b_Model_would 18 = .ok (.ifCond .eq (12), 3) := by decide +kernel
theorem d_Model_would_21 : decode b_Model_would 21 = .ok (.iload_n 3, 1) := by decide +kernel
theorem d_Model_would_22 : decode b_Model_would 22 = .ok (.iconst (0), 1) := by decide +kernel
theorem d_Model_would_23 : decode b_Model_would 23 = .ok (.iconst (4), 1) := by decide +kernel
theorem d_Model_would_24 : decode b_Model_would 24 = .ok (.invokestatic 52, 3) := by decide +kernel
theorem d_Model_would_27 : decode b_Model_would 27 = .ok (.ifCond .ne (5), 3) := by decide +kernel
theorem d_Model_would_30 : decode b_Model_would 30 = .ok (.iconst (-1), 1) := by decide +kernel
theorem d_Model_would_31 : decode b_Model_would 31 = .ok (.ireturn, 1) := by decide +kernel
theorem d_Model_would_32 : decode b_Model_would 32 = .ok (.iload_n 1, 1) := by decide +kernel
theorem d_Model_would_33 : decode b_Model_would 33 = .ok (.iload_n 2, 1) := by decide +kernel
theorem d_Model_would_34 : decode b_Model_would 34 = .ok (.if_icmp .ne (6), 3) := by decide +kernel
theorem d_Model_would_37 : decode b_Model_would 37 = .ok (.bipush (-2), 2) := by decide +kernel
theorem d_Model_would_39 : decode b_Model_would 39 = .ok (.ireturn, 1) := by decide +kernel
theorem d_Model_would_40 : decode b_Model_would 40 = .ok (.aload_n 0, 1) := by decide +kernel
theorem d_Model_would_41 : decode b_Model_would 41 = .ok (.invokevirtual 214, 3) := by decide +kernel
theorem d_Model_would_44 : decode b_Model_would 44 = .ok (.iload_n 2, 1) := by decide +kernel
theorem d_Model_would_45 : decode b_Model_would 45 = .ok (.ifCond .lt (15), 3) := by decide +kernel
theorem d_Model_would_48 : decode b_Model_would 48 = .ok (.aload_n 0, 1) := by decide +kernel
theorem d_Model_would_49 : decode b_Model_would 49 = .ok (.iload_n 2, 1) := by decide +kernel
theorem d_Model_would_50 : decode b_Model_would 50 = .ok (.invokevirtual 208, 3) := by decide +kernel
theorem d_Model_would_53 : decode b_Model_would 53 = .ok (.ifCond .eq (7), 3) := by decide +kernel
theorem d_Model_would_56 : decode b_Model_would 56 = .ok (.iconst (1), 1) := by decide +kernel
theorem d_Model_would_57 : decode b_Model_would 57 = .ok (.goto (4), 3) := by decide +kernel
theorem d_Model_would_60 : decode b_Model_would 60 = .ok (.iconst (0), 1) := by decide +kernel
theorem d_Model_would_61 : decode b_Model_would 61 = .ok (.istore 4, 2) := by decide +kernel
theorem d_Model_would_63 : decode b_Model_would 63 = .ok (.iload_n 3, 1) := by decide +kernel
theorem d_Model_would_64 : decode b_Model_would 64 = .ok (.iconst (4), 1) := by decide +kernel
theorem d_Model_would_65 : decode b_Model_would 65 = .ok (.if_icmp .ge (12), 3) := by decide +kernel
theorem d_Model_would_68 : decode b_Model_would 68 = .ok (.aload_n 0, 1) := by decide +kernel
theorem d_Model_would_69 : decode b_Model_would 69 = .ok (.iload_n 1, 1) := by decide +kernel
theorem d_Model_would_70 : decode b_Model_would 70 = .ok (.iload_n 3, 1) := by decide +kernel
theorem d_Model_would_71 : decode b_Model_would 71 = .ok (.invokevirtual 187, 3) := by decide +kernel
theorem d_Model_would_74 : decode b_Model_would 74 = .ok (.goto (16), 3) := by decide +kernel
theorem d_Model_would_77 : decode b_Model_would 77 = .ok (.aload_n 0, 1) := by decide +kernel
theorem d_Model_would_78 : decode b_Model_would 78 = .ok (.iload_n 1, 1) := by decide +kernel
theorem d_Model_would_79 : decode b_Model_would 79 = .ok (.invokevirtual 190, 3) := by decide +kernel
theorem d_Model_would_82 : decode b_Model_would 82 = .ok (.ifCond .eq (7), 3) := by decide +kernel
theorem d_Model_would_85 : decode b_Model_would 85 = .ok (.iconst (1), 1) := by decide +kernel
theorem d_Model_would_86 : decode b_Model_would 86 = .ok (.goto (4), 3) := by decide +kernel
theorem d_Model_would_89 : decode b_Model_would 89 = .ok (.iconst (0), 1) := by decide +kernel
theorem d_Model_would_90 : decode b_Model_would 90 = .ok (.istore 5, 2) := by decide +kernel
theorem d_Model_would_92 : decode b_Model_would 92 = .ok (.aload_n 0, 1) := by decide +kernel
theorem d_Model_would_93 : decode b_Model_would 93 = .ok (.invokevirtual 217, 3) := by decide +kernel
theorem d_Model_would_96 : decode b_Model_would 96 = .ok (.iload 5, 2) := by decide +kernel
theorem d_Model_would_98 : decode b_Model_would 98 = .ok (.ireturn, 1) := by decide +kernel
theorem zb_Model_would_90 {l : Launch} {θ : ZT} {res : Int32 × ZM} {y0 : Int32} {σ : ZM} (h : f_Model_would_90 y0 σ = some res) : WZ l b_Model_would 6 (some .int) "BakedBeforeModel" 129 14 θ (zrm 39 928) (zQ mkI 129 14 θ res) σ [(0, .ref (za θ 129))] 90 [.int y0] := by
  unfold f_Model_would_90 at h
  refine z_istore d_Model_would_90 (by decide) rfl ?_
  refine z_aload_n 1 d_Model_would_92 rfl rfl ?_
  obtain ⟨⟨v1, s2⟩, e3, h⟩ := zbd_i h
  refine w_callV (As := []) (kc := 22) (ci := 12) (c_Model_ends l θ e3) cf_Model_ends q_1131 d_Model_would_93 zl_129 rfl rfl rfl rfl rfl rfl (Nat.le_of_ble_eq_true rfl) rfl rfl ⟨Nat.le_of_ble_eq_true rfl, Nat.le_of_ble_eq_true rfl⟩ ?_
  refine z_iload 0 d_Model_would_96 rfl ?_
  exact z_iret d_Model_would_98 h
theorem zb_Model_would_61 {l : Launch} {θ : ZT} {res : Int32 × ZM} {x1 : Int32} {x3 : Int32} {y0 : Int32} {σ : ZM} (h : f_Model_would_61 x1 x3 y0 σ = some res) : WZ l b_Model_would 6 (some .int) "BakedBeforeModel" 129 14 θ (zrm 39 928) (zQ mkI 129 14 θ res) σ [(0, .ref (za θ 129)), (1, .int x1), (3, .int x3)] 61 [.int y0] := by
  unfold f_Model_would_61 at h
  refine z_istore d_Model_would_61 (by decide) rfl ?_
  refine z_iload_n 3 d_Model_would_63 rfl rfl ?_
  refine z_iconst (v := 4) d_Model_would_64 (by decide) ?_
  refine z_icmp_ge (tgt := 77) d_Model_would_65 (by decide) (fun c1 => ?_) (fun c1 => ?_)
  · have h := (if_pos c1).symm.trans h
    refine z_aload_n 1 d_Model_would_77 rfl rfl ?_
    refine z_iload_n 2 d_Model_would_78 rfl rfl ?_
    obtain ⟨⟨v2, s3⟩, e4, h⟩ := zbd_i h
    refine w_callV (As := [.int x1]) (kc := 22) (ci := 12) (c_Model_isSpoiled l θ e4) cf_Model_isSpoiled q_1072 d_Model_would_79 zl_129 rfl rfl rfl rfl rfl rfl (Nat.le_of_ble_eq_true rfl) rfl rfl ⟨Nat.le_of_ble_eq_true rfl, Nat.le_of_ble_eq_true rfl⟩ ?_
    refine z_if_eq (tgt := 89) d_Model_would_82 (by decide) (fun c5 => ?_) (fun c5 => ?_)
    · have h := (if_pos c5).symm.trans h
      refine z_iconst (v := 0) d_Model_would_89 (by decide) ?_
      refine z_sub [1] rfl ?_
      exact zb_Model_would_90 h
    · have h := (if_neg c5).symm.trans h
      refine z_iconst (v := 1) d_Model_would_85 (by decide) ?_
      refine z_goto (tgt := 90) d_Model_would_86 (by decide) ?_
      refine z_sub [1] rfl ?_
      exact zb_Model_would_90 h
  · have h := (if_neg c1).symm.trans h
    refine z_aload_n 1 d_Model_would_68 rfl rfl ?_
    refine z_iload_n 2 d_Model_would_69 rfl rfl ?_
    refine z_iload_n 3 d_Model_would_70 rfl rfl ?_
    obtain ⟨⟨v6, s7⟩, e8, h⟩ := zbd_i h
    refine w_callV (As := [.int x1, .int x3]) (kc := 22) (ci := 12) (c_Model_takesOf l θ e8) cf_Model_takesOf q_1076 d_Model_would_71 zl_129 rfl rfl rfl rfl rfl rfl (Nat.le_of_ble_eq_true rfl) rfl rfl ⟨Nat.le_of_ble_eq_true rfl, Nat.le_of_ble_eq_true rfl⟩ ?_
    refine z_goto (tgt := 90) d_Model_would_74 (by decide) ?_
    refine z_sub [1] rfl ?_
    exact zb_Model_would_90 h
theorem zb_Model_would_60 {l : Launch} {θ : ZT} {res : Int32 × ZM} {x1 : Int32} {x3 : Int32} {σ : ZM} (h : f_Model_would_60 x1 x3 σ = some res) : WZ l b_Model_would 6 (some .int) "BakedBeforeModel" 129 14 θ (zrm 39 928) (zQ mkI 129 14 θ res) σ [(0, .ref (za θ 129)), (1, .int x1), (3, .int x3)] 60 [] := by
  unfold f_Model_would_60 at h
  refine z_iconst (v := 0) d_Model_would_60 (by decide) ?_
  exact zb_Model_would_61 h
theorem zb_Model_would_21 {l : Launch} {θ : ZT} {res : Int32 × ZM} {x1 : Int32} {x2 : Int32} {x3 : Int32} {σ : ZM} (h : f_Model_would_21 x1 x2 x3 σ = some res) : WZ l b_Model_would 6 (some .int) "BakedBeforeModel" 129 14 θ (zrm 39 928) (zQ mkI 129 14 θ res) σ [(0, .ref (za θ 129)), (1, .int x1), (2, .int x2), (3, .int x3)] 21 [] := by
  unfold f_Model_would_21 at h
  refine z_iload_n 3 d_Model_would_21 rfl rfl ?_
  refine z_iconst (v := 0) d_Model_would_22 (by decide) ?_
  refine z_iconst (v := 4) d_Model_would_23 (by decide) ?_
  obtain ⟨⟨v1, s2⟩, e3, h⟩ := zbd_i h
  refine w_callS (As := [.int x3, .int (0 : Int32), .int (4 : Int32)]) (c_Model_isIn l θ e3) cf_Model_isIn q_969 d_Model_would_24 rfl rfl rfl (Nat.le_of_ble_eq_true rfl) rfl rfl ⟨Nat.le_of_ble_eq_true rfl, Nat.le_of_ble_eq_true rfl⟩ ?_
  refine z_if_ne (tgt := 32) d_Model_would_27 (by decide) (fun c4 => ?_) (fun c4 => ?_)
  · have h := (if_neg c4).symm.trans h
    refine z_iload_n 1 d_Model_would_32 rfl rfl ?_
    refine z_iload_n 2 d_Model_would_33 rfl rfl ?_
    refine z_icmp_ne (tgt := 40) d_Model_would_34 (by decide) (fun c5 => ?_) (fun c5 => ?_)
    · have h := (if_neg c5).symm.trans h
      refine z_aload_n 0 d_Model_would_40 rfl rfl ?_
      obtain ⟨⟨v6, s7⟩, e8, h⟩ := zbd_i h
      refine w_callV (As := []) (kc := 22) (ci := 12) (c_Model_begins l θ e8) cf_Model_begins q_1124 d_Model_would_41 zl_129 rfl rfl rfl rfl rfl rfl (Nat.le_of_ble_eq_true rfl) rfl rfl ⟨Nat.le_of_ble_eq_true rfl, Nat.le_of_ble_eq_true rfl⟩ ?_
      refine z_iload_n 2 d_Model_would_44 rfl rfl ?_
      refine z_if_lt (tgt := 60) d_Model_would_45 (by decide) (fun c9 => ?_) (fun c9 => ?_)
      · have h := (if_pos c9).symm.trans h
        refine z_sub [0, 1, 3] rfl ?_
        exact zb_Model_would_60 h
      · have h := (if_neg c9).symm.trans h
        refine z_aload_n 0 d_Model_would_48 rfl rfl ?_
        refine z_iload_n 2 d_Model_would_49 rfl rfl ?_
        obtain ⟨⟨v10, s11⟩, e12, h⟩ := zbd_i h
        refine w_callV (As := [.int x2]) (kc := 22) (ci := 12) (c_Model_bakes l θ e12) cf_Model_bakes q_1104 d_Model_would_50 zl_129 rfl rfl rfl rfl rfl rfl (Nat.le_of_ble_eq_true rfl) rfl rfl ⟨Nat.le_of_ble_eq_true rfl, Nat.le_of_ble_eq_true rfl⟩ ?_
        refine z_if_eq (tgt := 60) d_Model_would_53 (by decide) (fun c13 => ?_) (fun c13 => ?_)
        · have h := (if_pos c13).symm.trans h
          refine z_sub [0, 1, 3] rfl ?_
          exact zb_Model_would_60 h
        · have h := (if_neg c13).symm.trans h
          refine z_iconst (v := 1) d_Model_would_56 (by decide) ?_
          refine z_goto (tgt := 61) d_Model_would_57 (by decide) ?_
          refine z_sub [0, 1, 3] rfl ?_
          exact zb_Model_would_61 h
    · have h := (if_pos c5).symm.trans h
      refine z_bipush (v := -2) d_Model_would_37 (by decide) ?_
      exact z_iret d_Model_would_39 h
  · have h := (if_pos c4).symm.trans h
    refine z_iconst (v := -1) d_Model_would_30 (by decide) ?_
    exact z_iret d_Model_would_31 h
theorem c_Model_would (l : Launch) (θ : ZT) {x1 : Int32} {x2 : Int32} {x3 : Int32} {σ : ZM} {res : Int32 × ZM} (h : f_Model_would x1 x2 x3 σ = some res) : zMet mkI l 129 14 θ y_Model_would b_Model_would 6 (some .int) (zrm 39 928) [.ref (za θ 129), .int x1, .int x2, .int x3] σ res := by
  unfold f_Model_would at h
  refine z_met (lv := [(0, .ref (za θ 129)), (1, .int x1), (2, .int x2), (3, .int x3)]) (by decide +kernel) rfl (Nat.le_of_ble_eq_true rfl) (by decide) ?_
  refine z_aload_n 0 d_Model_would_0 rfl rfl ?_
  refine z_iload_n 1 d_Model_would_1 rfl rfl ?_
  obtain ⟨⟨v1, s2⟩, e3, h⟩ := zbd_i h
  refine w_callV (As := [.int x1]) (kc := 22) (ci := 12) (c_Model_isLoaf l θ e3) cf_Model_isLoaf q_1053 d_Model_would_2 zl_129 rfl rfl rfl rfl rfl rfl (Nat.le_of_ble_eq_true rfl) rfl rfl ⟨Nat.le_of_ble_eq_true rfl, Nat.le_of_ble_eq_true rfl⟩ ?_
  refine z_if_eq (tgt := 30) d_Model_would_5 (by decide) (fun c4 => ?_) (fun c4 => ?_)
  · have h := (if_pos c4).symm.trans h
    refine z_iconst (v := -1) d_Model_would_30 (by decide) ?_
    exact z_iret d_Model_would_31 h
  · have h := (if_neg c4).symm.trans h
    refine z_iload_n 2 d_Model_would_8 rfl rfl ?_
    refine z_iconst (v := -1) d_Model_would_9 (by decide) ?_
    refine z_icmp_eq (tgt := 21) d_Model_would_10 (by decide) (fun c5 => ?_) (fun c5 => ?_)
    · have h := (if_pos c5).symm.trans h
      exact zb_Model_would_21 h
    · have h := (if_neg c5).symm.trans h
      refine z_aload_n 0 d_Model_would_13 rfl rfl ?_
      refine z_iload_n 2 d_Model_would_14 rfl rfl ?_
      obtain ⟨⟨v6, s7⟩, e8, h⟩ := zbd_i h
      refine w_callV (As := [.int x2]) (kc := 22) (ci := 12) (c_Model_isLoaf l θ e8) cf_Model_isLoaf q_1053 d_Model_would_15 zl_129 rfl rfl rfl rfl rfl rfl (Nat.le_of_ble_eq_true rfl) rfl rfl ⟨Nat.le_of_ble_eq_true rfl, Nat.le_of_ble_eq_true rfl⟩ ?_
      refine z_if_eq (tgt := 30) d_Model_would_18 (by decide) (fun c9 => ?_) (fun c9 => ?_)
      · have h := (if_pos c9).symm.trans h
        refine z_iconst (v := -1) d_Model_would_30 (by decide) ?_
        exact z_iret d_Model_would_31 h
      · have h := (if_neg c9).symm.trans h
        exact zb_Model_would_21 h
theorem d_Model_spoiledBy_0 : decode b_Model_spoiledBy 0 = .ok (.iconst (0), 1) := by decide +kernel
theorem d_Model_spoiledBy_1 : decode b_Model_spoiledBy 1 = .ok (.istore_n 2, 1) := by decide +kernel
theorem d_Model_spoiledBy_2 : decode b_Model_spoiledBy 2 = .ok (.aload_n 0, 1) := by decide +kernel
theorem d_Model_spoiledBy_3 : decode b_Model_spoiledBy 3 = .ok (.invokevirtual 214, 3) := by decide +kernel
theorem d_Model_spoiledBy_6 : decode b_Model_spoiledBy 6 = .ok (.iconst (0), 1) := by decide +kernel
theorem d_Model_spoiledBy_7 : decode b_Model_spoiledBy 7 = .ok (.istore_n 3, 1) := by decide +kernel
theorem d_Model_spoiledBy_8 : decode b_Model_spoiledBy 8 = .ok (.iload_n 3, 1) := by decide +kernel
theorem d_Model_spoiledBy_9 : decode b_Model_spoiledBy 9 = .ok (.iload_n 1, 1) := by decide +kernel
theorem d_Model_spoiledBy_10 : decode b_Model_spoiledBy 10 = .ok (.if_icmp .ge (30), 3) := by decide +kernel
theorem d_Model_spoiledBy_13 : decode b_Model_spoiledBy 13 = .ok (.iload_n 2, 1) := by decide +kernel
theorem d_Model_spoiledBy_14 : decode b_Model_spoiledBy 14 = .ok (.aload_n 0, 1) := by decide +kernel
theorem d_Model_spoiledBy_15 : decode b_Model_spoiledBy 15 = .ok (.aload_n 0, 1) := by decide +kernel
theorem d_Model_spoiledBy_16 : decode b_Model_spoiledBy 16 = .ok (.getfield 33, 3) := by decide +kernel
theorem d_Model_spoiledBy_19 : decode b_Model_spoiledBy 19 = .ok (.iload_n 3, 1) := by decide +kernel
theorem d_Model_spoiledBy_20 : decode b_Model_spoiledBy 20 = .ok (.iaload, 1) := by decide +kernel
theorem d_Model_spoiledBy_21 : decode b_Model_spoiledBy 21 = .ok (.invokevirtual 208, 3) := by decide +kernel
theorem d_Model_spoiledBy_24 : decode b_Model_spoiledBy 24 = .ok (.ifCond .eq (7), 3) := by decide +kernel
theorem d_Model_spoiledBy_27 : decode b_Model_spoiledBy 27 = .ok (.iconst (1), 1) := by decide +kernel
theorem d_Model_spoiledBy_28 : decode b_Model_spoiledBy 28 = .ok (.goto (4), 3) := by decide +kernel
theorem d_Model_spoiledBy_31 : decode b_Model_spoiledBy 31 = .ok (.iconst (0), 1) := by decide +kernel
theorem d_Model_spoiledBy_32 : decode b_Model_spoiledBy 32 = .ok (.iadd, 1) := by decide +kernel
theorem d_Model_spoiledBy_33 : decode b_Model_spoiledBy 33 = .ok (.istore_n 2, 1) := by decide +kernel
theorem d_Model_spoiledBy_34 : decode b_Model_spoiledBy 34 = .ok (.iinc 3 (1), 3) := by decide +kernel
theorem d_Model_spoiledBy_37 : decode b_Model_spoiledBy 37 = .ok (.goto (-29), 3) := by decide +kernel
theorem d_Model_spoiledBy_40 : decode b_Model_spoiledBy 40 = .ok (.aload_n 0, 1) := by decide +kernel
theorem d_Model_spoiledBy_41 : decode b_Model_spoiledBy 41 = .ok (.invokevirtual 217, 3) := by decide +kernel
theorem d_Model_spoiledBy_44 : decode b_Model_spoiledBy 44 = .ok (.iload_n 2, 1) := by decide +kernel
theorem d_Model_spoiledBy_45 : decode b_Model_spoiledBy 45 = .ok (.ireturn, 1) := by decide +kernel
theorem zb_Model_spoiledBy_32 {l : Launch} {θ : ZT} {res : Int32 × ZM} {k8 : Int32 × Int32 × Int32 × ZM → Option (Int32 × ZM)} (hk8 : ∀ a : Int32 × Int32 × Int32 × ZM, k8 a = some res → WZ l b_Model_spoiledBy 4 (some .int) "BakedBeforeModel" 129 14 θ (zrm 39 928) (zQ mkI 129 14 θ res) a.2.2.2 [(0, .ref (za θ 129)), (1, .int a.1), (2, .int a.2.1), (3, .int a.2.2.1)] 8 []) {x1 : Int32} {x3 : Int32} {y0 : Int32} {y1 : Int32} {σ : ZM} (h : f_Model_spoiledBy_32 k8 x1 x3 y0 y1 σ = some res) : WZ l b_Model_spoiledBy 4 (some .int) "BakedBeforeModel" 129 14 θ (zrm 39 928) (zQ mkI 129 14 θ res) σ [(0, .ref (za θ 129)), (1, .int x1), (3, .int x3)] 32 [.int y0, .int y1] := by
  unfold f_Model_spoiledBy_32 at h
  refine z_iadd d_Model_spoiledBy_32 ?_
  refine z_istore_n d_Model_spoiledBy_33 rfl (by decide) rfl ?_
  refine z_iinc (v := x3 + (1 : Int32)) 3 d_Model_spoiledBy_34 rfl rfl (by decide) rfl ?_
  refine z_goto (tgt := 8) d_Model_spoiledBy_37 (by decide) ?_
  refine z_sub [2, 3, 1, 0] rfl ?_
  exact hk8 (x1, (y1 + y0), (x3 + (1 : Int32)), σ) h
theorem zb_Model_spoiledBy_8 {l : Launch} {θ : ZT} {res : Int32 × ZM} {k8 : Int32 × Int32 × Int32 × ZM → Option (Int32 × ZM)} (hk8 : ∀ a : Int32 × Int32 × Int32 × ZM, k8 a = some res → WZ l b_Model_spoiledBy 4 (some .int) "BakedBeforeModel" 129 14 θ (zrm 39 928) (zQ mkI 129 14 θ res) a.2.2.2 [(0, .ref (za θ 129)), (1, .int a.1), (2, .int a.2.1), (3, .int a.2.2.1)] 8 []) {x1 : Int32} {x2 : Int32} {x3 : Int32} {σ : ZM} (h : f_Model_spoiledBy_8 k8 x1 x2 x3 σ = some res) : WZ l b_Model_spoiledBy 4 (some .int) "BakedBeforeModel" 129 14 θ (zrm 39 928) (zQ mkI 129 14 θ res) σ [(0, .ref (za θ 129)), (1, .int x1), (2, .int x2), (3, .int x3)] 8 [] := by
  unfold f_Model_spoiledBy_8 at h
  refine z_iload_n 3 d_Model_spoiledBy_8 rfl rfl ?_
  refine z_iload_n 1 d_Model_spoiledBy_9 rfl rfl ?_
  refine z_icmp_ge (tgt := 40) d_Model_spoiledBy_10 (by decide) (fun c1 => ?_) (fun c1 => ?_)
  · have h := (if_pos c1).symm.trans h
    refine z_aload_n 0 d_Model_spoiledBy_40 rfl rfl ?_
    obtain ⟨⟨v2, s3⟩, e4, h⟩ := zbd_i h
    refine w_callV (As := []) (kc := 22) (ci := 12) (c_Model_ends l θ e4) cf_Model_ends q_1131 d_Model_spoiledBy_41 zl_129 rfl rfl rfl rfl rfl rfl (Nat.le_of_ble_eq_true rfl) rfl rfl ⟨Nat.le_of_ble_eq_true rfl, Nat.le_of_ble_eq_true rfl⟩ ?_
    refine z_iload_n 2 d_Model_spoiledBy_44 rfl rfl ?_
    exact z_iret d_Model_spoiledBy_45 h
  · have h := (if_neg c1).symm.trans h
    refine z_iload_n 2 d_Model_spoiledBy_13 rfl rfl ?_
    refine z_aload_n 0 d_Model_spoiledBy_14 rfl rfl ?_
    refine z_aload_n 0 d_Model_spoiledBy_15 rfl rfl ?_
    refine gf_Model_line zl_129 d_Model_spoiledBy_16 q_893 ?_
    refine z_iload_n 3 d_Model_spoiledBy_19 rfl rfl ?_
    obtain ⟨c5, h⟩ := zck_i h
    refine w_iald zl_137 c5 d_Model_spoiledBy_20 ?_
    obtain ⟨⟨v6, s7⟩, e8, h⟩ := zbd_i h
    refine w_callV (As := [.int (zI σ 137 x3.toNatClampNeg)]) (kc := 22) (ci := 12) (c_Model_bakes l θ e8) cf_Model_bakes q_1104 d_Model_spoiledBy_21 zl_129 rfl rfl rfl rfl rfl rfl (Nat.le_of_ble_eq_true rfl) rfl rfl ⟨Nat.le_of_ble_eq_true rfl, Nat.le_of_ble_eq_true rfl⟩ ?_
    refine z_if_eq (tgt := 31) d_Model_spoiledBy_24 (by decide) (fun c9 => ?_) (fun c9 => ?_)
    · have h := (if_pos c9).symm.trans h
      refine z_iconst (v := 0) d_Model_spoiledBy_31 (by decide) ?_
      refine z_sub [0, 1, 3] rfl ?_
      exact zb_Model_spoiledBy_32 hk8 h
    · have h := (if_neg c9).symm.trans h
      refine z_iconst (v := 1) d_Model_spoiledBy_27 (by decide) ?_
      refine z_goto (tgt := 32) d_Model_spoiledBy_28 (by decide) ?_
      refine z_sub [0, 1, 3] rfl ?_
      exact zb_Model_spoiledBy_32 hk8 h
theorem zl_Model_spoiledBy_8 {l : Launch} {θ : ZT} {res : Int32 × ZM} : ∀ (N : Nat) (a : Int32 × Int32 × Int32 × ZM), F_Model_spoiledBy_8 N a = some res → WZ l b_Model_spoiledBy 4 (some .int) "BakedBeforeModel" 129 14 θ (zrm 39 928) (zQ mkI 129 14 θ res) a.2.2.2 [(0, .ref (za θ 129)), (1, .int a.1), (2, .int a.2.1), (3, .int a.2.2.1)] 8 [] := by
  intro N
  induction N with
  | zero => intro a  h; cases (show (none : Option (Int32 × ZM)) = some res from h)
  | succ N ih => intro a  h; exact zb_Model_spoiledBy_8 ih (show f_Model_spoiledBy_8 (F_Model_spoiledBy_8 N) a.1 a.2.1 a.2.2.1 a.2.2.2 = some res from h)
theorem c_Model_spoiledBy (l : Launch) (θ : ZT) {x1 : Int32} {σ : ZM} {res : Int32 × ZM} (h : f_Model_spoiledBy x1 σ = some res) : zMet mkI l 129 14 θ y_Model_spoiledBy b_Model_spoiledBy 4 (some .int) (zrm 39 928) [.ref (za θ 129), .int x1] σ res := by
  unfold f_Model_spoiledBy at h
  refine z_met (lv := [(0, .ref (za θ 129)), (1, .int x1)]) (by decide +kernel) rfl (Nat.le_of_ble_eq_true rfl) (by decide) ?_
  refine z_iconst (v := 0) d_Model_spoiledBy_0 (by decide) ?_
  refine z_istore_n d_Model_spoiledBy_1 rfl (by decide) rfl ?_
  refine z_aload_n 1 d_Model_spoiledBy_2 rfl rfl ?_
  obtain ⟨⟨v1, s2⟩, e3, h⟩ := zbd_i h
  refine w_callV (As := []) (kc := 22) (ci := 12) (c_Model_begins l θ e3) cf_Model_begins q_1124 d_Model_spoiledBy_3 zl_129 rfl rfl rfl rfl rfl rfl (Nat.le_of_ble_eq_true rfl) rfl rfl ⟨Nat.le_of_ble_eq_true rfl, Nat.le_of_ble_eq_true rfl⟩ ?_
  refine z_iconst (v := 0) d_Model_spoiledBy_6 (by decide) ?_
  refine z_istore_n d_Model_spoiledBy_7 rfl (by decide) rfl ?_
  refine z_sub [2, 3, 1, 0] rfl ?_
  exact zl_Model_spoiledBy_8 2000 (x1, (0 : Int32), (0 : Int32), s2) h
theorem d_Model_orders_0 : decode b_Model_orders 0 = .ok (.iload_n 2, 1) := by decide +kernel
theorem d_Model_orders_1 : decode b_Model_orders 1 = .ok (.iload_n 3, 1) := by decide +kernel
theorem d_Model_orders_2 : decode b_Model_orders 2 = .ok (.if_icmp .ne (63), 3) := by decide +kernel
theorem d_Model_orders_5 : decode b_Model_orders 5 = .ok (.aload_n 0, 1) := by decide +kernel
theorem d_Model_orders_6 : decode b_Model_orders 6 = .ok (.iload_n 2, 1) := by decide +kernel
theorem d_Model_orders_7 : decode b_Model_orders 7 = .ok (.invokevirtual 220, 3) := by decide +kernel
theorem d_Model_orders_10 : decode b_Model_orders 10 = .ok (.istore 4, 2) := by decide +kernel
theorem d_Model_orders_12 : decode b_Model_orders 12 = .ok (.aload_n 0, 1) := by decide +kernel
theorem d_Model_orders_13 : decode b_Model_orders 13 = .ok (.getfield 223, 3) := by decide +kernel
theorem d_Model_orders_16 : decode b_Model_orders 16 = .ok (.ifCond .lt (13), 3) := by decide +kernel
theorem d_Model_orders_19 : decode b_Model_orders 19 = .ok (.iload 4, 2) := by decide +kernel
theorem d_Model_orders_21 : decode b_Model_orders 21 = .ok (.aload_n 0, 1) := by decide +kernel
theorem d_Model_orders_22 : decode b_Model_orders 22 = .ok (.getfield 223, 3) := by decide +kernel
theorem d_Model_orders_25 : decode b_Model_orders 25 = .ok (.if_icmp .lt (4), 3) := by decide +kernel
theorem d_Model_orders_28 : decode b_Model_orders 28 = .ok (.return_, 1) := by decide +kernel
theorem d_Model_orders_29 : decode b_Model_orders 29 = .ok (.aload_n 0, 1) := by decide +kernel
theorem d_Model_orders_30 : decode b_Model_orders 30 = .ok (.iload 4, 2) := by decide +kernel
theorem d_Model_orders_32 : decode b_Model_orders 32 = .ok (.putfield 223, 3) := by decide +kernel
theorem d_Model_orders_35 : decode b_Model_orders 35 = .ok (.iconst (0), 1) := by decide +kernel
theorem d_Model_orders_36 : decode b_Model_orders 36 = .ok (.istore 5, 2) := by decide +kernel
theorem d_Model_orders_38 : decode b_Model_orders 38 = .ok (.iload 5, 2) := by decide +kernel
theorem d_Model_orders_40 : decode b_Model_orders 40 = .ok (.iload_n 2, 1) := by decide +kernel
theorem d_Model_orders_41 : decode b_Model_orders 41 = .ok (.if_icmp .ge (23), 3) := by decide +kernel
theorem d_Model_orders_44 : decode b_Model_orders 44 = .ok (.aload_n 0, 1) := by decide +kernel
theorem d_Model_orders_45 : decode b_Model_orders 45 = .ok (.getfield 36, 3) := by decide +kernel
theorem d_Model_orders_48 : decode b_Model_orders 48 = .ok (.iload 5, 2) := by decide +kernel
theorem d_Model_orders_50 : decode b_Model_orders 50 = .ok (.aload_n 0, 1) := by decide +kernel
theorem d_Model_orders_51 : decode b_Model_orders 51 = .ok (.getfield 33, 3) := by decide +kernel
theorem d_Model_orders_54 : decode b_Model_orders 54 = .ok (.iload 5, 2) := by decide +kernel
theorem d_Model_orders_56 : decode b_Model_orders 56 = .ok (.iaload, 1) := by decide +kernel
theorem d_Model_orders_57 : decode b_Model_orders 57 = .ok (.iastore, 1) := by decide +kernel
theorem d_Model_orders_58 : decode b_Model_orders 58 = .ok (.iinc 5 (1), 3) := by decide +kernel
theorem d_Model_orders_61 : decode b_Model_orders 61 = .ok (.goto (-23), 3) := by decide +kernel
theorem d_Model_orders_64 : decode b_Model_orders 64 = .ok (.return_, 1) := by decide +kernel
theorem d_Model_orders_65 : decode b_Model_orders 65 = .ok (.iconst (0), 1) := by decide +kernel
theorem d_Model_orders_66 : decode b_Model_orders 66 = .ok (.istore 4, 2) := by decide +kernel
theorem d_Model_orders_68 : decode b_Model_orders 68 = .ok (.iload 4, 2) := by decide +kernel
theorem d_Model_orders_70 : decode b_Model_orders 70 = .ok (.aload_n 0, 1) := by decide +kernel
theorem d_Model_orders_71 : decode b_Model_orders 71 = .ok (.getfield 11, 3) := by decide +kernel
theorem d_Model_orders_74 : decode b_Model_orders 74 = .ok (.iconst (5), 1) := by decide +kernel
theorem d_Model_orders_75 : decode b_Model_orders 75 = .ok (.iaload, 1) := by decide +kernel
theorem d_Model_orders_76 : decode b_Model_orders 76 = .ok (.if_icmp .ge (45), 3) := by decide +kernel
theorem d_Model_orders_79 : decode b_Model_orders 79 = .ok (.iload_n 1, 1) := by decide +kernel
theorem d_Model_orders_80 : decode b_Model_orders 80 = .ok (.iload 4, 2) := by decide +kernel
theorem d_Model_orders_82 : decode b_Model_orders 82 = .ok (.ishr, 1) := by decide +kernel
theorem d_Model_orders_83 : decode b_Model_orders 83 = .ok (.iconst (1), 1) := by decide +kernel
theorem d_Model_orders_84 : decode b_Model_orders 84 = .ok (.iand, 1) := by decide +kernel
theorem d_Model_orders_85 : decode b_Model_orders 85 = .ok (.ifCond .ne (6), 3) := by decide +kernel
theorem d_Model_orders_88 : decode b_Model_orders 88 = .ok (.goto (27), 3) := by decide +kernel
theorem d_Model_orders_91 : decode b_Model_orders 91 = .ok (.aload_n 0, 1) := by decide +kernel
theorem d_Model_orders_92 : decode b_Model_orders 92 = .ok (.getfield 33, 3) := by decide +kernel
theorem d_Model_orders_95 : decode b_Model_orders 95 = .ok (.iload_n 2, 1) := by decide +kernel
theorem d_Model_orders_96 : decode b_Model_orders 96 = .ok (.iload 4, 2) := by decide +kernel
theorem d_Model_orders_98 : decode b_Model_orders 98 = .ok (.iastore, 1) := by decide +kernel
theorem d_Model_orders_99 : decode b_Model_orders 99 = .ok (.aload_n 0, 1) := by decide +kernel
theorem d_Model_orders_100 : decode b_Model_orders 100 = .ok (.iload_n 1, 1) := by decide +kernel
theorem d_Model_orders_101 : decode b_Model_orders 101 = .ok (.iconst (1), 1) := by decide +kernel
theorem d_Model_orders_102 : decode b_Model_orders 102 = .ok (.iload 4, 2) := by decide +kernel
theorem d_Model_orders_104 : decode b_Model_orders 104 = .ok (.ishl, 1) := by decide +kernel
theorem d_Model_orders_105 : decode b_Model_orders 105 = .ok (.iconst (-1), 1) := by decide +kernel
theorem d_Model_orders_106 : decode b_Model_orders 106 = .ok (.ixor, 1) := by decide +kernel
theorem d_Model_orders_107 : decode b_Model_orders 107 = .ok (.iand, 1) := by decide +kernel
theorem d_Model_orders_108 : decode b_Model_orders 108 = .ok (.iload_n 2, 1) := by decide +kernel
theorem d_Model_orders_109 : decode b_Model_orders 109 = .ok (.iconst (1), 1) := by decide +kernel
theorem d_Model_orders_110 : decode b_Model_orders 110 = .ok (.iadd, 1) := by decide +kernel
theorem d_Model_orders_111 : decode b_Model_orders 111 = .ok (.iload_n 3, 1) := by decide +kernel
theorem d_Model_orders_112 : decode b_Model_orders 112 = .ok (.invokevirtual 226, 3) := by decide +kernel
theorem d_Model_orders_115 : decode b_Model_orders 115 = .ok (.iinc 4 (1), 3) := by decide +kernel
theorem d_Model_orders_118 : decode b_Model_orders 118 = .ok (.goto (-50), 3) := by decide +kernel
theorem d_Model_orders_121 : decode b_Model_orders 121 = .ok (.return_, 1) := by decide +kernel
theorem zb_Model_orders_38 {l : Launch} {θ : ZT} {res : Unit × ZM} {rec : Int32 × Int32 × Int32 × ZM → Option (Unit × ZM)} (n : Nat) (hrec : ∀ (a : Int32 × Int32 × Int32 × ZM) (r : Unit × ZM), rec a = some r → zMet mkV l 129 14 θ y_Model_orders b_Model_orders 6 none (zrm (40 + 1 * n) (951 + 25 * n)) [.ref (za θ 129), .int a.1, .int a.2.1, .int a.2.2.1] a.2.2.2 r) {k38 : Int32 × Int32 × ZM → Option (Unit × ZM)} (hk38 : ∀ a : Int32 × Int32 × ZM, k38 a = some res → WZ l b_Model_orders 6 none "BakedBeforeModel" 129 14 θ (zrm (40 + 1 * (n + 1)) (951 + 25 * (n + 1))) (zQ mkV 129 14 θ res) a.2.2 [(0, .ref (za θ 129)), (2, .int a.1), (5, .int a.2.1)] 38 []) {x2 : Int32} {x5 : Int32} {σ : ZM} (h : f_Model_orders_38 rec k38 x2 x5 σ = some res) : WZ l b_Model_orders 6 none "BakedBeforeModel" 129 14 θ (zrm (40 + 1 * (n + 1)) (951 + 25 * (n + 1))) (zQ mkV 129 14 θ res) σ [(0, .ref (za θ 129)), (2, .int x2), (5, .int x5)] 38 [] := by
  unfold f_Model_orders_38 at h
  refine z_iload 2 d_Model_orders_38 rfl ?_
  refine z_iload_n 1 d_Model_orders_40 rfl rfl ?_
  refine z_icmp_ge (tgt := 64) d_Model_orders_41 (by decide) (fun c1 => ?_) (fun c1 => ?_)
  · have h := (if_pos c1).symm.trans h
    exact z_vret d_Model_orders_64 h
  · have h := (if_neg c1).symm.trans h
    refine z_aload_n 0 d_Model_orders_44 rfl rfl ?_
    refine gf_Model_best zl_129 d_Model_orders_45 q_894 ?_
    refine z_iload 2 d_Model_orders_48 rfl ?_
    refine z_aload_n 0 d_Model_orders_50 rfl rfl ?_
    refine gf_Model_line zl_129 d_Model_orders_51 q_893 ?_
    refine z_iload 2 d_Model_orders_54 rfl ?_
    obtain ⟨c2, h⟩ := zck_i h
    refine w_iald zl_137 c2 d_Model_orders_56 ?_
    obtain ⟨c3, h⟩ := zck_i h
    refine w_iast zl_138 c3 d_Model_orders_57 ?_
    refine z_iinc (v := x5 + (1 : Int32)) 2 d_Model_orders_58 rfl rfl (by decide) rfl ?_
    refine z_goto (tgt := 38) d_Model_orders_61 (by decide) ?_
    refine z_sub [1, 2, 0] rfl ?_
    exact hk38 (x2, (x5 + (1 : Int32)), (zsI σ 138 x5.toNatClampNeg (zI σ 137 x5.toNatClampNeg))) h
theorem zl_Model_orders_38 {l : Launch} {θ : ZT} {res : Unit × ZM} {rec : Int32 × Int32 × Int32 × ZM → Option (Unit × ZM)} (n : Nat) (hrec : ∀ (a : Int32 × Int32 × Int32 × ZM) (r : Unit × ZM), rec a = some r → zMet mkV l 129 14 θ y_Model_orders b_Model_orders 6 none (zrm (40 + 1 * n) (951 + 25 * n)) [.ref (za θ 129), .int a.1, .int a.2.1, .int a.2.2.1] a.2.2.2 r) : ∀ (N : Nat) (a : Int32 × Int32 × ZM), F_Model_orders_38 rec N a = some res → WZ l b_Model_orders 6 none "BakedBeforeModel" 129 14 θ (zrm (40 + 1 * (n + 1)) (951 + 25 * (n + 1))) (zQ mkV 129 14 θ res) a.2.2 [(0, .ref (za θ 129)), (2, .int a.1), (5, .int a.2.1)] 38 [] := by
  intro N
  induction N with
  | zero => intro a  h; cases (show (none : Option (Unit × ZM)) = some res from h)
  | succ N ih => intro a  h; exact zb_Model_orders_38 n hrec ih (show f_Model_orders_38 rec (F_Model_orders_38 rec N) a.1 a.2.1 a.2.2 = some res from h)
theorem zb_Model_orders_29 {l : Launch} {θ : ZT} {res : Unit × ZM} {rec : Int32 × Int32 × Int32 × ZM → Option (Unit × ZM)} (n : Nat) (hrec : ∀ (a : Int32 × Int32 × Int32 × ZM) (r : Unit × ZM), rec a = some r → zMet mkV l 129 14 θ y_Model_orders b_Model_orders 6 none (zrm (40 + 1 * n) (951 + 25 * n)) [.ref (za θ 129), .int a.1, .int a.2.1, .int a.2.2.1] a.2.2.2 r) {x2 : Int32} {x4 : Int32} {σ : ZM} (h : f_Model_orders_29 rec x2 x4 σ = some res) : WZ l b_Model_orders 6 none "BakedBeforeModel" 129 14 θ (zrm (40 + 1 * (n + 1)) (951 + 25 * (n + 1))) (zQ mkV 129 14 θ res) σ [(0, .ref (za θ 129)), (2, .int x2), (4, .int x4)] 29 [] := by
  unfold f_Model_orders_29 at h
  refine z_aload_n 0 d_Model_orders_29 rfl rfl ?_
  refine z_iload 2 d_Model_orders_30 rfl ?_
  refine pf_Model_fewest zl_129 d_Model_orders_32 q_895 ?_
  refine z_iconst (v := 0) d_Model_orders_35 (by decide) ?_
  refine z_istore d_Model_orders_36 (by decide) rfl ?_
  refine z_sub [1, 2, 0] rfl ?_
  exact zl_Model_orders_38 n hrec 2000 (x2, (0 : Int32), (zsI σ 129 24 x4)) h
theorem zb_Model_orders_115 {l : Launch} {θ : ZT} {res : Unit × ZM} {rec : Int32 × Int32 × Int32 × ZM → Option (Unit × ZM)} (n : Nat) (hrec : ∀ (a : Int32 × Int32 × Int32 × ZM) (r : Unit × ZM), rec a = some r → zMet mkV l 129 14 θ y_Model_orders b_Model_orders 6 none (zrm (40 + 1 * n) (951 + 25 * n)) [.ref (za θ 129), .int a.1, .int a.2.1, .int a.2.2.1] a.2.2.2 r) {k68 : Int32 × Int32 × Int32 × Int32 × ZM → Option (Unit × ZM)} (hk68 : ∀ a : Int32 × Int32 × Int32 × Int32 × ZM, k68 a = some res → WZ l b_Model_orders 6 none "BakedBeforeModel" 129 14 θ (zrm (40 + 1 * (n + 1)) (951 + 25 * (n + 1))) (zQ mkV 129 14 θ res) a.2.2.2.2 [(0, .ref (za θ 129)), (1, .int a.1), (2, .int a.2.1), (3, .int a.2.2.1), (4, .int a.2.2.2.1)] 68 []) {x1 : Int32} {x2 : Int32} {x3 : Int32} {x4 : Int32} {σ : ZM} (h : f_Model_orders_115 rec k68 x1 x2 x3 x4 σ = some res) : WZ l b_Model_orders 6 none "BakedBeforeModel" 129 14 θ (zrm (40 + 1 * (n + 1)) (951 + 25 * (n + 1))) (zQ mkV 129 14 θ res) σ [(0, .ref (za θ 129)), (1, .int x1), (2, .int x2), (3, .int x3), (4, .int x4)] 115 [] := by
  unfold f_Model_orders_115 at h
  refine z_iinc (v := x4 + (1 : Int32)) 4 d_Model_orders_115 rfl rfl (by decide) rfl ?_
  refine z_goto (tgt := 68) d_Model_orders_118 (by decide) ?_
  refine z_sub [1, 2, 3, 4, 0] rfl ?_
  exact hk68 (x1, x2, x3, (x4 + (1 : Int32)), σ) h
theorem zb_Model_orders_68 {l : Launch} {θ : ZT} {res : Unit × ZM} {rec : Int32 × Int32 × Int32 × ZM → Option (Unit × ZM)} (n : Nat) (hrec : ∀ (a : Int32 × Int32 × Int32 × ZM) (r : Unit × ZM), rec a = some r → zMet mkV l 129 14 θ y_Model_orders b_Model_orders 6 none (zrm (40 + 1 * n) (951 + 25 * n)) [.ref (za θ 129), .int a.1, .int a.2.1, .int a.2.2.1] a.2.2.2 r) {k68 : Int32 × Int32 × Int32 × Int32 × ZM → Option (Unit × ZM)} (hk68 : ∀ a : Int32 × Int32 × Int32 × Int32 × ZM, k68 a = some res → WZ l b_Model_orders 6 none "BakedBeforeModel" 129 14 θ (zrm (40 + 1 * (n + 1)) (951 + 25 * (n + 1))) (zQ mkV 129 14 θ res) a.2.2.2.2 [(0, .ref (za θ 129)), (1, .int a.1), (2, .int a.2.1), (3, .int a.2.2.1), (4, .int a.2.2.2.1)] 68 []) {x1 : Int32} {x2 : Int32} {x3 : Int32} {x4 : Int32} {σ : ZM} (h : f_Model_orders_68 rec k68 x1 x2 x3 x4 σ = some res) : WZ l b_Model_orders 6 none "BakedBeforeModel" 129 14 θ (zrm (40 + 1 * (n + 1)) (951 + 25 * (n + 1))) (zQ mkV 129 14 θ res) σ [(0, .ref (za θ 129)), (1, .int x1), (2, .int x2), (3, .int x3), (4, .int x4)] 68 [] := by
  unfold f_Model_orders_68 at h
  refine z_iload 4 d_Model_orders_68 rfl ?_
  refine z_aload_n 0 d_Model_orders_70 rfl rfl ?_
  refine gf_Model_s zl_129 d_Model_orders_71 q_871 ?_
  refine z_iconst (v := 5) d_Model_orders_74 (by decide) ?_
  obtain ⟨c1, h⟩ := zck_i h
  refine w_iald zl_130 c1 d_Model_orders_75 ?_
  refine z_icmp_ge (tgt := 121) d_Model_orders_76 (by decide) (fun c2 => ?_) (fun c2 => ?_)
  · have h := (if_pos c2).symm.trans h
    exact z_vret d_Model_orders_121 h
  · have h := (if_neg c2).symm.trans h
    refine z_iload_n 1 d_Model_orders_79 rfl rfl ?_
    refine z_iload 4 d_Model_orders_80 rfl ?_
    refine z_ishr d_Model_orders_82 ?_
    refine z_iconst (v := 1) d_Model_orders_83 (by decide) ?_
    refine z_iand d_Model_orders_84 ?_
    refine z_if_ne (tgt := 91) d_Model_orders_85 (by decide) (fun c3 => ?_) (fun c3 => ?_)
    · have h := (if_neg c3).symm.trans h
      refine z_aload_n 0 d_Model_orders_91 rfl rfl ?_
      refine gf_Model_line zl_129 d_Model_orders_92 q_893 ?_
      refine z_iload_n 2 d_Model_orders_95 rfl rfl ?_
      refine z_iload 4 d_Model_orders_96 rfl ?_
      obtain ⟨c4, h⟩ := zck_i h
      refine w_iast zl_137 c4 d_Model_orders_98 ?_
      refine z_aload_n 0 d_Model_orders_99 rfl rfl ?_
      refine z_iload_n 1 d_Model_orders_100 rfl rfl ?_
      refine z_iconst (v := 1) d_Model_orders_101 (by decide) ?_
      refine z_iload 4 d_Model_orders_102 rfl ?_
      refine z_ishl d_Model_orders_104 ?_
      refine z_iconst (v := -1) d_Model_orders_105 (by decide) ?_
      refine z_ixor d_Model_orders_106 ?_
      refine z_iand d_Model_orders_107 ?_
      refine z_iload_n 2 d_Model_orders_108 rfl rfl ?_
      refine z_iconst (v := 1) d_Model_orders_109 (by decide) ?_
      refine z_iadd d_Model_orders_110 ?_
      refine z_iload_n 3 d_Model_orders_111 rfl rfl ?_
      obtain ⟨⟨v5, s6⟩, e7, h⟩ := zbd_i h
      refine w_callV (As := [.int (x1 &&& (((1 : Int32) <<< (x4 &&& 31)) ^^^ (-1 : Int32))), .int (x2 + (1 : Int32)), .int x3]) (kc := 22) (ci := 12) (hrec ((x1 &&& (((1 : Int32) <<< (x4 &&& 31)) ^^^ (-1 : Int32))), (x2 + (1 : Int32)), x3, (zsI σ 137 x2.toNatClampNeg x4)) _ e7) cf_Model_orders q_1146 d_Model_orders_112 zl_129 rfl rfl rfl rfl rfl rfl (Nat.le_of_ble_eq_true rfl) rfl rfl ⟨by simp only [zrm]; omega, by simp only [zrm]; omega⟩ ?_
      exact zb_Model_orders_115 n hrec hk68 h
    · have h := (if_pos c3).symm.trans h
      refine z_goto (tgt := 115) d_Model_orders_88 (by decide) ?_
      exact zb_Model_orders_115 n hrec hk68 h
theorem zl_Model_orders_68 {l : Launch} {θ : ZT} {res : Unit × ZM} {rec : Int32 × Int32 × Int32 × ZM → Option (Unit × ZM)} (n : Nat) (hrec : ∀ (a : Int32 × Int32 × Int32 × ZM) (r : Unit × ZM), rec a = some r → zMet mkV l 129 14 θ y_Model_orders b_Model_orders 6 none (zrm (40 + 1 * n) (951 + 25 * n)) [.ref (za θ 129), .int a.1, .int a.2.1, .int a.2.2.1] a.2.2.2 r) : ∀ (N : Nat) (a : Int32 × Int32 × Int32 × Int32 × ZM), F_Model_orders_68 rec N a = some res → WZ l b_Model_orders 6 none "BakedBeforeModel" 129 14 θ (zrm (40 + 1 * (n + 1)) (951 + 25 * (n + 1))) (zQ mkV 129 14 θ res) a.2.2.2.2 [(0, .ref (za θ 129)), (1, .int a.1), (2, .int a.2.1), (3, .int a.2.2.1), (4, .int a.2.2.2.1)] 68 [] := by
  intro N
  induction N with
  | zero => intro a  h; cases (show (none : Option (Unit × ZM)) = some res from h)
  | succ N ih => intro a  h; exact zb_Model_orders_68 n hrec ih (show f_Model_orders_68 rec (F_Model_orders_68 rec N) a.1 a.2.1 a.2.2.1 a.2.2.2.1 a.2.2.2.2 = some res from h)
theorem c_Model_orders (l : Launch) (θ : ZT) {rec : Int32 × Int32 × Int32 × ZM → Option (Unit × ZM)} (n : Nat) (hrec : ∀ (a : Int32 × Int32 × Int32 × ZM) (r : Unit × ZM), rec a = some r → zMet mkV l 129 14 θ y_Model_orders b_Model_orders 6 none (zrm (40 + 1 * n) (951 + 25 * n)) [.ref (za θ 129), .int a.1, .int a.2.1, .int a.2.2.1] a.2.2.2 r) {x1 : Int32} {x2 : Int32} {x3 : Int32} {σ : ZM} {res : Unit × ZM} (h : f_Model_orders rec x1 x2 x3 σ = some res) : zMet mkV l 129 14 θ y_Model_orders b_Model_orders 6 none (zrm (40 + 1 * (n + 1)) (951 + 25 * (n + 1))) [.ref (za θ 129), .int x1, .int x2, .int x3] σ res := by
  unfold f_Model_orders at h
  refine z_met (lv := [(0, .ref (za θ 129)), (1, .int x1), (2, .int x2), (3, .int x3)]) (by decide +kernel) rfl (Nat.le_of_ble_eq_true rfl) (by decide) ?_
  refine z_iload_n 2 d_Model_orders_0 rfl rfl ?_
  refine z_iload_n 3 d_Model_orders_1 rfl rfl ?_
  refine z_icmp_ne (tgt := 65) d_Model_orders_2 (by decide) (fun c1 => ?_) (fun c1 => ?_)
  · have h := (if_neg c1).symm.trans h
    refine z_iconst (v := 0) d_Model_orders_65 (by decide) ?_
    refine z_istore d_Model_orders_66 (by decide) rfl ?_
    refine z_sub [1, 2, 3, 4, 0] rfl ?_
    exact zl_Model_orders_68 n hrec 2000 (x1, x2, x3, (0 : Int32), σ) h
  · have h := (if_pos c1).symm.trans h
    refine z_aload_n 0 d_Model_orders_5 rfl rfl ?_
    refine z_iload_n 2 d_Model_orders_6 rfl rfl ?_
    obtain ⟨⟨v2, s3⟩, e4, h⟩ := zbd_i h
    refine w_callV (As := [.int x2]) (kc := 22) (ci := 12) (c_Model_spoiledBy l θ e4) cf_Model_spoiledBy q_1150 d_Model_orders_7 zl_129 rfl rfl rfl rfl rfl rfl (Nat.le_of_ble_eq_true rfl) rfl rfl ⟨by simp only [zrm]; omega, by simp only [zrm]; omega⟩ ?_
    refine z_istore d_Model_orders_10 (by decide) rfl ?_
    refine z_aload_n 1 d_Model_orders_12 rfl rfl ?_
    refine gf_Model_fewest zl_129 d_Model_orders_13 q_895 ?_
    refine z_if_lt (tgt := 29) d_Model_orders_16 (by decide) (fun c5 => ?_) (fun c5 => ?_)
    · have h := (if_pos c5).symm.trans h
      refine z_sub [1, 3, 0] rfl ?_
      exact zb_Model_orders_29 n hrec h
    · have h := (if_neg c5).symm.trans h
      refine z_iload 0 d_Model_orders_19 rfl ?_
      refine z_aload_n 1 d_Model_orders_21 rfl rfl ?_
      refine gf_Model_fewest zl_129 d_Model_orders_22 q_895 ?_
      refine z_icmp_lt (tgt := 29) d_Model_orders_25 (by decide) (fun c6 => ?_) (fun c6 => ?_)
      · have h := (if_pos c6).symm.trans h
        refine z_sub [1, 3, 0] rfl ?_
        exact zb_Model_orders_29 n hrec h
      · have h := (if_neg c6).symm.trans h
        exact z_vret d_Model_orders_28 h
theorem cn_Model_orders (l : Launch) (θ : ZT) : ∀ (n : Nat) (a : Int32 × Int32 × Int32 × ZM) (r : Unit × ZM), F_Model_orders n a = some r → zMet mkV l 129 14 θ y_Model_orders b_Model_orders 6 none (zrm (40 + 1 * n) (951 + 25 * n)) [.ref (za θ 129), .int a.1, .int a.2.1, .int a.2.2.1] a.2.2.2 r := by
  intro n
  induction n with
  | zero => intro a r h; cases (show (none : Option (Unit × ZM)) = some r from h)
  | succ n ih => intro a r h; exact c_Model_orders l θ n ih (show f_Model_orders (F_Model_orders n) a.1 a.2.1 a.2.2.1 a.2.2.2 = some r from h)
theorem d_Model_order_0 : decode b_Model_order 0 = .ok (.iload_n 2, 1) := by decide +kernel
theorem d_Model_order_1 : decode b_Model_order 1 = .ok (.iconst (-1), 1) := by decide +kernel
theorem d_Model_order_2 : decode b_Model_order 2 = .ok (.iconst (5), 1) := by decide +kernel
theorem d_Model_order_3 : decode b_Model_order 3 = .ok (.invokestatic 52, 3) := by decide +kernel
theorem d_Model_order_6 : decode b_Model_order 6 = .ok (.ifCond .ne (5), 3) := by decide +kernel
theorem d_Model_order_9 : decode b_Model_order 9 = .ok (.iconst (-1), 1) := by decide +kernel
theorem d_Model_order_10 : decode b_Model_order 10 = .ok (.ireturn, 1) := by decide +kernel
theorem d_Model_order_11 : decode b_Model_order 11 = .ok (.aload_n 0, 1) := by decide +kernel
theorem d_Model_order_12 : decode b_Model_order 12 = .ok (.iload_n 1, 1) := by decide +kernel
theorem d_Model_order_13 : decode b_Model_order 13 = .ok (.invokevirtual 229, 3) := by decide +kernel
theorem d_Model_order_16 : decode b_Model_order 16 = .ok (.ifCond .eq (11), 3) := by decide +kernel
theorem d_Model_order_19 : decode b_Model_order 19 = .ok (.iload_n 1, 1) := by decide +kernel
theorem d_Model_order_20 : decode b_Model_order 20 = .ok (.invokestatic 232, 3) := by decide +kernel
theorem d_Model_order_23 : decode b_Model_order 23 = .ok (.iconst (5), 1) := by decide +kernel
theorem d_Model_order_24 : decode b_Model_order 24 = .ok (.if_icmp .le (6), 3) := by decide +kernel
theorem d_Model_order_27 : decode b_Model_order 27 = .ok (.bipush (-2), 2) := by decide +kernel
theorem d_Model_order_29 : decode b_Model_order 29 = .ok (.ireturn, 1) := by decide +kernel
theorem d_Model_order_30 : decode b_Model_order 30 = .ok (.aload_n 0, 1) := by decide +kernel
theorem d_Model_order_31 : decode b_Model_order 31 = .ok (.iconst (-1), 1) := by decide +kernel
theorem d_Model_order_32 : decode b_Model_order 32 = .ok (.putfield 223, 3) := by decide +kernel
theorem d_Model_order_35 : decode b_Model_order 35 = .ok (.aload_n 0, 1) := by decide +kernel
theorem d_Model_order_36 : decode b_Model_order 36 = .ok (.iload_n 1, 1) := by decide +kernel
theorem d_Model_order_37 : decode b_Model_order 37 = .ok (.iconst (0), 1) := by decide +kernel
theorem d_Model_order_38 : decode b_Model_order 38 = .ok (.iload_n 1, 1) := by decide +kernel
theorem d_Model_order_39 : decode b_Model_order 39 = .ok (.invokestatic 232, 3) := by decide +kernel
theorem d_Model_order_42 : decode b_Model_order 42 = .ok (.invokevirtual 226, 3) := by decide +kernel
theorem d_Model_order_45 : decode b_Model_order 45 = .ok (.iload_n 2, 1) := by decide +kernel
theorem d_Model_order_46 : decode b_Model_order 46 = .ok (.ifCond .ge (10), 3) := by decide +kernel
theorem d_Model_order_49 : decode b_Model_order 49 = .ok (.aload_n 0, 1) := by decide +kernel
theorem d_Model_order_50 : decode b_Model_order 50 = .ok (.getfield 223, 3) := by decide +kernel
theorem d_Model_order_53 : decode b_Model_order 53 = .ok (.goto (22), 3) := by decide +kernel
theorem d_Model_order_56 : decode b_Model_order 56 = .ok (.iload_n 2, 1) := by decide +kernel
theorem d_Model_order_57 : decode b_Model_order 57 = .ok (.iload_n 1, 1) := by decide +kernel
theorem d_Model_order_58 : decode b_Model_order 58 = .ok (.invokestatic 232, 3) := by decide +kernel
theorem d_Model_order_61 : decode b_Model_order 61 = .ok (.if_icmp .ge (12), 3) := by decide +kernel
theorem d_Model_order_64 : decode b_Model_order 64 = .ok (.aload_n 0, 1) := by decide +kernel
theorem d_Model_order_65 : decode b_Model_order 65 = .ok (.getfield 36, 3) := by decide +kernel
theorem d_Model_order_68 : decode b_Model_order 68 = .ok (.iload_n 2, 1) := by decide +kernel
theorem d_Model_order_69 : decode b_Model_order 69 = .ok (.iaload, 1) := by decide +kernel
theorem d_Model_order_70 : decode b_Model_order 70 = .ok (.goto (5), 3) := by decide +kernel
theorem d_Model_order_73 : decode b_Model_order 73 = .ok (.bipush (-5), 2) := by decide +kernel
theorem d_Model_order_75 : decode b_Model_order 75 = .ok (.ireturn, 1) := by decide +kernel
theorem c_Model_order (l : Launch) (θ : ZT) {x1 : Int32} {x2 : Int32} {σ : ZM} {res : Int32 × ZM} (h : f_Model_order x1 x2 σ = some res) : zMet mkI l 129 14 θ y_Model_order b_Model_order 3 (some .int) (zrm 49 1176) [.ref (za θ 129), .int x1, .int x2] σ res := by
  unfold f_Model_order at h
  refine z_met (lv := [(0, .ref (za θ 129)), (1, .int x1), (2, .int x2)]) (by decide +kernel) rfl (Nat.le_of_ble_eq_true rfl) (by decide) ?_
  refine z_iload_n 2 d_Model_order_0 rfl rfl ?_
  refine z_iconst (v := -1) d_Model_order_1 (by decide) ?_
  refine z_iconst (v := 5) d_Model_order_2 (by decide) ?_
  obtain ⟨⟨v1, s2⟩, e3, h⟩ := zbd_i h
  refine w_callS (As := [.int x2, .int (-1 : Int32), .int (5 : Int32)]) (c_Model_isIn l θ e3) cf_Model_isIn q_969 d_Model_order_3 rfl rfl rfl (Nat.le_of_ble_eq_true rfl) rfl rfl ⟨Nat.le_of_ble_eq_true rfl, Nat.le_of_ble_eq_true rfl⟩ ?_
  refine z_if_ne (tgt := 11) d_Model_order_6 (by decide) (fun c4 => ?_) (fun c4 => ?_)
  · have h := (if_neg c4).symm.trans h
    refine z_aload_n 0 d_Model_order_11 rfl rfl ?_
    refine z_iload_n 1 d_Model_order_12 rfl rfl ?_
    obtain ⟨⟨v5, s6⟩, e7, h⟩ := zbd_i h
    refine w_callV (As := [.int x1]) (kc := 22) (ci := 12) (c_Model_areLoaves l θ e7) cf_Model_areLoaves q_1139 d_Model_order_13 zl_129 rfl rfl rfl rfl rfl rfl (Nat.le_of_ble_eq_true rfl) rfl rfl ⟨Nat.le_of_ble_eq_true rfl, Nat.le_of_ble_eq_true rfl⟩ ?_
    refine z_if_eq (tgt := 27) d_Model_order_16 (by decide) (fun c8 => ?_) (fun c8 => ?_)
    · have h := (if_pos c8).symm.trans h
      refine z_bipush (v := -2) d_Model_order_27 (by decide) ?_
      exact z_iret d_Model_order_29 h
    · have h := (if_neg c8).symm.trans h
      refine z_iload_n 1 d_Model_order_19 rfl rfl ?_
      obtain ⟨⟨v9, s10⟩, e11, h⟩ := zbd_i h
      refine w_callS (As := [.int x1]) (c_Model_bits l θ e11) cf_Model_bits q_1143 d_Model_order_20 rfl rfl rfl (Nat.le_of_ble_eq_true rfl) rfl rfl ⟨Nat.le_of_ble_eq_true rfl, Nat.le_of_ble_eq_true rfl⟩ ?_
      refine z_iconst (v := 5) d_Model_order_23 (by decide) ?_
      refine z_icmp_le (tgt := 30) d_Model_order_24 (by decide) (fun c12 => ?_) (fun c12 => ?_)
      · have h := (if_pos c12).symm.trans h
        refine z_aload_n 0 d_Model_order_30 rfl rfl ?_
        refine z_iconst (v := -1) d_Model_order_31 (by decide) ?_
        refine pf_Model_fewest zl_129 d_Model_order_32 q_895 ?_
        refine z_aload_n 0 d_Model_order_35 rfl rfl ?_
        refine z_iload_n 1 d_Model_order_36 rfl rfl ?_
        refine z_iconst (v := 0) d_Model_order_37 (by decide) ?_
        refine z_iload_n 1 d_Model_order_38 rfl rfl ?_
        obtain ⟨⟨v13, s14⟩, e15, h⟩ := zbd_i h
        refine w_callS (As := [.int x1]) (c_Model_bits l θ e15) cf_Model_bits q_1143 d_Model_order_39 rfl rfl rfl (Nat.le_of_ble_eq_true rfl) rfl rfl ⟨Nat.le_of_ble_eq_true rfl, Nat.le_of_ble_eq_true rfl⟩ ?_
        obtain ⟨⟨v16, s17⟩, e18, h⟩ := zbd_i h
        refine w_callV (As := [.int x1, .int (0 : Int32), .int v13]) (kc := 22) (ci := 12) (cn_Model_orders l θ 8 (x1, (0 : Int32), v13, s14) _ e18) cf_Model_orders q_1146 d_Model_order_42 zl_129 rfl rfl rfl rfl rfl rfl (Nat.le_of_ble_eq_true rfl) rfl rfl ⟨Nat.le_of_ble_eq_true rfl, Nat.le_of_ble_eq_true rfl⟩ ?_
        refine z_iload_n 2 d_Model_order_45 rfl rfl ?_
        refine z_if_ge (tgt := 56) d_Model_order_46 (by decide) (fun c19 => ?_) (fun c19 => ?_)
        · have h := (if_pos c19).symm.trans h
          refine z_iload_n 2 d_Model_order_56 rfl rfl ?_
          refine z_iload_n 1 d_Model_order_57 rfl rfl ?_
          obtain ⟨⟨v20, s21⟩, e22, h⟩ := zbd_i h
          refine w_callS (As := [.int x1]) (c_Model_bits l θ e22) cf_Model_bits q_1143 d_Model_order_58 rfl rfl rfl (Nat.le_of_ble_eq_true rfl) rfl rfl ⟨Nat.le_of_ble_eq_true rfl, Nat.le_of_ble_eq_true rfl⟩ ?_
          refine z_icmp_ge (tgt := 73) d_Model_order_61 (by decide) (fun c23 => ?_) (fun c23 => ?_)
          · have h := (if_pos c23).symm.trans h
            refine z_bipush (v := -5) d_Model_order_73 (by decide) ?_
            exact z_iret d_Model_order_75 h
          · have h := (if_neg c23).symm.trans h
            refine z_aload_n 0 d_Model_order_64 rfl rfl ?_
            refine gf_Model_best zl_129 d_Model_order_65 q_894 ?_
            refine z_iload_n 2 d_Model_order_68 rfl rfl ?_
            obtain ⟨c24, h⟩ := zck_i h
            refine w_iald zl_138 c24 d_Model_order_69 ?_
            refine z_goto (tgt := 75) d_Model_order_70 (by decide) ?_
            exact z_iret d_Model_order_75 h
        · have h := (if_neg c19).symm.trans h
          refine z_aload_n 0 d_Model_order_49 rfl rfl ?_
          refine gf_Model_fewest zl_129 d_Model_order_50 q_895 ?_
          refine z_goto (tgt := 75) d_Model_order_53 (by decide) ?_
          exact z_iret d_Model_order_75 h
      · have h := (if_neg c12).symm.trans h
        refine z_bipush (v := -2) d_Model_order_27 (by decide) ?_
        exact z_iret d_Model_order_29 h
  · have h := (if_pos c4).symm.trans h
    refine z_iconst (v := -1) d_Model_order_9 (by decide) ?_
    exact z_iret d_Model_order_10 h
theorem d_Model_memberOf_0 : decode b_Model_memberOf 0 = .ok (.iload_n 1, 1) := by decide +kernel
theorem d_Model_memberOf_1 : decode b_Model_memberOf 1 = .ok (.istore_n 2, 1) := by decide +kernel
theorem d_Model_memberOf_2 : decode b_Model_memberOf 2 = .ok (.iconst (0), 1) := by decide +kernel
theorem d_Model_memberOf_3 : decode b_Model_memberOf 3 = .ok (.istore_n 3, 1) := by decide +kernel
theorem d_Model_memberOf_4 : decode b_Model_memberOf 4 = .ok (.iload_n 0, 1) := by decide +kernel
theorem d_Model_memberOf_5 : decode b_Model_memberOf 5 = .ok (.iload_n 3, 1) := by decide +kernel
theorem d_Model_memberOf_6 : decode b_Model_memberOf 6 = .ok (.ishr, 1) := by decide +kernel
theorem d_Model_memberOf_7 : decode b_Model_memberOf 7 = .ok (.iconst (1), 1) := by decide +kernel
theorem d_Model_memberOf_8 : decode b_Model_memberOf 8 = .ok (.iand, 1) := by decide +kernel
theorem d_Model_memberOf_9 : decode b_Model_memberOf 9 = .ok (.ifCond .eq (7), 3) := by decide +kernel
theorem d_Model_memberOf_12 : decode b_Model_memberOf 12 = .ok (.iload_n 2, 1) := by decide +kernel
theorem d_Model_memberOf_13 : decode b_Model_memberOf 13 = .ok (.ifCond .le (17), 3) := by decide +kernel
theorem d_Model_memberOf_16 : decode b_Model_memberOf 16 = .ok (.iload_n 2, 1) := by decide +kernel
theorem d_Model_memberOf_17 : decode b_Model_memberOf 17 = .ok (.iload_n 0, 1) := by decide +kernel
theorem d_Model_memberOf_18 : decode b_Model_memberOf 18 = .ok (.iload_n 3, 1) := by decide +kernel
theorem d_Model_memberOf_19 : decode b_Model_memberOf 19 = .ok (.ishr, 1) := by decide +kernel
theorem d_Model_memberOf_20 : decode b_Model_memberOf 20 = .ok (.iconst (1), 1) := by decide +kernel
theorem d_Model_memberOf_21 : decode b_Model_memberOf 21 = .ok (.iand, 1) := by decide +kernel
theorem d_Model_memberOf_22 : decode b_Model_memberOf 22 = .ok (.isub, 1) := by decide +kernel
theorem d_Model_memberOf_23 : decode b_Model_memberOf 23 = .ok (.istore_n 2, 1) := by decide +kernel
theorem d_Model_memberOf_24 : decode b_Model_memberOf 24 = .ok (.iinc 3 (1), 3) := by decide +kernel
theorem d_Model_memberOf_27 : decode b_Model_memberOf 27 = .ok (.goto (-23), 3) := by decide +kernel
theorem d_Model_memberOf_30 : decode b_Model_memberOf 30 = .ok (.iload_n 3, 1) := by decide +kernel
theorem d_Model_memberOf_31 : decode b_Model_memberOf 31 = .ok (.ireturn, 1) := by decide +kernel
theorem zb_Model_memberOf_16 {l : Launch} {θ : ZT} {res : Int32 × ZM} {k4 : Int32 × Int32 × Int32 × ZM → Option (Int32 × ZM)} (hk4 : ∀ a : Int32 × Int32 × Int32 × ZM, k4 a = some res → WZ l b_Model_memberOf 4 (some .int) "BakedBeforeModel" 129 14 θ (zrm 1 60) (zQ mkI 129 14 θ res) a.2.2.2 [(0, .int a.1), (2, .int a.2.1), (3, .int a.2.2.1)] 4 []) {x0 : Int32} {x2 : Int32} {x3 : Int32} {σ : ZM} (h : f_Model_memberOf_16 k4 x0 x2 x3 σ = some res) : WZ l b_Model_memberOf 4 (some .int) "BakedBeforeModel" 129 14 θ (zrm 1 60) (zQ mkI 129 14 θ res) σ [(0, .int x0), (2, .int x2), (3, .int x3)] 16 [] := by
  unfold f_Model_memberOf_16 at h
  refine z_iload_n 1 d_Model_memberOf_16 rfl rfl ?_
  refine z_iload_n 0 d_Model_memberOf_17 rfl rfl ?_
  refine z_iload_n 2 d_Model_memberOf_18 rfl rfl ?_
  refine z_ishr d_Model_memberOf_19 ?_
  refine z_iconst (v := 1) d_Model_memberOf_20 (by decide) ?_
  refine z_iand d_Model_memberOf_21 ?_
  refine z_isub d_Model_memberOf_22 ?_
  refine z_istore_n d_Model_memberOf_23 rfl (by decide) rfl ?_
  refine z_iinc (v := x3 + (1 : Int32)) 2 d_Model_memberOf_24 rfl rfl (by decide) rfl ?_
  refine z_goto (tgt := 4) d_Model_memberOf_27 (by decide) ?_
  refine z_sub [2, 1, 0] rfl ?_
  exact hk4 (x0, (x2 - ((x0 >>> (x3 &&& 31)) &&& (1 : Int32))), (x3 + (1 : Int32)), σ) h
theorem zb_Model_memberOf_4 {l : Launch} {θ : ZT} {res : Int32 × ZM} {k4 : Int32 × Int32 × Int32 × ZM → Option (Int32 × ZM)} (hk4 : ∀ a : Int32 × Int32 × Int32 × ZM, k4 a = some res → WZ l b_Model_memberOf 4 (some .int) "BakedBeforeModel" 129 14 θ (zrm 1 60) (zQ mkI 129 14 θ res) a.2.2.2 [(0, .int a.1), (2, .int a.2.1), (3, .int a.2.2.1)] 4 []) {x0 : Int32} {x2 : Int32} {x3 : Int32} {σ : ZM} (h : f_Model_memberOf_4 k4 x0 x2 x3 σ = some res) : WZ l b_Model_memberOf 4 (some .int) "BakedBeforeModel" 129 14 θ (zrm 1 60) (zQ mkI 129 14 θ res) σ [(0, .int x0), (2, .int x2), (3, .int x3)] 4 [] := by
  unfold f_Model_memberOf_4 at h
  refine z_iload_n 0 d_Model_memberOf_4 rfl rfl ?_
  refine z_iload_n 2 d_Model_memberOf_5 rfl rfl ?_
  refine z_ishr d_Model_memberOf_6 ?_
  refine z_iconst (v := 1) d_Model_memberOf_7 (by decide) ?_
  refine z_iand d_Model_memberOf_8 ?_
  refine z_if_eq (tgt := 16) d_Model_memberOf_9 (by decide) (fun c1 => ?_) (fun c1 => ?_)
  · have h := (if_pos c1).symm.trans h
    exact zb_Model_memberOf_16 hk4 h
  · have h := (if_neg c1).symm.trans h
    refine z_iload_n 1 d_Model_memberOf_12 rfl rfl ?_
    refine z_if_le (tgt := 30) d_Model_memberOf_13 (by decide) (fun c2 => ?_) (fun c2 => ?_)
    · have h := (if_pos c2).symm.trans h
      refine z_iload_n 2 d_Model_memberOf_30 rfl rfl ?_
      exact z_iret d_Model_memberOf_31 h
    · have h := (if_neg c2).symm.trans h
      exact zb_Model_memberOf_16 hk4 h
theorem zl_Model_memberOf_4 {l : Launch} {θ : ZT} {res : Int32 × ZM} : ∀ (N : Nat) (a : Int32 × Int32 × Int32 × ZM), F_Model_memberOf_4 N a = some res → WZ l b_Model_memberOf 4 (some .int) "BakedBeforeModel" 129 14 θ (zrm 1 60) (zQ mkI 129 14 θ res) a.2.2.2 [(0, .int a.1), (2, .int a.2.1), (3, .int a.2.2.1)] 4 [] := by
  intro N
  induction N with
  | zero => intro a  h; cases (show (none : Option (Int32 × ZM)) = some res from h)
  | succ N ih => intro a  h; exact zb_Model_memberOf_4 ih (show f_Model_memberOf_4 (F_Model_memberOf_4 N) a.1 a.2.1 a.2.2.1 a.2.2.2 = some res from h)
theorem c_Model_memberOf (l : Launch) (θ : ZT) {x0 : Int32} {x1 : Int32} {σ : ZM} {res : Int32 × ZM} (h : f_Model_memberOf x0 x1 σ = some res) : zMet mkI l 129 14 θ y_Model_memberOf b_Model_memberOf 4 (some .int) (zrm 1 60) [.int x0, .int x1] σ res := by
  unfold f_Model_memberOf at h
  refine z_met (lv := [(0, .int x0), (1, .int x1)]) (by decide +kernel) rfl (Nat.le_of_ble_eq_true rfl) (by decide) ?_
  refine z_iload_n 1 d_Model_memberOf_0 rfl rfl ?_
  refine z_istore_n d_Model_memberOf_1 rfl (by decide) rfl ?_
  refine z_iconst (v := 0) d_Model_memberOf_2 (by decide) ?_
  refine z_istore_n d_Model_memberOf_3 rfl (by decide) rfl ?_
  refine z_sub [2, 1, 0] rfl ?_
  exact zl_Model_memberOf_4 2000 (x0, x1, (0 : Int32), σ) h
theorem d_Model_isWellBy_0 : decode b_Model_isWellBy 0 = .ok (.iconst (1), 1) := by decide +kernel
theorem d_Model_isWellBy_1 : decode b_Model_isWellBy 1 = .ok (.istore 4, 2) := by decide +kernel
theorem d_Model_isWellBy_3 : decode b_Model_isWellBy 3 = .ok (.aload_n 0, 1) := by decide +kernel
theorem d_Model_isWellBy_4 : decode b_Model_isWellBy 4 = .ok (.invokevirtual 214, 3) := by decide +kernel
theorem d_Model_isWellBy_7 : decode b_Model_isWellBy 7 = .ok (.iload_n 3, 1) := by decide +kernel
theorem d_Model_isWellBy_8 : decode b_Model_isWellBy 8 = .ok (.istore 5, 2) := by decide +kernel
theorem d_Model_isWellBy_10 : decode b_Model_isWellBy 10 = .ok (.iconst (0), 1) := by decide +kernel
theorem d_Model_isWellBy_11 : decode b_Model_isWellBy 11 = .ok (.istore 6, 2) := by decide +kernel
theorem d_Model_isWellBy_13 : decode b_Model_isWellBy 13 = .ok (.iload 6, 2) := by decide +kernel
theorem d_Model_isWellBy_15 : decode b_Model_isWellBy 15 = .ok (.iload_n 1, 1) := by decide +kernel
theorem d_Model_isWellBy_16 : decode b_Model_isWellBy 16 = .ok (.invokestatic 232, 3) := by decide +kernel
theorem d_Model_isWellBy_19 : decode b_Model_isWellBy 19 = .ok (.if_icmp .ge (63), 3) := by decide +kernel
theorem d_Model_isWellBy_22 : decode b_Model_isWellBy 22 = .ok (.iload 4, 2) := by decide +kernel
theorem d_Model_isWellBy_24 : decode b_Model_isWellBy 24 = .ok (.ifCond .eq (58), 3) := by decide +kernel
theorem d_Model_isWellBy_27 : decode b_Model_isWellBy 27 = .ok (.iload_n 2, 1) := by decide +kernel
theorem d_Model_isWellBy_28 : decode b_Model_isWellBy 28 = .ok (.iload 5, 2) := by decide +kernel
theorem d_Model_isWellBy_30 : decode b_Model_isWellBy 30 = .ok (.idiv, 1) := by decide +kernel
theorem d_Model_isWellBy_31 : decode b_Model_isWellBy 31 = .ok (.iconst (5), 1) := by decide +kernel
theorem d_Model_isWellBy_32 : decode b_Model_isWellBy 32 = .ok (.irem, 1) := by decide +kernel
theorem d_Model_isWellBy_33 : decode b_Model_isWellBy 33 = .ok (.istore 7, 2) := by decide +kernel
theorem d_Model_isWellBy_35 : decode b_Model_isWellBy 35 = .ok (.iload 7, 2) := by decide +kernel
theorem d_Model_isWellBy_37 : decode b_Model_isWellBy 37 = .ok (.ifCond .le (13), 3) := by decide +kernel
theorem d_Model_isWellBy_40 : decode b_Model_isWellBy 40 = .ok (.aload_n 0, 1) := by decide +kernel
theorem d_Model_isWellBy_41 : decode b_Model_isWellBy 41 = .ok (.invokevirtual 211, 3) := by decide +kernel
theorem d_Model_isWellBy_44 : decode b_Model_isWellBy 44 = .ok (.iinc 7 (-1), 3) := by decide +kernel
theorem d_Model_isWellBy_47 : decode b_Model_isWellBy 47 = .ok (.goto (-12), 3) := by decide +kernel
theorem d_Model_isWellBy_50 : decode b_Model_isWellBy 50 = .ok (.aload_n 0, 1) := by decide +kernel
theorem d_Model_isWellBy_51 : decode b_Model_isWellBy 51 = .ok (.iload_n 1, 1) := by decide +kernel
theorem d_Model_isWellBy_52 : decode b_Model_isWellBy 52 = .ok (.iload 6, 2) := by decide +kernel
theorem d_Model_isWellBy_54 : decode b_Model_isWellBy 54 = .ok (.invokestatic 235, 3) := by decide +kernel
theorem d_Model_isWellBy_57 : decode b_Model_isWellBy 57 = .ok (.invokevirtual 208, 3) := by decide +kernel
theorem d_Model_isWellBy_60 : decode b_Model_isWellBy 60 = .ok (.ifCond .ne (7), 3) := by decide +kernel
theorem d_Model_isWellBy_63 : decode b_Model_isWellBy 63 = .ok (.iconst (1), 1) := by decide +kernel
theorem d_Model_isWellBy_64 : decode b_Model_isWellBy 64 = .ok (.goto (4), 3) := by decide +kernel
theorem d_Model_isWellBy_67 : decode b_Model_isWellBy 67 = .ok (.iconst (0), 1) := by decide +kernel
theorem d_Model_isWellBy_68 : decode b_Model_isWellBy 68 = .ok (.istore 4, 2) := by decide +kernel
theorem d_Model_isWellBy_70 : decode b_Model_isWellBy 70 = .ok (.iload 5, 2) := by decide +kernel
theorem d_Model_isWellBy_72 : decode b_Model_isWellBy 72 = .ok (.iconst (5), 1) := by decide +kernel
theorem d_Model_isWellBy_73 : decode b_Model_isWellBy 73 = .ok (.idiv, 1) := by decide +kernel
theorem d_Model_isWellBy_74 : decode b_Model_isWellBy 74 = .ok (.istore 5, 2) := by decide +kernel
theorem d_Model_isWellBy_76 : decode b_Model_isWellBy 76 = .ok (.iinc 6 (1), 3) := by decide +kernel
theorem d_Model_isWellBy_79 : decode b_Model_isWellBy 79 = .ok (.goto (-66), 3) := by decide +kernel
theorem d_Model_isWellBy_82 : decode b_Model_isWellBy 82 = .ok (.aload_n 0, 1) := by decide +kernel
theorem d_Model_isWellBy_83 : decode b_Model_isWellBy 83 = .ok (.invokevirtual 217, 3) := by decide +kernel
theorem d_Model_isWellBy_86 : decode b_Model_isWellBy 86 = .ok (.iload 4, 2) := by decide +kernel
theorem d_Model_isWellBy_88 : decode b_Model_isWellBy 88 = .ok (.ireturn, 1) := by decide +kernel
theorem zb_Model_isWellBy_68 {l : Launch} {θ : ZT} {res : Int32 × ZM} {k13 : Int32 × Int32 × Int32 × Int32 × Int32 × ZM → Option (Int32 × ZM)} (hk13 : ∀ a : Int32 × Int32 × Int32 × Int32 × Int32 × ZM, k13 a = some res → WZ l b_Model_isWellBy 8 (some .boolean) "BakedBeforeModel" 129 14 θ (zrm 39 928) (zQ mkI 129 14 θ res) a.2.2.2.2.2 [(0, .ref (za θ 129)), (1, .int a.1), (2, .int a.2.1), (4, .int a.2.2.1), (5, .int a.2.2.2.1), (6, .int a.2.2.2.2.1)] 13 []) {x1 : Int32} {x2 : Int32} {x5 : Int32} {x6 : Int32} {y0 : Int32} {σ : ZM} (h : f_Model_isWellBy_68 k13 x1 x2 x5 x6 y0 σ = some res) : WZ l b_Model_isWellBy 8 (some .boolean) "BakedBeforeModel" 129 14 θ (zrm 39 928) (zQ mkI 129 14 θ res) σ [(0, .ref (za θ 129)), (1, .int x1), (2, .int x2), (5, .int x5), (6, .int x6)] 68 [.int y0] := by
  unfold f_Model_isWellBy_68 at h
  refine z_istore d_Model_isWellBy_68 (by decide) rfl ?_
  refine z_iload 4 d_Model_isWellBy_70 rfl ?_
  refine z_iconst (v := 5) d_Model_isWellBy_72 (by decide) ?_
  refine z_idiv d_Model_isWellBy_73 (by decide) ?_
  refine z_istore d_Model_isWellBy_74 (by decide) rfl ?_
  refine z_iinc (v := x6 + (1 : Int32)) 5 d_Model_isWellBy_76 rfl rfl (by decide) rfl ?_
  refine z_goto (tgt := 13) d_Model_isWellBy_79 (by decide) ?_
  refine z_sub [3, 4, 5, 2, 1, 0] rfl ?_
  exact hk13 (x1, x2, y0, (x5 / (5 : Int32)), (x6 + (1 : Int32)), σ) h
theorem zb_Model_isWellBy_35 {l : Launch} {θ : ZT} {res : Int32 × ZM} {k13 : Int32 × Int32 × Int32 × Int32 × Int32 × ZM → Option (Int32 × ZM)} (hk13 : ∀ a : Int32 × Int32 × Int32 × Int32 × Int32 × ZM, k13 a = some res → WZ l b_Model_isWellBy 8 (some .boolean) "BakedBeforeModel" 129 14 θ (zrm 39 928) (zQ mkI 129 14 θ res) a.2.2.2.2.2 [(0, .ref (za θ 129)), (1, .int a.1), (2, .int a.2.1), (4, .int a.2.2.1), (5, .int a.2.2.2.1), (6, .int a.2.2.2.2.1)] 13 []) {k35 : Int32 × Int32 × Int32 × Int32 × Int32 × ZM → Option (Int32 × ZM)} (hk35 : ∀ a : Int32 × Int32 × Int32 × Int32 × Int32 × ZM, k35 a = some res → WZ l b_Model_isWellBy 8 (some .boolean) "BakedBeforeModel" 129 14 θ (zrm 39 928) (zQ mkI 129 14 θ res) a.2.2.2.2.2 [(0, .ref (za θ 129)), (1, .int a.1), (2, .int a.2.1), (5, .int a.2.2.1), (6, .int a.2.2.2.1), (7, .int a.2.2.2.2.1)] 35 []) {x1 : Int32} {x2 : Int32} {x5 : Int32} {x6 : Int32} {x7 : Int32} {σ : ZM} (h : f_Model_isWellBy_35 k13 k35 x1 x2 x5 x6 x7 σ = some res) : WZ l b_Model_isWellBy 8 (some .boolean) "BakedBeforeModel" 129 14 θ (zrm 39 928) (zQ mkI 129 14 θ res) σ [(0, .ref (za θ 129)), (1, .int x1), (2, .int x2), (5, .int x5), (6, .int x6), (7, .int x7)] 35 [] := by
  unfold f_Model_isWellBy_35 at h
  refine z_iload 5 d_Model_isWellBy_35 rfl ?_
  refine z_if_le (tgt := 50) d_Model_isWellBy_37 (by decide) (fun c1 => ?_) (fun c1 => ?_)
  · have h := (if_pos c1).symm.trans h
    refine z_aload_n 0 d_Model_isWellBy_50 rfl rfl ?_
    refine z_iload_n 1 d_Model_isWellBy_51 rfl rfl ?_
    refine z_iload 4 d_Model_isWellBy_52 rfl ?_
    obtain ⟨⟨v2, s3⟩, e4, h⟩ := zbd_i h
    refine w_callS (As := [.int x1, .int x6]) (c_Model_memberOf l θ e4) cf_Model_memberOf q_1162 d_Model_isWellBy_54 rfl rfl rfl (Nat.le_of_ble_eq_true rfl) rfl rfl ⟨Nat.le_of_ble_eq_true rfl, Nat.le_of_ble_eq_true rfl⟩ ?_
    obtain ⟨⟨v5, s6⟩, e7, h⟩ := zbd_i h
    refine w_callV (As := [.int v2]) (kc := 22) (ci := 12) (c_Model_bakes l θ e7) cf_Model_bakes q_1104 d_Model_isWellBy_57 zl_129 rfl rfl rfl rfl rfl rfl (Nat.le_of_ble_eq_true rfl) rfl rfl ⟨Nat.le_of_ble_eq_true rfl, Nat.le_of_ble_eq_true rfl⟩ ?_
    refine z_if_ne (tgt := 67) d_Model_isWellBy_60 (by decide) (fun c8 => ?_) (fun c8 => ?_)
    · have h := (if_neg c8).symm.trans h
      refine z_iconst (v := 0) d_Model_isWellBy_67 (by decide) ?_
      refine z_sub [0, 1, 2, 3, 4] rfl ?_
      exact zb_Model_isWellBy_68 hk13 h
    · have h := (if_pos c8).symm.trans h
      refine z_iconst (v := 1) d_Model_isWellBy_63 (by decide) ?_
      refine z_goto (tgt := 68) d_Model_isWellBy_64 (by decide) ?_
      refine z_sub [0, 1, 2, 3, 4] rfl ?_
      exact zb_Model_isWellBy_68 hk13 h
  · have h := (if_neg c1).symm.trans h
    refine z_aload_n 0 d_Model_isWellBy_40 rfl rfl ?_
    obtain ⟨⟨v9, s10⟩, e11, h⟩ := zbd_i h
    refine w_callV (As := []) (kc := 22) (ci := 12) (c_Model_cools l θ e11) cf_Model_cools q_1116 d_Model_isWellBy_41 zl_129 rfl rfl rfl rfl rfl rfl (Nat.le_of_ble_eq_true rfl) rfl rfl ⟨Nat.le_of_ble_eq_true rfl, Nat.le_of_ble_eq_true rfl⟩ ?_
    refine z_iinc (v := x7 + (-1 : Int32)) 5 d_Model_isWellBy_44 rfl rfl (by decide) rfl ?_
    refine z_goto (tgt := 35) d_Model_isWellBy_47 (by decide) ?_
    refine z_sub [1, 2, 3, 4, 5, 0] rfl ?_
    exact hk35 (x1, x2, x5, x6, (x7 + (-1 : Int32)), s10) h
theorem zl_Model_isWellBy_35 {l : Launch} {θ : ZT} {res : Int32 × ZM} {k13 : Int32 × Int32 × Int32 × Int32 × Int32 × ZM → Option (Int32 × ZM)} (hk13 : ∀ a : Int32 × Int32 × Int32 × Int32 × Int32 × ZM, k13 a = some res → WZ l b_Model_isWellBy 8 (some .boolean) "BakedBeforeModel" 129 14 θ (zrm 39 928) (zQ mkI 129 14 θ res) a.2.2.2.2.2 [(0, .ref (za θ 129)), (1, .int a.1), (2, .int a.2.1), (4, .int a.2.2.1), (5, .int a.2.2.2.1), (6, .int a.2.2.2.2.1)] 13 []) : ∀ (N : Nat) (a : Int32 × Int32 × Int32 × Int32 × Int32 × ZM), F_Model_isWellBy_35 k13 N a = some res → WZ l b_Model_isWellBy 8 (some .boolean) "BakedBeforeModel" 129 14 θ (zrm 39 928) (zQ mkI 129 14 θ res) a.2.2.2.2.2 [(0, .ref (za θ 129)), (1, .int a.1), (2, .int a.2.1), (5, .int a.2.2.1), (6, .int a.2.2.2.1), (7, .int a.2.2.2.2.1)] 35 [] := by
  intro N
  induction N with
  | zero => intro a  h; cases (show (none : Option (Int32 × ZM)) = some res from h)
  | succ N ih => intro a  h; exact zb_Model_isWellBy_35 hk13 ih (show f_Model_isWellBy_35 k13 (F_Model_isWellBy_35 k13 N) a.1 a.2.1 a.2.2.1 a.2.2.2.1 a.2.2.2.2.1 a.2.2.2.2.2 = some res from h)
theorem zb_Model_isWellBy_82 {l : Launch} {θ : ZT} {res : Int32 × ZM} {x4 : Int32} {σ : ZM} (h : f_Model_isWellBy_82 x4 σ = some res) : WZ l b_Model_isWellBy 8 (some .boolean) "BakedBeforeModel" 129 14 θ (zrm 39 928) (zQ mkI 129 14 θ res) σ [(0, .ref (za θ 129)), (4, .int x4)] 82 [] := by
  unfold f_Model_isWellBy_82 at h
  refine z_aload_n 0 d_Model_isWellBy_82 rfl rfl ?_
  obtain ⟨⟨v1, s2⟩, e3, h⟩ := zbd_i h
  refine w_callV (As := []) (kc := 22) (ci := 12) (c_Model_ends l θ e3) cf_Model_ends q_1131 d_Model_isWellBy_83 zl_129 rfl rfl rfl rfl rfl rfl (Nat.le_of_ble_eq_true rfl) rfl rfl ⟨Nat.le_of_ble_eq_true rfl, Nat.le_of_ble_eq_true rfl⟩ ?_
  refine z_iload 1 d_Model_isWellBy_86 rfl ?_
  obtain ⟨c4, h⟩ := zck_i h
  exact z_zret d_Model_isWellBy_88 c4 h
theorem zb_Model_isWellBy_13 {l : Launch} {θ : ZT} {res : Int32 × ZM} {k13 : Int32 × Int32 × Int32 × Int32 × Int32 × ZM → Option (Int32 × ZM)} (hk13 : ∀ a : Int32 × Int32 × Int32 × Int32 × Int32 × ZM, k13 a = some res → WZ l b_Model_isWellBy 8 (some .boolean) "BakedBeforeModel" 129 14 θ (zrm 39 928) (zQ mkI 129 14 θ res) a.2.2.2.2.2 [(0, .ref (za θ 129)), (1, .int a.1), (2, .int a.2.1), (4, .int a.2.2.1), (5, .int a.2.2.2.1), (6, .int a.2.2.2.2.1)] 13 []) {x1 : Int32} {x2 : Int32} {x4 : Int32} {x5 : Int32} {x6 : Int32} {σ : ZM} (h : f_Model_isWellBy_13 k13 x1 x2 x4 x5 x6 σ = some res) : WZ l b_Model_isWellBy 8 (some .boolean) "BakedBeforeModel" 129 14 θ (zrm 39 928) (zQ mkI 129 14 θ res) σ [(0, .ref (za θ 129)), (1, .int x1), (2, .int x2), (4, .int x4), (5, .int x5), (6, .int x6)] 13 [] := by
  unfold f_Model_isWellBy_13 at h
  refine z_iload 5 d_Model_isWellBy_13 rfl ?_
  refine z_iload_n 1 d_Model_isWellBy_15 rfl rfl ?_
  obtain ⟨⟨v1, s2⟩, e3, h⟩ := zbd_i h
  refine w_callS (As := [.int x1]) (c_Model_bits l θ e3) cf_Model_bits q_1143 d_Model_isWellBy_16 rfl rfl rfl (Nat.le_of_ble_eq_true rfl) rfl rfl ⟨Nat.le_of_ble_eq_true rfl, Nat.le_of_ble_eq_true rfl⟩ ?_
  refine z_icmp_ge (tgt := 82) d_Model_isWellBy_19 (by decide) (fun c4 => ?_) (fun c4 => ?_)
  · have h := (if_pos c4).symm.trans h
    refine z_sub [0, 3] rfl ?_
    exact zb_Model_isWellBy_82 h
  · have h := (if_neg c4).symm.trans h
    refine z_iload 3 d_Model_isWellBy_22 rfl ?_
    refine z_if_eq (tgt := 82) d_Model_isWellBy_24 (by decide) (fun c5 => ?_) (fun c5 => ?_)
    · have h := (if_pos c5).symm.trans h
      refine z_sub [0, 3] rfl ?_
      exact zb_Model_isWellBy_82 h
    · have h := (if_neg c5).symm.trans h
      refine z_iload_n 2 d_Model_isWellBy_27 rfl rfl ?_
      refine z_iload 4 d_Model_isWellBy_28 rfl ?_
      obtain ⟨c6, h⟩ := zck_i h
      refine z_idiv d_Model_isWellBy_30 c6 ?_
      refine z_iconst (v := 5) d_Model_isWellBy_31 (by decide) ?_
      refine z_irem d_Model_isWellBy_32 (by decide) ?_
      refine z_istore d_Model_isWellBy_33 (by decide) rfl ?_
      refine z_sub [1, 2, 3, 5, 6, 0] rfl ?_
      exact zl_Model_isWellBy_35 hk13 2000 (x1, x2, x5, x6, ((x2 / x5) - (x2 / x5) / (5 : Int32) * (5 : Int32)), s2) h
theorem zl_Model_isWellBy_13 {l : Launch} {θ : ZT} {res : Int32 × ZM} : ∀ (N : Nat) (a : Int32 × Int32 × Int32 × Int32 × Int32 × ZM), F_Model_isWellBy_13 N a = some res → WZ l b_Model_isWellBy 8 (some .boolean) "BakedBeforeModel" 129 14 θ (zrm 39 928) (zQ mkI 129 14 θ res) a.2.2.2.2.2 [(0, .ref (za θ 129)), (1, .int a.1), (2, .int a.2.1), (4, .int a.2.2.1), (5, .int a.2.2.2.1), (6, .int a.2.2.2.2.1)] 13 [] := by
  intro N
  induction N with
  | zero => intro a  h; cases (show (none : Option (Int32 × ZM)) = some res from h)
  | succ N ih => intro a  h; exact zb_Model_isWellBy_13 ih (show f_Model_isWellBy_13 (F_Model_isWellBy_13 N) a.1 a.2.1 a.2.2.1 a.2.2.2.1 a.2.2.2.2.1 a.2.2.2.2.2 = some res from h)
theorem c_Model_isWellBy (l : Launch) (θ : ZT) {x1 : Int32} {x2 : Int32} {x3 : Int32} {σ : ZM} {res : Int32 × ZM} (h : f_Model_isWellBy x1 x2 x3 σ = some res) : zMet mkI l 129 14 θ y_Model_isWellBy b_Model_isWellBy 8 (some .boolean) (zrm 39 928) [.ref (za θ 129), .int x1, .int x2, .int x3] σ res := by
  unfold f_Model_isWellBy at h
  refine z_met (lv := [(0, .ref (za θ 129)), (1, .int x1), (2, .int x2), (3, .int x3)]) (by decide +kernel) rfl (Nat.le_of_ble_eq_true rfl) (by decide) ?_
  refine z_iconst (v := 1) d_Model_isWellBy_0 (by decide) ?_
  refine z_istore d_Model_isWellBy_1 (by decide) rfl ?_
  refine z_aload_n 1 d_Model_isWellBy_3 rfl rfl ?_
  obtain ⟨⟨v1, s2⟩, e3, h⟩ := zbd_i h
  refine w_callV (As := []) (kc := 22) (ci := 12) (c_Model_begins l θ e3) cf_Model_begins q_1124 d_Model_isWellBy_4 zl_129 rfl rfl rfl rfl rfl rfl (Nat.le_of_ble_eq_true rfl) rfl rfl ⟨Nat.le_of_ble_eq_true rfl, Nat.le_of_ble_eq_true rfl⟩ ?_
  refine z_iload_n 4 d_Model_isWellBy_7 rfl rfl ?_
  refine z_istore d_Model_isWellBy_8 (by decide) rfl ?_
  refine z_iconst (v := 0) d_Model_isWellBy_10 (by decide) ?_
  refine z_istore d_Model_isWellBy_11 (by decide) rfl ?_
  refine z_sub [3, 4, 5, 2, 1, 0] rfl ?_
  exact zl_Model_isWellBy_13 2000 (x1, x2, (1 : Int32), x3, (0 : Int32), s2) h
theorem d_Model_colds_0 : decode b_Model_colds 0 = .ok (.iload_n 2, 1) := by decide +kernel
theorem d_Model_colds_1 : decode b_Model_colds 1 = .ok (.iconst (-1), 1) := by decide +kernel
theorem d_Model_colds_2 : decode b_Model_colds 2 = .ok (.iconst (5), 1) := by decide +kernel
theorem d_Model_colds_3 : decode b_Model_colds 3 = .ok (.invokestatic 52, 3) := by decide +kernel
theorem d_Model_colds_6 : decode b_Model_colds 6 = .ok (.ifCond .ne (5), 3) := by decide +kernel
theorem d_Model_colds_9 : decode b_Model_colds 9 = .ok (.iconst (-1), 1) := by decide +kernel
theorem d_Model_colds_10 : decode b_Model_colds 10 = .ok (.ireturn, 1) := by decide +kernel
theorem d_Model_colds_11 : decode b_Model_colds 11 = .ok (.aload_n 0, 1) := by decide +kernel
theorem d_Model_colds_12 : decode b_Model_colds 12 = .ok (.iload_n 1, 1) := by decide +kernel
theorem d_Model_colds_13 : decode b_Model_colds 13 = .ok (.invokevirtual 229, 3) := by decide +kernel
theorem d_Model_colds_16 : decode b_Model_colds 16 = .ok (.ifCond .eq (11), 3) := by decide +kernel
theorem d_Model_colds_19 : decode b_Model_colds 19 = .ok (.iload_n 1, 1) := by decide +kernel
theorem d_Model_colds_20 : decode b_Model_colds 20 = .ok (.invokestatic 232, 3) := by decide +kernel
theorem d_Model_colds_23 : decode b_Model_colds 23 = .ok (.iconst (4), 1) := by decide +kernel
theorem d_Model_colds_24 : decode b_Model_colds 24 = .ok (.if_icmp .le (6), 3) := by decide +kernel
theorem d_Model_colds_27 : decode b_Model_colds 27 = .ok (.bipush (-2), 2) := by decide +kernel
theorem d_Model_colds_29 : decode b_Model_colds 29 = .ok (.ireturn, 1) := by decide +kernel
theorem d_Model_colds_30 : decode b_Model_colds 30 = .ok (.iconst (1), 1) := by decide +kernel
theorem d_Model_colds_31 : decode b_Model_colds 31 = .ok (.istore_n 3, 1) := by decide +kernel
theorem d_Model_colds_32 : decode b_Model_colds 32 = .ok (.iload_n 1, 1) := by decide +kernel
theorem d_Model_colds_33 : decode b_Model_colds 33 = .ok (.invokestatic 232, 3) := by decide +kernel
theorem d_Model_colds_36 : decode b_Model_colds 36 = .ok (.istore 4, 2) := by decide +kernel
theorem d_Model_colds_38 : decode b_Model_colds 38 = .ok (.iload 4, 2) := by decide +kernel
theorem d_Model_colds_40 : decode b_Model_colds 40 = .ok (.ifCond .le (13), 3) := by decide +kernel
theorem d_Model_colds_43 : decode b_Model_colds 43 = .ok (.iload_n 3, 1) := by decide +kernel
theorem d_Model_colds_44 : decode b_Model_colds 44 = .ok (.iconst (5), 1) := by decide +kernel
theorem d_Model_colds_45 : decode b_Model_colds 45 = .ok (.imul, 1) := by decide +kernel
theorem d_Model_colds_46 : decode b_Model_colds 46 = .ok (.istore_n 3, 1) := by decide +kernel
theorem d_Model_colds_47 : decode b_Model_colds 47 = .ok (.iinc 4 (-1), 3) := by decide +kernel
theorem d_Model_colds_50 : decode b_Model_colds 50 = .ok (.goto (-12), 3) := by decide +kernel
theorem d_Model_colds_53 : decode b_Model_colds 53 = .ok (.bipush (-5), 2) := by decide +kernel
theorem d_Model_colds_55 : decode b_Model_colds 55 = .ok (.istore 4, 2) := by decide +kernel
theorem d_Model_colds_57 : decode b_Model_colds 57 = .ok (.bipush (-5), 2) := by decide +kernel
theorem d_Model_colds_59 : decode b_Model_colds 59 = .ok (.istore 5, 2) := by decide +kernel
theorem d_Model_colds_61 : decode b_Model_colds 61 = .ok (.iconst (0), 1) := by decide +kernel
theorem d_Model_colds_62 : decode b_Model_colds 62 = .ok (.istore 6, 2) := by decide +kernel
theorem d_Model_colds_64 : decode b_Model_colds 64 = .ok (.iload 6, 2) := by decide +kernel
theorem d_Model_colds_66 : decode b_Model_colds 66 = .ok (.iload_n 3, 1) := by decide +kernel
theorem d_Model_colds_67 : decode b_Model_colds 67 = .ok (.if_icmp .ge (75), 3) := by decide +kernel
theorem d_Model_colds_70 : decode b_Model_colds 70 = .ok (.iconst (0), 1) := by decide +kernel
theorem d_Model_colds_71 : decode b_Model_colds 71 = .ok (.istore 7, 2) := by decide +kernel
theorem d_Model_colds_73 : decode b_Model_colds 73 = .ok (.iload 6, 2) := by decide +kernel
theorem d_Model_colds_75 : decode b_Model_colds 75 = .ok (.istore 8, 2) := by decide +kernel
theorem d_Model_colds_77 : decode b_Model_colds 77 = .ok (.iload 8, 2) := by decide +kernel
theorem d_Model_colds_79 : decode b_Model_colds 79 = .ok (.ifCond .le (21), 3) := by decide +kernel
theorem d_Model_colds_82 : decode b_Model_colds 82 = .ok (.iload 7, 2) := by decide +kernel
theorem d_Model_colds_84 : decode b_Model_colds 84 = .ok (.iload 8, 2) := by decide +kernel
theorem d_Model_colds_86 : decode b_Model_colds 86 = .ok (.iconst (5), 1) := by decide +kernel
theorem d_Model_colds_87 : decode b_Model_colds 87 = .ok (.irem, 1) := by decide +kernel
theorem d_Model_colds_88 : decode b_Model_colds 88 = .ok (.iadd, 1) := by decide +kernel
theorem d_Model_colds_89 : decode b_Model_colds 89 = .ok (.istore 7, 2) := by decide +kernel
theorem d_Model_colds_91 : decode b_Model_colds 91 = .ok (.iload 8, 2) := by decide +kernel
theorem d_Model_colds_93 : decode b_Model_colds 93 = .ok (.iconst (5), 1) := by decide +kernel
theorem d_Model_colds_94 : decode b_Model_colds 94 = .ok (.idiv, 1) := by decide +kernel
theorem d_Model_colds_95 : decode b_Model_colds 95 = .ok (.istore 8, 2) := by decide +kernel
theorem d_Model_colds_97 : decode b_Model_colds 97 = .ok (.goto (-20), 3) := by decide +kernel
theorem d_Model_colds_100 : decode b_Model_colds 100 = .ok (.iload 4, 2) := by decide +kernel
theorem d_Model_colds_102 : decode b_Model_colds 102 = .ok (.ifCond .lt (10), 3) := by decide +kernel
theorem d_Model_colds_105 : decode b_Model_colds 105 = .ok (.iload 7, 2) := by decide +kernel
theorem d_Model_colds_107 : decode b_Model_colds 107 = .ok (.iload 5, 2) := by decide +kernel
theorem d_Model_colds_109 : decode b_Model_colds 109 = .ok (.if_icmp .ge (27), 3) := by decide +kernel
theorem d_Model_colds_112 : decode b_Model_colds 112 = .ok (.aload_n 0, 1) := by decide +kernel
theorem d_Model_colds_113 : decode b_Model_colds 113 = .ok (.iload_n 1, 1) := by decide +kernel
theorem d_Model_colds_114 : decode b_Model_colds 114 = .ok (.iload 6, 2) := by decide +kernel
theorem d_Model_colds_116 : decode b_Model_colds 116 = .ok (.iload_n 3, 1) := by decide +kernel
theorem d_Model_colds_117 : decode b_Model_colds 117 = .ok (.iconst (5), 1) := by decide +kernel
theorem d_Model_colds_118 : decode b_Model_colds 118 = .ok (.idiv, 1) := by decide +kernel
theorem d_Model_colds_119 : decode b_Model_colds 119 = .ok (.invokevirtual 238, 3) := by decide +kernel
theorem d_Model_colds_122 : decode b_Model_colds 122 = .ok (.ifCond .ne (6), 3) := by decide +kernel
theorem d_Model_colds_125 : decode b_Model_colds 125 = .ok (.goto (11), 3) := by decide +kernel
theorem d_Model_colds_128 : decode b_Model_colds 128 = .ok (.iload 6, 2) := by decide +kernel
theorem d_Model_colds_130 : decode b_Model_colds 130 = .ok (.istore 4, 2) := by decide +kernel
theorem d_Model_colds_132 : decode b_Model_colds 132 = .ok (.iload 7, 2) := by decide +kernel
theorem d_Model_colds_134 : decode b_Model_colds 134 = .ok (.istore 5, 2) := by decide +kernel
theorem d_Model_colds_136 : decode b_Model_colds 136 = .ok (.iinc 6 (1), 3) := by decide +kernel
theorem d_Model_colds_139 : decode b_Model_colds 139 = .ok (.goto (-75), 3) := by decide +kernel
theorem d_Model_colds_142 : decode b_Model_colds 142 = .ok (.iload_n 2, 1) := by decide +kernel
theorem d_Model_colds_143 : decode b_Model_colds 143 = .ok (.ifCond .ge (6), 3) := by decide +kernel
theorem d_Model_colds_146 : decode b_Model_colds 146 = .ok (.iload 5, 2) := by decide +kernel
theorem d_Model_colds_148 : decode b_Model_colds 148 = .ok (.ireturn, 1) := by decide +kernel
theorem d_Model_colds_149 : decode b_Model_colds 149 = .ok (.iload 4, 2) := by decide +kernel
theorem d_Model_colds_151 : decode b_Model_colds 151 = .ok (.ifCond .lt (11), 3) := by decide +kernel
theorem d_Model_colds_154 : decode b_Model_colds 154 = .ok (.iload_n 2, 1) := by decide +kernel
theorem d_Model_colds_155 : decode b_Model_colds 155 = .ok (.iload_n 1, 1) := by decide +kernel
theorem d_Model_colds_156 : decode b_Model_colds 156 = .ok (.invokestatic 232, 3) := by decide +kernel
theorem d_Model_colds_159 : decode b_Model_colds 159 = .ok (.if_icmp .lt (6), 3) := by decide +kernel
theorem d_Model_colds_162 : decode b_Model_colds 162 = .ok (.bipush (-5), 2) := by decide +kernel
theorem d_Model_colds_164 : decode b_Model_colds 164 = .ok (.ireturn, 1) := by decide +kernel
theorem d_Model_colds_165 : decode b_Model_colds 165 = .ok (.iload_n 3, 1) := by decide +kernel
theorem d_Model_colds_166 : decode b_Model_colds 166 = .ok (.iconst (5), 1) := by decide +kernel
theorem d_Model_colds_167 : decode b_Model_colds 167 = .ok (.idiv, 1) := by decide +kernel
theorem d_Model_colds_168 : decode b_Model_colds 168 = .ok (.istore 6, 2) := by decide +kernel
theorem d_Model_colds_170 : decode b_Model_colds 170 = .ok (.iconst (0), 1) := by decide +kernel
theorem d_Model_colds_171 : decode b_Model_colds 171 = .ok (.istore 7, 2) := by decide +kernel
theorem d_Model_colds_173 : decode b_Model_colds 173 = .ok (.iload 7, 2) := by decide +kernel
theorem d_Model_colds_175 : decode b_Model_colds 175 = .ok (.iload_n 2, 1) := by decide +kernel
theorem d_Model_colds_176 : decode b_Model_colds 176 = .ok (.if_icmp .ge (15), 3) := by decide +kernel
theorem d_Model_colds_179 : decode b_Model_colds 179 = .ok (.iload 6, 2) := by decide +kernel
theorem d_Model_colds_181 : decode b_Model_colds 181 = .ok (.iconst (5), 1) := by decide +kernel
theorem d_Model_colds_182 : decode b_Model_colds 182 = .ok (.idiv, 1) := by decide +kernel
theorem d_Model_colds_183 : decode b_Model_colds 183 = .ok (.istore 6, 2) := by decide +kernel
theorem d_Model_colds_185 : decode b_Model_colds 185 = .ok (.iinc 7 (1), 3) := by decide +kernel
theorem d_Model_colds_188 : decode b_Model_colds 188 = .ok (.goto (-15), 3) := by decide +kernel
theorem d_Model_colds_191 : decode b_Model_colds 191 = .ok (.iload 4, 2) := by decide +kernel
theorem d_Model_colds_193 : decode b_Model_colds 193 = .ok (.iload 6, 2) := by decide +kernel
theorem d_Model_colds_195 : decode b_Model_colds 195 = .ok (.idiv, 1) := by decide +kernel
theorem d_Model_colds_196 : decode b_Model_colds 196 = .ok (.iconst (5), 1) := by decide +kernel
theorem d_Model_colds_197 : decode b_Model_colds 197 = .ok (.irem, 1) := by decide +kernel
theorem d_Model_colds_198 : decode b_Model_colds 198 = .ok (.ireturn, 1) := by decide +kernel
theorem zb_Model_colds_136 {l : Launch} {θ : ZT} {res : Int32 × ZM} {k64 : Int32 × Int32 × Int32 × Int32 × Int32 × Int32 × ZM → Option (Int32 × ZM)} (hk64 : ∀ a : Int32 × Int32 × Int32 × Int32 × Int32 × Int32 × ZM, k64 a = some res → WZ l b_Model_colds 9 (some .int) "BakedBeforeModel" 129 14 θ (zrm 40 955) (zQ mkI 129 14 θ res) a.2.2.2.2.2.2 [(0, .ref (za θ 129)), (1, .int a.1), (2, .int a.2.1), (3, .int a.2.2.1), (4, .int a.2.2.2.1), (5, .int a.2.2.2.2.1), (6, .int a.2.2.2.2.2.1)] 64 []) {x1 : Int32} {x2 : Int32} {x3 : Int32} {x4 : Int32} {x5 : Int32} {x6 : Int32} {σ : ZM} (h : f_Model_colds_136 k64 x1 x2 x3 x4 x5 x6 σ = some res) : WZ l b_Model_colds 9 (some .int) "BakedBeforeModel" 129 14 θ (zrm 40 955) (zQ mkI 129 14 θ res) σ [(0, .ref (za θ 129)), (1, .int x1), (2, .int x2), (3, .int x3), (4, .int x4), (5, .int x5), (6, .int x6)] 136 [] := by
  unfold f_Model_colds_136 at h
  refine z_iinc (v := x6 + (1 : Int32)) 6 d_Model_colds_136 rfl rfl (by decide) rfl ?_
  refine z_goto (tgt := 64) d_Model_colds_139 (by decide) ?_
  refine z_sub [1, 2, 3, 4, 5, 6, 0] rfl ?_
  exact hk64 (x1, x2, x3, x4, x5, (x6 + (1 : Int32)), σ) h
theorem zb_Model_colds_112 {l : Launch} {θ : ZT} {res : Int32 × ZM} {k64 : Int32 × Int32 × Int32 × Int32 × Int32 × Int32 × ZM → Option (Int32 × ZM)} (hk64 : ∀ a : Int32 × Int32 × Int32 × Int32 × Int32 × Int32 × ZM, k64 a = some res → WZ l b_Model_colds 9 (some .int) "BakedBeforeModel" 129 14 θ (zrm 40 955) (zQ mkI 129 14 θ res) a.2.2.2.2.2.2 [(0, .ref (za θ 129)), (1, .int a.1), (2, .int a.2.1), (3, .int a.2.2.1), (4, .int a.2.2.2.1), (5, .int a.2.2.2.2.1), (6, .int a.2.2.2.2.2.1)] 64 []) {x1 : Int32} {x2 : Int32} {x3 : Int32} {x4 : Int32} {x5 : Int32} {x6 : Int32} {x7 : Int32} {σ : ZM} (h : f_Model_colds_112 k64 x1 x2 x3 x4 x5 x6 x7 σ = some res) : WZ l b_Model_colds 9 (some .int) "BakedBeforeModel" 129 14 θ (zrm 40 955) (zQ mkI 129 14 θ res) σ [(0, .ref (za θ 129)), (1, .int x1), (2, .int x2), (3, .int x3), (4, .int x4), (5, .int x5), (6, .int x6), (7, .int x7)] 112 [] := by
  unfold f_Model_colds_112 at h
  refine z_aload_n 0 d_Model_colds_112 rfl rfl ?_
  refine z_iload_n 1 d_Model_colds_113 rfl rfl ?_
  refine z_iload 6 d_Model_colds_114 rfl ?_
  refine z_iload_n 3 d_Model_colds_116 rfl rfl ?_
  refine z_iconst (v := 5) d_Model_colds_117 (by decide) ?_
  refine z_idiv d_Model_colds_118 (by decide) ?_
  obtain ⟨⟨v1, s2⟩, e3, h⟩ := zbd_i h
  refine w_callV (As := [.int x1, .int x6, .int (x3 / (5 : Int32))]) (kc := 22) (ci := 12) (c_Model_isWellBy l θ e3) cf_Model_isWellBy q_1158 d_Model_colds_119 zl_129 rfl rfl rfl rfl rfl rfl (Nat.le_of_ble_eq_true rfl) rfl rfl ⟨Nat.le_of_ble_eq_true rfl, Nat.le_of_ble_eq_true rfl⟩ ?_
  refine z_if_ne (tgt := 128) d_Model_colds_122 (by decide) (fun c4 => ?_) (fun c4 => ?_)
  · have h := (if_neg c4).symm.trans h
    refine z_iload 6 d_Model_colds_128 rfl ?_
    refine z_istore d_Model_colds_130 (by decide) rfl ?_
    refine z_iload 7 d_Model_colds_132 rfl ?_
    refine z_istore d_Model_colds_134 (by decide) rfl ?_
    refine z_sub [2, 3, 4, 5, 1, 0, 6] rfl ?_
    exact zb_Model_colds_136 hk64 h
  · have h := (if_pos c4).symm.trans h
    refine z_goto (tgt := 136) d_Model_colds_125 (by decide) ?_
    refine z_sub [0, 1, 2, 3, 4, 5, 6] rfl ?_
    exact zb_Model_colds_136 hk64 h
theorem zb_Model_colds_77 {l : Launch} {θ : ZT} {res : Int32 × ZM} {k64 : Int32 × Int32 × Int32 × Int32 × Int32 × Int32 × ZM → Option (Int32 × ZM)} (hk64 : ∀ a : Int32 × Int32 × Int32 × Int32 × Int32 × Int32 × ZM, k64 a = some res → WZ l b_Model_colds 9 (some .int) "BakedBeforeModel" 129 14 θ (zrm 40 955) (zQ mkI 129 14 θ res) a.2.2.2.2.2.2 [(0, .ref (za θ 129)), (1, .int a.1), (2, .int a.2.1), (3, .int a.2.2.1), (4, .int a.2.2.2.1), (5, .int a.2.2.2.2.1), (6, .int a.2.2.2.2.2.1)] 64 []) {k77 : Int32 × Int32 × Int32 × Int32 × Int32 × Int32 × Int32 × Int32 × ZM → Option (Int32 × ZM)} (hk77 : ∀ a : Int32 × Int32 × Int32 × Int32 × Int32 × Int32 × Int32 × Int32 × ZM, k77 a = some res → WZ l b_Model_colds 9 (some .int) "BakedBeforeModel" 129 14 θ (zrm 40 955) (zQ mkI 129 14 θ res) a.2.2.2.2.2.2.2.2 [(0, .ref (za θ 129)), (1, .int a.1), (2, .int a.2.1), (3, .int a.2.2.1), (4, .int a.2.2.2.1), (5, .int a.2.2.2.2.1), (6, .int a.2.2.2.2.2.1), (7, .int a.2.2.2.2.2.2.1), (8, .int a.2.2.2.2.2.2.2.1)] 77 []) {x1 : Int32} {x2 : Int32} {x3 : Int32} {x4 : Int32} {x5 : Int32} {x6 : Int32} {x7 : Int32} {x8 : Int32} {σ : ZM} (h : f_Model_colds_77 k64 k77 x1 x2 x3 x4 x5 x6 x7 x8 σ = some res) : WZ l b_Model_colds 9 (some .int) "BakedBeforeModel" 129 14 θ (zrm 40 955) (zQ mkI 129 14 θ res) σ [(0, .ref (za θ 129)), (1, .int x1), (2, .int x2), (3, .int x3), (4, .int x4), (5, .int x5), (6, .int x6), (7, .int x7), (8, .int x8)] 77 [] := by
  unfold f_Model_colds_77 at h
  refine z_iload 8 d_Model_colds_77 rfl ?_
  refine z_if_le (tgt := 100) d_Model_colds_79 (by decide) (fun c1 => ?_) (fun c1 => ?_)
  · have h := (if_pos c1).symm.trans h
    refine z_iload 4 d_Model_colds_100 rfl ?_
    refine z_if_lt (tgt := 112) d_Model_colds_102 (by decide) (fun c2 => ?_) (fun c2 => ?_)
    · have h := (if_pos c2).symm.trans h
      refine z_sub [0, 1, 2, 3, 4, 5, 6, 7] rfl ?_
      exact zb_Model_colds_112 hk64 h
    · have h := (if_neg c2).symm.trans h
      refine z_iload 7 d_Model_colds_105 rfl ?_
      refine z_iload 5 d_Model_colds_107 rfl ?_
      refine z_icmp_ge (tgt := 136) d_Model_colds_109 (by decide) (fun c3 => ?_) (fun c3 => ?_)
      · have h := (if_pos c3).symm.trans h
        refine z_sub [0, 1, 2, 3, 4, 5, 6] rfl ?_
        exact zb_Model_colds_136 hk64 h
      · have h := (if_neg c3).symm.trans h
        refine z_sub [0, 1, 2, 3, 4, 5, 6, 7] rfl ?_
        exact zb_Model_colds_112 hk64 h
  · have h := (if_neg c1).symm.trans h
    refine z_iload 7 d_Model_colds_82 rfl ?_
    refine z_iload 8 d_Model_colds_84 rfl ?_
    refine z_iconst (v := 5) d_Model_colds_86 (by decide) ?_
    refine z_irem d_Model_colds_87 (by decide) ?_
    refine z_iadd d_Model_colds_88 ?_
    refine z_istore d_Model_colds_89 (by decide) rfl ?_
    refine z_iload 8 d_Model_colds_91 rfl ?_
    refine z_iconst (v := 5) d_Model_colds_93 (by decide) ?_
    refine z_idiv d_Model_colds_94 (by decide) ?_
    refine z_istore d_Model_colds_95 (by decide) rfl ?_
    refine z_goto (tgt := 77) d_Model_colds_97 (by decide) ?_
    refine z_sub [2, 3, 4, 5, 6, 7, 8, 1, 0] rfl ?_
    exact hk77 (x1, x2, x3, x4, x5, x6, (x7 + (x8 - x8 / (5 : Int32) * (5 : Int32))), (x8 / (5 : Int32)), σ) h
theorem zl_Model_colds_77 {l : Launch} {θ : ZT} {res : Int32 × ZM} {k64 : Int32 × Int32 × Int32 × Int32 × Int32 × Int32 × ZM → Option (Int32 × ZM)} (hk64 : ∀ a : Int32 × Int32 × Int32 × Int32 × Int32 × Int32 × ZM, k64 a = some res → WZ l b_Model_colds 9 (some .int) "BakedBeforeModel" 129 14 θ (zrm 40 955) (zQ mkI 129 14 θ res) a.2.2.2.2.2.2 [(0, .ref (za θ 129)), (1, .int a.1), (2, .int a.2.1), (3, .int a.2.2.1), (4, .int a.2.2.2.1), (5, .int a.2.2.2.2.1), (6, .int a.2.2.2.2.2.1)] 64 []) : ∀ (N : Nat) (a : Int32 × Int32 × Int32 × Int32 × Int32 × Int32 × Int32 × Int32 × ZM), F_Model_colds_77 k64 N a = some res → WZ l b_Model_colds 9 (some .int) "BakedBeforeModel" 129 14 θ (zrm 40 955) (zQ mkI 129 14 θ res) a.2.2.2.2.2.2.2.2 [(0, .ref (za θ 129)), (1, .int a.1), (2, .int a.2.1), (3, .int a.2.2.1), (4, .int a.2.2.2.1), (5, .int a.2.2.2.2.1), (6, .int a.2.2.2.2.2.1), (7, .int a.2.2.2.2.2.2.1), (8, .int a.2.2.2.2.2.2.2.1)] 77 [] := by
  intro N
  induction N with
  | zero => intro a  h; cases (show (none : Option (Int32 × ZM)) = some res from h)
  | succ N ih => intro a  h; exact zb_Model_colds_77 hk64 ih (show f_Model_colds_77 k64 (F_Model_colds_77 k64 N) a.1 a.2.1 a.2.2.1 a.2.2.2.1 a.2.2.2.2.1 a.2.2.2.2.2.1 a.2.2.2.2.2.2.1 a.2.2.2.2.2.2.2.1 a.2.2.2.2.2.2.2.2 = some res from h)
theorem zb_Model_colds_173 {l : Launch} {θ : ZT} {res : Int32 × ZM} {k173 : Int32 × Int32 × Int32 × Int32 × ZM → Option (Int32 × ZM)} (hk173 : ∀ a : Int32 × Int32 × Int32 × Int32 × ZM, k173 a = some res → WZ l b_Model_colds 9 (some .int) "BakedBeforeModel" 129 14 θ (zrm 40 955) (zQ mkI 129 14 θ res) a.2.2.2.2 [(2, .int a.1), (4, .int a.2.1), (6, .int a.2.2.1), (7, .int a.2.2.2.1)] 173 []) {x2 : Int32} {x4 : Int32} {x6 : Int32} {x7 : Int32} {σ : ZM} (h : f_Model_colds_173 k173 x2 x4 x6 x7 σ = some res) : WZ l b_Model_colds 9 (some .int) "BakedBeforeModel" 129 14 θ (zrm 40 955) (zQ mkI 129 14 θ res) σ [(2, .int x2), (4, .int x4), (6, .int x6), (7, .int x7)] 173 [] := by
  unfold f_Model_colds_173 at h
  refine z_iload 3 d_Model_colds_173 rfl ?_
  refine z_iload_n 0 d_Model_colds_175 rfl rfl ?_
  refine z_icmp_ge (tgt := 191) d_Model_colds_176 (by decide) (fun c1 => ?_) (fun c1 => ?_)
  · have h := (if_pos c1).symm.trans h
    refine z_iload 1 d_Model_colds_191 rfl ?_
    refine z_iload 2 d_Model_colds_193 rfl ?_
    obtain ⟨c2, h⟩ := zck_i h
    refine z_idiv d_Model_colds_195 c2 ?_
    refine z_iconst (v := 5) d_Model_colds_196 (by decide) ?_
    refine z_irem d_Model_colds_197 (by decide) ?_
    exact z_iret d_Model_colds_198 h
  · have h := (if_neg c1).symm.trans h
    refine z_iload 2 d_Model_colds_179 rfl ?_
    refine z_iconst (v := 5) d_Model_colds_181 (by decide) ?_
    refine z_idiv d_Model_colds_182 (by decide) ?_
    refine z_istore d_Model_colds_183 (by decide) rfl ?_
    refine z_iinc (v := x7 + (1 : Int32)) 3 d_Model_colds_185 rfl rfl (by decide) rfl ?_
    refine z_goto (tgt := 173) d_Model_colds_188 (by decide) ?_
    refine z_sub [2, 3, 1, 0] rfl ?_
    exact hk173 (x2, x4, (x6 / (5 : Int32)), (x7 + (1 : Int32)), σ) h
theorem zl_Model_colds_173 {l : Launch} {θ : ZT} {res : Int32 × ZM} : ∀ (N : Nat) (a : Int32 × Int32 × Int32 × Int32 × ZM), F_Model_colds_173 N a = some res → WZ l b_Model_colds 9 (some .int) "BakedBeforeModel" 129 14 θ (zrm 40 955) (zQ mkI 129 14 θ res) a.2.2.2.2 [(2, .int a.1), (4, .int a.2.1), (6, .int a.2.2.1), (7, .int a.2.2.2.1)] 173 [] := by
  intro N
  induction N with
  | zero => intro a  h; cases (show (none : Option (Int32 × ZM)) = some res from h)
  | succ N ih => intro a  h; exact zb_Model_colds_173 ih (show f_Model_colds_173 (F_Model_colds_173 N) a.1 a.2.1 a.2.2.1 a.2.2.2.1 a.2.2.2.2 = some res from h)
theorem zb_Model_colds_64 {l : Launch} {θ : ZT} {res : Int32 × ZM} {k64 : Int32 × Int32 × Int32 × Int32 × Int32 × Int32 × ZM → Option (Int32 × ZM)} (hk64 : ∀ a : Int32 × Int32 × Int32 × Int32 × Int32 × Int32 × ZM, k64 a = some res → WZ l b_Model_colds 9 (some .int) "BakedBeforeModel" 129 14 θ (zrm 40 955) (zQ mkI 129 14 θ res) a.2.2.2.2.2.2 [(0, .ref (za θ 129)), (1, .int a.1), (2, .int a.2.1), (3, .int a.2.2.1), (4, .int a.2.2.2.1), (5, .int a.2.2.2.2.1), (6, .int a.2.2.2.2.2.1)] 64 []) {x1 : Int32} {x2 : Int32} {x3 : Int32} {x4 : Int32} {x5 : Int32} {x6 : Int32} {σ : ZM} (h : f_Model_colds_64 k64 x1 x2 x3 x4 x5 x6 σ = some res) : WZ l b_Model_colds 9 (some .int) "BakedBeforeModel" 129 14 θ (zrm 40 955) (zQ mkI 129 14 θ res) σ [(0, .ref (za θ 129)), (1, .int x1), (2, .int x2), (3, .int x3), (4, .int x4), (5, .int x5), (6, .int x6)] 64 [] := by
  unfold f_Model_colds_64 at h
  refine z_iload 6 d_Model_colds_64 rfl ?_
  refine z_iload_n 3 d_Model_colds_66 rfl rfl ?_
  refine z_icmp_ge (tgt := 142) d_Model_colds_67 (by decide) (fun c1 => ?_) (fun c1 => ?_)
  · have h := (if_pos c1).symm.trans h
    refine z_iload_n 2 d_Model_colds_142 rfl rfl ?_
    refine z_if_ge (tgt := 149) d_Model_colds_143 (by decide) (fun c2 => ?_) (fun c2 => ?_)
    · have h := (if_pos c2).symm.trans h
      refine z_iload 4 d_Model_colds_149 rfl ?_
      refine z_if_lt (tgt := 162) d_Model_colds_151 (by decide) (fun c3 => ?_) (fun c3 => ?_)
      · have h := (if_pos c3).symm.trans h
        refine z_bipush (v := -5) d_Model_colds_162 (by decide) ?_
        exact z_iret d_Model_colds_164 h
      · have h := (if_neg c3).symm.trans h
        refine z_iload_n 2 d_Model_colds_154 rfl rfl ?_
        refine z_iload_n 1 d_Model_colds_155 rfl rfl ?_
        obtain ⟨⟨v4, s5⟩, e6, h⟩ := zbd_i h
        refine w_callS (As := [.int x1]) (c_Model_bits l θ e6) cf_Model_bits q_1143 d_Model_colds_156 rfl rfl rfl (Nat.le_of_ble_eq_true rfl) rfl rfl ⟨Nat.le_of_ble_eq_true rfl, Nat.le_of_ble_eq_true rfl⟩ ?_
        refine z_icmp_lt (tgt := 165) d_Model_colds_159 (by decide) (fun c7 => ?_) (fun c7 => ?_)
        · have h := (if_pos c7).symm.trans h
          refine z_iload_n 3 d_Model_colds_165 rfl rfl ?_
          refine z_iconst (v := 5) d_Model_colds_166 (by decide) ?_
          refine z_idiv d_Model_colds_167 (by decide) ?_
          refine z_istore d_Model_colds_168 (by decide) rfl ?_
          refine z_iconst (v := 0) d_Model_colds_170 (by decide) ?_
          refine z_istore d_Model_colds_171 (by decide) rfl ?_
          refine z_sub [4, 6, 1, 0] rfl ?_
          exact zl_Model_colds_173 2000 (x2, x4, (x3 / (5 : Int32)), (0 : Int32), s5) h
        · have h := (if_neg c7).symm.trans h
          refine z_bipush (v := -5) d_Model_colds_162 (by decide) ?_
          exact z_iret d_Model_colds_164 h
    · have h := (if_neg c2).symm.trans h
      refine z_iload 5 d_Model_colds_146 rfl ?_
      exact z_iret d_Model_colds_148 h
  · have h := (if_neg c1).symm.trans h
    refine z_iconst (v := 0) d_Model_colds_70 (by decide) ?_
    refine z_istore d_Model_colds_71 (by decide) rfl ?_
    refine z_iload 7 d_Model_colds_73 rfl ?_
    refine z_istore d_Model_colds_75 (by decide) rfl ?_
    refine z_sub [2, 3, 4, 5, 6, 7, 8, 1, 0] rfl ?_
    exact zl_Model_colds_77 hk64 2000 (x1, x2, x3, x4, x5, x6, (0 : Int32), x6, σ) h
theorem zl_Model_colds_64 {l : Launch} {θ : ZT} {res : Int32 × ZM} : ∀ (N : Nat) (a : Int32 × Int32 × Int32 × Int32 × Int32 × Int32 × ZM), F_Model_colds_64 N a = some res → WZ l b_Model_colds 9 (some .int) "BakedBeforeModel" 129 14 θ (zrm 40 955) (zQ mkI 129 14 θ res) a.2.2.2.2.2.2 [(0, .ref (za θ 129)), (1, .int a.1), (2, .int a.2.1), (3, .int a.2.2.1), (4, .int a.2.2.2.1), (5, .int a.2.2.2.2.1), (6, .int a.2.2.2.2.2.1)] 64 [] := by
  intro N
  induction N with
  | zero => intro a  h; cases (show (none : Option (Int32 × ZM)) = some res from h)
  | succ N ih => intro a  h; exact zb_Model_colds_64 ih (show f_Model_colds_64 (F_Model_colds_64 N) a.1 a.2.1 a.2.2.1 a.2.2.2.1 a.2.2.2.2.1 a.2.2.2.2.2.1 a.2.2.2.2.2.2 = some res from h)
theorem zb_Model_colds_38 {l : Launch} {θ : ZT} {res : Int32 × ZM} {k38 : Int32 × Int32 × Int32 × Int32 × ZM → Option (Int32 × ZM)} (hk38 : ∀ a : Int32 × Int32 × Int32 × Int32 × ZM, k38 a = some res → WZ l b_Model_colds 9 (some .int) "BakedBeforeModel" 129 14 θ (zrm 40 955) (zQ mkI 129 14 θ res) a.2.2.2.2 [(0, .ref (za θ 129)), (1, .int a.1), (2, .int a.2.1), (3, .int a.2.2.1), (4, .int a.2.2.2.1)] 38 []) {x1 : Int32} {x2 : Int32} {x3 : Int32} {x4 : Int32} {σ : ZM} (h : f_Model_colds_38 k38 x1 x2 x3 x4 σ = some res) : WZ l b_Model_colds 9 (some .int) "BakedBeforeModel" 129 14 θ (zrm 40 955) (zQ mkI 129 14 θ res) σ [(0, .ref (za θ 129)), (1, .int x1), (2, .int x2), (3, .int x3), (4, .int x4)] 38 [] := by
  unfold f_Model_colds_38 at h
  refine z_iload 4 d_Model_colds_38 rfl ?_
  refine z_if_le (tgt := 53) d_Model_colds_40 (by decide) (fun c1 => ?_) (fun c1 => ?_)
  · have h := (if_pos c1).symm.trans h
    refine z_bipush (v := -5) d_Model_colds_53 (by decide) ?_
    refine z_istore d_Model_colds_55 (by decide) rfl ?_
    refine z_bipush (v := -5) d_Model_colds_57 (by decide) ?_
    refine z_istore d_Model_colds_59 (by decide) rfl ?_
    refine z_iconst (v := 0) d_Model_colds_61 (by decide) ?_
    refine z_istore d_Model_colds_62 (by decide) rfl ?_
    refine z_sub [3, 4, 5, 6, 2, 1, 0] rfl ?_
    exact zl_Model_colds_64 2000 (x1, x2, x3, (-5 : Int32), (-5 : Int32), (0 : Int32), σ) h
  · have h := (if_neg c1).symm.trans h
    refine z_iload_n 3 d_Model_colds_43 rfl rfl ?_
    refine z_iconst (v := 5) d_Model_colds_44 (by decide) ?_
    refine z_imul d_Model_colds_45 ?_
    refine z_istore_n d_Model_colds_46 rfl (by decide) rfl ?_
    refine z_iinc (v := x4 + (-1 : Int32)) 4 d_Model_colds_47 rfl rfl (by decide) rfl ?_
    refine z_goto (tgt := 38) d_Model_colds_50 (by decide) ?_
    refine z_sub [2, 3, 4, 1, 0] rfl ?_
    exact hk38 (x1, x2, (x3 * (5 : Int32)), (x4 + (-1 : Int32)), σ) h
theorem zl_Model_colds_38 {l : Launch} {θ : ZT} {res : Int32 × ZM} : ∀ (N : Nat) (a : Int32 × Int32 × Int32 × Int32 × ZM), F_Model_colds_38 N a = some res → WZ l b_Model_colds 9 (some .int) "BakedBeforeModel" 129 14 θ (zrm 40 955) (zQ mkI 129 14 θ res) a.2.2.2.2 [(0, .ref (za θ 129)), (1, .int a.1), (2, .int a.2.1), (3, .int a.2.2.1), (4, .int a.2.2.2.1)] 38 [] := by
  intro N
  induction N with
  | zero => intro a  h; cases (show (none : Option (Int32 × ZM)) = some res from h)
  | succ N ih => intro a  h; exact zb_Model_colds_38 ih (show f_Model_colds_38 (F_Model_colds_38 N) a.1 a.2.1 a.2.2.1 a.2.2.2.1 a.2.2.2.2 = some res from h)
theorem c_Model_colds (l : Launch) (θ : ZT) {x1 : Int32} {x2 : Int32} {σ : ZM} {res : Int32 × ZM} (h : f_Model_colds x1 x2 σ = some res) : zMet mkI l 129 14 θ y_Model_colds b_Model_colds 9 (some .int) (zrm 40 955) [.ref (za θ 129), .int x1, .int x2] σ res := by
  unfold f_Model_colds at h
  refine z_met (lv := [(0, .ref (za θ 129)), (1, .int x1), (2, .int x2)]) (by decide +kernel) rfl (Nat.le_of_ble_eq_true rfl) (by decide) ?_
  refine z_iload_n 2 d_Model_colds_0 rfl rfl ?_
  refine z_iconst (v := -1) d_Model_colds_1 (by decide) ?_
  refine z_iconst (v := 5) d_Model_colds_2 (by decide) ?_
  obtain ⟨⟨v1, s2⟩, e3, h⟩ := zbd_i h
  refine w_callS (As := [.int x2, .int (-1 : Int32), .int (5 : Int32)]) (c_Model_isIn l θ e3) cf_Model_isIn q_969 d_Model_colds_3 rfl rfl rfl (Nat.le_of_ble_eq_true rfl) rfl rfl ⟨Nat.le_of_ble_eq_true rfl, Nat.le_of_ble_eq_true rfl⟩ ?_
  refine z_if_ne (tgt := 11) d_Model_colds_6 (by decide) (fun c4 => ?_) (fun c4 => ?_)
  · have h := (if_neg c4).symm.trans h
    refine z_aload_n 0 d_Model_colds_11 rfl rfl ?_
    refine z_iload_n 1 d_Model_colds_12 rfl rfl ?_
    obtain ⟨⟨v5, s6⟩, e7, h⟩ := zbd_i h
    refine w_callV (As := [.int x1]) (kc := 22) (ci := 12) (c_Model_areLoaves l θ e7) cf_Model_areLoaves q_1139 d_Model_colds_13 zl_129 rfl rfl rfl rfl rfl rfl (Nat.le_of_ble_eq_true rfl) rfl rfl ⟨Nat.le_of_ble_eq_true rfl, Nat.le_of_ble_eq_true rfl⟩ ?_
    refine z_if_eq (tgt := 27) d_Model_colds_16 (by decide) (fun c8 => ?_) (fun c8 => ?_)
    · have h := (if_pos c8).symm.trans h
      refine z_bipush (v := -2) d_Model_colds_27 (by decide) ?_
      exact z_iret d_Model_colds_29 h
    · have h := (if_neg c8).symm.trans h
      refine z_iload_n 1 d_Model_colds_19 rfl rfl ?_
      obtain ⟨⟨v9, s10⟩, e11, h⟩ := zbd_i h
      refine w_callS (As := [.int x1]) (c_Model_bits l θ e11) cf_Model_bits q_1143 d_Model_colds_20 rfl rfl rfl (Nat.le_of_ble_eq_true rfl) rfl rfl ⟨Nat.le_of_ble_eq_true rfl, Nat.le_of_ble_eq_true rfl⟩ ?_
      refine z_iconst (v := 4) d_Model_colds_23 (by decide) ?_
      refine z_icmp_le (tgt := 30) d_Model_colds_24 (by decide) (fun c12 => ?_) (fun c12 => ?_)
      · have h := (if_pos c12).symm.trans h
        refine z_iconst (v := 1) d_Model_colds_30 (by decide) ?_
        refine z_istore_n d_Model_colds_31 rfl (by decide) rfl ?_
        refine z_iload_n 2 d_Model_colds_32 rfl rfl ?_
        obtain ⟨⟨v13, s14⟩, e15, h⟩ := zbd_i h
        refine w_callS (As := [.int x1]) (c_Model_bits l θ e15) cf_Model_bits q_1143 d_Model_colds_33 rfl rfl rfl (Nat.le_of_ble_eq_true rfl) rfl rfl ⟨Nat.le_of_ble_eq_true rfl, Nat.le_of_ble_eq_true rfl⟩ ?_
        refine z_istore d_Model_colds_36 (by decide) rfl ?_
        refine z_sub [2, 3, 4, 1, 0] rfl ?_
        exact zl_Model_colds_38 2000 (x1, x2, (1 : Int32), v13, s14) h
      · have h := (if_neg c12).symm.trans h
        refine z_bipush (v := -2) d_Model_colds_27 (by decide) ?_
        exact z_iret d_Model_colds_29 h
  · have h := (if_pos c4).symm.trans h
    refine z_iconst (v := -1) d_Model_colds_9 (by decide) ?_
    exact z_iret d_Model_colds_10 h
theorem d_Model_takesAt_0 : decode b_Model_takesAt 0 = .ok (.aload_n 0, 1) := by decide +kernel
theorem d_Model_takesAt_1 : decode b_Model_takesAt 1 = .ok (.invokevirtual 214, 3) := by decide +kernel
theorem d_Model_takesAt_4 : decode b_Model_takesAt 4 = .ok (.iconst (0), 1) := by decide +kernel
theorem d_Model_takesAt_5 : decode b_Model_takesAt 5 = .ok (.istore_n 3, 1) := by decide +kernel
theorem d_Model_takesAt_6 : decode b_Model_takesAt 6 = .ok (.iconst (0), 1) := by decide +kernel
theorem d_Model_takesAt_7 : decode b_Model_takesAt 7 = .ok (.istore 4, 2) := by decide +kernel
theorem d_Model_takesAt_9 : decode b_Model_takesAt 9 = .ok (.iload 4, 2) := by decide +kernel
theorem d_Model_takesAt_11 : decode b_Model_takesAt 11 = .ok (.aload_n 0, 1) := by decide +kernel
theorem d_Model_takesAt_12 : decode b_Model_takesAt 12 = .ok (.getfield 11, 3) := by decide +kernel
theorem d_Model_takesAt_15 : decode b_Model_takesAt 15 = .ok (.iconst (5), 1) := by decide +kernel
theorem d_Model_takesAt_16 : decode b_Model_takesAt 16 = .ok (.iaload, 1) := by decide +kernel
theorem d_Model_takesAt_17 : decode b_Model_takesAt 17 = .ok (.if_icmp .ge (34), 3) := by decide +kernel
theorem d_Model_takesAt_20 : decode b_Model_takesAt 20 = .ok (.iload_n 3, 1) := by decide +kernel
theorem d_Model_takesAt_21 : decode b_Model_takesAt 21 = .ok (.iload_n 2, 1) := by decide +kernel
theorem d_Model_takesAt_22 : decode b_Model_takesAt 22 = .ok (.if_icmp .ge (29), 3) := by decide +kernel
theorem d_Model_takesAt_25 : decode b_Model_takesAt 25 = .ok (.iload 4, 2) := by decide +kernel
theorem d_Model_takesAt_27 : decode b_Model_takesAt 27 = .ok (.iload_n 1, 1) := by decide +kernel
theorem d_Model_takesAt_28 : decode b_Model_takesAt 28 = .ok (.if_icmp .ne (6), 3) := by decide +kernel
theorem d_Model_takesAt_31 : decode b_Model_takesAt 31 = .ok (.goto (14), 3) := by decide +kernel
theorem d_Model_takesAt_34 : decode b_Model_takesAt 34 = .ok (.aload_n 0, 1) := by decide +kernel
theorem d_Model_takesAt_35 : decode b_Model_takesAt 35 = .ok (.iload 4, 2) := by decide +kernel
theorem d_Model_takesAt_37 : decode b_Model_takesAt 37 = .ok (.invokevirtual 208, 3) := by decide +kernel
theorem d_Model_takesAt_40 : decode b_Model_takesAt 40 = .ok (.istore 5, 2) := by decide +kernel
theorem d_Model_takesAt_42 : decode b_Model_takesAt 42 = .ok (.iinc 3 (1), 3) := by decide +kernel
theorem d_Model_takesAt_45 : decode b_Model_takesAt 45 = .ok (.iinc 4 (1), 3) := by decide +kernel
theorem d_Model_takesAt_48 : decode b_Model_takesAt 48 = .ok (.goto (-39), 3) := by decide +kernel
theorem d_Model_takesAt_51 : decode b_Model_takesAt 51 = .ok (.aload_n 0, 1) := by decide +kernel
theorem d_Model_takesAt_52 : decode b_Model_takesAt 52 = .ok (.iload_n 1, 1) := by decide +kernel
theorem d_Model_takesAt_53 : decode b_Model_takesAt 53 = .ok (.invokevirtual 241, 3) := by decide +kernel
theorem d_Model_takesAt_56 : decode b_Model_takesAt 56 = .ok (.istore 4, 2) := by decide +kernel
theorem d_Model_takesAt_58 : decode b_Model_takesAt 58 = .ok (.aload_n 0, 1) := by decide +kernel
theorem d_Model_takesAt_59 : decode b_Model_takesAt 59 = .ok (.invokevirtual 217, 3) := by decide +kernel
theorem d_Model_takesAt_62 : decode b_Model_takesAt 62 = .ok (.iload 4, 2) := by decide +kernel
theorem d_Model_takesAt_64 : decode b_Model_takesAt 64 = .ok (.ireturn, 1) := by decide +kernel
theorem zb_Model_takesAt_45 {l : Launch} {θ : ZT} {res : Int32 × ZM} {k9 : Int32 × Int32 × Int32 × Int32 × ZM → Option (Int32 × ZM)} (hk9 : ∀ a : Int32 × Int32 × Int32 × Int32 × ZM, k9 a = some res → WZ l b_Model_takesAt 6 (some .int) "BakedBeforeModel" 129 14 θ (zrm 39 928) (zQ mkI 129 14 θ res) a.2.2.2.2 [(0, .ref (za θ 129)), (1, .int a.1), (2, .int a.2.1), (3, .int a.2.2.1), (4, .int a.2.2.2.1)] 9 []) {x1 : Int32} {x2 : Int32} {x3 : Int32} {x4 : Int32} {σ : ZM} (h : f_Model_takesAt_45 k9 x1 x2 x3 x4 σ = some res) : WZ l b_Model_takesAt 6 (some .int) "BakedBeforeModel" 129 14 θ (zrm 39 928) (zQ mkI 129 14 θ res) σ [(0, .ref (za θ 129)), (1, .int x1), (2, .int x2), (3, .int x3), (4, .int x4)] 45 [] := by
  unfold f_Model_takesAt_45 at h
  refine z_iinc (v := x4 + (1 : Int32)) 4 d_Model_takesAt_45 rfl rfl (by decide) rfl ?_
  refine z_goto (tgt := 9) d_Model_takesAt_48 (by decide) ?_
  refine z_sub [1, 2, 3, 4, 0] rfl ?_
  exact hk9 (x1, x2, x3, (x4 + (1 : Int32)), σ) h
theorem zb_Model_takesAt_51 {l : Launch} {θ : ZT} {res : Int32 × ZM} {x1 : Int32} {σ : ZM} (h : f_Model_takesAt_51 x1 σ = some res) : WZ l b_Model_takesAt 6 (some .int) "BakedBeforeModel" 129 14 θ (zrm 39 928) (zQ mkI 129 14 θ res) σ [(0, .ref (za θ 129)), (1, .int x1)] 51 [] := by
  unfold f_Model_takesAt_51 at h
  refine z_aload_n 0 d_Model_takesAt_51 rfl rfl ?_
  refine z_iload_n 1 d_Model_takesAt_52 rfl rfl ?_
  obtain ⟨⟨v1, s2⟩, e3, h⟩ := zbd_i h
  refine w_callV (As := [.int x1]) (kc := 22) (ci := 12) (c_Model_allTakes l θ e3) cf_Model_allTakes q_1173 d_Model_takesAt_53 zl_129 rfl rfl rfl rfl rfl rfl (Nat.le_of_ble_eq_true rfl) rfl rfl ⟨Nat.le_of_ble_eq_true rfl, Nat.le_of_ble_eq_true rfl⟩ ?_
  refine z_istore d_Model_takesAt_56 (by decide) rfl ?_
  refine z_aload_n 1 d_Model_takesAt_58 rfl rfl ?_
  obtain ⟨⟨v4, s5⟩, e6, h⟩ := zbd_i h
  refine w_callV (As := []) (kc := 22) (ci := 12) (c_Model_ends l θ e6) cf_Model_ends q_1131 d_Model_takesAt_59 zl_129 rfl rfl rfl rfl rfl rfl (Nat.le_of_ble_eq_true rfl) rfl rfl ⟨Nat.le_of_ble_eq_true rfl, Nat.le_of_ble_eq_true rfl⟩ ?_
  refine z_iload 0 d_Model_takesAt_62 rfl ?_
  exact z_iret d_Model_takesAt_64 h
theorem zb_Model_takesAt_9 {l : Launch} {θ : ZT} {res : Int32 × ZM} {k9 : Int32 × Int32 × Int32 × Int32 × ZM → Option (Int32 × ZM)} (hk9 : ∀ a : Int32 × Int32 × Int32 × Int32 × ZM, k9 a = some res → WZ l b_Model_takesAt 6 (some .int) "BakedBeforeModel" 129 14 θ (zrm 39 928) (zQ mkI 129 14 θ res) a.2.2.2.2 [(0, .ref (za θ 129)), (1, .int a.1), (2, .int a.2.1), (3, .int a.2.2.1), (4, .int a.2.2.2.1)] 9 []) {x1 : Int32} {x2 : Int32} {x3 : Int32} {x4 : Int32} {σ : ZM} (h : f_Model_takesAt_9 k9 x1 x2 x3 x4 σ = some res) : WZ l b_Model_takesAt 6 (some .int) "BakedBeforeModel" 129 14 θ (zrm 39 928) (zQ mkI 129 14 θ res) σ [(0, .ref (za θ 129)), (1, .int x1), (2, .int x2), (3, .int x3), (4, .int x4)] 9 [] := by
  unfold f_Model_takesAt_9 at h
  refine z_iload 4 d_Model_takesAt_9 rfl ?_
  refine z_aload_n 0 d_Model_takesAt_11 rfl rfl ?_
  refine gf_Model_s zl_129 d_Model_takesAt_12 q_871 ?_
  refine z_iconst (v := 5) d_Model_takesAt_15 (by decide) ?_
  obtain ⟨c1, h⟩ := zck_i h
  refine w_iald zl_130 c1 d_Model_takesAt_16 ?_
  refine z_icmp_ge (tgt := 51) d_Model_takesAt_17 (by decide) (fun c2 => ?_) (fun c2 => ?_)
  · have h := (if_pos c2).symm.trans h
    refine z_sub [0, 1] rfl ?_
    exact zb_Model_takesAt_51 h
  · have h := (if_neg c2).symm.trans h
    refine z_iload_n 3 d_Model_takesAt_20 rfl rfl ?_
    refine z_iload_n 2 d_Model_takesAt_21 rfl rfl ?_
    refine z_icmp_ge (tgt := 51) d_Model_takesAt_22 (by decide) (fun c3 => ?_) (fun c3 => ?_)
    · have h := (if_pos c3).symm.trans h
      refine z_sub [0, 1] rfl ?_
      exact zb_Model_takesAt_51 h
    · have h := (if_neg c3).symm.trans h
      refine z_iload 4 d_Model_takesAt_25 rfl ?_
      refine z_iload_n 1 d_Model_takesAt_27 rfl rfl ?_
      refine z_icmp_ne (tgt := 34) d_Model_takesAt_28 (by decide) (fun c4 => ?_) (fun c4 => ?_)
      · have h := (if_neg c4).symm.trans h
        refine z_aload_n 0 d_Model_takesAt_34 rfl rfl ?_
        refine z_iload 4 d_Model_takesAt_35 rfl ?_
        obtain ⟨⟨v5, s6⟩, e7, h⟩ := zbd_i h
        refine w_callV (As := [.int x4]) (kc := 22) (ci := 12) (c_Model_bakes l θ e7) cf_Model_bakes q_1104 d_Model_takesAt_37 zl_129 rfl rfl rfl rfl rfl rfl (Nat.le_of_ble_eq_true rfl) rfl rfl ⟨Nat.le_of_ble_eq_true rfl, Nat.le_of_ble_eq_true rfl⟩ ?_
        refine z_istore d_Model_takesAt_40 (by decide) rfl ?_
        refine z_iinc (v := x3 + (1 : Int32)) 4 d_Model_takesAt_42 rfl rfl (by decide) rfl ?_
        refine z_sub [2, 3, 4, 0, 5] rfl ?_
        exact zb_Model_takesAt_45 hk9 h
      · have h := (if_pos c4).symm.trans h
        refine z_goto (tgt := 45) d_Model_takesAt_31 (by decide) ?_
        exact zb_Model_takesAt_45 hk9 h
theorem zl_Model_takesAt_9 {l : Launch} {θ : ZT} {res : Int32 × ZM} : ∀ (N : Nat) (a : Int32 × Int32 × Int32 × Int32 × ZM), F_Model_takesAt_9 N a = some res → WZ l b_Model_takesAt 6 (some .int) "BakedBeforeModel" 129 14 θ (zrm 39 928) (zQ mkI 129 14 θ res) a.2.2.2.2 [(0, .ref (za θ 129)), (1, .int a.1), (2, .int a.2.1), (3, .int a.2.2.1), (4, .int a.2.2.2.1)] 9 [] := by
  intro N
  induction N with
  | zero => intro a  h; cases (show (none : Option (Int32 × ZM)) = some res from h)
  | succ N ih => intro a  h; exact zb_Model_takesAt_9 ih (show f_Model_takesAt_9 (F_Model_takesAt_9 N) a.1 a.2.1 a.2.2.1 a.2.2.2.1 a.2.2.2.2 = some res from h)
theorem c_Model_takesAt (l : Launch) (θ : ZT) {x1 : Int32} {x2 : Int32} {σ : ZM} {res : Int32 × ZM} (h : f_Model_takesAt x1 x2 σ = some res) : zMet mkI l 129 14 θ y_Model_takesAt b_Model_takesAt 6 (some .int) (zrm 39 928) [.ref (za θ 129), .int x1, .int x2] σ res := by
  unfold f_Model_takesAt at h
  refine z_met (lv := [(0, .ref (za θ 129)), (1, .int x1), (2, .int x2)]) (by decide +kernel) rfl (Nat.le_of_ble_eq_true rfl) (by decide) ?_
  refine z_aload_n 0 d_Model_takesAt_0 rfl rfl ?_
  obtain ⟨⟨v1, s2⟩, e3, h⟩ := zbd_i h
  refine w_callV (As := []) (kc := 22) (ci := 12) (c_Model_begins l θ e3) cf_Model_begins q_1124 d_Model_takesAt_1 zl_129 rfl rfl rfl rfl rfl rfl (Nat.le_of_ble_eq_true rfl) rfl rfl ⟨Nat.le_of_ble_eq_true rfl, Nat.le_of_ble_eq_true rfl⟩ ?_
  refine z_iconst (v := 0) d_Model_takesAt_4 (by decide) ?_
  refine z_istore_n d_Model_takesAt_5 rfl (by decide) rfl ?_
  refine z_iconst (v := 0) d_Model_takesAt_6 (by decide) ?_
  refine z_istore d_Model_takesAt_7 (by decide) rfl ?_
  refine z_sub [2, 3, 4, 1, 0] rfl ?_
  exact zl_Model_takesAt_9 2000 (x1, x2, (0 : Int32), (0 : Int32), s2) h
theorem d_Model_place_0 : decode b_Model_place 0 = .ok (.aload_n 0, 1) := by decide +kernel
theorem d_Model_place_1 : decode b_Model_place 1 = .ok (.iload_n 1, 1) := by decide +kernel
theorem d_Model_place_2 : decode b_Model_place 2 = .ok (.invokevirtual 199, 3) := by decide +kernel
theorem d_Model_place_5 : decode b_Model_place 5 = .ok (.ifCond .eq (12), 3) := by decide +kernel
theorem d_Model_place_8 : decode b_Model_place 8 = .ok (.iload_n 2, 1) := by decide +kernel
theorem d_Model_place_9 : decode b_Model_place 9 = .ok (.iconst (0), 1) := by decide +kernel
theorem d_Model_place_10 : decode b_Model_place 10 = .ok (.iconst (1), 1) := by decide +kernel
theorem d_Model_place_11 : decode b_Model_place 11 = .ok (.invokestatic 52, 3) := by decide +kernel
theorem d_Model_place_14 : decode b_Model_place 14 = .ok (.ifCond .ne (5), 3) := by decide +kernel
theorem d_Model_place_17 : decode b_Model_place 17 = .ok (.iconst (-1), 1) := by decide +kernel
theorem d_Model_place_18 : decode b_Model_place 18 = .ok (.ireturn, 1) := by decide +kernel
theorem d_Model_place_19 : decode b_Model_place 19 = .ok (.iconst (0), 1) := by decide +kernel
theorem d_Model_place_20 : decode b_Model_place 20 = .ok (.istore_n 3, 1) := by decide +kernel
theorem d_Model_place_21 : decode b_Model_place 21 = .ok (.aload_n 0, 1) := by decide +kernel
theorem d_Model_place_22 : decode b_Model_place 22 = .ok (.iload_n 1, 1) := by decide +kernel
theorem d_Model_place_23 : decode b_Model_place 23 = .ok (.iconst (0), 1) := by decide +kernel
theorem d_Model_place_24 : decode b_Model_place 24 = .ok (.invokevirtual 244, 3) := by decide +kernel
theorem d_Model_place_27 : decode b_Model_place 27 = .ok (.istore 4, 2) := by decide +kernel
theorem d_Model_place_29 : decode b_Model_place 29 = .ok (.iconst (1), 1) := by decide +kernel
theorem d_Model_place_30 : decode b_Model_place 30 = .ok (.istore 5, 2) := by decide +kernel
theorem d_Model_place_32 : decode b_Model_place 32 = .ok (.iload 5, 2) := by decide +kernel
theorem d_Model_place_34 : decode b_Model_place 34 = .ok (.aload_n 0, 1) := by decide +kernel
theorem d_Model_place_35 : decode b_Model_place 35 = .ok (.getfield 11, 3) := by decide +kernel
theorem d_Model_place_38 : decode b_Model_place 38 = .ok (.iconst (5), 1) := by decide +kernel
theorem d_Model_place_39 : decode b_Model_place 39 = .ok (.iaload, 1) := by decide +kernel
theorem d_Model_place_40 : decode b_Model_place 40 = .ok (.if_icmp .ge (35), 3) := by decide +kernel
theorem d_Model_place_43 : decode b_Model_place 43 = .ok (.aload_n 0, 1) := by decide +kernel
theorem d_Model_place_44 : decode b_Model_place 44 = .ok (.iload_n 1, 1) := by decide +kernel
theorem d_Model_place_45 : decode b_Model_place 45 = .ok (.iload 5, 2) := by decide +kernel
theorem d_Model_place_47 : decode b_Model_place 47 = .ok (.invokevirtual 244, 3) := by decide +kernel
theorem d_Model_place_50 : decode b_Model_place 50 = .ok (.istore 6, 2) := by decide +kernel
theorem d_Model_place_52 : decode b_Model_place 52 = .ok (.iload 6, 2) := by decide +kernel
theorem d_Model_place_54 : decode b_Model_place 54 = .ok (.iload 4, 2) := by decide +kernel
theorem d_Model_place_56 : decode b_Model_place 56 = .ok (.if_icmp .lt (6), 3) := by decide +kernel
theorem d_Model_place_59 : decode b_Model_place 59 = .ok (.goto (10), 3) := by decide +kernel
theorem d_Model_place_62 : decode b_Model_place 62 = .ok (.iload 5, 2) := by decide +kernel
theorem d_Model_place_64 : decode b_Model_place 64 = .ok (.istore_n 3, 1) := by decide +kernel
theorem d_Model_place_65 : decode b_Model_place 65 = .ok (.iload 6, 2) := by decide +kernel
theorem d_Model_place_67 : decode b_Model_place 67 = .ok (.istore 4, 2) := by decide +kernel
theorem d_Model_place_69 : decode b_Model_place 69 = .ok (.iinc 5 (1), 3) := by decide +kernel
theorem d_Model_place_72 : decode b_Model_place 72 = .ok (.goto (-40), 3) := by decide +kernel
theorem d_Model_place_75 : decode b_Model_place 75 = .ok (.iload_n 2, 1) := by decide +kernel
theorem d_Model_place_76 : decode b_Model_place 76 = .ok (.ifCond .ne (7), 3) := by decide +kernel
theorem d_Model_place_79 : decode b_Model_place 79 = .ok (.iload_n 3, 1) := by decide +kernel
theorem d_Model_place_80 : decode b_Model_place 80 = .ok (.goto (5), 3) := by decide +kernel
theorem d_Model_place_83 : decode b_Model_place 83 = .ok (.iload 4, 2) := by decide +kernel
theorem d_Model_place_85 : decode b_Model_place 85 = .ok (.ireturn, 1) := by decide +kernel
theorem zb_Model_place_69 {l : Launch} {θ : ZT} {res : Int32 × ZM} {k32 : Int32 × Int32 × Int32 × Int32 × Int32 × ZM → Option (Int32 × ZM)} (hk32 : ∀ a : Int32 × Int32 × Int32 × Int32 × Int32 × ZM, k32 a = some res → WZ l b_Model_place 7 (some .int) "BakedBeforeModel" 129 14 θ (zrm 40 953) (zQ mkI 129 14 θ res) a.2.2.2.2.2 [(0, .ref (za θ 129)), (1, .int a.1), (2, .int a.2.1), (3, .int a.2.2.1), (4, .int a.2.2.2.1), (5, .int a.2.2.2.2.1)] 32 []) {x1 : Int32} {x2 : Int32} {x3 : Int32} {x4 : Int32} {x5 : Int32} {σ : ZM} (h : f_Model_place_69 k32 x1 x2 x3 x4 x5 σ = some res) : WZ l b_Model_place 7 (some .int) "BakedBeforeModel" 129 14 θ (zrm 40 953) (zQ mkI 129 14 θ res) σ [(0, .ref (za θ 129)), (1, .int x1), (2, .int x2), (3, .int x3), (4, .int x4), (5, .int x5)] 69 [] := by
  unfold f_Model_place_69 at h
  refine z_iinc (v := x5 + (1 : Int32)) 5 d_Model_place_69 rfl rfl (by decide) rfl ?_
  refine z_goto (tgt := 32) d_Model_place_72 (by decide) ?_
  refine z_sub [1, 2, 3, 4, 5, 0] rfl ?_
  exact hk32 (x1, x2, x3, x4, (x5 + (1 : Int32)), σ) h
theorem zb_Model_place_32 {l : Launch} {θ : ZT} {res : Int32 × ZM} {k32 : Int32 × Int32 × Int32 × Int32 × Int32 × ZM → Option (Int32 × ZM)} (hk32 : ∀ a : Int32 × Int32 × Int32 × Int32 × Int32 × ZM, k32 a = some res → WZ l b_Model_place 7 (some .int) "BakedBeforeModel" 129 14 θ (zrm 40 953) (zQ mkI 129 14 θ res) a.2.2.2.2.2 [(0, .ref (za θ 129)), (1, .int a.1), (2, .int a.2.1), (3, .int a.2.2.1), (4, .int a.2.2.2.1), (5, .int a.2.2.2.2.1)] 32 []) {x1 : Int32} {x2 : Int32} {x3 : Int32} {x4 : Int32} {x5 : Int32} {σ : ZM} (h : f_Model_place_32 k32 x1 x2 x3 x4 x5 σ = some res) : WZ l b_Model_place 7 (some .int) "BakedBeforeModel" 129 14 θ (zrm 40 953) (zQ mkI 129 14 θ res) σ [(0, .ref (za θ 129)), (1, .int x1), (2, .int x2), (3, .int x3), (4, .int x4), (5, .int x5)] 32 [] := by
  unfold f_Model_place_32 at h
  refine z_iload 5 d_Model_place_32 rfl ?_
  refine z_aload_n 0 d_Model_place_34 rfl rfl ?_
  refine gf_Model_s zl_129 d_Model_place_35 q_871 ?_
  refine z_iconst (v := 5) d_Model_place_38 (by decide) ?_
  obtain ⟨c1, h⟩ := zck_i h
  refine w_iald zl_130 c1 d_Model_place_39 ?_
  refine z_icmp_ge (tgt := 75) d_Model_place_40 (by decide) (fun c2 => ?_) (fun c2 => ?_)
  · have h := (if_pos c2).symm.trans h
    refine z_iload_n 2 d_Model_place_75 rfl rfl ?_
    refine z_if_ne (tgt := 83) d_Model_place_76 (by decide) (fun c3 => ?_) (fun c3 => ?_)
    · have h := (if_neg c3).symm.trans h
      refine z_iload 4 d_Model_place_83 rfl ?_
      exact z_iret d_Model_place_85 h
    · have h := (if_pos c3).symm.trans h
      refine z_iload_n 3 d_Model_place_79 rfl rfl ?_
      refine z_goto (tgt := 85) d_Model_place_80 (by decide) ?_
      exact z_iret d_Model_place_85 h
  · have h := (if_neg c2).symm.trans h
    refine z_aload_n 0 d_Model_place_43 rfl rfl ?_
    refine z_iload_n 1 d_Model_place_44 rfl rfl ?_
    refine z_iload 5 d_Model_place_45 rfl ?_
    obtain ⟨⟨v4, s5⟩, e6, h⟩ := zbd_i h
    refine w_callV (As := [.int x1, .int x5]) (kc := 22) (ci := 12) (c_Model_takesAt l θ e6) cf_Model_takesAt q_1169 d_Model_place_47 zl_129 rfl rfl rfl rfl rfl rfl (Nat.le_of_ble_eq_true rfl) rfl rfl ⟨Nat.le_of_ble_eq_true rfl, Nat.le_of_ble_eq_true rfl⟩ ?_
    refine z_istore d_Model_place_50 (by decide) rfl ?_
    refine z_iload 0 d_Model_place_52 rfl ?_
    refine z_iload 5 d_Model_place_54 rfl ?_
    refine z_icmp_lt (tgt := 62) d_Model_place_56 (by decide) (fun c7 => ?_) (fun c7 => ?_)
    · have h := (if_pos c7).symm.trans h
      refine z_iload 6 d_Model_place_62 rfl ?_
      refine z_istore_n d_Model_place_64 rfl (by decide) rfl ?_
      refine z_iload 1 d_Model_place_65 rfl ?_
      refine z_istore d_Model_place_67 (by decide) rfl ?_
      refine z_sub [3, 4, 5, 1, 0, 6] rfl ?_
      exact zb_Model_place_69 hk32 h
    · have h := (if_neg c7).symm.trans h
      refine z_goto (tgt := 69) d_Model_place_59 (by decide) ?_
      refine z_sub [1, 2, 3, 4, 5, 6] rfl ?_
      exact zb_Model_place_69 hk32 h
theorem zl_Model_place_32 {l : Launch} {θ : ZT} {res : Int32 × ZM} : ∀ (N : Nat) (a : Int32 × Int32 × Int32 × Int32 × Int32 × ZM), F_Model_place_32 N a = some res → WZ l b_Model_place 7 (some .int) "BakedBeforeModel" 129 14 θ (zrm 40 953) (zQ mkI 129 14 θ res) a.2.2.2.2.2 [(0, .ref (za θ 129)), (1, .int a.1), (2, .int a.2.1), (3, .int a.2.2.1), (4, .int a.2.2.2.1), (5, .int a.2.2.2.2.1)] 32 [] := by
  intro N
  induction N with
  | zero => intro a  h; cases (show (none : Option (Int32 × ZM)) = some res from h)
  | succ N ih => intro a  h; exact zb_Model_place_32 ih (show f_Model_place_32 (F_Model_place_32 N) a.1 a.2.1 a.2.2.1 a.2.2.2.1 a.2.2.2.2.1 a.2.2.2.2.2 = some res from h)
theorem c_Model_place (l : Launch) (θ : ZT) {x1 : Int32} {x2 : Int32} {σ : ZM} {res : Int32 × ZM} (h : f_Model_place x1 x2 σ = some res) : zMet mkI l 129 14 θ y_Model_place b_Model_place 7 (some .int) (zrm 40 953) [.ref (za θ 129), .int x1, .int x2] σ res := by
  unfold f_Model_place at h
  refine z_met (lv := [(0, .ref (za θ 129)), (1, .int x1), (2, .int x2)]) (by decide +kernel) rfl (Nat.le_of_ble_eq_true rfl) (by decide) ?_
  refine z_aload_n 0 d_Model_place_0 rfl rfl ?_
  refine z_iload_n 1 d_Model_place_1 rfl rfl ?_
  obtain ⟨⟨v1, s2⟩, e3, h⟩ := zbd_i h
  refine w_callV (As := [.int x1]) (kc := 22) (ci := 12) (c_Model_isLoaf l θ e3) cf_Model_isLoaf q_1053 d_Model_place_2 zl_129 rfl rfl rfl rfl rfl rfl (Nat.le_of_ble_eq_true rfl) rfl rfl ⟨Nat.le_of_ble_eq_true rfl, Nat.le_of_ble_eq_true rfl⟩ ?_
  refine z_if_eq (tgt := 17) d_Model_place_5 (by decide) (fun c4 => ?_) (fun c4 => ?_)
  · have h := (if_pos c4).symm.trans h
    refine z_iconst (v := -1) d_Model_place_17 (by decide) ?_
    exact z_iret d_Model_place_18 h
  · have h := (if_neg c4).symm.trans h
    refine z_iload_n 2 d_Model_place_8 rfl rfl ?_
    refine z_iconst (v := 0) d_Model_place_9 (by decide) ?_
    refine z_iconst (v := 1) d_Model_place_10 (by decide) ?_
    obtain ⟨⟨v5, s6⟩, e7, h⟩ := zbd_i h
    refine w_callS (As := [.int x2, .int (0 : Int32), .int (1 : Int32)]) (c_Model_isIn l θ e7) cf_Model_isIn q_969 d_Model_place_11 rfl rfl rfl (Nat.le_of_ble_eq_true rfl) rfl rfl ⟨Nat.le_of_ble_eq_true rfl, Nat.le_of_ble_eq_true rfl⟩ ?_
    refine z_if_ne (tgt := 19) d_Model_place_14 (by decide) (fun c8 => ?_) (fun c8 => ?_)
    · have h := (if_neg c8).symm.trans h
      refine z_iconst (v := 0) d_Model_place_19 (by decide) ?_
      refine z_istore_n d_Model_place_20 rfl (by decide) rfl ?_
      refine z_aload_n 1 d_Model_place_21 rfl rfl ?_
      refine z_iload_n 2 d_Model_place_22 rfl rfl ?_
      refine z_iconst (v := 0) d_Model_place_23 (by decide) ?_
      obtain ⟨⟨v9, s10⟩, e11, h⟩ := zbd_i h
      refine w_callV (As := [.int x1, .int (0 : Int32)]) (kc := 22) (ci := 12) (c_Model_takesAt l θ e11) cf_Model_takesAt q_1169 d_Model_place_24 zl_129 rfl rfl rfl rfl rfl rfl (Nat.le_of_ble_eq_true rfl) rfl rfl ⟨Nat.le_of_ble_eq_true rfl, Nat.le_of_ble_eq_true rfl⟩ ?_
      refine z_istore d_Model_place_27 (by decide) rfl ?_
      refine z_iconst (v := 1) d_Model_place_29 (by decide) ?_
      refine z_istore d_Model_place_30 (by decide) rfl ?_
      refine z_sub [3, 4, 5, 2, 1, 0] rfl ?_
      exact zl_Model_place_32 2000 (x1, x2, (0 : Int32), v9, (1 : Int32), s10) h
    · have h := (if_pos c8).symm.trans h
      refine z_iconst (v := -1) d_Model_place_17 (by decide) ?_
      exact z_iret d_Model_place_18 h
theorem d_Model_isSpoiledBehind_0 : decode b_Model_isSpoiledBehind 0 = .ok (.aload_n 0, 1) := by decide +kernel
theorem d_Model_isSpoiledBehind_1 : decode b_Model_isSpoiledBehind 1 = .ok (.invokevirtual 214, 3) := by decide +kernel
theorem d_Model_isSpoiledBehind_4 : decode b_Model_isSpoiledBehind 4 = .ok (.iconst (0), 1) := by decide +kernel
theorem d_Model_isSpoiledBehind_5 : decode b_Model_isSpoiledBehind 5 = .ok (.istore_n 3, 1) := by decide +kernel
theorem d_Model_isSpoiledBehind_6 : decode b_Model_isSpoiledBehind 6 = .ok (.iload_n 3, 1) := by decide +kernel
theorem d_Model_isSpoiledBehind_7 : decode b_Model_isSpoiledBehind 7 = .ok (.iload_n 1, 1) := by decide +kernel
theorem d_Model_isSpoiledBehind_8 : decode b_Model_isSpoiledBehind 8 = .ok (.if_icmp .ge (29), 3) := by decide +kernel
theorem d_Model_isSpoiledBehind_11 : decode b_Model_isSpoiledBehind 11 = .ok (.iload_n 3, 1) := by decide +kernel
theorem d_Model_isSpoiledBehind_12 : decode b_Model_isSpoiledBehind 12 = .ok (.iload_n 2, 1) := by decide +kernel
theorem d_Model_isSpoiledBehind_13 : decode b_Model_isSpoiledBehind 13 = .ok (.if_icmp .eq (15), 3) := by decide +kernel
theorem d_Model_isSpoiledBehind_16 : decode b_Model_isSpoiledBehind 16 = .ok (.aload_n 0, 1) := by decide +kernel
theorem d_Model_isSpoiledBehind_17 : decode b_Model_isSpoiledBehind 17 = .ok (.iload_n 3, 1) := by decide +kernel
theorem d_Model_isSpoiledBehind_18 : decode b_Model_isSpoiledBehind 18 = .ok (.invokevirtual 208, 3) := by decide +kernel
theorem d_Model_isSpoiledBehind_21 : decode b_Model_isSpoiledBehind 21 = .ok (.ifCond .eq (7), 3) := by decide +kernel
theorem d_Model_isSpoiledBehind_24 : decode b_Model_isSpoiledBehind 24 = .ok (.iconst (1), 1) := by decide +kernel
theorem d_Model_isSpoiledBehind_25 : decode b_Model_isSpoiledBehind 25 = .ok (.goto (4), 3) := by decide +kernel
theorem d_Model_isSpoiledBehind_28 : decode b_Model_isSpoiledBehind 28 = .ok (.iconst (0), 1) := by decide +kernel
theorem d_Model_isSpoiledBehind_29 : decode b_Model_isSpoiledBehind 29 = .ok (.istore 4, 2) := by decide +kernel
theorem d_Model_isSpoiledBehind_31 : decode b_Model_isSpoiledBehind 31 = .ok (.iinc 3 (1), 3) := by decide +kernel
theorem d_Model_isSpoiledBehind_34 : decode b_Model_isSpoiledBehind 34 = .ok (.goto (-28), 3) := by decide +kernel
theorem d_Model_isSpoiledBehind_37 : decode b_Model_isSpoiledBehind 37 = .ok (.aload_n 0, 1) := by decide +kernel
theorem d_Model_isSpoiledBehind_38 : decode b_Model_isSpoiledBehind 38 = .ok (.iload_n 1, 1) := by decide +kernel
theorem d_Model_isSpoiledBehind_39 : decode b_Model_isSpoiledBehind 39 = .ok (.invokevirtual 190, 3) := by decide +kernel
theorem d_Model_isSpoiledBehind_42 : decode b_Model_isSpoiledBehind 42 = .ok (.istore_n 3, 1) := by decide +kernel
theorem d_Model_isSpoiledBehind_43 : decode b_Model_isSpoiledBehind 43 = .ok (.aload_n 0, 1) := by decide +kernel
theorem d_Model_isSpoiledBehind_44 : decode b_Model_isSpoiledBehind 44 = .ok (.invokevirtual 217, 3) := by decide +kernel
theorem d_Model_isSpoiledBehind_47 : decode b_Model_isSpoiledBehind 47 = .ok (.iload_n 3, 1) := by decide +kernel
theorem d_Model_isSpoiledBehind_48 : decode b_Model_isSpoiledBehind 48 = .ok (.ireturn, 1) := by decide +kernel
theorem zb_Model_isSpoiledBehind_29 {l : Launch} {θ : ZT} {res : Int32 × ZM} {k6 : Int32 × Int32 × Int32 × ZM → Option (Int32 × ZM)} (hk6 : ∀ a : Int32 × Int32 × Int32 × ZM, k6 a = some res → WZ l b_Model_isSpoiledBehind 5 (some .boolean) "BakedBeforeModel" 129 14 θ (zrm 39 928) (zQ mkI 129 14 θ res) a.2.2.2 [(0, .ref (za θ 129)), (1, .int a.1), (2, .int a.2.1), (3, .int a.2.2.1)] 6 []) {x1 : Int32} {x2 : Int32} {x3 : Int32} {y0 : Int32} {σ : ZM} (h : f_Model_isSpoiledBehind_29 k6 x1 x2 x3 y0 σ = some res) : WZ l b_Model_isSpoiledBehind 5 (some .boolean) "BakedBeforeModel" 129 14 θ (zrm 39 928) (zQ mkI 129 14 θ res) σ [(0, .ref (za θ 129)), (1, .int x1), (2, .int x2), (3, .int x3)] 29 [.int y0] := by
  unfold f_Model_isSpoiledBehind_29 at h
  refine z_istore d_Model_isSpoiledBehind_29 (by decide) rfl ?_
  refine z_iinc (v := x3 + (1 : Int32)) 4 d_Model_isSpoiledBehind_31 rfl rfl (by decide) rfl ?_
  refine z_goto (tgt := 6) d_Model_isSpoiledBehind_34 (by decide) ?_
  refine z_sub [2, 3, 4, 0] rfl ?_
  exact hk6 (x1, x2, (x3 + (1 : Int32)), σ) h
theorem zb_Model_isSpoiledBehind_28 {l : Launch} {θ : ZT} {res : Int32 × ZM} {k6 : Int32 × Int32 × Int32 × ZM → Option (Int32 × ZM)} (hk6 : ∀ a : Int32 × Int32 × Int32 × ZM, k6 a = some res → WZ l b_Model_isSpoiledBehind 5 (some .boolean) "BakedBeforeModel" 129 14 θ (zrm 39 928) (zQ mkI 129 14 θ res) a.2.2.2 [(0, .ref (za θ 129)), (1, .int a.1), (2, .int a.2.1), (3, .int a.2.2.1)] 6 []) {x1 : Int32} {x2 : Int32} {x3 : Int32} {σ : ZM} (h : f_Model_isSpoiledBehind_28 k6 x1 x2 x3 σ = some res) : WZ l b_Model_isSpoiledBehind 5 (some .boolean) "BakedBeforeModel" 129 14 θ (zrm 39 928) (zQ mkI 129 14 θ res) σ [(0, .ref (za θ 129)), (1, .int x1), (2, .int x2), (3, .int x3)] 28 [] := by
  unfold f_Model_isSpoiledBehind_28 at h
  refine z_iconst (v := 0) d_Model_isSpoiledBehind_28 (by decide) ?_
  exact zb_Model_isSpoiledBehind_29 hk6 h
theorem zb_Model_isSpoiledBehind_6 {l : Launch} {θ : ZT} {res : Int32 × ZM} {k6 : Int32 × Int32 × Int32 × ZM → Option (Int32 × ZM)} (hk6 : ∀ a : Int32 × Int32 × Int32 × ZM, k6 a = some res → WZ l b_Model_isSpoiledBehind 5 (some .boolean) "BakedBeforeModel" 129 14 θ (zrm 39 928) (zQ mkI 129 14 θ res) a.2.2.2 [(0, .ref (za θ 129)), (1, .int a.1), (2, .int a.2.1), (3, .int a.2.2.1)] 6 []) {x1 : Int32} {x2 : Int32} {x3 : Int32} {σ : ZM} (h : f_Model_isSpoiledBehind_6 k6 x1 x2 x3 σ = some res) : WZ l b_Model_isSpoiledBehind 5 (some .boolean) "BakedBeforeModel" 129 14 θ (zrm 39 928) (zQ mkI 129 14 θ res) σ [(0, .ref (za θ 129)), (1, .int x1), (2, .int x2), (3, .int x3)] 6 [] := by
  unfold f_Model_isSpoiledBehind_6 at h
  refine z_iload_n 3 d_Model_isSpoiledBehind_6 rfl rfl ?_
  refine z_iload_n 1 d_Model_isSpoiledBehind_7 rfl rfl ?_
  refine z_icmp_ge (tgt := 37) d_Model_isSpoiledBehind_8 (by decide) (fun c1 => ?_) (fun c1 => ?_)
  · have h := (if_pos c1).symm.trans h
    refine z_aload_n 0 d_Model_isSpoiledBehind_37 rfl rfl ?_
    refine z_iload_n 1 d_Model_isSpoiledBehind_38 rfl rfl ?_
    obtain ⟨⟨v2, s3⟩, e4, h⟩ := zbd_i h
    refine w_callV (As := [.int x1]) (kc := 22) (ci := 12) (c_Model_isSpoiled l θ e4) cf_Model_isSpoiled q_1072 d_Model_isSpoiledBehind_39 zl_129 rfl rfl rfl rfl rfl rfl (Nat.le_of_ble_eq_true rfl) rfl rfl ⟨Nat.le_of_ble_eq_true rfl, Nat.le_of_ble_eq_true rfl⟩ ?_
    refine z_istore_n d_Model_isSpoiledBehind_42 rfl (by decide) rfl ?_
    refine z_aload_n 1 d_Model_isSpoiledBehind_43 rfl rfl ?_
    obtain ⟨⟨v5, s6⟩, e7, h⟩ := zbd_i h
    refine w_callV (As := []) (kc := 22) (ci := 12) (c_Model_ends l θ e7) cf_Model_ends q_1131 d_Model_isSpoiledBehind_44 zl_129 rfl rfl rfl rfl rfl rfl (Nat.le_of_ble_eq_true rfl) rfl rfl ⟨Nat.le_of_ble_eq_true rfl, Nat.le_of_ble_eq_true rfl⟩ ?_
    refine z_iload_n 0 d_Model_isSpoiledBehind_47 rfl rfl ?_
    obtain ⟨c8, h⟩ := zck_i h
    exact z_zret d_Model_isSpoiledBehind_48 c8 h
  · have h := (if_neg c1).symm.trans h
    refine z_iload_n 3 d_Model_isSpoiledBehind_11 rfl rfl ?_
    refine z_iload_n 2 d_Model_isSpoiledBehind_12 rfl rfl ?_
    refine z_icmp_eq (tgt := 28) d_Model_isSpoiledBehind_13 (by decide) (fun c9 => ?_) (fun c9 => ?_)
    · have h := (if_pos c9).symm.trans h
      exact zb_Model_isSpoiledBehind_28 hk6 h
    · have h := (if_neg c9).symm.trans h
      refine z_aload_n 0 d_Model_isSpoiledBehind_16 rfl rfl ?_
      refine z_iload_n 3 d_Model_isSpoiledBehind_17 rfl rfl ?_
      obtain ⟨⟨v10, s11⟩, e12, h⟩ := zbd_i h
      refine w_callV (As := [.int x3]) (kc := 22) (ci := 12) (c_Model_bakes l θ e12) cf_Model_bakes q_1104 d_Model_isSpoiledBehind_18 zl_129 rfl rfl rfl rfl rfl rfl (Nat.le_of_ble_eq_true rfl) rfl rfl ⟨Nat.le_of_ble_eq_true rfl, Nat.le_of_ble_eq_true rfl⟩ ?_
      refine z_if_eq (tgt := 28) d_Model_isSpoiledBehind_21 (by decide) (fun c13 => ?_) (fun c13 => ?_)
      · have h := (if_pos c13).symm.trans h
        exact zb_Model_isSpoiledBehind_28 hk6 h
      · have h := (if_neg c13).symm.trans h
        refine z_iconst (v := 1) d_Model_isSpoiledBehind_24 (by decide) ?_
        refine z_goto (tgt := 29) d_Model_isSpoiledBehind_25 (by decide) ?_
        exact zb_Model_isSpoiledBehind_29 hk6 h
theorem zl_Model_isSpoiledBehind_6 {l : Launch} {θ : ZT} {res : Int32 × ZM} : ∀ (N : Nat) (a : Int32 × Int32 × Int32 × ZM), F_Model_isSpoiledBehind_6 N a = some res → WZ l b_Model_isSpoiledBehind 5 (some .boolean) "BakedBeforeModel" 129 14 θ (zrm 39 928) (zQ mkI 129 14 θ res) a.2.2.2 [(0, .ref (za θ 129)), (1, .int a.1), (2, .int a.2.1), (3, .int a.2.2.1)] 6 [] := by
  intro N
  induction N with
  | zero => intro a  h; cases (show (none : Option (Int32 × ZM)) = some res from h)
  | succ N ih => intro a  h; exact zb_Model_isSpoiledBehind_6 ih (show f_Model_isSpoiledBehind_6 (F_Model_isSpoiledBehind_6 N) a.1 a.2.1 a.2.2.1 a.2.2.2 = some res from h)
theorem c_Model_isSpoiledBehind (l : Launch) (θ : ZT) {x1 : Int32} {x2 : Int32} {σ : ZM} {res : Int32 × ZM} (h : f_Model_isSpoiledBehind x1 x2 σ = some res) : zMet mkI l 129 14 θ y_Model_isSpoiledBehind b_Model_isSpoiledBehind 5 (some .boolean) (zrm 39 928) [.ref (za θ 129), .int x1, .int x2] σ res := by
  unfold f_Model_isSpoiledBehind at h
  refine z_met (lv := [(0, .ref (za θ 129)), (1, .int x1), (2, .int x2)]) (by decide +kernel) rfl (Nat.le_of_ble_eq_true rfl) (by decide) ?_
  refine z_aload_n 0 d_Model_isSpoiledBehind_0 rfl rfl ?_
  obtain ⟨⟨v1, s2⟩, e3, h⟩ := zbd_i h
  refine w_callV (As := []) (kc := 22) (ci := 12) (c_Model_begins l θ e3) cf_Model_begins q_1124 d_Model_isSpoiledBehind_1 zl_129 rfl rfl rfl rfl rfl rfl (Nat.le_of_ble_eq_true rfl) rfl rfl ⟨Nat.le_of_ble_eq_true rfl, Nat.le_of_ble_eq_true rfl⟩ ?_
  refine z_iconst (v := 0) d_Model_isSpoiledBehind_4 (by decide) ?_
  refine z_istore_n d_Model_isSpoiledBehind_5 rfl (by decide) rfl ?_
  refine z_sub [1, 2, 3, 0] rfl ?_
  exact zl_Model_isSpoiledBehind_6 2000 (x1, x2, (0 : Int32), s2) h
theorem d_Model_guilty_0 : decode b_Model_guilty 0 = .ok (.aload_n 0, 1) := by decide +kernel
theorem d_Model_guilty_1 : decode b_Model_guilty 1 = .ok (.iload_n 1, 1) := by decide +kernel
theorem d_Model_guilty_2 : decode b_Model_guilty 2 = .ok (.invokevirtual 199, 3) := by decide +kernel
theorem d_Model_guilty_5 : decode b_Model_guilty 5 = .ok (.ifCond .ne (5), 3) := by decide +kernel
theorem d_Model_guilty_8 : decode b_Model_guilty 8 = .ok (.iconst (-1), 1) := by decide +kernel
theorem d_Model_guilty_9 : decode b_Model_guilty 9 = .ok (.ireturn, 1) := by decide +kernel
theorem d_Model_guilty_10 : decode b_Model_guilty 10 = .ok (.aload_n 0, 1) := by decide +kernel
theorem d_Model_guilty_11 : decode b_Model_guilty 11 = .ok (.iload_n 1, 1) := by decide +kernel
theorem d_Model_guilty_12 : decode b_Model_guilty 12 = .ok (.iconst (-1), 1) := by decide +kernel
theorem d_Model_guilty_13 : decode b_Model_guilty 13 = .ok (.invokevirtual 247, 3) := by decide +kernel
theorem d_Model_guilty_16 : decode b_Model_guilty 16 = .ok (.ifCond .ne (5), 3) := by decide +kernel
theorem d_Model_guilty_19 : decode b_Model_guilty 19 = .ok (.iconst (0), 1) := by decide +kernel
theorem d_Model_guilty_20 : decode b_Model_guilty 20 = .ok (.ireturn, 1) := by decide +kernel
theorem d_Model_guilty_21 : decode b_Model_guilty 21 = .ok (.iconst (0), 1) := by decide +kernel
theorem d_Model_guilty_22 : decode b_Model_guilty 22 = .ok (.istore_n 2, 1) := by decide +kernel
theorem d_Model_guilty_23 : decode b_Model_guilty 23 = .ok (.iconst (0), 1) := by decide +kernel
theorem d_Model_guilty_24 : decode b_Model_guilty 24 = .ok (.istore_n 3, 1) := by decide +kernel
theorem d_Model_guilty_25 : decode b_Model_guilty 25 = .ok (.iload_n 3, 1) := by decide +kernel
theorem d_Model_guilty_26 : decode b_Model_guilty 26 = .ok (.iload_n 1, 1) := by decide +kernel
theorem d_Model_guilty_27 : decode b_Model_guilty 27 = .ok (.if_icmp .ge (28), 3) := by decide +kernel
theorem d_Model_guilty_30 : decode b_Model_guilty 30 = .ok (.iload_n 2, 1) := by decide +kernel
theorem d_Model_guilty_31 : decode b_Model_guilty 31 = .ok (.aload_n 0, 1) := by decide +kernel
theorem d_Model_guilty_32 : decode b_Model_guilty 32 = .ok (.iload_n 1, 1) := by decide +kernel
theorem d_Model_guilty_33 : decode b_Model_guilty 33 = .ok (.iload_n 3, 1) := by decide +kernel
theorem d_Model_guilty_34 : decode b_Model_guilty 34 = .ok (.invokevirtual 247, 3) := by decide +kernel
theorem d_Model_guilty_37 : decode b_Model_guilty 37 = .ok (.ifCond .eq (7), 3) := by decide +kernel
theorem d_Model_guilty_40 : decode b_Model_guilty 40 = .ok (.iconst (0), 1) := by decide +kernel
theorem d_Model_guilty_41 : decode b_Model_guilty 41 = .ok (.goto (6), 3) := by decide +kernel
theorem d_Model_guilty_44 : decode b_Model_guilty 44 = .ok (.iconst (1), 1) := by decide +kernel
theorem d_Model_guilty_45 : decode b_Model_guilty 45 = .ok (.iload_n 3, 1) := by decide +kernel
theorem d_Model_guilty_46 : decode b_Model_guilty 46 = .ok (.ishl, 1) := by decide +kernel
theorem d_Model_guilty_47 : decode b_Model_guilty 47 = .ok (.ior, 1) := by decide +kernel
theorem d_Model_guilty_48 : decode b_Model_guilty 48 = .ok (.istore_n 2, 1) := by decide +kernel
theorem d_Model_guilty_49 : decode b_Model_guilty 49 = .ok (.iinc 3 (1), 3) := by decide +kernel
theorem d_Model_guilty_52 : decode b_Model_guilty 52 = .ok (.goto (-27), 3) := by decide +kernel
theorem d_Model_guilty_55 : decode b_Model_guilty 55 = .ok (.iload_n 2, 1) := by decide +kernel
theorem d_Model_guilty_56 : decode b_Model_guilty 56 = .ok (.ireturn, 1) := by decide +kernel
theorem zb_Model_guilty_47 {l : Launch} {θ : ZT} {res : Int32 × ZM} {k25 : Int32 × Int32 × Int32 × ZM → Option (Int32 × ZM)} (hk25 : ∀ a : Int32 × Int32 × Int32 × ZM, k25 a = some res → WZ l b_Model_guilty 4 (some .int) "BakedBeforeModel" 129 14 θ (zrm 40 952) (zQ mkI 129 14 θ res) a.2.2.2 [(0, .ref (za θ 129)), (1, .int a.1), (2, .int a.2.1), (3, .int a.2.2.1)] 25 []) {x1 : Int32} {x3 : Int32} {y0 : Int32} {y1 : Int32} {σ : ZM} (h : f_Model_guilty_47 k25 x1 x3 y0 y1 σ = some res) : WZ l b_Model_guilty 4 (some .int) "BakedBeforeModel" 129 14 θ (zrm 40 952) (zQ mkI 129 14 θ res) σ [(0, .ref (za θ 129)), (1, .int x1), (3, .int x3)] 47 [.int y0, .int y1] := by
  unfold f_Model_guilty_47 at h
  refine z_ior d_Model_guilty_47 ?_
  refine z_istore_n d_Model_guilty_48 rfl (by decide) rfl ?_
  refine z_iinc (v := x3 + (1 : Int32)) 3 d_Model_guilty_49 rfl rfl (by decide) rfl ?_
  refine z_goto (tgt := 25) d_Model_guilty_52 (by decide) ?_
  refine z_sub [2, 3, 1, 0] rfl ?_
  exact hk25 (x1, (y1 ||| y0), (x3 + (1 : Int32)), σ) h
theorem zb_Model_guilty_25 {l : Launch} {θ : ZT} {res : Int32 × ZM} {k25 : Int32 × Int32 × Int32 × ZM → Option (Int32 × ZM)} (hk25 : ∀ a : Int32 × Int32 × Int32 × ZM, k25 a = some res → WZ l b_Model_guilty 4 (some .int) "BakedBeforeModel" 129 14 θ (zrm 40 952) (zQ mkI 129 14 θ res) a.2.2.2 [(0, .ref (za θ 129)), (1, .int a.1), (2, .int a.2.1), (3, .int a.2.2.1)] 25 []) {x1 : Int32} {x2 : Int32} {x3 : Int32} {σ : ZM} (h : f_Model_guilty_25 k25 x1 x2 x3 σ = some res) : WZ l b_Model_guilty 4 (some .int) "BakedBeforeModel" 129 14 θ (zrm 40 952) (zQ mkI 129 14 θ res) σ [(0, .ref (za θ 129)), (1, .int x1), (2, .int x2), (3, .int x3)] 25 [] := by
  unfold f_Model_guilty_25 at h
  refine z_iload_n 3 d_Model_guilty_25 rfl rfl ?_
  refine z_iload_n 1 d_Model_guilty_26 rfl rfl ?_
  refine z_icmp_ge (tgt := 55) d_Model_guilty_27 (by decide) (fun c1 => ?_) (fun c1 => ?_)
  · have h := (if_pos c1).symm.trans h
    refine z_iload_n 2 d_Model_guilty_55 rfl rfl ?_
    exact z_iret d_Model_guilty_56 h
  · have h := (if_neg c1).symm.trans h
    refine z_iload_n 2 d_Model_guilty_30 rfl rfl ?_
    refine z_aload_n 0 d_Model_guilty_31 rfl rfl ?_
    refine z_iload_n 1 d_Model_guilty_32 rfl rfl ?_
    refine z_iload_n 3 d_Model_guilty_33 rfl rfl ?_
    obtain ⟨⟨v2, s3⟩, e4, h⟩ := zbd_i h
    refine w_callV (As := [.int x1, .int x3]) (kc := 22) (ci := 12) (c_Model_isSpoiledBehind l θ e4) cf_Model_isSpoiledBehind q_1181 d_Model_guilty_34 zl_129 rfl rfl rfl rfl rfl rfl (Nat.le_of_ble_eq_true rfl) rfl rfl ⟨Nat.le_of_ble_eq_true rfl, Nat.le_of_ble_eq_true rfl⟩ ?_
    refine z_if_eq (tgt := 44) d_Model_guilty_37 (by decide) (fun c5 => ?_) (fun c5 => ?_)
    · have h := (if_pos c5).symm.trans h
      refine z_iconst (v := 1) d_Model_guilty_44 (by decide) ?_
      refine z_iload_n 3 d_Model_guilty_45 rfl rfl ?_
      refine z_ishl d_Model_guilty_46 ?_
      refine z_sub [0, 1, 3] rfl ?_
      exact zb_Model_guilty_47 hk25 h
    · have h := (if_neg c5).symm.trans h
      refine z_iconst (v := 0) d_Model_guilty_40 (by decide) ?_
      refine z_goto (tgt := 47) d_Model_guilty_41 (by decide) ?_
      refine z_sub [0, 1, 3] rfl ?_
      exact zb_Model_guilty_47 hk25 h
theorem zl_Model_guilty_25 {l : Launch} {θ : ZT} {res : Int32 × ZM} : ∀ (N : Nat) (a : Int32 × Int32 × Int32 × ZM), F_Model_guilty_25 N a = some res → WZ l b_Model_guilty 4 (some .int) "BakedBeforeModel" 129 14 θ (zrm 40 952) (zQ mkI 129 14 θ res) a.2.2.2 [(0, .ref (za θ 129)), (1, .int a.1), (2, .int a.2.1), (3, .int a.2.2.1)] 25 [] := by
  intro N
  induction N with
  | zero => intro a  h; cases (show (none : Option (Int32 × ZM)) = some res from h)
  | succ N ih => intro a  h; exact zb_Model_guilty_25 ih (show f_Model_guilty_25 (F_Model_guilty_25 N) a.1 a.2.1 a.2.2.1 a.2.2.2 = some res from h)
theorem c_Model_guilty (l : Launch) (θ : ZT) {x1 : Int32} {σ : ZM} {res : Int32 × ZM} (h : f_Model_guilty x1 σ = some res) : zMet mkI l 129 14 θ y_Model_guilty b_Model_guilty 4 (some .int) (zrm 40 952) [.ref (za θ 129), .int x1] σ res := by
  unfold f_Model_guilty at h
  refine z_met (lv := [(0, .ref (za θ 129)), (1, .int x1)]) (by decide +kernel) rfl (Nat.le_of_ble_eq_true rfl) (by decide) ?_
  refine z_aload_n 0 d_Model_guilty_0 rfl rfl ?_
  refine z_iload_n 1 d_Model_guilty_1 rfl rfl ?_
  obtain ⟨⟨v1, s2⟩, e3, h⟩ := zbd_i h
  refine w_callV (As := [.int x1]) (kc := 22) (ci := 12) (c_Model_isLoaf l θ e3) cf_Model_isLoaf q_1053 d_Model_guilty_2 zl_129 rfl rfl rfl rfl rfl rfl (Nat.le_of_ble_eq_true rfl) rfl rfl ⟨Nat.le_of_ble_eq_true rfl, Nat.le_of_ble_eq_true rfl⟩ ?_
  refine z_if_ne (tgt := 10) d_Model_guilty_5 (by decide) (fun c4 => ?_) (fun c4 => ?_)
  · have h := (if_neg c4).symm.trans h
    refine z_aload_n 0 d_Model_guilty_10 rfl rfl ?_
    refine z_iload_n 1 d_Model_guilty_11 rfl rfl ?_
    refine z_iconst (v := -1) d_Model_guilty_12 (by decide) ?_
    obtain ⟨⟨v5, s6⟩, e7, h⟩ := zbd_i h
    refine w_callV (As := [.int x1, .int (-1 : Int32)]) (kc := 22) (ci := 12) (c_Model_isSpoiledBehind l θ e7) cf_Model_isSpoiledBehind q_1181 d_Model_guilty_13 zl_129 rfl rfl rfl rfl rfl rfl (Nat.le_of_ble_eq_true rfl) rfl rfl ⟨Nat.le_of_ble_eq_true rfl, Nat.le_of_ble_eq_true rfl⟩ ?_
    refine z_if_ne (tgt := 21) d_Model_guilty_16 (by decide) (fun c8 => ?_) (fun c8 => ?_)
    · have h := (if_neg c8).symm.trans h
      refine z_iconst (v := 0) d_Model_guilty_21 (by decide) ?_
      refine z_istore_n d_Model_guilty_22 rfl (by decide) rfl ?_
      refine z_iconst (v := 0) d_Model_guilty_23 (by decide) ?_
      refine z_istore_n d_Model_guilty_24 rfl (by decide) rfl ?_
      refine z_sub [2, 3, 1, 0] rfl ?_
      exact zl_Model_guilty_25 2000 (x1, (0 : Int32), (0 : Int32), s6) h
    · have h := (if_pos c8).symm.trans h
      refine z_iconst (v := 0) d_Model_guilty_19 (by decide) ?_
      exact z_iret d_Model_guilty_20 h
  · have h := (if_pos c4).symm.trans h
    refine z_iconst (v := -1) d_Model_guilty_8 (by decide) ?_
    exact z_iret d_Model_guilty_9 h
theorem d_Model_spoiledIn_0 : decode b_Model_spoiledIn 0 = .ok (.iconst (0), 1) := by decide +kernel
theorem d_Model_spoiledIn_1 : decode b_Model_spoiledIn 1 = .ok (.istore_n 2, 1) := by decide +kernel
theorem d_Model_spoiledIn_2 : decode b_Model_spoiledIn 2 = .ok (.iconst (0), 1) := by decide +kernel
theorem d_Model_spoiledIn_3 : decode b_Model_spoiledIn 3 = .ok (.istore_n 3, 1) := by decide +kernel
theorem d_Model_spoiledIn_4 : decode b_Model_spoiledIn 4 = .ok (.iload_n 3, 1) := by decide +kernel
theorem d_Model_spoiledIn_5 : decode b_Model_spoiledIn 5 = .ok (.aload_n 0, 1) := by decide +kernel
theorem d_Model_spoiledIn_6 : decode b_Model_spoiledIn 6 = .ok (.getfield 11, 3) := by decide +kernel
theorem d_Model_spoiledIn_9 : decode b_Model_spoiledIn 9 = .ok (.iconst (5), 1) := by decide +kernel
theorem d_Model_spoiledIn_10 : decode b_Model_spoiledIn 10 = .ok (.iaload, 1) := by decide +kernel
theorem d_Model_spoiledIn_11 : decode b_Model_spoiledIn 11 = .ok (.if_icmp .ge (30), 3) := by decide +kernel
theorem d_Model_spoiledIn_14 : decode b_Model_spoiledIn 14 = .ok (.iload_n 1, 1) := by decide +kernel
theorem d_Model_spoiledIn_15 : decode b_Model_spoiledIn 15 = .ok (.iload_n 3, 1) := by decide +kernel
theorem d_Model_spoiledIn_16 : decode b_Model_spoiledIn 16 = .ok (.ishr, 1) := by decide +kernel
theorem d_Model_spoiledIn_17 : decode b_Model_spoiledIn 17 = .ok (.iconst (1), 1) := by decide +kernel
theorem d_Model_spoiledIn_18 : decode b_Model_spoiledIn 18 = .ok (.iand, 1) := by decide +kernel
theorem d_Model_spoiledIn_19 : decode b_Model_spoiledIn 19 = .ok (.ifCond .ne (6), 3) := by decide +kernel
theorem d_Model_spoiledIn_22 : decode b_Model_spoiledIn 22 = .ok (.goto (13), 3) := by decide +kernel
theorem d_Model_spoiledIn_25 : decode b_Model_spoiledIn 25 = .ok (.aload_n 0, 1) := by decide +kernel
theorem d_Model_spoiledIn_26 : decode b_Model_spoiledIn 26 = .ok (.getfield 33, 3) := by decide +kernel
theorem d_Model_spoiledIn_29 : decode b_Model_spoiledIn 29 = .ok (.iload_n 2, 1) := by decide +kernel
theorem d_Model_spoiledIn_30 : decode b_Model_spoiledIn 30 = .ok (.iload_n 3, 1) := by decide +kernel
theorem d_Model_spoiledIn_31 : decode b_Model_spoiledIn 31 = .ok (.iastore, 1) := by decide +kernel
theorem d_Model_spoiledIn_32 : decode b_Model_spoiledIn 32 = .ok (.iinc 2 (1), 3) := by decide +kernel
theorem d_Model_spoiledIn_35 : decode b_Model_spoiledIn 35 = .ok (.iinc 3 (1), 3) := by decide +kernel
theorem d_Model_spoiledIn_38 : decode b_Model_spoiledIn 38 = .ok (.goto (-34), 3) := by decide +kernel
theorem d_Model_spoiledIn_41 : decode b_Model_spoiledIn 41 = .ok (.aload_n 0, 1) := by decide +kernel
theorem d_Model_spoiledIn_42 : decode b_Model_spoiledIn 42 = .ok (.iload_n 2, 1) := by decide +kernel
theorem d_Model_spoiledIn_43 : decode b_Model_spoiledIn 43 = .ok (.invokevirtual 220, 3) := by decide +kernel
theorem d_Model_spoiledIn_46 : decode b_Model_spoiledIn 46 = .ok (.ireturn, 1) := by decide +kernel
theorem zb_Model_spoiledIn_35 {l : Launch} {θ : ZT} {res : Int32 × ZM} {k4 : Int32 × Int32 × Int32 × ZM → Option (Int32 × ZM)} (hk4 : ∀ a : Int32 × Int32 × Int32 × ZM, k4 a = some res → WZ l b_Model_spoiledIn 4 (some .int) "BakedBeforeModel" 129 14 θ (zrm 40 951) (zQ mkI 129 14 θ res) a.2.2.2 [(0, .ref (za θ 129)), (1, .int a.1), (2, .int a.2.1), (3, .int a.2.2.1)] 4 []) {x1 : Int32} {x2 : Int32} {x3 : Int32} {σ : ZM} (h : f_Model_spoiledIn_35 k4 x1 x2 x3 σ = some res) : WZ l b_Model_spoiledIn 4 (some .int) "BakedBeforeModel" 129 14 θ (zrm 40 951) (zQ mkI 129 14 θ res) σ [(0, .ref (za θ 129)), (1, .int x1), (2, .int x2), (3, .int x3)] 35 [] := by
  unfold f_Model_spoiledIn_35 at h
  refine z_iinc (v := x3 + (1 : Int32)) 3 d_Model_spoiledIn_35 rfl rfl (by decide) rfl ?_
  refine z_goto (tgt := 4) d_Model_spoiledIn_38 (by decide) ?_
  refine z_sub [1, 2, 3, 0] rfl ?_
  exact hk4 (x1, x2, (x3 + (1 : Int32)), σ) h
theorem zb_Model_spoiledIn_4 {l : Launch} {θ : ZT} {res : Int32 × ZM} {k4 : Int32 × Int32 × Int32 × ZM → Option (Int32 × ZM)} (hk4 : ∀ a : Int32 × Int32 × Int32 × ZM, k4 a = some res → WZ l b_Model_spoiledIn 4 (some .int) "BakedBeforeModel" 129 14 θ (zrm 40 951) (zQ mkI 129 14 θ res) a.2.2.2 [(0, .ref (za θ 129)), (1, .int a.1), (2, .int a.2.1), (3, .int a.2.2.1)] 4 []) {x1 : Int32} {x2 : Int32} {x3 : Int32} {σ : ZM} (h : f_Model_spoiledIn_4 k4 x1 x2 x3 σ = some res) : WZ l b_Model_spoiledIn 4 (some .int) "BakedBeforeModel" 129 14 θ (zrm 40 951) (zQ mkI 129 14 θ res) σ [(0, .ref (za θ 129)), (1, .int x1), (2, .int x2), (3, .int x3)] 4 [] := by
  unfold f_Model_spoiledIn_4 at h
  refine z_iload_n 3 d_Model_spoiledIn_4 rfl rfl ?_
  refine z_aload_n 0 d_Model_spoiledIn_5 rfl rfl ?_
  refine gf_Model_s zl_129 d_Model_spoiledIn_6 q_871 ?_
  refine z_iconst (v := 5) d_Model_spoiledIn_9 (by decide) ?_
  obtain ⟨c1, h⟩ := zck_i h
  refine w_iald zl_130 c1 d_Model_spoiledIn_10 ?_
  refine z_icmp_ge (tgt := 41) d_Model_spoiledIn_11 (by decide) (fun c2 => ?_) (fun c2 => ?_)
  · have h := (if_pos c2).symm.trans h
    refine z_aload_n 0 d_Model_spoiledIn_41 rfl rfl ?_
    refine z_iload_n 2 d_Model_spoiledIn_42 rfl rfl ?_
    obtain ⟨⟨v3, s4⟩, e5, h⟩ := zbd_i h
    refine w_callV (As := [.int x2]) (kc := 22) (ci := 12) (c_Model_spoiledBy l θ e5) cf_Model_spoiledBy q_1150 d_Model_spoiledIn_43 zl_129 rfl rfl rfl rfl rfl rfl (Nat.le_of_ble_eq_true rfl) rfl rfl ⟨Nat.le_of_ble_eq_true rfl, Nat.le_of_ble_eq_true rfl⟩ ?_
    exact z_iret d_Model_spoiledIn_46 h
  · have h := (if_neg c2).symm.trans h
    refine z_iload_n 1 d_Model_spoiledIn_14 rfl rfl ?_
    refine z_iload_n 3 d_Model_spoiledIn_15 rfl rfl ?_
    refine z_ishr d_Model_spoiledIn_16 ?_
    refine z_iconst (v := 1) d_Model_spoiledIn_17 (by decide) ?_
    refine z_iand d_Model_spoiledIn_18 ?_
    refine z_if_ne (tgt := 25) d_Model_spoiledIn_19 (by decide) (fun c6 => ?_) (fun c6 => ?_)
    · have h := (if_neg c6).symm.trans h
      refine z_aload_n 0 d_Model_spoiledIn_25 rfl rfl ?_
      refine gf_Model_line zl_129 d_Model_spoiledIn_26 q_893 ?_
      refine z_iload_n 2 d_Model_spoiledIn_29 rfl rfl ?_
      refine z_iload_n 3 d_Model_spoiledIn_30 rfl rfl ?_
      obtain ⟨c7, h⟩ := zck_i h
      refine w_iast zl_137 c7 d_Model_spoiledIn_31 ?_
      refine z_iinc (v := x2 + (1 : Int32)) 2 d_Model_spoiledIn_32 rfl rfl (by decide) rfl ?_
      refine z_sub [1, 2, 0, 3] rfl ?_
      exact zb_Model_spoiledIn_35 hk4 h
    · have h := (if_pos c6).symm.trans h
      refine z_goto (tgt := 35) d_Model_spoiledIn_22 (by decide) ?_
      exact zb_Model_spoiledIn_35 hk4 h
theorem zl_Model_spoiledIn_4 {l : Launch} {θ : ZT} {res : Int32 × ZM} : ∀ (N : Nat) (a : Int32 × Int32 × Int32 × ZM), F_Model_spoiledIn_4 N a = some res → WZ l b_Model_spoiledIn 4 (some .int) "BakedBeforeModel" 129 14 θ (zrm 40 951) (zQ mkI 129 14 θ res) a.2.2.2 [(0, .ref (za θ 129)), (1, .int a.1), (2, .int a.2.1), (3, .int a.2.2.1)] 4 [] := by
  intro N
  induction N with
  | zero => intro a  h; cases (show (none : Option (Int32 × ZM)) = some res from h)
  | succ N ih => intro a  h; exact zb_Model_spoiledIn_4 ih (show f_Model_spoiledIn_4 (F_Model_spoiledIn_4 N) a.1 a.2.1 a.2.2.1 a.2.2.2 = some res from h)
theorem c_Model_spoiledIn (l : Launch) (θ : ZT) {x1 : Int32} {σ : ZM} {res : Int32 × ZM} (h : f_Model_spoiledIn x1 σ = some res) : zMet mkI l 129 14 θ y_Model_spoiledIn b_Model_spoiledIn 4 (some .int) (zrm 40 951) [.ref (za θ 129), .int x1] σ res := by
  unfold f_Model_spoiledIn at h
  refine z_met (lv := [(0, .ref (za θ 129)), (1, .int x1)]) (by decide +kernel) rfl (Nat.le_of_ble_eq_true rfl) (by decide) ?_
  refine z_iconst (v := 0) d_Model_spoiledIn_0 (by decide) ?_
  refine z_istore_n d_Model_spoiledIn_1 rfl (by decide) rfl ?_
  refine z_iconst (v := 0) d_Model_spoiledIn_2 (by decide) ?_
  refine z_istore_n d_Model_spoiledIn_3 rfl (by decide) rfl ?_
  refine z_sub [2, 3, 1, 0] rfl ?_
  exact zl_Model_spoiledIn_4 2000 (x1, (0 : Int32), (0 : Int32), σ) h
