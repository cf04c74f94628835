/-! walks: Loaf_begin BB_loaf BB_isLoaf BB_isTaste BB_set Kiln_lookAt Kiln_holds Kiln_sum Baker_feeOf Baker_partOf Baker_amount Baker_takes Baker_spoils BB_flag Baker_leaves BB_ofTaste BB_of BB_oven Reader_append BB_feed Kiln_empty Reader_here Reader_wordFrom Reader_spelling Reader_skip Reader_readWord Reader_isDigit Reader_readNumber Kiln_begin Reader_letterOf Kiln_append Reader_readTest -/
theorem d_Loaf_begin_0 : decode b_Loaf_begin 0 = .ok (.aload_n 0, 1) := by decide +kernel
theorem d_Loaf_begin_1 : decode b_Loaf_begin 1 = .ok (.iload_n 1, 1) := by decide +kernel
theorem d_Loaf_begin_2 : decode b_Loaf_begin 2 = .ok (.putfield 22, 3) := by decide +kernel
theorem d_Loaf_begin_5 : decode b_Loaf_begin 5 = .ok (.aload_n 0, 1) := by decide +kernel
theorem d_Loaf_begin_6 : decode b_Loaf_begin 6 = .ok (.iload_n 2, 1) := by decide +kernel
theorem d_Loaf_begin_7 : decode b_Loaf_begin 7 = .ok (.putfield 25, 3) := by decide +kernel
theorem d_Loaf_begin_10 : decode b_Loaf_begin 10 = .ok (.iconst (0), 1) := by decide +kernel
theorem d_Loaf_begin_11 : decode b_Loaf_begin 11 = .ok (.istore_n 3, 1) := by decide +kernel
theorem d_Loaf_begin_12 : decode b_Loaf_begin 12 = .ok (.iload_n 3, 1) := by decide +kernel
theorem d_Loaf_begin_13 : decode b_Loaf_begin 13 = .ok (.iconst (4), 1) := by decide +kernel
theorem d_Loaf_begin_14 : decode b_Loaf_begin 14 = .ok (.if_icmp .ge (24), 3) := by decide +kernel
theorem d_Loaf_begin_17 : decode b_Loaf_begin 17 = .ok (.aload_n 0, 1) := by decide +kernel
theorem d_Loaf_begin_18 : decode b_Loaf_begin 18 = .ok (.getfield 9, 3) := by decide +kernel
theorem d_Loaf_begin_21 : decode b_Loaf_begin 21 = .ok (.iload_n 3, 1) := by decide +kernel
theorem d_Loaf_begin_22 : decode b_Loaf_begin 22 = .ok (.iconst (0), 1) := by decide +kernel
theorem d_Loaf_begin_23 : decode b_Loaf_begin 23 = .ok (.iastore, 1) := by decide +kernel
theorem d_Loaf_begin_24 : decode b_Loaf_begin 24 = .ok (.aload_n 0, 1) := by decide +kernel
theorem d_Loaf_begin_25 : decode b_Loaf_begin 25 = .ok (.getfield 15, 3) := by decide +kernel
theorem d_Loaf_begin_28 : decode b_Loaf_begin 28 = .ok (.iload_n 3, 1) := by decide +kernel
theorem d_Loaf_begin_29 : decode b_Loaf_begin 29 = .ok (.bipush (9), 2) := by decide +kernel
theorem d_Loaf_begin_31 : decode b_Loaf_begin 31 = .ok (.iastore, 1) := by decide +kernel
theorem d_Loaf_begin_32 : decode b_Loaf_begin 32 = .ok (.iinc 3 (1), 3) := by decide +kernel
theorem d_Loaf_begin_35 : decode b_Loaf_begin 35 = .ok (.goto (-23), 3) := by decide +kernel
theorem d_Loaf_begin_38 : decode b_Loaf_begin 38 = .ok (.return_, 1) := by decide +kernel
theorem zb_Loaf_begin_12 {l : Launch} {θ : ZT} {res : Unit × ZM} {k12 : Nat × Int32 × ZM → Option (Unit × ZM)} (hk12 : ∀ a : Nat × Int32 × ZM, zR 0 129 a.1 16 0 = true → k12 a = some res → WZ l b_Loaf_begin 4 none "BakedBefore$Loaf" 0 129 θ (zrm 1 60) (zQ mkV 0 129 θ res) a.2.2 [(0, .ref (za θ a.1)), (3, .int a.2.1)] 12 []) {x0 : Nat} {x3 : Int32} {σ : ZM} (hx0 : zR 0 129 x0 16 0 = true) (h : f_Loaf_begin_12 k12 x0 x3 σ = some res) : WZ l b_Loaf_begin 4 none "BakedBefore$Loaf" 0 129 θ (zrm 1 60) (zQ mkV 0 129 θ res) σ [(0, .ref (za θ x0)), (3, .int x3)] 12 [] := by
  unfold f_Loaf_begin_12 at h
  refine z_iload_n 1 d_Loaf_begin_12 rfl rfl ?_
  refine z_iconst (v := 4) d_Loaf_begin_13 (by decide) ?_
  refine z_icmp_ge (tgt := 38) d_Loaf_begin_14 (by decide) (fun c1 => ?_) (fun c1 => ?_)
  · have h := (if_pos c1).symm.trans h
    exact z_vret d_Loaf_begin_38 h
  · have h := (if_neg c1).symm.trans h
    refine z_aload_n 0 d_Loaf_begin_17 rfl rfl ?_
    refine gf_Loaf_gives (o2 := x0 + 12) hx0 rfl d_Loaf_begin_18 q_87 ?_
    refine z_iload_n 1 d_Loaf_begin_21 rfl rfl ?_
    refine z_iconst (v := 0) d_Loaf_begin_22 (by decide) ?_
    obtain ⟨c2, h⟩ := zck_i h
    refine w_iast (zr_Loaf_gives hx0) c2 d_Loaf_begin_23 ?_
    refine z_aload_n 0 d_Loaf_begin_24 rfl rfl ?_
    refine gf_Loaf_bears (o2 := x0 + 24) hx0 rfl d_Loaf_begin_25 q_90 ?_
    refine z_iload_n 1 d_Loaf_begin_28 rfl rfl ?_
    refine z_bipush (v := 9) d_Loaf_begin_29 (by decide) ?_
    obtain ⟨c3, h⟩ := zck_i h
    refine w_iast (zr_Loaf_bears hx0) c3 d_Loaf_begin_31 ?_
    refine z_iinc (v := x3 + (1 : Int32)) 1 d_Loaf_begin_32 rfl rfl (by decide) rfl ?_
    refine z_goto (tgt := 12) d_Loaf_begin_35 (by decide) ?_
    refine z_sub [1, 0] rfl ?_
    exact hk12 (x0, (x3 + (1 : Int32)), (zsI (zsI σ (x0 + 12) x3.toNatClampNeg (0 : Int32)) (x0 + 24) x3.toNatClampNeg (9 : Int32))) hx0 h
theorem zl_Loaf_begin_12 {l : Launch} {θ : ZT} {res : Unit × ZM} : ∀ (N : Nat) (a : Nat × Int32 × ZM), zR 0 129 a.1 16 0 = true → F_Loaf_begin_12 N a = some res → WZ l b_Loaf_begin 4 none "BakedBefore$Loaf" 0 129 θ (zrm 1 60) (zQ mkV 0 129 θ res) a.2.2 [(0, .ref (za θ a.1)), (3, .int a.2.1)] 12 [] := by
  intro N
  induction N with
  | zero => intro a hx0 h; cases (show (none : Option (Unit × ZM)) = some res from h)
  | succ N ih => intro a hx0 h; exact zb_Loaf_begin_12 ih hx0 (show f_Loaf_begin_12 (F_Loaf_begin_12 N) a.1 a.2.1 a.2.2 = some res from h)
theorem c_Loaf_begin (l : Launch) (θ : ZT) {x0 : Nat} {x1 : Int32} {x2 : Int32} {σ : ZM} {res : Unit × ZM} (h : f_Loaf_begin x0 x1 x2 σ = some res) : zMet mkV l 0 129 θ y_Loaf_begin b_Loaf_begin 4 none (zrm 1 60) [.ref (za θ x0), .int x1, .int x2] σ res := by
  unfold f_Loaf_begin at h
  obtain ⟨hx0, h⟩ := zck_i h
  refine z_met (lv := [(0, .ref (za θ x0)), (1, .int x1), (2, .int x2)]) (by decide +kernel) rfl (Nat.le_of_ble_eq_true rfl) (by decide) ?_
  refine z_aload_n 0 d_Loaf_begin_0 rfl rfl ?_
  refine z_iload_n 1 d_Loaf_begin_1 rfl rfl ?_
  refine pf_Loaf_kind hx0 d_Loaf_begin_2 q_93 ?_
  refine z_aload_n 0 d_Loaf_begin_5 rfl rfl ?_
  refine z_iload_n 2 d_Loaf_begin_6 rfl rfl ?_
  refine pf_Loaf_v hx0 d_Loaf_begin_7 q_98 ?_
  refine z_iconst (v := 0) d_Loaf_begin_10 (by decide) ?_
  refine z_istore_n d_Loaf_begin_11 rfl (by decide) rfl ?_
  refine z_sub [1, 0] rfl ?_
  exact zl_Loaf_begin_12 2000 (x0, (0 : Int32), (zsI (zsI σ x0 3 x1) x0 4 x2)) hx0 h
theorem d_BB_loaf_0 : decode b_BB_loaf 0 = .ok (.iload_n 1, 1) := by decide +kernel
theorem d_BB_loaf_1 : decode b_BB_loaf 1 = .ok (.ifCond .lt (9), 3) := by decide +kernel
theorem d_BB_loaf_4 : decode b_BB_loaf 4 = .ok (.iload_n 1, 1) := by decide +kernel
theorem d_BB_loaf_5 : decode b_BB_loaf 5 = .ok (.bipush (6), 2) := by decide +kernel
theorem d_BB_loaf_7 : decode b_BB_loaf 7 = .ok (.if_icmp .le (5), 3) := by decide +kernel
theorem d_BB_loaf_10 : decode b_BB_loaf 10 = .ok (.iconst (-1), 1) := by decide +kernel
theorem d_BB_loaf_11 : decode b_BB_loaf 11 = .ok (.ireturn, 1) := by decide +kernel
theorem d_BB_loaf_12 : decode b_BB_loaf 12 = .ok (.iload_n 2, 1) := by decide +kernel
theorem d_BB_loaf_13 : decode b_BB_loaf 13 = .ok (.ifCond .lt (9), 3) := by decide +kernel
theorem d_BB_loaf_16 : decode b_BB_loaf 16 = .ok (.iload_n 2, 1) := by decide +kernel
theorem d_BB_loaf_17 : decode b_BB_loaf 17 = .ok (.bipush (9), 2) := by decide +kernel
theorem d_BB_loaf_19 : decode b_BB_loaf 19 = .ok (.if_icmp .le (6), 3) := by decide +kernel
theorem d_BB_loaf_22 : decode b_BB_loaf 22 = .ok (.bipush (-2), 2) := by decide +kernel
theorem d_BB_loaf_24 : decode b_BB_loaf 24 = .ok (.ireturn, 1) := by decide +kernel
theorem d_BB_loaf_25 : decode b_BB_loaf 25 = .ok (.aload_n 0, 1) := by decide +kernel
theorem d_BB_loaf_26 : decode b_BB_loaf 26 = .ok (.getfield 12, 3) := by decide +kernel
theorem d_BB_loaf_29 : decode b_BB_loaf 29 = .ok (.getfield 78, 3) := by decide +kernel
theorem d_BB_loaf_32 : decode b_BB_loaf 32 = .ok (.bipush (6), 2) := by decide +kernel
theorem d_BB_loaf_34 : decode b_BB_loaf 34 = .ok (.if_icmp .lt (6), 3) := by decide +kernel
theorem d_BB_loaf_37 : decode b_BB_loaf 37 = .ok (.bipush (-4), 2) := by decide +kernel
theorem d_BB_loaf_39 : decode b_BB_loaf 39 = .ok (.ireturn, 1) := by decide +kernel
theorem d_BB_loaf_40 : decode b_BB_loaf 40 = .ok (.aload_n 0, 1) := by decide +kernel
theorem d_BB_loaf_41 : decode b_BB_loaf 41 = .ok (.getfield 12, 3) := by decide +kernel
theorem d_BB_loaf_44 : decode b_BB_loaf 44 = .ok (.getfield 82, 3) := by decide +kernel
theorem d_BB_loaf_47 : decode b_BB_loaf 47 = .ok (.aload_n 0, 1) := by decide +kernel
theorem d_BB_loaf_48 : decode b_BB_loaf 48 = .ok (.getfield 12, 3) := by decide +kernel
theorem d_BB_loaf_51 : decode b_BB_loaf 51 = .ok (.getfield 78, 3) := by decide +kernel
theorem d_BB_loaf_54 : decode b_BB_loaf 54 = .ok (.aaload, 1) := by decide +kernel
theorem d_BB_loaf_55 : decode b_BB_loaf 55 = .ok (.iload_n 1, 1) := by decide +kernel
theorem d_BB_loaf_56 : decode b_BB_loaf 56 = .ok (.iload_n 2, 1) := by decide +kernel
theorem d_BB_loaf_57 : decode b_BB_loaf 57 = .ok (.invokevirtual 86, 3) := by decide +kernel
theorem d_BB_loaf_60 : decode b_BB_loaf 60 = .ok (.aload_n 0, 1) := by decide +kernel
theorem d_BB_loaf_61 : decode b_BB_loaf 61 = .ok (.getfield 12, 3) := by decide +kernel
theorem d_BB_loaf_64 : decode b_BB_loaf 64 = .ok (.dup, 1) := by decide +kernel
theorem d_BB_loaf_65 : decode b_BB_loaf 65 = .ok (.getfield 78, 3) := by decide +kernel
theorem d_BB_loaf_68 : decode b_BB_loaf 68 = .ok (.iconst (1), 1) := by decide +kernel
theorem d_BB_loaf_69 : decode b_BB_loaf 69 = .ok (.iadd, 1) := by decide +kernel
theorem d_BB_loaf_70 : decode b_BB_loaf 70 = .ok (.putfield 78, 3) := by decide +kernel
theorem d_BB_loaf_73 : decode b_BB_loaf 73 = .ok (.aload_n 0, 1) := by decide +kernel
theorem d_BB_loaf_74 : decode b_BB_loaf 74 = .ok (.getfield 12, 3) := by decide +kernel
theorem d_BB_loaf_77 : decode b_BB_loaf 77 = .ok (.getfield 78, 3) := by decide +kernel
theorem d_BB_loaf_80 : decode b_BB_loaf 80 = .ok (.iconst (1), 1) := by decide +kernel
theorem d_BB_loaf_81 : decode b_BB_loaf 81 = .ok (.isub, 1) := by decide +kernel
theorem d_BB_loaf_82 : decode b_BB_loaf 82 = .ok (.ireturn, 1) := by decide +kernel
theorem c_BB_loaf (l : Launch) (θ : ZT) {x1 : Int32} {x2 : Int32} {σ : ZM} {res : Int32 × ZM} (h : f_BB_loaf x1 x2 σ = some res) : zMet mkI l 0 129 θ y_BB_loaf b_BB_loaf 3 (some .int) (zrm 2 83) [.ref (za θ 0), .int x1, .int x2] σ res := by
  unfold f_BB_loaf at h
  refine z_met (lv := [(0, .ref (za θ 0)), (1, .int x1), (2, .int x2)]) (by decide +kernel) rfl (Nat.le_of_ble_eq_true rfl) (by decide) ?_
  refine z_iload_n 1 d_BB_loaf_0 rfl rfl ?_
  refine z_if_lt (tgt := 10) d_BB_loaf_1 (by decide) (fun c1 => ?_) (fun c1 => ?_)
  · have h := (if_pos c1).symm.trans h
    refine z_iconst (v := -1) d_BB_loaf_10 (by decide) ?_
    exact z_iret d_BB_loaf_11 h
  · have h := (if_neg c1).symm.trans h
    refine z_iload_n 1 d_BB_loaf_4 rfl rfl ?_
    refine z_bipush (v := 6) d_BB_loaf_5 (by decide) ?_
    refine z_icmp_le (tgt := 12) d_BB_loaf_7 (by decide) (fun c2 => ?_) (fun c2 => ?_)
    · have h := (if_pos c2).symm.trans h
      refine z_iload_n 2 d_BB_loaf_12 rfl rfl ?_
      refine z_if_lt (tgt := 22) d_BB_loaf_13 (by decide) (fun c3 => ?_) (fun c3 => ?_)
      · have h := (if_pos c3).symm.trans h
        refine z_bipush (v := -2) d_BB_loaf_22 (by decide) ?_
        exact z_iret d_BB_loaf_24 h
      · have h := (if_neg c3).symm.trans h
        refine z_iload_n 2 d_BB_loaf_16 rfl rfl ?_
        refine z_bipush (v := 9) d_BB_loaf_17 (by decide) ?_
        refine z_icmp_le (tgt := 25) d_BB_loaf_19 (by decide) (fun c4 => ?_) (fun c4 => ?_)
        · have h := (if_pos c4).symm.trans h
          refine z_aload_n 0 d_BB_loaf_25 rfl rfl ?_
          refine gf_BB_now zl_0 d_BB_loaf_26 q_303 ?_
          refine gf_Stand_many zl_1 d_BB_loaf_29 q_126 ?_
          refine z_bipush (v := 6) d_BB_loaf_32 (by decide) ?_
          refine z_icmp_lt (tgt := 40) d_BB_loaf_34 (by decide) (fun c5 => ?_) (fun c5 => ?_)
          · have h := (if_pos c5).symm.trans h
            refine z_aload_n 0 d_BB_loaf_40 rfl rfl ?_
            refine gf_BB_now zl_0 d_BB_loaf_41 q_303 ?_
            refine gf_Stand_loaves (o2 := 25) zl_1 rfl d_BB_loaf_44 q_116 ?_
            refine z_aload_n 0 d_BB_loaf_47 rfl rfl ?_
            refine gf_BB_now zl_0 d_BB_loaf_48 q_303 ?_
            refine gf_Stand_many zl_1 d_BB_loaf_51 q_126 ?_
            obtain ⟨c6, h⟩ := zck_i h
            refine w_aald3 zl_25 c6 d_BB_loaf_54 ?_
            obtain ⟨c7, h⟩ := zck_i h
            refine z_iload_n 1 d_BB_loaf_55 rfl rfl ?_
            refine z_iload_n 2 d_BB_loaf_56 rfl rfl ?_
            obtain ⟨⟨v8, s9⟩, e10, h⟩ := zbd_i h
            refine w_callV (As := [.int x1, .int x2]) (kc := 16) (ci := 6) (c_Loaf_begin l θ e10) cf_Loaf_begin q_344 d_BB_loaf_57 c7 rfl rfl rfl rfl rfl rfl (Nat.le_of_ble_eq_true rfl) rfl rfl ⟨Nat.le_of_ble_eq_true rfl, Nat.le_of_ble_eq_true rfl⟩ ?_
            refine z_aload_n 0 d_BB_loaf_60 rfl rfl ?_
            refine gf_BB_now zl_0 d_BB_loaf_61 q_303 ?_
            refine z_dup d_BB_loaf_64 rfl ?_
            refine gf_Stand_many zl_1 d_BB_loaf_65 q_126 ?_
            refine z_iconst (v := 1) d_BB_loaf_68 (by decide) ?_
            refine z_iadd d_BB_loaf_69 ?_
            refine pf_Stand_many zl_1 d_BB_loaf_70 q_126 ?_
            refine z_aload_n 0 d_BB_loaf_73 rfl rfl ?_
            refine gf_BB_now zl_0 d_BB_loaf_74 q_303 ?_
            refine gf_Stand_many zl_1 d_BB_loaf_77 q_126 ?_
            refine z_iconst (v := 1) d_BB_loaf_80 (by decide) ?_
            refine z_isub d_BB_loaf_81 ?_
            exact z_iret d_BB_loaf_82 h
          · have h := (if_neg c5).symm.trans h
            refine z_bipush (v := -4) d_BB_loaf_37 (by decide) ?_
            exact z_iret d_BB_loaf_39 h
        · have h := (if_neg c4).symm.trans h
          refine z_bipush (v := -2) d_BB_loaf_22 (by decide) ?_
          exact z_iret d_BB_loaf_24 h
    · have h := (if_neg c2).symm.trans h
      refine z_iconst (v := -1) d_BB_loaf_10 (by decide) ?_
      exact z_iret d_BB_loaf_11 h
theorem d_BB_isLoaf_0 : decode b_BB_isLoaf 0 = .ok (.iload_n 1, 1) := by decide +kernel
theorem d_BB_isLoaf_1 : decode b_BB_isLoaf 1 = .ok (.ifCond .lt (18), 3) := by decide +kernel
theorem d_BB_isLoaf_4 : decode b_BB_isLoaf 4 = .ok (.iload_n 1, 1) := by decide +kernel
theorem d_BB_isLoaf_5 : decode b_BB_isLoaf 5 = .ok (.aload_n 0, 1) := by decide +kernel
theorem d_BB_isLoaf_6 : decode b_BB_isLoaf 6 = .ok (.getfield 12, 3) := by decide +kernel
theorem d_BB_isLoaf_9 : decode b_BB_isLoaf 9 = .ok (.getfield 78, 3) := by decide +kernel
theorem d_BB_isLoaf_12 : decode b_BB_isLoaf 12 = .ok (.if_icmp .ge (7), 3) := by decide +kernel
theorem d_BB_isLoaf_15 : decode b_BB_isLoaf 15 = .ok (.iconst (1), 1) := by decide +kernel
theorem d_BB_isLoaf_16 : decode b_BB_isLoaf 16 = .ok (.goto (4), 3) := by decide +kernel
theorem d_BB_isLoaf_19 : decode b_BB_isLoaf 19 = .ok (.iconst (0), 1) := by decide +kernel
theorem d_BB_isLoaf_20 : decode b_BB_isLoaf 20 = .ok (.ireturn, 1) := by decide +kernel
theorem c_BB_isLoaf (l : Launch) (θ : ZT) {x1 : Int32} {σ : ZM} {res : Int32 × ZM} (h : f_BB_isLoaf x1 σ = some res) : zMet mkI l 0 129 θ y_BB_isLoaf b_BB_isLoaf 2 (some .boolean) (zrm 1 60) [.ref (za θ 0), .int x1] σ res := by
  unfold f_BB_isLoaf at h
  refine z_met (lv := [(0, .ref (za θ 0)), (1, .int x1)]) (by decide +kernel) rfl (Nat.le_of_ble_eq_true rfl) (by decide) ?_
  refine z_iload_n 1 d_BB_isLoaf_0 rfl rfl ?_
  refine z_if_lt (tgt := 19) d_BB_isLoaf_1 (by decide) (fun c1 => ?_) (fun c1 => ?_)
  · have h := (if_pos c1).symm.trans h
    refine z_iconst (v := 0) d_BB_isLoaf_19 (by decide) ?_
    exact z_zret d_BB_isLoaf_20 (by decide) h
  · have h := (if_neg c1).symm.trans h
    refine z_iload_n 1 d_BB_isLoaf_4 rfl rfl ?_
    refine z_aload_n 0 d_BB_isLoaf_5 rfl rfl ?_
    refine gf_BB_now zl_0 d_BB_isLoaf_6 q_303 ?_
    refine gf_Stand_many zl_1 d_BB_isLoaf_9 q_126 ?_
    refine z_icmp_ge (tgt := 19) d_BB_isLoaf_12 (by decide) (fun c2 => ?_) (fun c2 => ?_)
    · have h := (if_pos c2).symm.trans h
      refine z_iconst (v := 0) d_BB_isLoaf_19 (by decide) ?_
      exact z_zret d_BB_isLoaf_20 (by decide) h
    · have h := (if_neg c2).symm.trans h
      refine z_iconst (v := 1) d_BB_isLoaf_15 (by decide) ?_
      refine z_goto (tgt := 20) d_BB_isLoaf_16 (by decide) ?_
      exact z_zret d_BB_isLoaf_20 (by decide) h
theorem d_BB_isTaste_0 : decode b_BB_isTaste 0 = .ok (.iload_n 0, 1) := by decide +kernel
theorem d_BB_isTaste_1 : decode b_BB_isTaste 1 = .ok (.ifCond .lt (12), 3) := by decide +kernel
theorem d_BB_isTaste_4 : decode b_BB_isTaste 4 = .ok (.iload_n 0, 1) := by decide +kernel
theorem d_BB_isTaste_5 : decode b_BB_isTaste 5 = .ok (.iconst (4), 1) := by decide +kernel
theorem d_BB_isTaste_6 : decode b_BB_isTaste 6 = .ok (.if_icmp .ge (7), 3) := by decide +kernel
theorem d_BB_isTaste_9 : decode b_BB_isTaste 9 = .ok (.iconst (1), 1) := by decide +kernel
theorem d_BB_isTaste_10 : decode b_BB_isTaste 10 = .ok (.goto (4), 3) := by decide +kernel
theorem d_BB_isTaste_13 : decode b_BB_isTaste 13 = .ok (.iconst (0), 1) := by decide +kernel
theorem d_BB_isTaste_14 : decode b_BB_isTaste 14 = .ok (.ireturn, 1) := by decide +kernel
theorem c_BB_isTaste (l : Launch) (θ : ZT) {x0 : Int32} {σ : ZM} {res : Int32 × ZM} (h : f_BB_isTaste x0 σ = some res) : zMet mkI l 0 129 θ y_BB_isTaste b_BB_isTaste 1 (some .boolean) (zrm 1 60) [.int x0] σ res := by
  unfold f_BB_isTaste at h
  refine z_met (lv := [(0, .int x0)]) (by decide +kernel) rfl (Nat.le_of_ble_eq_true rfl) (by decide) ?_
  refine z_iload_n 0 d_BB_isTaste_0 rfl rfl ?_
  refine z_if_lt (tgt := 13) d_BB_isTaste_1 (by decide) (fun c1 => ?_) (fun c1 => ?_)
  · have h := (if_pos c1).symm.trans h
    refine z_iconst (v := 0) d_BB_isTaste_13 (by decide) ?_
    exact z_zret d_BB_isTaste_14 (by decide) h
  · have h := (if_neg c1).symm.trans h
    refine z_iload_n 0 d_BB_isTaste_4 rfl rfl ?_
    refine z_iconst (v := 4) d_BB_isTaste_5 (by decide) ?_
    refine z_icmp_ge (tgt := 13) d_BB_isTaste_6 (by decide) (fun c2 => ?_) (fun c2 => ?_)
    · have h := (if_pos c2).symm.trans h
      refine z_iconst (v := 0) d_BB_isTaste_13 (by decide) ?_
      exact z_zret d_BB_isTaste_14 (by decide) h
    · have h := (if_neg c2).symm.trans h
      refine z_iconst (v := 1) d_BB_isTaste_9 (by decide) ?_
      refine z_goto (tgt := 14) d_BB_isTaste_10 (by decide) ?_
      exact z_zret d_BB_isTaste_14 (by decide) h
theorem d_BB_set_0 : decode b_BB_set 0 = .ok (.aload_n 0, 1) := by decide +kernel
theorem d_BB_set_1 : decode b_BB_set 1 = .ok (.iload_n 1, 1) := by decide +kernel
theorem d_BB_set_2 : decode b_BB_set 2 = .ok (.invokevirtual 92, 3) := by decide +kernel
theorem d_BB_set_5 : decode b_BB_set 5 = .ok (.ifCond .eq (19), 3) := by decide +kernel
theorem d_BB_set_8 : decode b_BB_set 8 = .ok (.iload_n 2, 1) := by decide +kernel
theorem d_BB_set_9 : decode b_BB_set 9 = .ok (.invokestatic 96, 3) := by decide +kernel
theorem d_BB_set_12 : decode b_BB_set 12 = .ok (.ifCond .eq (12), 3) := by decide +kernel
theorem d_BB_set_15 : decode b_BB_set 15 = .ok (.iload_n 3, 1) := by decide +kernel
theorem d_BB_set_16 : decode b_BB_set 16 = .ok (.ifCond .lt (8), 3) := by decide +kernel
theorem d_BB_set_19 : decode b_BB_set 19 = .ok (.iload_n 3, 1) := by decide +kernel
theorem d_BB_set_20 : decode b_BB_set 20 = .ok (.iconst (1), 1) := by decide +kernel
theorem d_BB_set_21 : decode b_BB_set 21 = .ok (.if_icmp .le (5), 3) := by decide +kernel
theorem d_BB_set_24 : decode b_BB_set 24 = .ok (.iconst (-1), 1) := by decide +kernel
theorem d_BB_set_25 : decode b_BB_set 25 = .ok (.ireturn, 1) := by decide +kernel
theorem d_BB_set_26 : decode b_BB_set 26 = .ok (.iload 4, 2) := by decide +kernel
theorem d_BB_set_28 : decode b_BB_set 28 = .ok (.ifCond .lt (10), 3) := by decide +kernel
theorem d_BB_set_31 : decode b_BB_set 31 = .ok (.iload 4, 2) := by decide +kernel
theorem d_BB_set_33 : decode b_BB_set 33 = .ok (.bipush (99), 2) := by decide +kernel
theorem d_BB_set_35 : decode b_BB_set 35 = .ok (.if_icmp .le (6), 3) := by decide +kernel
theorem d_BB_set_38 : decode b_BB_set 38 = .ok (.bipush (-2), 2) := by decide +kernel
theorem d_BB_set_40 : decode b_BB_set 40 = .ok (.ireturn, 1) := by decide +kernel
theorem d_BB_set_41 : decode b_BB_set 41 = .ok (.iload_n 3, 1) := by decide +kernel
theorem d_BB_set_42 : decode b_BB_set 42 = .ok (.ifCond .ne (18), 3) := by decide +kernel
theorem d_BB_set_45 : decode b_BB_set 45 = .ok (.aload_n 0, 1) := by decide +kernel
theorem d_BB_set_46 : decode b_BB_set 46 = .ok (.getfield 12, 3) := by decide +kernel
theorem d_BB_set_49 : decode b_BB_set 49 = .ok (.getfield 82, 3) := by decide +kernel
theorem d_BB_set_52 : decode b_BB_set 52 = .ok (.iload_n 1, 1) := by decide +kernel
theorem d_BB_set_53 : decode b_BB_set 53 = .ok (.aaload, 1) := by decide +kernel
theorem d_BB_set_54 : decode b_BB_set 54 = .ok (.getfield 99, 3) := by decide +kernel
theorem d_BB_set_57 : decode b_BB_set 57 = .ok (.goto (15), 3) := by decide +kernel
theorem d_BB_set_60 : decode b_BB_set 60 = .ok (.aload_n 0, 1) := by decide +kernel
theorem d_BB_set_61 : decode b_BB_set 61 = .ok (.getfield 12, 3) := by decide +kernel
theorem d_BB_set_64 : decode b_BB_set 64 = .ok (.getfield 82, 3) := by decide +kernel
theorem d_BB_set_67 : decode b_BB_set 67 = .ok (.iload_n 1, 1) := by decide +kernel
theorem d_BB_set_68 : decode b_BB_set 68 = .ok (.aaload, 1) := by decide +kernel
theorem d_BB_set_69 : decode b_BB_set 69 = .ok (.getfield 103, 3) := by decide +kernel
theorem d_BB_set_72 : decode b_BB_set 72 = .ok (.astore 5, 2) := by decide +kernel
theorem d_BB_set_74 : decode b_BB_set 74 = .ok (.aload 5, 2) := by decide +kernel
theorem d_BB_set_76 : decode b_BB_set 76 = .ok (.iload_n 2, 1) := by decide +kernel
theorem d_BB_set_77 : decode b_BB_set 77 = .ok (.iaload, 1) := by decide +kernel
theorem d_BB_set_78 : decode b_BB_set 78 = .ok (.istore 6, 2) := by decide +kernel
theorem d_BB_set_80 : decode b_BB_set 80 = .ok (.aload 5, 2) := by decide +kernel
theorem d_BB_set_82 : decode b_BB_set 82 = .ok (.iload_n 2, 1) := by decide +kernel
theorem d_BB_set_83 : decode b_BB_set 83 = .ok (.iload 4, 2) := by decide +kernel
theorem d_BB_set_85 : decode b_BB_set 85 = .ok (.iastore, 1) := by decide +kernel
theorem d_BB_set_86 : decode b_BB_set 86 = .ok (.iload 6, 2) := by decide +kernel
theorem d_BB_set_88 : decode b_BB_set 88 = .ok (.ireturn, 1) := by decide +kernel
theorem zb_BB_set_72 {l : Launch} {θ : ZT} {res : Int32 × ZM} {x2 : Int32} {x4 : Int32} {y0 : Nat} {σ : ZM} (hy0 : zR 0 129 y0 0 4 = true) (h : f_BB_set_72 x2 x4 y0 σ = some res) : WZ l b_BB_set 7 (some .int) "BakedBefore" 0 129 θ (zrm 2 81) (zQ mkI 0 129 θ res) σ [(2, .int x2), (4, .int x4)] 72 [.ref (za θ y0)] := by
  unfold f_BB_set_72 at h
  refine z_astore d_BB_set_72 (by decide) rfl ?_
  refine z_aload 0 d_BB_set_74 rfl ?_
  refine z_iload_n 1 d_BB_set_76 rfl rfl ?_
  obtain ⟨c1, h⟩ := zck_i h
  refine w_iald hy0 c1 d_BB_set_77 ?_
  refine z_istore d_BB_set_78 (by decide) rfl ?_
  refine z_aload 1 d_BB_set_80 rfl ?_
  refine z_iload_n 2 d_BB_set_82 rfl rfl ?_
  refine z_iload 3 d_BB_set_83 rfl ?_
  obtain ⟨c2, h⟩ := zck_i h
  refine w_iast hy0 c2 d_BB_set_85 ?_
  refine z_iload 0 d_BB_set_86 rfl ?_
  exact z_iret d_BB_set_88 h
theorem c_BB_set (l : Launch) (θ : ZT) {x1 : Int32} {x2 : Int32} {x3 : Int32} {x4 : Int32} {σ : ZM} {res : Int32 × ZM} (h : f_BB_set x1 x2 x3 x4 σ = some res) : zMet mkI l 0 129 θ y_BB_set b_BB_set 7 (some .int) (zrm 2 81) [.ref (za θ 0), .int x1, .int x2, .int x3, .int x4] σ res := by
  unfold f_BB_set at h
  refine z_met (lv := [(0, .ref (za θ 0)), (1, .int x1), (2, .int x2), (3, .int x3), (4, .int x4)]) (by decide +kernel) rfl (Nat.le_of_ble_eq_true rfl) (by decide) ?_
  refine z_aload_n 0 d_BB_set_0 rfl rfl ?_
  refine z_iload_n 1 d_BB_set_1 rfl rfl ?_
  obtain ⟨⟨v1, s2⟩, e3, h⟩ := zbd_i h
  refine w_callV (As := [.int x1]) (kc := 10) (ci := 0) (c_BB_isLoaf l θ e3) cf_BB_isLoaf q_352 d_BB_set_2 zl_0 rfl rfl rfl rfl rfl rfl (Nat.le_of_ble_eq_true rfl) rfl rfl ⟨Nat.le_of_ble_eq_true rfl, Nat.le_of_ble_eq_true rfl⟩ ?_
  refine z_if_eq (tgt := 24) d_BB_set_5 (by decide) (fun c4 => ?_) (fun c4 => ?_)
  · have h := (if_pos c4).symm.trans h
    refine z_iconst (v := -1) d_BB_set_24 (by decide) ?_
    exact z_iret d_BB_set_25 h
  · have h := (if_neg c4).symm.trans h
    refine z_iload_n 2 d_BB_set_8 rfl rfl ?_
    obtain ⟨⟨v5, s6⟩, e7, h⟩ := zbd_i h
    refine w_callS (As := [.int x2]) (c_BB_isTaste l θ e7) cf_BB_isTaste q_356 d_BB_set_9 rfl rfl rfl (Nat.le_of_ble_eq_true rfl) rfl rfl ⟨Nat.le_of_ble_eq_true rfl, Nat.le_of_ble_eq_true rfl⟩ ?_
    refine z_if_eq (tgt := 24) d_BB_set_12 (by decide) (fun c8 => ?_) (fun c8 => ?_)
    · have h := (if_pos c8).symm.trans h
      refine z_iconst (v := -1) d_BB_set_24 (by decide) ?_
      exact z_iret d_BB_set_25 h
    · have h := (if_neg c8).symm.trans h
      refine z_iload_n 3 d_BB_set_15 rfl rfl ?_
      refine z_if_lt (tgt := 24) d_BB_set_16 (by decide) (fun c9 => ?_) (fun c9 => ?_)
      · have h := (if_pos c9).symm.trans h
        refine z_iconst (v := -1) d_BB_set_24 (by decide) ?_
        exact z_iret d_BB_set_25 h
      · have h := (if_neg c9).symm.trans h
        refine z_iload_n 3 d_BB_set_19 rfl rfl ?_
        refine z_iconst (v := 1) d_BB_set_20 (by decide) ?_
        refine z_icmp_le (tgt := 26) d_BB_set_21 (by decide) (fun c10 => ?_) (fun c10 => ?_)
        · have h := (if_pos c10).symm.trans h
          refine z_iload 4 d_BB_set_26 rfl ?_
          refine z_if_lt (tgt := 38) d_BB_set_28 (by decide) (fun c11 => ?_) (fun c11 => ?_)
          · have h := (if_pos c11).symm.trans h
            refine z_bipush (v := -2) d_BB_set_38 (by decide) ?_
            exact z_iret d_BB_set_40 h
          · have h := (if_neg c11).symm.trans h
            refine z_iload 4 d_BB_set_31 rfl ?_
            refine z_bipush (v := 99) d_BB_set_33 (by decide) ?_
            refine z_icmp_le (tgt := 41) d_BB_set_35 (by decide) (fun c12 => ?_) (fun c12 => ?_)
            · have h := (if_pos c12).symm.trans h
              refine z_iload_n 3 d_BB_set_41 rfl rfl ?_
              refine z_if_ne (tgt := 60) d_BB_set_42 (by decide) (fun c13 => ?_) (fun c13 => ?_)
              · have h := (if_neg c13).symm.trans h
                refine z_aload_n 0 d_BB_set_60 rfl rfl ?_
                refine gf_BB_now zl_0 d_BB_set_61 q_303 ?_
                refine gf_Stand_loaves (o2 := 25) zl_1 rfl d_BB_set_64 q_116 ?_
                refine z_iload_n 1 d_BB_set_67 rfl rfl ?_
                obtain ⟨c14, h⟩ := zck_i h
                refine w_aald3 zl_25 c14 d_BB_set_68 ?_
                obtain ⟨c15, h⟩ := zck_i h
                refine gf_Loaf_bears (o2 := (zel 25 x1.toNatClampNeg) + 24) c15 rfl d_BB_set_69 q_91 ?_
                refine z_sub [2, 4] rfl ?_
                exact zb_BB_set_72 (zr_Loaf_bears c15) h
              · have h := (if_pos c13).symm.trans h
                refine z_aload_n 0 d_BB_set_45 rfl rfl ?_
                refine gf_BB_now zl_0 d_BB_set_46 q_303 ?_
                refine gf_Stand_loaves (o2 := 25) zl_1 rfl d_BB_set_49 q_116 ?_
                refine z_iload_n 1 d_BB_set_52 rfl rfl ?_
                obtain ⟨c16, h⟩ := zck_i h
                refine w_aald3 zl_25 c16 d_BB_set_53 ?_
                obtain ⟨c17, h⟩ := zck_i h
                refine gf_Loaf_gives (o2 := (zel 25 x1.toNatClampNeg) + 12) c17 rfl d_BB_set_54 q_88 ?_
                refine z_goto (tgt := 72) d_BB_set_57 (by decide) ?_
                refine z_sub [2, 4] rfl ?_
                exact zb_BB_set_72 (zr_Loaf_gives c17) h
            · have h := (if_neg c12).symm.trans h
              refine z_bipush (v := -2) d_BB_set_38 (by decide) ?_
              exact z_iret d_BB_set_40 h
        · have h := (if_neg c10).symm.trans h
          refine z_iconst (v := -1) d_BB_set_24 (by decide) ?_
          exact z_iret d_BB_set_25 h
theorem d_Kiln_lookAt_0 : decode b_Kiln_lookAt 0 = .ok (.aload_n 0, 1) := by decide +kernel
theorem d_Kiln_lookAt_1 : decode b_Kiln_lookAt 1 = .ok (.getfield 26, 3) := by decide +kernel
theorem d_Kiln_lookAt_4 : decode b_Kiln_lookAt 4 = .ok (.iconst (0), 1) := by decide +kernel
theorem d_Kiln_lookAt_5 : decode b_Kiln_lookAt 5 = .ok (.aload_n 1, 1) := by decide +kernel
theorem d_Kiln_lookAt_6 : decode b_Kiln_lookAt 6 = .ok (.getfield 42, 3) := by decide +kernel
theorem d_Kiln_lookAt_9 : decode b_Kiln_lookAt 9 = .ok (.iastore, 1) := by decide +kernel
theorem d_Kiln_lookAt_10 : decode b_Kiln_lookAt 10 = .ok (.aload_n 0, 1) := by decide +kernel
theorem d_Kiln_lookAt_11 : decode b_Kiln_lookAt 11 = .ok (.getfield 26, 3) := by decide +kernel
theorem d_Kiln_lookAt_14 : decode b_Kiln_lookAt 14 = .ok (.iconst (1), 1) := by decide +kernel
theorem d_Kiln_lookAt_15 : decode b_Kiln_lookAt 15 = .ok (.aload_n 1, 1) := by decide +kernel
theorem d_Kiln_lookAt_16 : decode b_Kiln_lookAt 16 = .ok (.getfield 47, 3) := by decide +kernel
theorem d_Kiln_lookAt_19 : decode b_Kiln_lookAt 19 = .ok (.iastore, 1) := by decide +kernel
theorem d_Kiln_lookAt_20 : decode b_Kiln_lookAt 20 = .ok (.aload_n 0, 1) := by decide +kernel
theorem d_Kiln_lookAt_21 : decode b_Kiln_lookAt 21 = .ok (.getfield 26, 3) := by decide +kernel
theorem d_Kiln_lookAt_24 : decode b_Kiln_lookAt 24 = .ok (.iconst (2), 1) := by decide +kernel
theorem d_Kiln_lookAt_25 : decode b_Kiln_lookAt 25 = .ok (.iload_n 2, 1) := by decide +kernel
theorem d_Kiln_lookAt_26 : decode b_Kiln_lookAt 26 = .ok (.iastore, 1) := by decide +kernel
theorem d_Kiln_lookAt_27 : decode b_Kiln_lookAt 27 = .ok (.aload_n 0, 1) := by decide +kernel
theorem d_Kiln_lookAt_28 : decode b_Kiln_lookAt 28 = .ok (.getfield 26, 3) := by decide +kernel
theorem d_Kiln_lookAt_31 : decode b_Kiln_lookAt 31 = .ok (.iconst (3), 1) := by decide +kernel
theorem d_Kiln_lookAt_32 : decode b_Kiln_lookAt 32 = .ok (.aload_n 1, 1) := by decide +kernel
theorem d_Kiln_lookAt_33 : decode b_Kiln_lookAt 33 = .ok (.getfield 50, 3) := by decide +kernel
theorem d_Kiln_lookAt_36 : decode b_Kiln_lookAt 36 = .ok (.iastore, 1) := by decide +kernel
theorem d_Kiln_lookAt_37 : decode b_Kiln_lookAt 37 = .ok (.aload_n 0, 1) := by decide +kernel
theorem d_Kiln_lookAt_38 : decode b_Kiln_lookAt 38 = .ok (.getfield 26, 3) := by decide +kernel
theorem d_Kiln_lookAt_41 : decode b_Kiln_lookAt 41 = .ok (.iconst (4), 1) := by decide +kernel
theorem d_Kiln_lookAt_42 : decode b_Kiln_lookAt 42 = .ok (.iload 4, 2) := by decide +kernel
theorem d_Kiln_lookAt_44 : decode b_Kiln_lookAt 44 = .ok (.bipush (60), 2) := by decide +kernel
theorem d_Kiln_lookAt_46 : decode b_Kiln_lookAt 46 = .ok (.irem, 1) := by decide +kernel
theorem d_Kiln_lookAt_47 : decode b_Kiln_lookAt 47 = .ok (.iastore, 1) := by decide +kernel
theorem d_Kiln_lookAt_48 : decode b_Kiln_lookAt 48 = .ok (.aload_n 0, 1) := by decide +kernel
theorem d_Kiln_lookAt_49 : decode b_Kiln_lookAt 49 = .ok (.getfield 26, 3) := by decide +kernel
theorem d_Kiln_lookAt_52 : decode b_Kiln_lookAt 52 = .ok (.iconst (5), 1) := by decide +kernel
theorem d_Kiln_lookAt_53 : decode b_Kiln_lookAt 53 = .ok (.iload_n 3, 1) := by decide +kernel
theorem d_Kiln_lookAt_54 : decode b_Kiln_lookAt 54 = .ok (.iastore, 1) := by decide +kernel
theorem d_Kiln_lookAt_55 : decode b_Kiln_lookAt 55 = .ok (.return_, 1) := by decide +kernel
theorem c_Kiln_lookAt (l : Launch) (θ : ZT) {x0 : Nat} {x1 : Nat} {x2 : Int32} {x3 : Int32} {x4 : Int32} {σ : ZM} {res : Unit × ZM} (h : f_Kiln_lookAt x0 x1 x2 x3 x4 σ = some res) : zMet mkV l 0 129 θ y_Kiln_lookAt b_Kiln_lookAt 5 none (zrm 1 60) [.ref (za θ x0), .ref (za θ x1), .int x2, .int x3, .int x4] σ res := by
  unfold f_Kiln_lookAt at h
  obtain ⟨hx0, h⟩ := zck_i h
  obtain ⟨hx1, h⟩ := zck_i h
  refine z_met (lv := [(0, .ref (za θ x0)), (1, .ref (za θ x1)), (2, .int x2), (3, .int x3), (4, .int x4)]) (by decide +kernel) rfl (Nat.le_of_ble_eq_true rfl) (by decide) ?_
  refine z_aload_n 0 d_Kiln_lookAt_0 rfl rfl ?_
  refine gf_Kiln_letters (o2 := x0 + 35) hx0 rfl d_Kiln_lookAt_1 q_176 ?_
  refine z_iconst (v := 0) d_Kiln_lookAt_4 (by decide) ?_
  refine z_aload_n 1 d_Kiln_lookAt_5 rfl rfl ?_
  refine gf_Loaf_number hx1 d_Kiln_lookAt_6 q_86 ?_
  obtain ⟨c1, h⟩ := zck_i h
  refine w_iast (zr_Kiln_letters hx0) c1 d_Kiln_lookAt_9 ?_
  refine z_aload_n 0 d_Kiln_lookAt_10 rfl rfl ?_
  refine gf_Kiln_letters (o2 := x0 + 35) hx0 rfl d_Kiln_lookAt_11 q_176 ?_
  refine z_iconst (v := 1) d_Kiln_lookAt_14 (by decide) ?_
  refine z_aload_n 1 d_Kiln_lookAt_15 rfl rfl ?_
  refine gf_Loaf_kind hx1 d_Kiln_lookAt_16 q_97 ?_
  obtain ⟨c2, h⟩ := zck_i h
  refine w_iast (zr_Kiln_letters hx0) c2 d_Kiln_lookAt_19 ?_
  refine z_aload_n 0 d_Kiln_lookAt_20 rfl rfl ?_
  refine gf_Kiln_letters (o2 := x0 + 35) hx0 rfl d_Kiln_lookAt_21 q_176 ?_
  refine z_iconst (v := 2) d_Kiln_lookAt_24 (by decide) ?_
  refine z_iload_n 2 d_Kiln_lookAt_25 rfl rfl ?_
  obtain ⟨c3, h⟩ := zck_i h
  refine w_iast (zr_Kiln_letters hx0) c3 d_Kiln_lookAt_26 ?_
  refine z_aload_n 0 d_Kiln_lookAt_27 rfl rfl ?_
  refine gf_Kiln_letters (o2 := x0 + 35) hx0 rfl d_Kiln_lookAt_28 q_176 ?_
  refine z_iconst (v := 3) d_Kiln_lookAt_31 (by decide) ?_
  refine z_aload_n 1 d_Kiln_lookAt_32 rfl rfl ?_
  refine gf_Loaf_v hx1 d_Kiln_lookAt_33 q_102 ?_
  obtain ⟨c4, h⟩ := zck_i h
  refine w_iast (zr_Kiln_letters hx0) c4 d_Kiln_lookAt_36 ?_
  refine z_aload_n 0 d_Kiln_lookAt_37 rfl rfl ?_
  refine gf_Kiln_letters (o2 := x0 + 35) hx0 rfl d_Kiln_lookAt_38 q_176 ?_
  refine z_iconst (v := 4) d_Kiln_lookAt_41 (by decide) ?_
  refine z_iload 4 d_Kiln_lookAt_42 rfl ?_
  refine z_bipush (v := 60) d_Kiln_lookAt_44 (by decide) ?_
  refine z_irem d_Kiln_lookAt_46 (by decide) ?_
  obtain ⟨c5, h⟩ := zck_i h
  refine w_iast (zr_Kiln_letters hx0) c5 d_Kiln_lookAt_47 ?_
  refine z_aload_n 0 d_Kiln_lookAt_48 rfl rfl ?_
  refine gf_Kiln_letters (o2 := x0 + 35) hx0 rfl d_Kiln_lookAt_49 q_176 ?_
  refine z_iconst (v := 5) d_Kiln_lookAt_52 (by decide) ?_
  refine z_iload_n 3 d_Kiln_lookAt_53 rfl rfl ?_
  obtain ⟨c6, h⟩ := zck_i h
  refine w_iast (zr_Kiln_letters hx0) c6 d_Kiln_lookAt_54 ?_
  exact z_vret d_Kiln_lookAt_55 h
theorem d_Kiln_holds_0 : decode b_Kiln_holds 0 = .ok (.lconst 0, 1) := by decide +kernel
theorem d_Kiln_holds_1 : decode b_Kiln_holds 1 = .ok (.lstore_n 3, 1) := by decide +kernel
theorem d_Kiln_holds_2 : decode b_Kiln_holds 2 = .ok (.iload_n 1, 1) := by decide +kernel
theorem d_Kiln_holds_3 : decode b_Kiln_holds 3 = .ok (.istore 5, 2) := by decide +kernel
theorem d_Kiln_holds_5 : decode b_Kiln_holds 5 = .ok (.iload 5, 2) := by decide +kernel
theorem d_Kiln_holds_7 : decode b_Kiln_holds 7 = .ok (.iload_n 2, 1) := by decide +kernel
theorem d_Kiln_holds_8 : decode b_Kiln_holds 8 = .ok (.if_icmp .ge (173), 3) := by decide +kernel
theorem d_Kiln_holds_11 : decode b_Kiln_holds 11 = .ok (.aload_n 0, 1) := by decide +kernel
theorem d_Kiln_holds_12 : decode b_Kiln_holds 12 = .ok (.getfield 23, 3) := by decide +kernel
theorem d_Kiln_holds_15 : decode b_Kiln_holds 15 = .ok (.iload 5, 2) := by decide +kernel
theorem d_Kiln_holds_17 : decode b_Kiln_holds 17 = .ok (.iaload, 1) := by decide +kernel
theorem d_Kiln_holds_18 : decode b_Kiln_holds 18 = .ok (.istore 6, 2) := by decide +kernel
theorem d_Kiln_holds_20 : decode b_Kiln_holds 20 = .ok (.lload_n 3, 1) := by decide +kernel
theorem d_Kiln_holds_21 : decode b_Kiln_holds 21 = .ok (.lconst 1, 1) := by decide +kernel
theorem d_Kiln_holds_22 : decode b_Kiln_holds 22 = .ok (.land, 1) := by decide +kernel
theorem d_Kiln_holds_23 : decode b_Kiln_holds 23 = .ok (.lstore 7, 2) := by decide +kernel
theorem d_Kiln_holds_25 : decode b_Kiln_holds 25 = .ok (.iload 6, 2) := by decide +kernel
theorem d_Kiln_holds_27 : decode b_Kiln_holds 27 = .ok (.iconst (-1), 1) := by decide +kernel
theorem d_Kiln_holds_28 : decode b_Kiln_holds 28 = .ok (.if_icmp .ne (10), 3) := by decide +kernel
theorem d_Kiln_holds_31 : decode b_Kiln_holds 31 = .ok (.lload_n 3, 1) := by decide +kernel
theorem d_Kiln_holds_32 : decode b_Kiln_holds 32 = .ok (.lconst 1, 1) := by decide +kernel
theorem d_Kiln_holds_33 : decode b_Kiln_holds 33 = .ok (.lxor, 1) := by decide +kernel
theorem d_Kiln_holds_34 : decode b_Kiln_holds 34 = .ok (.lstore_n 3, 1) := by decide +kernel
theorem d_Kiln_holds_35 : decode b_Kiln_holds 35 = .ok (.goto (140), 3) := by decide +kernel
theorem d_Kiln_holds_38 : decode b_Kiln_holds 38 = .ok (.iload 6, 2) := by decide +kernel
theorem d_Kiln_holds_40 : decode b_Kiln_holds 40 = .ok (.bipush (-2), 2) := by decide +kernel
theorem d_Kiln_holds_42 : decode b_Kiln_holds 42 = .ok (.if_icmp .ne (17), 3) := by decide +kernel
theorem d_Kiln_holds_45 : decode b_Kiln_holds 45 = .ok (.lload_n 3, 1) := by decide +kernel
theorem d_Kiln_holds_46 : decode b_Kiln_holds 46 = .ok (.iconst (1), 1) := by decide +kernel
theorem d_Kiln_holds_47 : decode b_Kiln_holds 47 = .ok (.lshr, 1) := by decide +kernel
theorem d_Kiln_holds_48 : decode b_Kiln_holds 48 = .ok (.lload 7, 2) := by decide +kernel
theorem d_Kiln_holds_50 : decode b_Kiln_holds 50 = .ok (.ldc2_w 57, 3) := by decide +kernel
theorem d_Kiln_holds_53 : decode b_Kiln_holds 53 = .ok (.lor, 1) := by decide +kernel
theorem d_Kiln_holds_54 : decode b_Kiln_holds 54 = .ok (.land, 1) := by decide +kernel
theorem d_Kiln_holds_55 : decode b_Kiln_holds 55 = .ok (.lstore_n 3, 1) := by decide +kernel
theorem d_Kiln_holds_56 : decode b_Kiln_holds 56 = .ok (.goto (119), 3) := by decide +kernel
theorem d_Kiln_holds_59 : decode b_Kiln_holds 59 = .ok (.iload 6, 2) := by decide +kernel
theorem d_Kiln_holds_61 : decode b_Kiln_holds 61 = .ok (.bipush (-3), 2) := by decide +kernel
theorem d_Kiln_holds_63 : decode b_Kiln_holds 63 = .ok (.if_icmp .ne (13), 3) := by decide +kernel
theorem d_Kiln_holds_66 : decode b_Kiln_holds 66 = .ok (.lload_n 3, 1) := by decide +kernel
theorem d_Kiln_holds_67 : decode b_Kiln_holds 67 = .ok (.iconst (1), 1) := by decide +kernel
theorem d_Kiln_holds_68 : decode b_Kiln_holds 68 = .ok (.lshr, 1) := by decide +kernel
theorem d_Kiln_holds_69 : decode b_Kiln_holds 69 = .ok (.lload 7, 2) := by decide +kernel
theorem d_Kiln_holds_71 : decode b_Kiln_holds 71 = .ok (.lor, 1) := by decide +kernel
theorem d_Kiln_holds_72 : decode b_Kiln_holds 72 = .ok (.lstore_n 3, 1) := by decide +kernel
theorem d_Kiln_holds_73 : decode b_Kiln_holds 73 = .ok (.goto (102), 3) := by decide +kernel
theorem d_Kiln_holds_76 : decode b_Kiln_holds 76 = .ok (.aload_n 0, 1) := by decide +kernel
theorem d_Kiln_holds_77 : decode b_Kiln_holds 77 = .ok (.getfield 26, 3) := by decide +kernel
theorem d_Kiln_holds_80 : decode b_Kiln_holds 80 = .ok (.iload 6, 2) := by decide +kernel
theorem d_Kiln_holds_82 : decode b_Kiln_holds 82 = .ok (.bipush (9), 2) := by decide +kernel
theorem d_Kiln_holds_84 : decode b_Kiln_holds 84 = .ok (.ishr, 1) := by decide +kernel
theorem d_Kiln_holds_85 : decode b_Kiln_holds 85 = .ok (.iaload, 1) := by decide +kernel
theorem d_Kiln_holds_86 : decode b_Kiln_holds 86 = .ok (.istore 9, 2) := by decide +kernel
theorem d_Kiln_holds_88 : decode b_Kiln_holds 88 = .ok (.iload 6, 2) := by decide +kernel
theorem d_Kiln_holds_90 : decode b_Kiln_holds 90 = .ok (.bipush (127), 2) := by decide +kernel
theorem d_Kiln_holds_92 : decode b_Kiln_holds 92 = .ok (.iand, 1) := by decide +kernel
theorem d_Kiln_holds_93 : decode b_Kiln_holds 93 = .ok (.istore 10, 2) := by decide +kernel
theorem d_Kiln_holds_95 : decode b_Kiln_holds 95 = .ok (.iload 6, 2) := by decide +kernel
theorem d_Kiln_holds_97 : decode b_Kiln_holds 97 = .ok (.bipush (7), 2) := by decide +kernel
theorem d_Kiln_holds_99 : decode b_Kiln_holds 99 = .ok (.ishr, 1) := by decide +kernel
theorem d_Kiln_holds_100 : decode b_Kiln_holds 100 = .ok (.iconst (3), 1) := by decide +kernel
theorem d_Kiln_holds_101 : decode b_Kiln_holds 101 = .ok (.iand, 1) := by decide +kernel
theorem d_Kiln_holds_102 : decode b_Kiln_holds 102 = .ok (.istore 11, 2) := by decide +kernel
theorem d_Kiln_holds_104 : decode b_Kiln_holds 104 = .ok (.iload 11, 2) := by decide +kernel
theorem d_Kiln_holds_106 : decode b_Kiln_holds 106 = .ok (.ifCond .ne (18), 3) := by decide +kernel
theorem d_Kiln_holds_109 : decode b_Kiln_holds 109 = .ok (.iload 9, 2) := by decide +kernel
theorem d_Kiln_holds_111 : decode b_Kiln_holds 111 = .ok (.iload 10, 2) := by decide +kernel
theorem d_Kiln_holds_113 : decode b_Kiln_holds 113 = .ok (.if_icmp .ge (7), 3) := by decide +kernel
theorem d_Kiln_holds_116 : decode b_Kiln_holds 116 = .ok (.iconst (1), 1) := by decide +kernel
theorem d_Kiln_holds_117 : decode b_Kiln_holds 117 = .ok (.goto (40), 3) := by decide +kernel
theorem d_Kiln_holds_120 : decode b_Kiln_holds 120 = .ok (.iconst (0), 1) := by decide +kernel
theorem d_Kiln_holds_121 : decode b_Kiln_holds 121 = .ok (.goto (36), 3) := by decide +kernel
theorem d_Kiln_holds_124 : decode b_Kiln_holds 124 = .ok (.iload 11, 2) := by decide +kernel
theorem d_Kiln_holds_126 : decode b_Kiln_holds 126 = .ok (.iconst (1), 1) := by decide +kernel
theorem d_Kiln_holds_127 : decode b_Kiln_holds 127 = .ok (.if_icmp .ne (18), 3) := by decide +kernel
theorem d_Kiln_holds_130 : decode b_Kiln_holds 130 = .ok (.iload 9, 2) := by decide +kernel
theorem d_Kiln_holds_132 : decode b_Kiln_holds 132 = .ok (.iload 10, 2) := by decide +kernel
theorem d_Kiln_holds_134 : decode b_Kiln_holds 134 = .ok (.if_icmp .ne (7), 3) := by decide +kernel
theorem d_Kiln_holds_137 : decode b_Kiln_holds 137 = .ok (.iconst (1), 1) := by decide +kernel
theorem d_Kiln_holds_138 : decode b_Kiln_holds 138 = .ok (.goto (19), 3) := by decide +kernel
theorem d_Kiln_holds_141 : decode b_Kiln_holds 141 = .ok (.iconst (0), 1) := by decide +kernel
theorem d_Kiln_holds_142 : decode b_Kiln_holds 142 = .ok (.goto (15), 3) := by decide +kernel
theorem d_Kiln_holds_145 : decode b_Kiln_holds 145 = .ok (.iload 9, 2) := by decide +kernel
theorem d_Kiln_holds_147 : decode b_Kiln_holds 147 = .ok (.iload 10, 2) := by decide +kernel
theorem d_Kiln_holds_149 : decode b_Kiln_holds 149 = .ok (.if_icmp .le (7), 3) := by decide +kernel
theorem d_Kiln_holds_152 : decode b_Kiln_holds 152 = .ok (.iconst (1), 1) := by decide +kernel
theorem d_Kiln_holds_153 : decode b_Kiln_holds 153 = .ok (.goto (4), 3) := by decide +kernel
theorem d_Kiln_holds_156 : decode b_Kiln_holds 156 = .ok (.iconst (0), 1) := by decide +kernel
theorem d_Kiln_holds_157 : decode b_Kiln_holds 157 = .ok (.istore 12, 2) := by decide +kernel
theorem d_Kiln_holds_159 : decode b_Kiln_holds 159 = .ok (.lload_n 3, 1) := by decide +kernel
theorem d_Kiln_holds_160 : decode b_Kiln_holds 160 = .ok (.iconst (1), 1) := by decide +kernel
theorem d_Kiln_holds_161 : decode b_Kiln_holds 161 = .ok (.lshl, 1) := by decide +kernel
theorem d_Kiln_holds_162 : decode b_Kiln_holds 162 = .ok (.iload 12, 2) := by decide +kernel
theorem d_Kiln_holds_164 : decode b_Kiln_holds 164 = .ok (.ifCond .eq (7), 3) := by decide +kernel
theorem d_Kiln_holds_167 : decode b_Kiln_holds 167 = .ok (.iconst (1), 1) := by decide +kernel
theorem d_Kiln_holds_168 : decode b_Kiln_holds 168 = .ok (.goto (4), 3) := by decide +kernel
theorem d_Kiln_holds_171 : decode b_Kiln_holds 171 = .ok (.iconst (0), 1) := by decide +kernel
theorem d_Kiln_holds_172 : decode b_Kiln_holds 172 = .ok (.i2l, 1) := by decide +kernel
theorem d_Kiln_holds_173 : decode b_Kiln_holds 173 = .ok (.lor, 1) := by decide +kernel
theorem d_Kiln_holds_174 : decode b_Kiln_holds 174 = .ok (.lstore_n 3, 1) := by decide +kernel
theorem d_Kiln_holds_175 : decode b_Kiln_holds 175 = .ok (.iinc 5 (1), 3) := by decide +kernel
theorem d_Kiln_holds_178 : decode b_Kiln_holds 178 = .ok (.goto (-173), 3) := by decide +kernel
theorem d_Kiln_holds_181 : decode b_Kiln_holds 181 = .ok (.lload_n 3, 1) := by decide +kernel
theorem d_Kiln_holds_182 : decode b_Kiln_holds 182 = .ok (.lconst 1, 1) := by decide +kernel
theorem d_Kiln_holds_183 : decode b_Kiln_holds 183 = .ok (.land, 1) := by decide +kernel
theorem d_Kiln_holds_184 : decode b_Kiln_holds 184 = .ok (.lconst 1, 1) := by decide +kernel
theorem d_Kiln_holds_185 : decode b_Kiln_holds 185 = .ok (.lcmp, 1) := by decide +kernel
theorem d_Kiln_holds_186 : decode b_Kiln_holds 186 = .ok (.ifCond .ne (7), 3) := by decide +kernel
theorem d_Kiln_holds_189 : decode b_Kiln_holds 189 = .ok (.iconst (1), 1) := by decide +kernel
theorem d_Kiln_holds_190 : decode b_Kiln_holds 190 = .ok (.goto (4), 3) := by decide +kernel
theorem d_Kiln_holds_193 : decode b_Kiln_holds 193 = .ok (.iconst (0), 1) := by decide +kernel
theorem d_Kiln_holds_194 : decode b_Kiln_holds 194 = .ok (.ireturn, 1) := by decide +kernel
theorem zb_Kiln_holds_175 {l : Launch} {θ : ZT} {res : Int32 × ZM} {k5 : Nat × Int32 × Int64 × Int32 × ZM → Option (Int32 × ZM)} (hk5 : ∀ a : Nat × Int32 × Int64 × Int32 × ZM, zR 0 129 a.1 15 0 = true → k5 a = some res → WZ l b_Kiln_holds 13 (some .boolean) "BakedBefore$Kiln" 0 129 θ (zrm 1 60) (zQ mkI 0 129 θ res) a.2.2.2.2 [(0, .ref (za θ a.1)), (2, .int a.2.1), (3, .long a.2.2.1), (5, .int a.2.2.2.1)] 5 []) {x0 : Nat} {x2 : Int32} {x3 : Int64} {x5 : Int32} {σ : ZM} (hx0 : zR 0 129 x0 15 0 = true) (h : f_Kiln_holds_175 k5 x0 x2 x3 x5 σ = some res) : WZ l b_Kiln_holds 13 (some .boolean) "BakedBefore$Kiln" 0 129 θ (zrm 1 60) (zQ mkI 0 129 θ res) σ [(0, .ref (za θ x0)), (2, .int x2), (3, .long x3), (5, .int x5)] 175 [] := by
  unfold f_Kiln_holds_175 at h
  refine z_iinc (v := x5 + (1 : Int32)) 3 d_Kiln_holds_175 rfl rfl (by decide) rfl ?_
  refine z_goto (tgt := 5) d_Kiln_holds_178 (by decide) ?_
  refine z_sub [1, 2, 3, 0] rfl ?_
  exact hk5 (x0, x2, x3, (x5 + (1 : Int32)), σ) hx0 h
theorem zb_Kiln_holds_172 {l : Launch} {θ : ZT} {res : Int32 × ZM} {k5 : Nat × Int32 × Int64 × Int32 × ZM → Option (Int32 × ZM)} (hk5 : ∀ a : Nat × Int32 × Int64 × Int32 × ZM, zR 0 129 a.1 15 0 = true → k5 a = some res → WZ l b_Kiln_holds 13 (some .boolean) "BakedBefore$Kiln" 0 129 θ (zrm 1 60) (zQ mkI 0 129 θ res) a.2.2.2.2 [(0, .ref (za θ a.1)), (2, .int a.2.1), (3, .long a.2.2.1), (5, .int a.2.2.2.1)] 5 []) {x0 : Nat} {x2 : Int32} {x5 : Int32} {y0 : Int32} {y1 : Int64} {σ : ZM} (hx0 : zR 0 129 x0 15 0 = true) (h : f_Kiln_holds_172 k5 x0 x2 x5 y0 y1 σ = some res) : WZ l b_Kiln_holds 13 (some .boolean) "BakedBefore$Kiln" 0 129 θ (zrm 1 60) (zQ mkI 0 129 θ res) σ [(0, .ref (za θ x0)), (2, .int x2), (5, .int x5)] 172 [.int y0, .long y1] := by
  unfold f_Kiln_holds_172 at h
  refine z_i2l d_Kiln_holds_172 ?_
  refine z_lor d_Kiln_holds_173 ?_
  refine z_lstore_n d_Kiln_holds_174 rfl (by decide) rfl ?_
  refine z_sub [1, 2, 0, 3] rfl ?_
  exact zb_Kiln_holds_175 hk5 hx0 h
theorem zb_Kiln_holds_157 {l : Launch} {θ : ZT} {res : Int32 × ZM} {k5 : Nat × Int32 × Int64 × Int32 × ZM → Option (Int32 × ZM)} (hk5 : ∀ a : Nat × Int32 × Int64 × Int32 × ZM, zR 0 129 a.1 15 0 = true → k5 a = some res → WZ l b_Kiln_holds 13 (some .boolean) "BakedBefore$Kiln" 0 129 θ (zrm 1 60) (zQ mkI 0 129 θ res) a.2.2.2.2 [(0, .ref (za θ a.1)), (2, .int a.2.1), (3, .long a.2.2.1), (5, .int a.2.2.2.1)] 5 []) {x0 : Nat} {x2 : Int32} {x3 : Int64} {x5 : Int32} {y0 : Int32} {σ : ZM} (hx0 : zR 0 129 x0 15 0 = true) (h : f_Kiln_holds_157 k5 x0 x2 x3 x5 y0 σ = some res) : WZ l b_Kiln_holds 13 (some .boolean) "BakedBefore$Kiln" 0 129 θ (zrm 1 60) (zQ mkI 0 129 θ res) σ [(0, .ref (za θ x0)), (2, .int x2), (3, .long x3), (5, .int x5)] 157 [.int y0] := by
  unfold f_Kiln_holds_157 at h
  refine z_istore d_Kiln_holds_157 (by decide) rfl ?_
  refine z_lload_n 3 d_Kiln_holds_159 rfl rfl ?_
  refine z_iconst (v := 1) d_Kiln_holds_160 (by decide) ?_
  refine z_lshl d_Kiln_holds_161 ?_
  refine z_iload 0 d_Kiln_holds_162 rfl ?_
  refine z_if_eq (tgt := 171) d_Kiln_holds_164 (by decide) (fun c1 => ?_) (fun c1 => ?_)
  · have h := (if_pos c1).symm.trans h
    refine z_iconst (v := 0) d_Kiln_holds_171 (by decide) ?_
    refine z_sub [1, 2, 4] rfl ?_
    exact zb_Kiln_holds_172 hk5 hx0 h
  · have h := (if_neg c1).symm.trans h
    refine z_iconst (v := 1) d_Kiln_holds_167 (by decide) ?_
    refine z_goto (tgt := 172) d_Kiln_holds_168 (by decide) ?_
    refine z_sub [1, 2, 4] rfl ?_
    exact zb_Kiln_holds_172 hk5 hx0 h
theorem zb_Kiln_holds_5 {l : Launch} {θ : ZT} {res : Int32 × ZM} {k5 : Nat × Int32 × Int64 × Int32 × ZM → Option (Int32 × ZM)} (hk5 : ∀ a : Nat × Int32 × Int64 × Int32 × ZM, zR 0 129 a.1 15 0 = true → k5 a = some res → WZ l b_Kiln_holds 13 (some .boolean) "BakedBefore$Kiln" 0 129 θ (zrm 1 60) (zQ mkI 0 129 θ res) a.2.2.2.2 [(0, .ref (za θ a.1)), (2, .int a.2.1), (3, .long a.2.2.1), (5, .int a.2.2.2.1)] 5 []) {x0 : Nat} {x2 : Int32} {x3 : Int64} {x5 : Int32} {σ : ZM} (hx0 : zR 0 129 x0 15 0 = true) (h : f_Kiln_holds_5 k5 x0 x2 x3 x5 σ = some res) : WZ l b_Kiln_holds 13 (some .boolean) "BakedBefore$Kiln" 0 129 θ (zrm 1 60) (zQ mkI 0 129 θ res) σ [(0, .ref (za θ x0)), (2, .int x2), (3, .long x3), (5, .int x5)] 5 [] := by
  unfold f_Kiln_holds_5 at h
  refine z_iload 3 d_Kiln_holds_5 rfl ?_
  refine z_iload_n 1 d_Kiln_holds_7 rfl rfl ?_
  refine z_icmp_ge (tgt := 181) d_Kiln_holds_8 (by decide) (fun c1 => ?_) (fun c1 => ?_)
  · have h := (if_pos c1).symm.trans h
    refine z_lload_n 2 d_Kiln_holds_181 rfl rfl ?_
    refine z_lconst (v := 1) d_Kiln_holds_182 (by decide) ?_
    refine z_land d_Kiln_holds_183 ?_
    refine z_lconst (v := 1) d_Kiln_holds_184 (by decide) ?_
    refine z_lcmp d_Kiln_holds_185 ?_
    refine z_if_ne (tgt := 193) d_Kiln_holds_186 (by decide) (fun c2 => ?_) (fun c2 => ?_)
    · have h := (if_neg c2).symm.trans h
      refine z_iconst (v := 0) d_Kiln_holds_193 (by decide) ?_
      exact z_zret d_Kiln_holds_194 (by decide) h
    · have h := (if_pos c2).symm.trans h
      refine z_iconst (v := 1) d_Kiln_holds_189 (by decide) ?_
      refine z_goto (tgt := 194) d_Kiln_holds_190 (by decide) ?_
      exact z_zret d_Kiln_holds_194 (by decide) h
  · have h := (if_neg c1).symm.trans h
    refine z_aload_n 0 d_Kiln_holds_11 rfl rfl ?_
    refine gf_Kiln_steps (o2 := x0 + 28) hx0 rfl d_Kiln_holds_12 q_175 ?_
    refine z_iload 3 d_Kiln_holds_15 rfl ?_
    obtain ⟨c3, h⟩ := zck_i h
    refine w_iald (zr_Kiln_steps hx0) c3 d_Kiln_holds_17 ?_
    refine z_istore d_Kiln_holds_18 (by decide) rfl ?_
    refine z_lload_n 3 d_Kiln_holds_20 rfl rfl ?_
    refine z_lconst (v := 1) d_Kiln_holds_21 (by decide) ?_
    refine z_land d_Kiln_holds_22 ?_
    refine z_lstore d_Kiln_holds_23 (by decide) rfl ?_
    refine z_iload 1 d_Kiln_holds_25 rfl ?_
    refine z_iconst (v := -1) d_Kiln_holds_27 (by decide) ?_
    refine z_icmp_ne (tgt := 38) d_Kiln_holds_28 (by decide) (fun c4 => ?_) (fun c4 => ?_)
    · have h := (if_neg c4).symm.trans h
      refine z_iload 1 d_Kiln_holds_38 rfl ?_
      refine z_bipush (v := -2) d_Kiln_holds_40 (by decide) ?_
      refine z_icmp_ne (tgt := 59) d_Kiln_holds_42 (by decide) (fun c5 => ?_) (fun c5 => ?_)
      · have h := (if_neg c5).symm.trans h
        refine z_iload 1 d_Kiln_holds_59 rfl ?_
        refine z_bipush (v := -3) d_Kiln_holds_61 (by decide) ?_
        refine z_icmp_ne (tgt := 76) d_Kiln_holds_63 (by decide) (fun c6 => ?_) (fun c6 => ?_)
        · have h := (if_neg c6).symm.trans h
          refine z_aload_n 2 d_Kiln_holds_76 rfl rfl ?_
          refine gf_Kiln_letters (o2 := x0 + 35) hx0 rfl d_Kiln_holds_77 q_176 ?_
          refine z_iload 1 d_Kiln_holds_80 rfl ?_
          refine z_bipush (v := 9) d_Kiln_holds_82 (by decide) ?_
          refine z_ishr d_Kiln_holds_84 ?_
          obtain ⟨c7, h⟩ := zck_i h
          refine w_iald (zr_Kiln_letters hx0) c7 d_Kiln_holds_85 ?_
          refine z_istore d_Kiln_holds_86 (by decide) rfl ?_
          refine z_iload 2 d_Kiln_holds_88 rfl ?_
          refine z_bipush (v := 127) d_Kiln_holds_90 (by decide) ?_
          refine z_iand d_Kiln_holds_92 ?_
          refine z_istore d_Kiln_holds_93 (by decide) rfl ?_
          refine z_iload 3 d_Kiln_holds_95 rfl ?_
          refine z_bipush (v := 7) d_Kiln_holds_97 (by decide) ?_
          refine z_ishr d_Kiln_holds_99 ?_
          refine z_iconst (v := 3) d_Kiln_holds_100 (by decide) ?_
          refine z_iand d_Kiln_holds_101 ?_
          refine z_istore d_Kiln_holds_102 (by decide) rfl ?_
          refine z_iload 0 d_Kiln_holds_104 rfl ?_
          refine z_if_ne (tgt := 124) d_Kiln_holds_106 (by decide) (fun c8 => ?_) (fun c8 => ?_)
          · have h := (if_neg c8).symm.trans h
            refine z_iload 0 d_Kiln_holds_124 rfl ?_
            refine z_iconst (v := 1) d_Kiln_holds_126 (by decide) ?_
            refine z_icmp_ne (tgt := 145) d_Kiln_holds_127 (by decide) (fun c9 => ?_) (fun c9 => ?_)
            · have h := (if_neg c9).symm.trans h
              refine z_iload 2 d_Kiln_holds_145 rfl ?_
              refine z_iload 1 d_Kiln_holds_147 rfl ?_
              refine z_icmp_le (tgt := 156) d_Kiln_holds_149 (by decide) (fun c10 => ?_) (fun c10 => ?_)
              · have h := (if_pos c10).symm.trans h
                refine z_iconst (v := 0) d_Kiln_holds_156 (by decide) ?_
                refine z_sub [5, 6, 7, 8] rfl ?_
                exact zb_Kiln_holds_157 hk5 hx0 h
              · have h := (if_neg c10).symm.trans h
                refine z_iconst (v := 1) d_Kiln_holds_152 (by decide) ?_
                refine z_goto (tgt := 157) d_Kiln_holds_153 (by decide) ?_
                refine z_sub [5, 6, 7, 8] rfl ?_
                exact zb_Kiln_holds_157 hk5 hx0 h
            · have h := (if_pos c9).symm.trans h
              refine z_iload 2 d_Kiln_holds_130 rfl ?_
              refine z_iload 1 d_Kiln_holds_132 rfl ?_
              refine z_icmp_ne (tgt := 141) d_Kiln_holds_134 (by decide) (fun c11 => ?_) (fun c11 => ?_)
              · have h := (if_neg c11).symm.trans h
                refine z_iconst (v := 0) d_Kiln_holds_141 (by decide) ?_
                refine z_goto (tgt := 157) d_Kiln_holds_142 (by decide) ?_
                refine z_sub [5, 6, 7, 8] rfl ?_
                exact zb_Kiln_holds_157 hk5 hx0 h
              · have h := (if_pos c11).symm.trans h
                refine z_iconst (v := 1) d_Kiln_holds_137 (by decide) ?_
                refine z_goto (tgt := 157) d_Kiln_holds_138 (by decide) ?_
                refine z_sub [5, 6, 7, 8] rfl ?_
                exact zb_Kiln_holds_157 hk5 hx0 h
          · have h := (if_pos c8).symm.trans h
            refine z_iload 2 d_Kiln_holds_109 rfl ?_
            refine z_iload 1 d_Kiln_holds_111 rfl ?_
            refine z_icmp_ge (tgt := 120) d_Kiln_holds_113 (by decide) (fun c12 => ?_) (fun c12 => ?_)
            · have h := (if_pos c12).symm.trans h
              refine z_iconst (v := 0) d_Kiln_holds_120 (by decide) ?_
              refine z_goto (tgt := 157) d_Kiln_holds_121 (by decide) ?_
              refine z_sub [5, 6, 7, 8] rfl ?_
              exact zb_Kiln_holds_157 hk5 hx0 h
            · have h := (if_neg c12).symm.trans h
              refine z_iconst (v := 1) d_Kiln_holds_116 (by decide) ?_
              refine z_goto (tgt := 157) d_Kiln_holds_117 (by decide) ?_
              refine z_sub [5, 6, 7, 8] rfl ?_
              exact zb_Kiln_holds_157 hk5 hx0 h
        · have h := (if_pos c6).symm.trans h
          refine z_lload_n 4 d_Kiln_holds_66 rfl rfl ?_
          refine z_iconst (v := 1) d_Kiln_holds_67 (by decide) ?_
          refine z_lshr d_Kiln_holds_68 ?_
          refine z_lload 0 d_Kiln_holds_69 rfl ?_
          refine z_lor d_Kiln_holds_71 ?_
          refine z_lstore_n d_Kiln_holds_72 rfl (by decide) rfl ?_
          refine z_goto (tgt := 175) d_Kiln_holds_73 (by decide) ?_
          refine z_sub [3, 4, 0, 5] rfl ?_
          exact zb_Kiln_holds_175 hk5 hx0 h
      · have h := (if_pos c5).symm.trans h
        refine z_lload_n 4 d_Kiln_holds_45 rfl rfl ?_
        refine z_iconst (v := 1) d_Kiln_holds_46 (by decide) ?_
        refine z_lshr d_Kiln_holds_47 ?_
        refine z_lload 0 d_Kiln_holds_48 rfl ?_
        refine z_ldc2 (v := -2) d_Kiln_holds_50 q_379 ?_
        refine z_lor d_Kiln_holds_53 ?_
        refine z_land d_Kiln_holds_54 ?_
        refine z_lstore_n d_Kiln_holds_55 rfl (by decide) rfl ?_
        refine z_goto (tgt := 175) d_Kiln_holds_56 (by decide) ?_
        refine z_sub [3, 4, 0, 5] rfl ?_
        exact zb_Kiln_holds_175 hk5 hx0 h
    · have h := (if_pos c4).symm.trans h
      refine z_lload_n 4 d_Kiln_holds_31 rfl rfl ?_
      refine z_lconst (v := 1) d_Kiln_holds_32 (by decide) ?_
      refine z_lxor d_Kiln_holds_33 ?_
      refine z_lstore_n d_Kiln_holds_34 rfl (by decide) rfl ?_
      refine z_goto (tgt := 175) d_Kiln_holds_35 (by decide) ?_
      refine z_sub [3, 4, 0, 5] rfl ?_
      exact zb_Kiln_holds_175 hk5 hx0 h
theorem zl_Kiln_holds_5 {l : Launch} {θ : ZT} {res : Int32 × ZM} : ∀ (N : Nat) (a : Nat × Int32 × Int64 × Int32 × ZM), zR 0 129 a.1 15 0 = true → F_Kiln_holds_5 N a = some res → WZ l b_Kiln_holds 13 (some .boolean) "BakedBefore$Kiln" 0 129 θ (zrm 1 60) (zQ mkI 0 129 θ res) a.2.2.2.2 [(0, .ref (za θ a.1)), (2, .int a.2.1), (3, .long a.2.2.1), (5, .int a.2.2.2.1)] 5 [] := by
  intro N
  induction N with
  | zero => intro a hx0 h; cases (show (none : Option (Int32 × ZM)) = some res from h)
  | succ N ih => intro a hx0 h; exact zb_Kiln_holds_5 ih hx0 (show f_Kiln_holds_5 (F_Kiln_holds_5 N) a.1 a.2.1 a.2.2.1 a.2.2.2.1 a.2.2.2.2 = some res from h)
theorem c_Kiln_holds (l : Launch) (θ : ZT) {x0 : Nat} {x1 : Int32} {x2 : Int32} {σ : ZM} {res : Int32 × ZM} (h : f_Kiln_holds x0 x1 x2 σ = some res) : zMet mkI l 0 129 θ y_Kiln_holds b_Kiln_holds 13 (some .boolean) (zrm 1 60) [.ref (za θ x0), .int x1, .int x2] σ res := by
  unfold f_Kiln_holds at h
  obtain ⟨hx0, h⟩ := zck_i h
  refine z_met (lv := [(0, .ref (za θ x0)), (1, .int x1), (2, .int x2)]) (by decide +kernel) rfl (Nat.le_of_ble_eq_true rfl) (by decide) ?_
  refine z_lconst (v := 0) d_Kiln_holds_0 (by decide) ?_
  refine z_lstore_n d_Kiln_holds_1 rfl (by decide) rfl ?_
  refine z_iload_n 2 d_Kiln_holds_2 rfl rfl ?_
  refine z_istore d_Kiln_holds_3 (by decide) rfl ?_
  refine z_sub [2, 4, 1, 0] rfl ?_
  exact zl_Kiln_holds_5 2000 (x0, x2, (0 : Int64), x1, σ) hx0 h
theorem d_Kiln_sum_0 : decode b_Kiln_sum 0 = .ok (.iconst (0), 1) := by decide +kernel
theorem d_Kiln_sum_1 : decode b_Kiln_sum 1 = .ok (.istore_n 2, 1) := by decide +kernel
theorem d_Kiln_sum_2 : decode b_Kiln_sum 2 = .ok (.iconst (0), 1) := by decide +kernel
theorem d_Kiln_sum_3 : decode b_Kiln_sum 3 = .ok (.istore_n 3, 1) := by decide +kernel
theorem d_Kiln_sum_4 : decode b_Kiln_sum 4 = .ok (.iconst (0), 1) := by decide +kernel
theorem d_Kiln_sum_5 : decode b_Kiln_sum 5 = .ok (.istore 4, 2) := by decide +kernel
theorem d_Kiln_sum_7 : decode b_Kiln_sum 7 = .ok (.iload 4, 2) := by decide +kernel
theorem d_Kiln_sum_9 : decode b_Kiln_sum 9 = .ok (.aload_n 0, 1) := by decide +kernel
theorem d_Kiln_sum_10 : decode b_Kiln_sum 10 = .ok (.getfield 33, 3) := by decide +kernel
theorem d_Kiln_sum_13 : decode b_Kiln_sum 13 = .ok (.if_icmp .ge (53), 3) := by decide +kernel
theorem d_Kiln_sum_16 : decode b_Kiln_sum 16 = .ok (.aload_n 0, 1) := by decide +kernel
theorem d_Kiln_sum_17 : decode b_Kiln_sum 17 = .ok (.getfield 11, 3) := by decide +kernel
theorem d_Kiln_sum_20 : decode b_Kiln_sum 20 = .ok (.iload 4, 2) := by decide +kernel
theorem d_Kiln_sum_22 : decode b_Kiln_sum 22 = .ok (.iaload, 1) := by decide +kernel
theorem d_Kiln_sum_23 : decode b_Kiln_sum 23 = .ok (.iload_n 1, 1) := by decide +kernel
theorem d_Kiln_sum_24 : decode b_Kiln_sum 24 = .ok (.if_icmp .ne (28), 3) := by decide +kernel
theorem d_Kiln_sum_27 : decode b_Kiln_sum 27 = .ok (.aload_n 0, 1) := by decide +kernel
theorem d_Kiln_sum_28 : decode b_Kiln_sum 28 = .ok (.iload_n 3, 1) := by decide +kernel
theorem d_Kiln_sum_29 : decode b_Kiln_sum 29 = .ok (.aload_n 0, 1) := by decide +kernel
theorem d_Kiln_sum_30 : decode b_Kiln_sum 30 = .ok (.getfield 18, 3) := by decide +kernel
theorem d_Kiln_sum_33 : decode b_Kiln_sum 33 = .ok (.iload 4, 2) := by decide +kernel
theorem d_Kiln_sum_35 : decode b_Kiln_sum 35 = .ok (.iaload, 1) := by decide +kernel
theorem d_Kiln_sum_36 : decode b_Kiln_sum 36 = .ok (.invokevirtual 53, 3) := by decide +kernel
theorem d_Kiln_sum_39 : decode b_Kiln_sum 39 = .ok (.ifCond .eq (13), 3) := by decide +kernel
theorem d_Kiln_sum_42 : decode b_Kiln_sum 42 = .ok (.iload_n 2, 1) := by decide +kernel
theorem d_Kiln_sum_43 : decode b_Kiln_sum 43 = .ok (.aload_n 0, 1) := by decide +kernel
theorem d_Kiln_sum_44 : decode b_Kiln_sum 44 = .ok (.getfield 15, 3) := by decide +kernel
theorem d_Kiln_sum_47 : decode b_Kiln_sum 47 = .ok (.iload 4, 2) := by decide +kernel
theorem d_Kiln_sum_49 : decode b_Kiln_sum 49 = .ok (.iaload, 1) := by decide +kernel
theorem d_Kiln_sum_50 : decode b_Kiln_sum 50 = .ok (.iadd, 1) := by decide +kernel
theorem d_Kiln_sum_51 : decode b_Kiln_sum 51 = .ok (.istore_n 2, 1) := by decide +kernel
theorem d_Kiln_sum_52 : decode b_Kiln_sum 52 = .ok (.aload_n 0, 1) := by decide +kernel
theorem d_Kiln_sum_53 : decode b_Kiln_sum 53 = .ok (.getfield 18, 3) := by decide +kernel
theorem d_Kiln_sum_56 : decode b_Kiln_sum 56 = .ok (.iload 4, 2) := by decide +kernel
theorem d_Kiln_sum_58 : decode b_Kiln_sum 58 = .ok (.iaload, 1) := by decide +kernel
theorem d_Kiln_sum_59 : decode b_Kiln_sum 59 = .ok (.istore_n 3, 1) := by decide +kernel
theorem d_Kiln_sum_60 : decode b_Kiln_sum 60 = .ok (.iinc 4 (1), 3) := by decide +kernel
theorem d_Kiln_sum_63 : decode b_Kiln_sum 63 = .ok (.goto (-56), 3) := by decide +kernel
theorem d_Kiln_sum_66 : decode b_Kiln_sum 66 = .ok (.iload_n 2, 1) := by decide +kernel
theorem d_Kiln_sum_67 : decode b_Kiln_sum 67 = .ok (.ireturn, 1) := by decide +kernel
theorem zb_Kiln_sum_52 {l : Launch} {θ : ZT} {res : Int32 × ZM} {k7 : Nat × Int32 × Int32 × Int32 × Int32 × ZM → Option (Int32 × ZM)} (hk7 : ∀ a : Nat × Int32 × Int32 × Int32 × Int32 × ZM, zR 0 129 a.1 15 0 = true → k7 a = some res → WZ l b_Kiln_sum 5 (some .int) "BakedBefore$Kiln" 0 129 θ (zrm 2 92) (zQ mkI 0 129 θ res) a.2.2.2.2.2 [(0, .ref (za θ a.1)), (1, .int a.2.1), (2, .int a.2.2.1), (3, .int a.2.2.2.1), (4, .int a.2.2.2.2.1)] 7 []) {x0 : Nat} {x1 : Int32} {x2 : Int32} {x4 : Int32} {σ : ZM} (hx0 : zR 0 129 x0 15 0 = true) (h : f_Kiln_sum_52 k7 x0 x1 x2 x4 σ = some res) : WZ l b_Kiln_sum 5 (some .int) "BakedBefore$Kiln" 0 129 θ (zrm 2 92) (zQ mkI 0 129 θ res) σ [(0, .ref (za θ x0)), (1, .int x1), (2, .int x2), (4, .int x4)] 52 [] := by
  unfold f_Kiln_sum_52 at h
  refine z_aload_n 0 d_Kiln_sum_52 rfl rfl ?_
  refine gf_Kiln_ends (o2 := x0 + 21) hx0 rfl d_Kiln_sum_53 q_174 ?_
  refine z_iload 3 d_Kiln_sum_56 rfl ?_
  obtain ⟨c1, h⟩ := zck_i h
  refine w_iald (zr_Kiln_ends hx0) c1 d_Kiln_sum_58 ?_
  refine z_istore_n d_Kiln_sum_59 rfl (by decide) rfl ?_
  refine z_iinc (v := x4 + (1 : Int32)) 4 d_Kiln_sum_60 rfl rfl (by decide) rfl ?_
  refine z_goto (tgt := 7) d_Kiln_sum_63 (by decide) ?_
  refine z_sub [2, 3, 4, 1, 0] rfl ?_
  exact hk7 (x0, x1, x2, (zI σ (x0 + 21) x4.toNatClampNeg), (x4 + (1 : Int32)), σ) hx0 h
theorem zb_Kiln_sum_7 {l : Launch} {θ : ZT} {res : Int32 × ZM} {k7 : Nat × Int32 × Int32 × Int32 × Int32 × ZM → Option (Int32 × ZM)} (hk7 : ∀ a : Nat × Int32 × Int32 × Int32 × Int32 × ZM, zR 0 129 a.1 15 0 = true → k7 a = some res → WZ l b_Kiln_sum 5 (some .int) "BakedBefore$Kiln" 0 129 θ (zrm 2 92) (zQ mkI 0 129 θ res) a.2.2.2.2.2 [(0, .ref (za θ a.1)), (1, .int a.2.1), (2, .int a.2.2.1), (3, .int a.2.2.2.1), (4, .int a.2.2.2.2.1)] 7 []) {x0 : Nat} {x1 : Int32} {x2 : Int32} {x3 : Int32} {x4 : Int32} {σ : ZM} (hx0 : zR 0 129 x0 15 0 = true) (h : f_Kiln_sum_7 k7 x0 x1 x2 x3 x4 σ = some res) : WZ l b_Kiln_sum 5 (some .int) "BakedBefore$Kiln" 0 129 θ (zrm 2 92) (zQ mkI 0 129 θ res) σ [(0, .ref (za θ x0)), (1, .int x1), (2, .int x2), (3, .int x3), (4, .int x4)] 7 [] := by
  unfold f_Kiln_sum_7 at h
  refine z_iload 4 d_Kiln_sum_7 rfl ?_
  refine z_aload_n 0 d_Kiln_sum_9 rfl rfl ?_
  refine gf_Kiln_clauses hx0 d_Kiln_sum_10 q_177 ?_
  refine z_icmp_ge (tgt := 66) d_Kiln_sum_13 (by decide) (fun c1 => ?_) (fun c1 => ?_)
  · have h := (if_pos c1).symm.trans h
    refine z_iload_n 2 d_Kiln_sum_66 rfl rfl ?_
    exact z_iret d_Kiln_sum_67 h
  · have h := (if_neg c1).symm.trans h
    refine z_aload_n 0 d_Kiln_sum_16 rfl rfl ?_
    refine gf_Kiln_words (o2 := x0 + 7) hx0 rfl d_Kiln_sum_17 q_172 ?_
    refine z_iload 4 d_Kiln_sum_20 rfl ?_
    obtain ⟨c2, h⟩ := zck_i h
    refine w_iald (zr_Kiln_words hx0) c2 d_Kiln_sum_22 ?_
    refine z_iload_n 1 d_Kiln_sum_23 rfl rfl ?_
    refine z_icmp_ne (tgt := 52) d_Kiln_sum_24 (by decide) (fun c3 => ?_) (fun c3 => ?_)
    · have h := (if_neg c3).symm.trans h
      refine z_sub [0, 1, 2, 4] rfl ?_
      exact zb_Kiln_sum_52 hk7 hx0 h
    · have h := (if_pos c3).symm.trans h
      refine z_aload_n 0 d_Kiln_sum_27 rfl rfl ?_
      refine z_iload_n 3 d_Kiln_sum_28 rfl rfl ?_
      refine z_aload_n 0 d_Kiln_sum_29 rfl rfl ?_
      refine gf_Kiln_ends (o2 := x0 + 21) hx0 rfl d_Kiln_sum_30 q_174 ?_
      refine z_iload 4 d_Kiln_sum_33 rfl ?_
      obtain ⟨c4, h⟩ := zck_i h
      refine w_iald (zr_Kiln_ends hx0) c4 d_Kiln_sum_35 ?_
      obtain ⟨⟨v5, s6⟩, e7, h⟩ := zbd_i h
      refine w_callV (As := [.int x3, .int (zI σ (x0 + 21) x4.toNatClampNeg)]) (kc := 15) (ci := 5) (c_Kiln_holds l θ e7) cf_Kiln_holds q_375 d_Kiln_sum_36 hx0 rfl rfl rfl rfl rfl rfl (Nat.le_of_ble_eq_true rfl) rfl rfl ⟨Nat.le_of_ble_eq_true rfl, Nat.le_of_ble_eq_true rfl⟩ ?_
      refine z_if_eq (tgt := 52) d_Kiln_sum_39 (by decide) (fun c8 => ?_) (fun c8 => ?_)
      · have h := (if_pos c8).symm.trans h
        refine z_sub [0, 1, 2, 4] rfl ?_
        exact zb_Kiln_sum_52 hk7 hx0 h
      · have h := (if_neg c8).symm.trans h
        refine z_iload_n 2 d_Kiln_sum_42 rfl rfl ?_
        refine z_aload_n 0 d_Kiln_sum_43 rfl rfl ?_
        refine gf_Kiln_numbers (o2 := x0 + 14) hx0 rfl d_Kiln_sum_44 q_173 ?_
        refine z_iload 4 d_Kiln_sum_47 rfl ?_
        obtain ⟨c9, h⟩ := zck_i h
        refine w_iald (zr_Kiln_numbers hx0) c9 d_Kiln_sum_49 ?_
        refine z_iadd d_Kiln_sum_50 ?_
        refine z_istore_n d_Kiln_sum_51 rfl (by decide) rfl ?_
        refine z_sub [1, 2, 0, 4] rfl ?_
        exact zb_Kiln_sum_52 hk7 hx0 h
theorem zl_Kiln_sum_7 {l : Launch} {θ : ZT} {res : Int32 × ZM} : ∀ (N : Nat) (a : Nat × Int32 × Int32 × Int32 × Int32 × ZM), zR 0 129 a.1 15 0 = true → F_Kiln_sum_7 N a = some res → WZ l b_Kiln_sum 5 (some .int) "BakedBefore$Kiln" 0 129 θ (zrm 2 92) (zQ mkI 0 129 θ res) a.2.2.2.2.2 [(0, .ref (za θ a.1)), (1, .int a.2.1), (2, .int a.2.2.1), (3, .int a.2.2.2.1), (4, .int a.2.2.2.2.1)] 7 [] := by
  intro N
  induction N with
  | zero => intro a hx0 h; cases (show (none : Option (Int32 × ZM)) = some res from h)
  | succ N ih => intro a hx0 h; exact zb_Kiln_sum_7 ih hx0 (show f_Kiln_sum_7 (F_Kiln_sum_7 N) a.1 a.2.1 a.2.2.1 a.2.2.2.1 a.2.2.2.2.1 a.2.2.2.2.2 = some res from h)
theorem c_Kiln_sum (l : Launch) (θ : ZT) {x0 : Nat} {x1 : Int32} {σ : ZM} {res : Int32 × ZM} (h : f_Kiln_sum x0 x1 σ = some res) : zMet mkI l 0 129 θ y_Kiln_sum b_Kiln_sum 5 (some .int) (zrm 2 92) [.ref (za θ x0), .int x1] σ res := by
  unfold f_Kiln_sum at h
  obtain ⟨hx0, h⟩ := zck_i h
  refine z_met (lv := [(0, .ref (za θ x0)), (1, .int x1)]) (by decide +kernel) rfl (Nat.le_of_ble_eq_true rfl) (by decide) ?_
  refine z_iconst (v := 0) d_Kiln_sum_0 (by decide) ?_
  refine z_istore_n d_Kiln_sum_1 rfl (by decide) rfl ?_
  refine z_iconst (v := 0) d_Kiln_sum_2 (by decide) ?_
  refine z_istore_n d_Kiln_sum_3 rfl (by decide) rfl ?_
  refine z_iconst (v := 0) d_Kiln_sum_4 (by decide) ?_
  refine z_istore d_Kiln_sum_5 (by decide) rfl ?_
  refine z_sub [3, 4, 2, 1, 0] rfl ?_
  exact zl_Kiln_sum_7 2000 (x0, x1, (0 : Int32), (0 : Int32), (0 : Int32), σ) hx0 h
theorem d_Baker_feeOf_0 : decode b_Baker_feeOf 0 = .ok (.aload_n 0, 1) := by decide +kernel
theorem d_Baker_feeOf_1 : decode b_Baker_feeOf 1 = .ok (.getfield 9, 3) := by decide +kernel
theorem d_Baker_feeOf_4 : decode b_Baker_feeOf 4 = .ok (.aload_n 1, 1) := by decide +kernel
theorem d_Baker_feeOf_5 : decode b_Baker_feeOf 5 = .ok (.bipush (99), 2) := by decide +kernel
theorem d_Baker_feeOf_7 : decode b_Baker_feeOf 7 = .ok (.bipush (99), 2) := by decide +kernel
theorem d_Baker_feeOf_9 : decode b_Baker_feeOf 9 = .ok (.iload_n 2, 1) := by decide +kernel
theorem d_Baker_feeOf_10 : decode b_Baker_feeOf 10 = .ok (.invokevirtual 21, 3) := by decide +kernel
theorem d_Baker_feeOf_13 : decode b_Baker_feeOf 13 = .ok (.iconst (1), 1) := by decide +kernel
theorem d_Baker_feeOf_14 : decode b_Baker_feeOf 14 = .ok (.aload_n 0, 1) := by decide +kernel
theorem d_Baker_feeOf_15 : decode b_Baker_feeOf 15 = .ok (.getfield 9, 3) := by decide +kernel
theorem d_Baker_feeOf_18 : decode b_Baker_feeOf 18 = .ok (.iconst (3), 1) := by decide +kernel
theorem d_Baker_feeOf_19 : decode b_Baker_feeOf 19 = .ok (.invokevirtual 25, 3) := by decide +kernel
theorem d_Baker_feeOf_22 : decode b_Baker_feeOf 22 = .ok (.iadd, 1) := by decide +kernel
theorem d_Baker_feeOf_23 : decode b_Baker_feeOf 23 = .ok (.ireturn, 1) := by decide +kernel
theorem c_Baker_feeOf (l : Launch) (θ : ZT) {x1 : Nat} {x2 : Int32} {σ : ZM} {res : Int32 × ZM} (h : f_Baker_feeOf x1 x2 σ = some res) : zMet mkI l 0 129 θ y_Baker_feeOf b_Baker_feeOf 3 (some .int) (zrm 3 116) [.ref (za θ 5), .ref (za θ x1), .int x2] σ res := by
  unfold f_Baker_feeOf at h
  obtain ⟨hx1, h⟩ := zck_i h
  refine z_met (lv := [(0, .ref (za θ 5)), (1, .ref (za θ x1)), (2, .int x2)]) (by decide +kernel) rfl (Nat.le_of_ble_eq_true rfl) (by decide) ?_
  refine z_aload_n 0 d_Baker_feeOf_0 rfl rfl ?_
  obtain ⟨c1, h⟩ := zck_i h
  refine gf_Baker_kiln zl_5 c1 d_Baker_feeOf_1 q_209 ?_
  refine z_aload_n 1 d_Baker_feeOf_4 rfl rfl ?_
  refine z_bipush (v := 99) d_Baker_feeOf_5 (by decide) ?_
  refine z_bipush (v := 99) d_Baker_feeOf_7 (by decide) ?_
  refine z_iload_n 2 d_Baker_feeOf_9 rfl rfl ?_
  obtain ⟨⟨v2, s3⟩, e4, h⟩ := zbd_i h
  refine w_callV (As := [.ref (za θ x1), .int (99 : Int32), .int (99 : Int32), .int x2]) (kc := 15) (ci := 5) (c_Kiln_lookAt l θ e4) cf_Kiln_lookAt q_367 d_Baker_feeOf_10 c1 rfl rfl rfl rfl rfl rfl (Nat.le_of_ble_eq_true rfl) rfl rfl ⟨Nat.le_of_ble_eq_true rfl, Nat.le_of_ble_eq_true rfl⟩ ?_
  refine z_iconst (v := 1) d_Baker_feeOf_13 (by decide) ?_
  refine z_aload_n 0 d_Baker_feeOf_14 rfl rfl ?_
  obtain ⟨c5, h⟩ := zck_i h
  refine gf_Baker_kiln zl_5 c5 d_Baker_feeOf_15 q_209 ?_
  refine z_iconst (v := 3) d_Baker_feeOf_18 (by decide) ?_
  obtain ⟨⟨v6, s7⟩, e8, h⟩ := zbd_i h
  refine w_callV (As := [.int (3 : Int32)]) (kc := 15) (ci := 5) (c_Kiln_sum l θ e8) cf_Kiln_sum q_371 d_Baker_feeOf_19 c5 rfl rfl rfl rfl rfl rfl (Nat.le_of_ble_eq_true rfl) rfl rfl ⟨Nat.le_of_ble_eq_true rfl, Nat.le_of_ble_eq_true rfl⟩ ?_
  refine z_iadd d_Baker_feeOf_22 ?_
  exact z_iret d_Baker_feeOf_23 h
theorem d_Baker_partOf_0 : decode b_Baker_partOf 0 = .ok (.aload_n 0, 1) := by decide +kernel
theorem d_Baker_partOf_1 : decode b_Baker_partOf 1 = .ok (.getfield 9, 3) := by decide +kernel
theorem d_Baker_partOf_4 : decode b_Baker_partOf 4 = .ok (.getfield 15, 3) := by decide +kernel
theorem d_Baker_partOf_7 : decode b_Baker_partOf 7 = .ok (.ifCond .ne (6), 3) := by decide +kernel
theorem d_Baker_partOf_10 : decode b_Baker_partOf 10 = .ok (.bipush (50), 2) := by decide +kernel
theorem d_Baker_partOf_12 : decode b_Baker_partOf 12 = .ok (.ireturn, 1) := by decide +kernel
theorem d_Baker_partOf_13 : decode b_Baker_partOf 13 = .ok (.aload_n 0, 1) := by decide +kernel
theorem d_Baker_partOf_14 : decode b_Baker_partOf 14 = .ok (.getfield 9, 3) := by decide +kernel
theorem d_Baker_partOf_17 : decode b_Baker_partOf 17 = .ok (.aload_n 1, 1) := by decide +kernel
theorem d_Baker_partOf_18 : decode b_Baker_partOf 18 = .ok (.iload_n 2, 1) := by decide +kernel
theorem d_Baker_partOf_19 : decode b_Baker_partOf 19 = .ok (.iload_n 3, 1) := by decide +kernel
theorem d_Baker_partOf_20 : decode b_Baker_partOf 20 = .ok (.bipush (10), 2) := by decide +kernel
theorem d_Baker_partOf_22 : decode b_Baker_partOf 22 = .ok (.idiv, 1) := by decide +kernel
theorem d_Baker_partOf_23 : decode b_Baker_partOf 23 = .ok (.iload 4, 2) := by decide +kernel
theorem d_Baker_partOf_25 : decode b_Baker_partOf 25 = .ok (.invokevirtual 21, 3) := by decide +kernel
theorem d_Baker_partOf_28 : decode b_Baker_partOf 28 = .ok (.aload_n 0, 1) := by decide +kernel
theorem d_Baker_partOf_29 : decode b_Baker_partOf 29 = .ok (.getfield 9, 3) := by decide +kernel
theorem d_Baker_partOf_32 : decode b_Baker_partOf 32 = .ok (.iconst (0), 1) := by decide +kernel
theorem d_Baker_partOf_33 : decode b_Baker_partOf 33 = .ok (.invokevirtual 25, 3) := by decide +kernel
theorem d_Baker_partOf_36 : decode b_Baker_partOf 36 = .ok (.ireturn, 1) := by decide +kernel
theorem c_Baker_partOf (l : Launch) (θ : ZT) {x1 : Nat} {x2 : Int32} {x3 : Int32} {x4 : Int32} {σ : ZM} {res : Int32 × ZM} (h : f_Baker_partOf x1 x2 x3 x4 σ = some res) : zMet mkI l 0 129 θ y_Baker_partOf b_Baker_partOf 5 (some .int) (zrm 3 116) [.ref (za θ 5), .ref (za θ x1), .int x2, .int x3, .int x4] σ res := by
  unfold f_Baker_partOf at h
  obtain ⟨hx1, h⟩ := zck_i h
  refine z_met (lv := [(0, .ref (za θ 5)), (1, .ref (za θ x1)), (2, .int x2), (3, .int x3), (4, .int x4)]) (by decide +kernel) rfl (Nat.le_of_ble_eq_true rfl) (by decide) ?_
  refine z_aload_n 0 d_Baker_partOf_0 rfl rfl ?_
  obtain ⟨c1, h⟩ := zck_i h
  refine gf_Baker_kiln zl_5 c1 d_Baker_partOf_1 q_209 ?_
  refine gf_Kiln_takeClauses c1 d_Baker_partOf_4 q_179 ?_
  refine z_if_ne (tgt := 13) d_Baker_partOf_7 (by decide) (fun c2 => ?_) (fun c2 => ?_)
  · have h := (if_neg c2).symm.trans h
    refine z_aload_n 0 d_Baker_partOf_13 rfl rfl ?_
    obtain ⟨c3, h⟩ := zck_i h
    refine gf_Baker_kiln zl_5 c3 d_Baker_partOf_14 q_209 ?_
    refine z_aload_n 1 d_Baker_partOf_17 rfl rfl ?_
    refine z_iload_n 2 d_Baker_partOf_18 rfl rfl ?_
    refine z_iload_n 3 d_Baker_partOf_19 rfl rfl ?_
    refine z_bipush (v := 10) d_Baker_partOf_20 (by decide) ?_
    refine z_idiv d_Baker_partOf_22 (by decide) ?_
    refine z_iload 4 d_Baker_partOf_23 rfl ?_
    obtain ⟨⟨v4, s5⟩, e6, h⟩ := zbd_i h
    refine w_callV (As := [.ref (za θ x1), .int x2, .int (x3 / (10 : Int32)), .int x4]) (kc := 15) (ci := 5) (c_Kiln_lookAt l θ e6) cf_Kiln_lookAt q_367 d_Baker_partOf_25 c3 rfl rfl rfl rfl rfl rfl (Nat.le_of_ble_eq_true rfl) rfl rfl ⟨Nat.le_of_ble_eq_true rfl, Nat.le_of_ble_eq_true rfl⟩ ?_
    refine z_aload_n 0 d_Baker_partOf_28 rfl rfl ?_
    obtain ⟨c7, h⟩ := zck_i h
    refine gf_Baker_kiln zl_5 c7 d_Baker_partOf_29 q_209 ?_
    refine z_iconst (v := 0) d_Baker_partOf_32 (by decide) ?_
    obtain ⟨⟨v8, s9⟩, e10, h⟩ := zbd_i h
    refine w_callV (As := [.int (0 : Int32)]) (kc := 15) (ci := 5) (c_Kiln_sum l θ e10) cf_Kiln_sum q_371 d_Baker_partOf_33 c7 rfl rfl rfl rfl rfl rfl (Nat.le_of_ble_eq_true rfl) rfl rfl ⟨Nat.le_of_ble_eq_true rfl, Nat.le_of_ble_eq_true rfl⟩ ?_
    exact z_iret d_Baker_partOf_36 h
  · have h := (if_pos c2).symm.trans h
    refine z_bipush (v := 50) d_Baker_partOf_10 (by decide) ?_
    exact z_iret d_Baker_partOf_12 h
theorem d_Baker_amount_0 : decode b_Baker_amount 0 = .ok (.iload_n 2, 1) := by decide +kernel
theorem d_Baker_amount_1 : decode b_Baker_amount 1 = .ok (.iload_n 3, 1) := by decide +kernel
theorem d_Baker_amount_2 : decode b_Baker_amount 2 = .ok (.imul, 1) := by decide +kernel
theorem d_Baker_amount_3 : decode b_Baker_amount 3 = .ok (.bipush (100), 2) := by decide +kernel
theorem d_Baker_amount_5 : decode b_Baker_amount 5 = .ok (.idiv, 1) := by decide +kernel
theorem d_Baker_amount_6 : decode b_Baker_amount 6 = .ok (.istore 4, 2) := by decide +kernel
theorem d_Baker_amount_8 : decode b_Baker_amount 8 = .ok (.iload 4, 2) := by decide +kernel
theorem d_Baker_amount_10 : decode b_Baker_amount 10 = .ok (.istore 5, 2) := by decide +kernel
theorem d_Baker_amount_12 : decode b_Baker_amount 12 = .ok (.aload_n 0, 1) := by decide +kernel
theorem d_Baker_amount_13 : decode b_Baker_amount 13 = .ok (.getfield 29, 3) := by decide +kernel
theorem d_Baker_amount_16 : decode b_Baker_amount 16 = .ok (.tableswitch (100) (1) (6) #[40, 46, 55, 71, 46, 82], 40) := by decide +kernel
theorem d_Baker_amount_56 : decode b_Baker_amount 56 = .ok (.iload_n 3, 1) := by decide +kernel
theorem d_Baker_amount_57 : decode b_Baker_amount 57 = .ok (.istore 5, 2) := by decide +kernel
theorem d_Baker_amount_59 : decode b_Baker_amount 59 = .ok (.goto (57), 3) := by decide +kernel
theorem d_Baker_amount_62 : decode b_Baker_amount 62 = .ok (.iconst (2), 1) := by decide +kernel
theorem d_Baker_amount_63 : decode b_Baker_amount 63 = .ok (.iload 4, 2) := by decide +kernel
theorem d_Baker_amount_65 : decode b_Baker_amount 65 = .ok (.imul, 1) := by decide +kernel
theorem d_Baker_amount_66 : decode b_Baker_amount 66 = .ok (.istore 5, 2) := by decide +kernel
theorem d_Baker_amount_68 : decode b_Baker_amount 68 = .ok (.goto (48), 3) := by decide +kernel
theorem d_Baker_amount_71 : decode b_Baker_amount 71 = .ok (.iload 4, 2) := by decide +kernel
theorem d_Baker_amount_73 : decode b_Baker_amount 73 = .ok (.aload_n 0, 1) := by decide +kernel
theorem d_Baker_amount_74 : decode b_Baker_amount 74 = .ok (.getfield 34, 3) := by decide +kernel
theorem d_Baker_amount_77 : decode b_Baker_amount 77 = .ok (.iload_n 1, 1) := by decide +kernel
theorem d_Baker_amount_78 : decode b_Baker_amount 78 = .ok (.iaload, 1) := by decide +kernel
theorem d_Baker_amount_79 : decode b_Baker_amount 79 = .ok (.invokestatic 38, 3) := by decide +kernel
theorem d_Baker_amount_82 : decode b_Baker_amount 82 = .ok (.istore 5, 2) := by decide +kernel
theorem d_Baker_amount_84 : decode b_Baker_amount 84 = .ok (.goto (32), 3) := by decide +kernel
theorem d_Baker_amount_87 : decode b_Baker_amount 87 = .ok (.iload_n 3, 1) := by decide +kernel
theorem d_Baker_amount_88 : decode b_Baker_amount 88 = .ok (.aload_n 0, 1) := by decide +kernel
theorem d_Baker_amount_89 : decode b_Baker_amount 89 = .ok (.getfield 44, 3) := by decide +kernel
theorem d_Baker_amount_92 : decode b_Baker_amount 92 = .ok (.isub, 1) := by decide +kernel
theorem d_Baker_amount_93 : decode b_Baker_amount 93 = .ok (.istore 5, 2) := by decide +kernel
theorem d_Baker_amount_95 : decode b_Baker_amount 95 = .ok (.goto (21), 3) := by decide +kernel
theorem d_Baker_amount_98 : decode b_Baker_amount 98 = .ok (.iload 4, 2) := by decide +kernel
theorem d_Baker_amount_100 : decode b_Baker_amount 100 = .ok (.aload_n 0, 1) := by decide +kernel
theorem d_Baker_amount_101 : decode b_Baker_amount 101 = .ok (.getfield 34, 3) := by decide +kernel
theorem d_Baker_amount_104 : decode b_Baker_amount 104 = .ok (.iload_n 1, 1) := by decide +kernel
theorem d_Baker_amount_105 : decode b_Baker_amount 105 = .ok (.iaload, 1) := by decide +kernel
theorem d_Baker_amount_106 : decode b_Baker_amount 106 = .ok (.invokestatic 38, 3) := by decide +kernel
theorem d_Baker_amount_109 : decode b_Baker_amount 109 = .ok (.iconst (2), 1) := by decide +kernel
theorem d_Baker_amount_110 : decode b_Baker_amount 110 = .ok (.idiv, 1) := by decide +kernel
theorem d_Baker_amount_111 : decode b_Baker_amount 111 = .ok (.istore 5, 2) := by decide +kernel
theorem d_Baker_amount_113 : decode b_Baker_amount 113 = .ok (.goto (3), 3) := by decide +kernel
theorem d_Baker_amount_116 : decode b_Baker_amount 116 = .ok (.iconst (0), 1) := by decide +kernel
theorem d_Baker_amount_117 : decode b_Baker_amount 117 = .ok (.iload 5, 2) := by decide +kernel
theorem d_Baker_amount_119 : decode b_Baker_amount 119 = .ok (.iload_n 3, 1) := by decide +kernel
theorem d_Baker_amount_120 : decode b_Baker_amount 120 = .ok (.invokestatic 38, 3) := by decide +kernel
theorem d_Baker_amount_123 : decode b_Baker_amount 123 = .ok (.invokestatic 47, 3) := by decide +kernel
theorem d_Baker_amount_126 : decode b_Baker_amount 126 = .ok (.ireturn, 1) := by decide +kernel
theorem zb_Baker_amount_116 {l : Launch} {θ : ZT} {res : Int32 × ZM} {x3 : Int32} {x5 : Int32} {σ : ZM} (h : f_Baker_amount_116 x3 x5 σ = some res) : WZ l b_Baker_amount 6 (some .int) "BakedBefore$Bake\x72" 0 129 θ (zrm 2 60) (zQ mkI 0 129 θ res) σ [(3, .int x3), (5, .int x5)] 116 [] := by
  unfold f_Baker_amount_116 at h
  refine z_iconst (v := 0) d_Baker_amount_116 (by decide) ?_
  refine z_iload 1 d_Baker_amount_117 rfl ?_
  refine z_iload_n 0 d_Baker_amount_119 rfl rfl ?_
  refine z_mmin d_Baker_amount_120 q_395 q_396 q_14 q_397 (by decide) (Nat.le_of_ble_eq_true rfl) ?_
  refine z_mmax d_Baker_amount_123 q_398 q_399 q_14 q_400 (by decide) (Nat.le_of_ble_eq_true rfl) ?_
  exact z_iret d_Baker_amount_126 h
theorem zb_Baker_amount_62 {l : Launch} {θ : ZT} {res : Int32 × ZM} {x3 : Int32} {x4 : Int32} {σ : ZM} (h : f_Baker_amount_62 x3 x4 σ = some res) : WZ l b_Baker_amount 6 (some .int) "BakedBefore$Bake\x72" 0 129 θ (zrm 2 60) (zQ mkI 0 129 θ res) σ [(3, .int x3), (4, .int x4)] 62 [] := by
  unfold f_Baker_amount_62 at h
  refine z_iconst (v := 2) d_Baker_amount_62 (by decide) ?_
  refine z_iload 1 d_Baker_amount_63 rfl ?_
  refine z_imul d_Baker_amount_65 ?_
  refine z_istore d_Baker_amount_66 (by decide) rfl ?_
  refine z_goto (tgt := 116) d_Baker_amount_68 (by decide) ?_
  refine z_sub [1, 0] rfl ?_
  exact zb_Baker_amount_116 h
theorem c_Baker_amount (l : Launch) (θ : ZT) {x0 : Nat} {x1 : Int32} {x2 : Int32} {x3 : Int32} {σ : ZM} {res : Int32 × ZM} (h : f_Baker_amount x0 x1 x2 x3 σ = some res) : zMet mkI l 0 129 θ y_Baker_amount b_Baker_amount 6 (some .int) (zrm 2 60) [.ref (za θ x0), .int x1, .int x2, .int x3] σ res := by
  unfold f_Baker_amount at h
  obtain ⟨hx0, h⟩ := zck_i h
  refine z_met (lv := [(0, .ref (za θ x0)), (1, .int x1), (2, .int x2), (3, .int x3)]) (by decide +kernel) rfl (Nat.le_of_ble_eq_true rfl) (by decide) ?_
  refine z_iload_n 2 d_Baker_amount_0 rfl rfl ?_
  refine z_iload_n 3 d_Baker_amount_1 rfl rfl ?_
  refine z_imul d_Baker_amount_2 ?_
  refine z_bipush (v := 100) d_Baker_amount_3 (by decide) ?_
  refine z_idiv d_Baker_amount_5 (by decide) ?_
  refine z_istore d_Baker_amount_6 (by decide) rfl ?_
  refine z_iload 0 d_Baker_amount_8 rfl ?_
  refine z_istore d_Baker_amount_10 (by decide) rfl ?_
  refine z_aload_n 2 d_Baker_amount_12 rfl rfl ?_
  refine gf_Loaf_kind hx0 d_Baker_amount_13 q_95 ?_
  by_cases c1 : (zI σ x0 3) = (1 : Int32)
  · have h := (if_pos c1).symm.trans h
    refine z_tableIn (k := 1) (off := 40) (tgt := 56) d_Baker_amount_16 c1 (by decide) ?_
    refine z_iload_n 5 d_Baker_amount_56 rfl rfl ?_
    refine z_istore d_Baker_amount_57 (by decide) rfl ?_
    refine z_goto (tgt := 116) d_Baker_amount_59 (by decide) ?_
    refine z_sub [5, 0] rfl ?_
    exact zb_Baker_amount_116 h
  have h := (if_neg c1).symm.trans h
  by_cases c2 : (zI σ x0 3) = (2 : Int32)
  · have h := (if_pos c2).symm.trans h
    refine z_tableIn (k := 2) (off := 46) (tgt := 62) d_Baker_amount_16 c2 (by decide) ?_
    refine z_sub [5, 1] rfl ?_
    exact zb_Baker_amount_62 h
  have h := (if_neg c2).symm.trans h
  by_cases c3 : (zI σ x0 3) = (3 : Int32)
  · have h := (if_pos c3).symm.trans h
    refine z_tableIn (k := 3) (off := 55) (tgt := 71) d_Baker_amount_16 c3 (by decide) ?_
    refine z_iload 1 d_Baker_amount_71 rfl ?_
    refine z_aload_n 2 d_Baker_amount_73 rfl rfl ?_
    refine gf_Loaf_bears (o2 := x0 + 24) hx0 rfl d_Baker_amount_74 q_92 ?_
    refine z_iload_n 3 d_Baker_amount_77 rfl rfl ?_
    obtain ⟨c4, h⟩ := zck_i h
    refine w_iald (zr_Loaf_bears hx0) c4 d_Baker_amount_78 ?_
    refine z_mmin d_Baker_amount_79 q_395 q_396 q_14 q_397 (by decide) (Nat.le_of_ble_eq_true rfl) ?_
    refine z_istore d_Baker_amount_82 (by decide) rfl ?_
    refine z_goto (tgt := 116) d_Baker_amount_84 (by decide) ?_
    refine z_sub [5, 0] rfl ?_
    exact zb_Baker_amount_116 h
  have h := (if_neg c3).symm.trans h
  by_cases c5 : (zI σ x0 3) = (4 : Int32)
  · have h := (if_pos c5).symm.trans h
    refine z_tableIn (k := 4) (off := 71) (tgt := 87) d_Baker_amount_16 c5 (by decide) ?_
    refine z_iload_n 5 d_Baker_amount_87 rfl rfl ?_
    refine z_aload_n 2 d_Baker_amount_88 rfl rfl ?_
    refine gf_Loaf_v hx0 d_Baker_amount_89 q_99 ?_
    refine z_isub d_Baker_amount_92 ?_
    refine z_istore d_Baker_amount_93 (by decide) rfl ?_
    refine z_goto (tgt := 116) d_Baker_amount_95 (by decide) ?_
    refine z_sub [5, 0] rfl ?_
    exact zb_Baker_amount_116 h
  have h := (if_neg c5).symm.trans h
  by_cases c6 : (zI σ x0 3) = (5 : Int32)
  · have h := (if_pos c6).symm.trans h
    refine z_tableIn (k := 5) (off := 46) (tgt := 62) d_Baker_amount_16 c6 (by decide) ?_
    refine z_sub [5, 1] rfl ?_
    exact zb_Baker_amount_62 h
  have h := (if_neg c6).symm.trans h
  by_cases c7 : (zI σ x0 3) = (6 : Int32)
  · have h := (if_pos c7).symm.trans h
    refine z_tableIn (k := 6) (off := 82) (tgt := 98) d_Baker_amount_16 c7 (by decide) ?_
    refine z_iload 1 d_Baker_amount_98 rfl ?_
    refine z_aload_n 2 d_Baker_amount_100 rfl rfl ?_
    refine gf_Loaf_bears (o2 := x0 + 24) hx0 rfl d_Baker_amount_101 q_92 ?_
    refine z_iload_n 3 d_Baker_amount_104 rfl rfl ?_
    obtain ⟨c8, h⟩ := zck_i h
    refine w_iald (zr_Loaf_bears hx0) c8 d_Baker_amount_105 ?_
    refine z_mmin d_Baker_amount_106 q_395 q_396 q_14 q_397 (by decide) (Nat.le_of_ble_eq_true rfl) ?_
    refine z_iconst (v := 2) d_Baker_amount_109 (by decide) ?_
    refine z_idiv d_Baker_amount_110 (by decide) ?_
    refine z_istore d_Baker_amount_111 (by decide) rfl ?_
    refine z_goto (tgt := 116) d_Baker_amount_113 (by decide) ?_
    refine z_sub [5, 0] rfl ?_
    exact zb_Baker_amount_116 h
  have h := (if_neg c7).symm.trans h
  have nc1 := lv_neT (a := 1) c1 (by decide)
  have nc2 := lv_neT (a := 2) c2 (by decide)
  have nc3 := lv_neT (a := 3) c3 (by decide)
  have nc5 := lv_neT (a := 4) c5 (by decide)
  have nc6 := lv_neT (a := 5) c6 (by decide)
  have nc7 := lv_neT (a := 6) c7 (by decide)
  refine z_tableOut (tgt := 116) d_Baker_amount_16 (by omega) (by decide) ?_
  refine z_sub [5, 0] rfl ?_
  exact zb_Baker_amount_116 h
theorem d_Baker_takes_0 : decode b_Baker_takes 0 = .ok (.aload_n 3, 1) := by decide +kernel
theorem d_Baker_takes_1 : decode b_Baker_takes 1 = .ok (.getfield 50, 3) := by decide +kernel
theorem d_Baker_takes_4 : decode b_Baker_takes 4 = .ok (.iload_n 2, 1) := by decide +kernel
theorem d_Baker_takes_5 : decode b_Baker_takes 5 = .ok (.iaload, 1) := by decide +kernel
theorem d_Baker_takes_6 : decode b_Baker_takes 6 = .ok (.istore 4, 2) := by decide +kernel
theorem d_Baker_takes_8 : decode b_Baker_takes 8 = .ok (.aload_n 1, 1) := by decide +kernel
theorem d_Baker_takes_9 : decode b_Baker_takes 9 = .ok (.iload_n 2, 1) := by decide +kernel
theorem d_Baker_takes_10 : decode b_Baker_takes 10 = .ok (.aload_n 0, 1) := by decide +kernel
theorem d_Baker_takes_11 : decode b_Baker_takes 11 = .ok (.aload_n 1, 1) := by decide +kernel
theorem d_Baker_takes_12 : decode b_Baker_takes 12 = .ok (.iload_n 2, 1) := by decide +kernel
theorem d_Baker_takes_13 : decode b_Baker_takes 13 = .ok (.iload 4, 2) := by decide +kernel
theorem d_Baker_takes_15 : decode b_Baker_takes 15 = .ok (.aload_n 3, 1) := by decide +kernel
theorem d_Baker_takes_16 : decode b_Baker_takes 16 = .ok (.getfield 55, 3) := by decide +kernel
theorem d_Baker_takes_19 : decode b_Baker_takes 19 = .ok (.invokevirtual 58, 3) := by decide +kernel
theorem d_Baker_takes_22 : decode b_Baker_takes 22 = .ok (.iload 4, 2) := by decide +kernel
theorem d_Baker_takes_24 : decode b_Baker_takes 24 = .ok (.invokestatic 62, 3) := by decide +kernel
theorem d_Baker_takes_27 : decode b_Baker_takes 27 = .ok (.ireturn, 1) := by decide +kernel
theorem c_Baker_takes (l : Launch) (θ : ZT) {x1 : Nat} {x2 : Int32} {x3 : Nat} {σ : ZM} {res : Int32 × ZM} (h : f_Baker_takes x1 x2 x3 σ = some res) : zMet mkI l 0 129 θ y_Baker_takes b_Baker_takes 5 (some .int) (zrm 4 140) [.ref (za θ 5), .ref (za θ x1), .int x2, .ref (za θ x3)] σ res := by
  unfold f_Baker_takes at h
  obtain ⟨hx1, h⟩ := zck_i h
  obtain ⟨hx3, h⟩ := zck_i h
  refine z_met (lv := [(0, .ref (za θ 5)), (1, .ref (za θ x1)), (2, .int x2), (3, .ref (za θ x3))]) (by decide +kernel) rfl (Nat.le_of_ble_eq_true rfl) (by decide) ?_
  refine z_aload_n 3 d_Baker_takes_0 rfl rfl ?_
  refine gf_Oven_held (o2 := x3 + 9) hx3 rfl d_Baker_takes_1 q_44 ?_
  refine z_iload_n 2 d_Baker_takes_4 rfl rfl ?_
  obtain ⟨c1, h⟩ := zck_i h
  refine w_iald (zr_Oven_held hx3) c1 d_Baker_takes_5 ?_
  refine z_istore d_Baker_takes_6 (by decide) rfl ?_
  refine z_aload_n 2 d_Baker_takes_8 rfl rfl ?_
  refine z_iload_n 3 d_Baker_takes_9 rfl rfl ?_
  refine z_aload_n 1 d_Baker_takes_10 rfl rfl ?_
  refine z_aload_n 2 d_Baker_takes_11 rfl rfl ?_
  refine z_iload_n 3 d_Baker_takes_12 rfl rfl ?_
  refine z_iload 0 d_Baker_takes_13 rfl ?_
  refine z_aload_n 4 d_Baker_takes_15 rfl rfl ?_
  refine gf_Oven_hour hx3 d_Baker_takes_16 q_49 ?_
  obtain ⟨⟨v2, s3⟩, e4, h⟩ := zbd_i h
  refine w_callV (As := [.ref (za θ x1), .int x2, .int (zI σ (x3 + 9) x2.toNatClampNeg), .int (zI σ x3 1)]) (kc := 13) (ci := 3) (c_Baker_partOf l θ e4) cf_Baker_partOf q_388 d_Baker_takes_19 zl_5 rfl rfl rfl rfl rfl rfl (Nat.le_of_ble_eq_true rfl) rfl rfl ⟨Nat.le_of_ble_eq_true rfl, Nat.le_of_ble_eq_true rfl⟩ ?_
  refine z_iload 0 d_Baker_takes_22 rfl ?_
  obtain ⟨⟨v5, s6⟩, e7, h⟩ := zbd_i h
  refine w_callS (As := [.ref (za θ x1), .int x2, .int v2, .int (zI σ (x3 + 9) x2.toNatClampNeg)]) (c_Baker_amount l θ e7) cf_Baker_amount q_392 d_Baker_takes_24 rfl rfl rfl (Nat.le_of_ble_eq_true rfl) rfl rfl ⟨Nat.le_of_ble_eq_true rfl, Nat.le_of_ble_eq_true rfl⟩ ?_
  exact z_iret d_Baker_takes_27 h
theorem d_Baker_spoils_0 : decode b_Baker_spoils 0 = .ok (.iconst (0), 1) := by decide +kernel
theorem d_Baker_spoils_1 : decode b_Baker_spoils 1 = .ok (.istore_n 3, 1) := by decide +kernel
theorem d_Baker_spoils_2 : decode b_Baker_spoils 2 = .ok (.iload_n 3, 1) := by decide +kernel
theorem d_Baker_spoils_3 : decode b_Baker_spoils 3 = .ok (.iconst (4), 1) := by decide +kernel
theorem d_Baker_spoils_4 : decode b_Baker_spoils 4 = .ok (.if_icmp .ge (27), 3) := by decide +kernel
theorem d_Baker_spoils_7 : decode b_Baker_spoils 7 = .ok (.aload_n 0, 1) := by decide +kernel
theorem d_Baker_spoils_8 : decode b_Baker_spoils 8 = .ok (.aload_n 1, 1) := by decide +kernel
theorem d_Baker_spoils_9 : decode b_Baker_spoils 9 = .ok (.iload_n 3, 1) := by decide +kernel
theorem d_Baker_spoils_10 : decode b_Baker_spoils 10 = .ok (.aload_n 2, 1) := by decide +kernel
theorem d_Baker_spoils_11 : decode b_Baker_spoils 11 = .ok (.invokevirtual 65, 3) := by decide +kernel
theorem d_Baker_spoils_14 : decode b_Baker_spoils 14 = .ok (.aload_n 1, 1) := by decide +kernel
theorem d_Baker_spoils_15 : decode b_Baker_spoils 15 = .ok (.getfield 34, 3) := by decide +kernel
theorem d_Baker_spoils_18 : decode b_Baker_spoils 18 = .ok (.iload_n 3, 1) := by decide +kernel
theorem d_Baker_spoils_19 : decode b_Baker_spoils 19 = .ok (.iaload, 1) := by decide +kernel
theorem d_Baker_spoils_20 : decode b_Baker_spoils 20 = .ok (.if_icmp .le (5), 3) := by decide +kernel
theorem d_Baker_spoils_23 : decode b_Baker_spoils 23 = .ok (.iconst (1), 1) := by decide +kernel
theorem d_Baker_spoils_24 : decode b_Baker_spoils 24 = .ok (.ireturn, 1) := by decide +kernel
theorem d_Baker_spoils_25 : decode b_Baker_spoils 25 = .ok (.iinc 3 (1), 3) := by decide +kernel
theorem d_Baker_spoils_28 : decode b_Baker_spoils 28 = .ok (.goto (-26), 3) := by decide +kernel
theorem d_Baker_spoils_31 : decode b_Baker_spoils 31 = .ok (.iconst (0), 1) := by decide +kernel
theorem d_Baker_spoils_32 : decode b_Baker_spoils 32 = .ok (.ireturn, 1) := by decide +kernel
theorem zb_Baker_spoils_2 {l : Launch} {θ : ZT} {res : Int32 × ZM} {k2 : Nat × Nat × Int32 × ZM → Option (Int32 × ZM)} (hk2 : ∀ a : Nat × Nat × Int32 × ZM, zR 0 129 a.1 16 0 = true → zR 0 129 a.2.1 17 0 = true → k2 a = some res → WZ l b_Baker_spoils 4 (some .boolean) "BakedBefore$Bake\x72" 0 129 θ (zrm 5 164) (zQ mkI 0 129 θ res) a.2.2.2 [(0, .ref (za θ 5)), (1, .ref (za θ a.1)), (2, .ref (za θ a.2.1)), (3, .int a.2.2.1)] 2 []) {x1 : Nat} {x2 : Nat} {x3 : Int32} {σ : ZM} (hx1 : zR 0 129 x1 16 0 = true) (hx2 : zR 0 129 x2 17 0 = true) (h : f_Baker_spoils_2 k2 x1 x2 x3 σ = some res) : WZ l b_Baker_spoils 4 (some .boolean) "BakedBefore$Bake\x72" 0 129 θ (zrm 5 164) (zQ mkI 0 129 θ res) σ [(0, .ref (za θ 5)), (1, .ref (za θ x1)), (2, .ref (za θ x2)), (3, .int x3)] 2 [] := by
  unfold f_Baker_spoils_2 at h
  refine z_iload_n 3 d_Baker_spoils_2 rfl rfl ?_
  refine z_iconst (v := 4) d_Baker_spoils_3 (by decide) ?_
  refine z_icmp_ge (tgt := 31) d_Baker_spoils_4 (by decide) (fun c1 => ?_) (fun c1 => ?_)
  · have h := (if_pos c1).symm.trans h
    refine z_iconst (v := 0) d_Baker_spoils_31 (by decide) ?_
    exact z_zret d_Baker_spoils_32 (by decide) h
  · have h := (if_neg c1).symm.trans h
    refine z_aload_n 0 d_Baker_spoils_7 rfl rfl ?_
    refine z_aload_n 1 d_Baker_spoils_8 rfl rfl ?_
    refine z_iload_n 3 d_Baker_spoils_9 rfl rfl ?_
    refine z_aload_n 2 d_Baker_spoils_10 rfl rfl ?_
    obtain ⟨⟨v2, s3⟩, e4, h⟩ := zbd_i h
    refine w_callV (As := [.ref (za θ x1), .int x3, .ref (za θ x2)]) (kc := 13) (ci := 3) (c_Baker_takes l θ e4) cf_Baker_takes q_384 d_Baker_spoils_11 zl_5 rfl rfl rfl rfl rfl rfl (Nat.le_of_ble_eq_true rfl) rfl rfl ⟨Nat.le_of_ble_eq_true rfl, Nat.le_of_ble_eq_true rfl⟩ ?_
    refine z_aload_n 1 d_Baker_spoils_14 rfl rfl ?_
    refine gf_Loaf_bears (o2 := x1 + 24) hx1 rfl d_Baker_spoils_15 q_92 ?_
    refine z_iload_n 3 d_Baker_spoils_18 rfl rfl ?_
    obtain ⟨c5, h⟩ := zck_i h
    refine w_iald (zr_Loaf_bears hx1) c5 d_Baker_spoils_19 ?_
    refine z_icmp_le (tgt := 25) d_Baker_spoils_20 (by decide) (fun c6 => ?_) (fun c6 => ?_)
    · have h := (if_pos c6).symm.trans h
      refine z_iinc (v := x3 + (1 : Int32)) 3 d_Baker_spoils_25 rfl rfl (by decide) rfl ?_
      refine z_goto (tgt := 2) d_Baker_spoils_28 (by decide) ?_
      refine z_sub [1, 2, 3, 0] rfl ?_
      exact hk2 (x1, x2, (x3 + (1 : Int32)), s3) hx1 hx2 h
    · have h := (if_neg c6).symm.trans h
      refine z_iconst (v := 1) d_Baker_spoils_23 (by decide) ?_
      exact z_zret d_Baker_spoils_24 (by decide) h
theorem zl_Baker_spoils_2 {l : Launch} {θ : ZT} {res : Int32 × ZM} : ∀ (N : Nat) (a : Nat × Nat × Int32 × ZM), zR 0 129 a.1 16 0 = true → zR 0 129 a.2.1 17 0 = true → F_Baker_spoils_2 N a = some res → WZ l b_Baker_spoils 4 (some .boolean) "BakedBefore$Bake\x72" 0 129 θ (zrm 5 164) (zQ mkI 0 129 θ res) a.2.2.2 [(0, .ref (za θ 5)), (1, .ref (za θ a.1)), (2, .ref (za θ a.2.1)), (3, .int a.2.2.1)] 2 [] := by
  intro N
  induction N with
  | zero => intro a hx1 hx2 h; cases (show (none : Option (Int32 × ZM)) = some res from h)
  | succ N ih => intro a hx1 hx2 h; exact zb_Baker_spoils_2 ih hx1 hx2 (show f_Baker_spoils_2 (F_Baker_spoils_2 N) a.1 a.2.1 a.2.2.1 a.2.2.2 = some res from h)
theorem c_Baker_spoils (l : Launch) (θ : ZT) {x1 : Nat} {x2 : Nat} {σ : ZM} {res : Int32 × ZM} (h : f_Baker_spoils x1 x2 σ = some res) : zMet mkI l 0 129 θ y_Baker_spoils b_Baker_spoils 4 (some .boolean) (zrm 5 164) [.ref (za θ 5), .ref (za θ x1), .ref (za θ x2)] σ res := by
  unfold f_Baker_spoils at h
  obtain ⟨hx1, h⟩ := zck_i h
  obtain ⟨hx2, h⟩ := zck_i h
  refine z_met (lv := [(0, .ref (za θ 5)), (1, .ref (za θ x1)), (2, .ref (za θ x2))]) (by decide +kernel) rfl (Nat.le_of_ble_eq_true rfl) (by decide) ?_
  refine z_iconst (v := 0) d_Baker_spoils_0 (by decide) ?_
  refine z_istore_n d_Baker_spoils_1 rfl (by decide) rfl ?_
  refine z_sub [1, 2, 3, 0] rfl ?_
  exact zl_Baker_spoils_2 2000 (x1, x2, (0 : Int32), σ) hx1 hx2 h
theorem d_BB_flag_0 : decode b_BB_flag 0 = .ok (.iload_n 0, 1) := by decide +kernel
theorem d_BB_flag_1 : decode b_BB_flag 1 = .ok (.ifCond .eq (7), 3) := by decide +kernel
theorem d_BB_flag_4 : decode b_BB_flag 4 = .ok (.iconst (1), 1) := by decide +kernel
theorem d_BB_flag_5 : decode b_BB_flag 5 = .ok (.goto (4), 3) := by decide +kernel
theorem d_BB_flag_8 : decode b_BB_flag 8 = .ok (.iconst (0), 1) := by decide +kernel
theorem d_BB_flag_9 : decode b_BB_flag 9 = .ok (.ireturn, 1) := by decide +kernel
theorem c_BB_flag (l : Launch) (θ : ZT) {x0 : Int32} {σ : ZM} {res : Int32 × ZM} (h : f_BB_flag x0 σ = some res) : zMet mkI l 0 129 θ y_BB_flag b_BB_flag 1 (some .int) (zrm 1 60) [.int x0] σ res := by
  unfold f_BB_flag at h
  refine z_met (lv := [(0, .int x0)]) (by decide +kernel) rfl (Nat.le_of_ble_eq_true rfl) (by decide) ?_
  refine z_iload_n 0 d_BB_flag_0 rfl rfl ?_
  refine z_if_eq (tgt := 8) d_BB_flag_1 (by decide) (fun c1 => ?_) (fun c1 => ?_)
  · have h := (if_pos c1).symm.trans h
    refine z_iconst (v := 0) d_BB_flag_8 (by decide) ?_
    exact z_iret d_BB_flag_9 h
  · have h := (if_neg c1).symm.trans h
    refine z_iconst (v := 1) d_BB_flag_4 (by decide) ?_
    refine z_goto (tgt := 9) d_BB_flag_5 (by decide) ?_
    exact z_iret d_BB_flag_9 h
theorem d_Baker_leaves_0 : decode b_Baker_leaves 0 = .ok (.aload_n 1, 1) := by decide +kernel
theorem d_Baker_leaves_1 : decode b_Baker_leaves 1 = .ok (.getfield 29, 3) := by decide +kernel
theorem d_Baker_leaves_4 : decode b_Baker_leaves 4 = .ok (.iconst (1), 1) := by decide +kernel
theorem d_Baker_leaves_5 : decode b_Baker_leaves 5 = .ok (.if_icmp .eq (11), 3) := by decide +kernel
theorem d_Baker_leaves_8 : decode b_Baker_leaves 8 = .ok (.aload_n 1, 1) := by decide +kernel
theorem d_Baker_leaves_9 : decode b_Baker_leaves 9 = .ok (.getfield 29, 3) := by decide +kernel
theorem d_Baker_leaves_12 : decode b_Baker_leaves 12 = .ok (.iconst (4), 1) := by decide +kernel
theorem d_Baker_leaves_13 : decode b_Baker_leaves 13 = .ok (.if_icmp .ne (5), 3) := by decide +kernel
theorem d_Baker_leaves_16 : decode b_Baker_leaves 16 = .ok (.iconst (0), 1) := by decide +kernel
theorem d_Baker_leaves_17 : decode b_Baker_leaves 17 = .ok (.ireturn, 1) := by decide +kernel
theorem d_Baker_leaves_18 : decode b_Baker_leaves 18 = .ok (.aload_n 0, 1) := by decide +kernel
theorem d_Baker_leaves_19 : decode b_Baker_leaves 19 = .ok (.getfield 9, 3) := by decide +kernel
theorem d_Baker_leaves_22 : decode b_Baker_leaves 22 = .ok (.aload_n 1, 1) := by decide +kernel
theorem d_Baker_leaves_23 : decode b_Baker_leaves 23 = .ok (.iload_n 2, 1) := by decide +kernel
theorem d_Baker_leaves_24 : decode b_Baker_leaves 24 = .ok (.aload_n 3, 1) := by decide +kernel
theorem d_Baker_leaves_25 : decode b_Baker_leaves 25 = .ok (.getfield 50, 3) := by decide +kernel
theorem d_Baker_leaves_28 : decode b_Baker_leaves 28 = .ok (.iload_n 2, 1) := by decide +kernel
theorem d_Baker_leaves_29 : decode b_Baker_leaves 29 = .ok (.iaload, 1) := by decide +kernel
theorem d_Baker_leaves_30 : decode b_Baker_leaves 30 = .ok (.bipush (10), 2) := by decide +kernel
theorem d_Baker_leaves_32 : decode b_Baker_leaves 32 = .ok (.idiv, 1) := by decide +kernel
theorem d_Baker_leaves_33 : decode b_Baker_leaves 33 = .ok (.aload_n 3, 1) := by decide +kernel
theorem d_Baker_leaves_34 : decode b_Baker_leaves 34 = .ok (.getfield 55, 3) := by decide +kernel
theorem d_Baker_leaves_37 : decode b_Baker_leaves 37 = .ok (.invokevirtual 21, 3) := by decide +kernel
theorem d_Baker_leaves_40 : decode b_Baker_leaves 40 = .ok (.aload_n 1, 1) := by decide +kernel
theorem d_Baker_leaves_41 : decode b_Baker_leaves 41 = .ok (.getfield 69, 3) := by decide +kernel
theorem d_Baker_leaves_44 : decode b_Baker_leaves 44 = .ok (.iload_n 2, 1) := by decide +kernel
theorem d_Baker_leaves_45 : decode b_Baker_leaves 45 = .ok (.iaload, 1) := by decide +kernel
theorem d_Baker_leaves_46 : decode b_Baker_leaves 46 = .ok (.aload_n 0, 1) := by decide +kernel
theorem d_Baker_leaves_47 : decode b_Baker_leaves 47 = .ok (.getfield 9, 3) := by decide +kernel
theorem d_Baker_leaves_50 : decode b_Baker_leaves 50 = .ok (.iconst (1), 1) := by decide +kernel
theorem d_Baker_leaves_51 : decode b_Baker_leaves 51 = .ok (.invokevirtual 25, 3) := by decide +kernel
theorem d_Baker_leaves_54 : decode b_Baker_leaves 54 = .ok (.iadd, 1) := by decide +kernel
theorem d_Baker_leaves_55 : decode b_Baker_leaves 55 = .ok (.istore 4, 2) := by decide +kernel
theorem d_Baker_leaves_57 : decode b_Baker_leaves 57 = .ok (.aload_n 1, 1) := by decide +kernel
theorem d_Baker_leaves_58 : decode b_Baker_leaves 58 = .ok (.getfield 29, 3) := by decide +kernel
theorem d_Baker_leaves_61 : decode b_Baker_leaves 61 = .ok (.iconst (5), 1) := by decide +kernel
theorem d_Baker_leaves_62 : decode b_Baker_leaves 62 = .ok (.if_icmp .ne (16), 3) := by decide +kernel
theorem d_Baker_leaves_65 : decode b_Baker_leaves 65 = .ok (.iload_n 2, 1) := by decide +kernel
theorem d_Baker_leaves_66 : decode b_Baker_leaves 66 = .ok (.ifCond .ne (12), 3) := by decide +kernel
theorem d_Baker_leaves_69 : decode b_Baker_leaves 69 = .ok (.iload 4, 2) := by decide +kernel
theorem d_Baker_leaves_71 : decode b_Baker_leaves 71 = .ok (.aload_n 1, 1) := by decide +kernel
theorem d_Baker_leaves_72 : decode b_Baker_leaves 72 = .ok (.getfield 44, 3) := by decide +kernel
theorem d_Baker_leaves_75 : decode b_Baker_leaves 75 = .ok (.iadd, 1) := by decide +kernel
theorem d_Baker_leaves_76 : decode b_Baker_leaves 76 = .ok (.istore 4, 2) := by decide +kernel
theorem d_Baker_leaves_78 : decode b_Baker_leaves 78 = .ok (.aload_n 1, 1) := by decide +kernel
theorem d_Baker_leaves_79 : decode b_Baker_leaves 79 = .ok (.getfield 29, 3) := by decide +kernel
theorem d_Baker_leaves_82 : decode b_Baker_leaves 82 = .ok (.bipush (6), 2) := by decide +kernel
theorem d_Baker_leaves_84 : decode b_Baker_leaves 84 = .ok (.if_icmp .ne (10), 3) := by decide +kernel
theorem d_Baker_leaves_87 : decode b_Baker_leaves 87 = .ok (.iload 4, 2) := by decide +kernel
theorem d_Baker_leaves_89 : decode b_Baker_leaves 89 = .ok (.iconst (2), 1) := by decide +kernel
theorem d_Baker_leaves_90 : decode b_Baker_leaves 90 = .ok (.idiv, 1) := by decide +kernel
theorem d_Baker_leaves_91 : decode b_Baker_leaves 91 = .ok (.goto (5), 3) := by decide +kernel
theorem d_Baker_leaves_94 : decode b_Baker_leaves 94 = .ok (.iload 4, 2) := by decide +kernel
theorem d_Baker_leaves_96 : decode b_Baker_leaves 96 = .ok (.ireturn, 1) := by decide +kernel
theorem zb_Baker_leaves_78 {l : Launch} {θ : ZT} {res : Int32 × ZM} {x1 : Nat} {x4 : Int32} {σ : ZM} (hx1 : zR 0 129 x1 16 0 = true) (h : f_Baker_leaves_78 x1 x4 σ = some res) : WZ l b_Baker_leaves 5 (some .int) "BakedBefore$Bake\x72" 0 129 θ (zrm 3 116) (zQ mkI 0 129 θ res) σ [(1, .ref (za θ x1)), (4, .int x4)] 78 [] := by
  unfold f_Baker_leaves_78 at h
  refine z_aload_n 0 d_Baker_leaves_78 rfl rfl ?_
  refine gf_Loaf_kind hx1 d_Baker_leaves_79 q_95 ?_
  refine z_bipush (v := 6) d_Baker_leaves_82 (by decide) ?_
  refine z_icmp_ne (tgt := 94) d_Baker_leaves_84 (by decide) (fun c1 => ?_) (fun c1 => ?_)
  · have h := (if_neg c1).symm.trans h
    refine z_iload 1 d_Baker_leaves_94 rfl ?_
    exact z_iret d_Baker_leaves_96 h
  · have h := (if_pos c1).symm.trans h
    refine z_iload 1 d_Baker_leaves_87 rfl ?_
    refine z_iconst (v := 2) d_Baker_leaves_89 (by decide) ?_
    refine z_idiv d_Baker_leaves_90 (by decide) ?_
    refine z_goto (tgt := 96) d_Baker_leaves_91 (by decide) ?_
    exact z_iret d_Baker_leaves_96 h
theorem c_Baker_leaves (l : Launch) (θ : ZT) {x1 : Nat} {x2 : Int32} {x3 : Nat} {σ : ZM} {res : Int32 × ZM} (h : f_Baker_leaves x1 x2 x3 σ = some res) : zMet mkI l 0 129 θ y_Baker_leaves b_Baker_leaves 5 (some .int) (zrm 3 116) [.ref (za θ 5), .ref (za θ x1), .int x2, .ref (za θ x3)] σ res := by
  unfold f_Baker_leaves at h
  obtain ⟨hx1, h⟩ := zck_i h
  obtain ⟨hx3, h⟩ := zck_i h
  refine z_met (lv := [(0, .ref (za θ 5)), (1, .ref (za θ x1)), (2, .int x2), (3, .ref (za θ x3))]) (by decide +kernel) rfl (Nat.le_of_ble_eq_true rfl) (by decide) ?_
  refine z_aload_n 1 d_Baker_leaves_0 rfl rfl ?_
  refine gf_Loaf_kind hx1 d_Baker_leaves_1 q_95 ?_
  refine z_iconst (v := 1) d_Baker_leaves_4 (by decide) ?_
  refine z_icmp_eq (tgt := 16) d_Baker_leaves_5 (by decide) (fun c1 => ?_) (fun c1 => ?_)
  · have h := (if_pos c1).symm.trans h
    refine z_iconst (v := 0) d_Baker_leaves_16 (by decide) ?_
    exact z_iret d_Baker_leaves_17 h
  · have h := (if_neg c1).symm.trans h
    refine z_aload_n 1 d_Baker_leaves_8 rfl rfl ?_
    refine gf_Loaf_kind hx1 d_Baker_leaves_9 q_95 ?_
    refine z_iconst (v := 4) d_Baker_leaves_12 (by decide) ?_
    refine z_icmp_ne (tgt := 18) d_Baker_leaves_13 (by decide) (fun c2 => ?_) (fun c2 => ?_)
    · have h := (if_neg c2).symm.trans h
      refine z_aload_n 0 d_Baker_leaves_18 rfl rfl ?_
      obtain ⟨c3, h⟩ := zck_i h
      refine gf_Baker_kiln zl_5 c3 d_Baker_leaves_19 q_209 ?_
      refine z_aload_n 1 d_Baker_leaves_22 rfl rfl ?_
      refine z_iload_n 2 d_Baker_leaves_23 rfl rfl ?_
      refine z_aload_n 3 d_Baker_leaves_24 rfl rfl ?_
      refine gf_Oven_held (o2 := x3 + 9) hx3 rfl d_Baker_leaves_25 q_44 ?_
      refine z_iload_n 2 d_Baker_leaves_28 rfl rfl ?_
      obtain ⟨c4, h⟩ := zck_i h
      refine w_iald (zr_Oven_held hx3) c4 d_Baker_leaves_29 ?_
      refine z_bipush (v := 10) d_Baker_leaves_30 (by decide) ?_
      refine z_idiv d_Baker_leaves_32 (by decide) ?_
      refine z_aload_n 3 d_Baker_leaves_33 rfl rfl ?_
      refine gf_Oven_hour hx3 d_Baker_leaves_34 q_49 ?_
      obtain ⟨⟨v5, s6⟩, e7, h⟩ := zbd_i h
      refine w_callV (As := [.ref (za θ x1), .int x2, .int ((zI σ (x3 + 9) x2.toNatClampNeg) / (10 : Int32)), .int (zI σ x3 1)]) (kc := 15) (ci := 5) (c_Kiln_lookAt l θ e7) cf_Kiln_lookAt q_367 d_Baker_leaves_37 c3 rfl rfl rfl rfl rfl rfl (Nat.le_of_ble_eq_true rfl) rfl rfl ⟨Nat.le_of_ble_eq_true rfl, Nat.le_of_ble_eq_true rfl⟩ ?_
      refine z_aload_n 1 d_Baker_leaves_40 rfl rfl ?_
      refine gf_Loaf_gives (o2 := x1 + 12) hx1 rfl d_Baker_leaves_41 q_89 ?_
      refine z_iload_n 2 d_Baker_leaves_44 rfl rfl ?_
      obtain ⟨c8, h⟩ := zck_i h
      refine w_iald (zr_Loaf_gives hx1) c8 d_Baker_leaves_45 ?_
      refine z_aload_n 0 d_Baker_leaves_46 rfl rfl ?_
      obtain ⟨c9, h⟩ := zck_i h
      refine gf_Baker_kiln zl_5 c9 d_Baker_leaves_47 q_209 ?_
      refine z_iconst (v := 1) d_Baker_leaves_50 (by decide) ?_
      obtain ⟨⟨v10, s11⟩, e12, h⟩ := zbd_i h
      refine w_callV (As := [.int (1 : Int32)]) (kc := 15) (ci := 5) (c_Kiln_sum l θ e12) cf_Kiln_sum q_371 d_Baker_leaves_51 c9 rfl rfl rfl rfl rfl rfl (Nat.le_of_ble_eq_true rfl) rfl rfl ⟨Nat.le_of_ble_eq_true rfl, Nat.le_of_ble_eq_true rfl⟩ ?_
      refine z_iadd d_Baker_leaves_54 ?_
      refine z_istore d_Baker_leaves_55 (by decide) rfl ?_
      refine z_aload_n 2 d_Baker_leaves_57 rfl rfl ?_
      refine gf_Loaf_kind hx1 d_Baker_leaves_58 q_95 ?_
      refine z_iconst (v := 5) d_Baker_leaves_61 (by decide) ?_
      refine z_icmp_ne (tgt := 78) d_Baker_leaves_62 (by decide) (fun c13 => ?_) (fun c13 => ?_)
      · have h := (if_neg c13).symm.trans h
        refine z_sub [2, 0] rfl ?_
        exact zb_Baker_leaves_78 hx1 h
      · have h := (if_pos c13).symm.trans h
        refine z_iload_n 3 d_Baker_leaves_65 rfl rfl ?_
        refine z_if_ne (tgt := 78) d_Baker_leaves_66 (by decide) (fun c14 => ?_) (fun c14 => ?_)
        · have h := (if_neg c14).symm.trans h
          refine z_sub [2, 0] rfl ?_
          exact zb_Baker_leaves_78 hx1 h
        · have h := (if_pos c14).symm.trans h
          refine z_iload 0 d_Baker_leaves_69 rfl ?_
          refine z_aload_n 2 d_Baker_leaves_71 rfl rfl ?_
          refine gf_Loaf_v hx1 d_Baker_leaves_72 q_99 ?_
          refine z_iadd d_Baker_leaves_75 ?_
          refine z_istore d_Baker_leaves_76 (by decide) rfl ?_
          refine z_sub [2, 0] rfl ?_
          exact zb_Baker_leaves_78 hx1 h
    · have h := (if_pos c2).symm.trans h
      refine z_iconst (v := 0) d_Baker_leaves_16 (by decide) ?_
      exact z_iret d_Baker_leaves_17 h
theorem d_BB_ofTaste_0 : decode b_BB_ofTaste 0 = .ok (.iload_n 3, 1) := by decide +kernel
theorem d_BB_ofTaste_1 : decode b_BB_ofTaste 1 = .ok (.invokestatic 96, 3) := by decide +kernel
theorem d_BB_ofTaste_4 : decode b_BB_ofTaste 4 = .ok (.ifCond .ne (5), 3) := by decide +kernel
theorem d_BB_ofTaste_7 : decode b_BB_ofTaste 7 = .ok (.iconst (-1), 1) := by decide +kernel
theorem d_BB_ofTaste_8 : decode b_BB_ofTaste 8 = .ok (.ireturn, 1) := by decide +kernel
theorem d_BB_ofTaste_9 : decode b_BB_ofTaste 9 = .ok (.iload_n 2, 1) := by decide +kernel
theorem d_BB_ofTaste_10 : decode b_BB_ofTaste 10 = .ok (.tableswitch (78) (1) (4) #[30, 37, 44, 61], 30) := by decide +kernel
theorem d_BB_ofTaste_40 : decode b_BB_ofTaste 40 = .ok (.aload_n 1, 1) := by decide +kernel
theorem d_BB_ofTaste_41 : decode b_BB_ofTaste 41 = .ok (.getfield 99, 3) := by decide +kernel
theorem d_BB_ofTaste_44 : decode b_BB_ofTaste 44 = .ok (.iload_n 3, 1) := by decide +kernel
theorem d_BB_ofTaste_45 : decode b_BB_ofTaste 45 = .ok (.iaload, 1) := by decide +kernel
theorem d_BB_ofTaste_46 : decode b_BB_ofTaste 46 = .ok (.ireturn, 1) := by decide +kernel
theorem d_BB_ofTaste_47 : decode b_BB_ofTaste 47 = .ok (.aload_n 1, 1) := by decide +kernel
theorem d_BB_ofTaste_48 : decode b_BB_ofTaste 48 = .ok (.getfield 103, 3) := by decide +kernel
theorem d_BB_ofTaste_51 : decode b_BB_ofTaste 51 = .ok (.iload_n 3, 1) := by decide +kernel
theorem d_BB_ofTaste_52 : decode b_BB_ofTaste 52 = .ok (.iaload, 1) := by decide +kernel
theorem d_BB_ofTaste_53 : decode b_BB_ofTaste 53 = .ok (.ireturn, 1) := by decide +kernel
theorem d_BB_ofTaste_54 : decode b_BB_ofTaste 54 = .ok (.aload_n 0, 1) := by decide +kernel
theorem d_BB_ofTaste_55 : decode b_BB_ofTaste 55 = .ok (.getfield 44, 3) := by decide +kernel
theorem d_BB_ofTaste_58 : decode b_BB_ofTaste 58 = .ok (.aload_n 1, 1) := by decide +kernel
theorem d_BB_ofTaste_59 : decode b_BB_ofTaste 59 = .ok (.iload_n 3, 1) := by decide +kernel
theorem d_BB_ofTaste_60 : decode b_BB_ofTaste 60 = .ok (.aload_n 0, 1) := by decide +kernel
theorem d_BB_ofTaste_61 : decode b_BB_ofTaste 61 = .ok (.getfield 12, 3) := by decide +kernel
theorem d_BB_ofTaste_64 : decode b_BB_ofTaste 64 = .ok (.getfield 112, 3) := by decide +kernel
theorem d_BB_ofTaste_67 : decode b_BB_ofTaste 67 = .ok (.invokevirtual 137, 3) := by decide +kernel
theorem d_BB_ofTaste_70 : decode b_BB_ofTaste 70 = .ok (.ireturn, 1) := by decide +kernel
theorem d_BB_ofTaste_71 : decode b_BB_ofTaste 71 = .ok (.aload_n 0, 1) := by decide +kernel
theorem d_BB_ofTaste_72 : decode b_BB_ofTaste 72 = .ok (.getfield 44, 3) := by decide +kernel
theorem d_BB_ofTaste_75 : decode b_BB_ofTaste 75 = .ok (.aload_n 1, 1) := by decide +kernel
theorem d_BB_ofTaste_76 : decode b_BB_ofTaste 76 = .ok (.iload_n 3, 1) := by decide +kernel
theorem d_BB_ofTaste_77 : decode b_BB_ofTaste 77 = .ok (.aload_n 0, 1) := by decide +kernel
theorem d_BB_ofTaste_78 : decode b_BB_ofTaste 78 = .ok (.getfield 12, 3) := by decide +kernel
theorem d_BB_ofTaste_81 : decode b_BB_ofTaste 81 = .ok (.getfield 112, 3) := by decide +kernel
theorem d_BB_ofTaste_84 : decode b_BB_ofTaste 84 = .ok (.invokevirtual 141, 3) := by decide +kernel
theorem d_BB_ofTaste_87 : decode b_BB_ofTaste 87 = .ok (.ireturn, 1) := by decide +kernel
theorem d_BB_ofTaste_88 : decode b_BB_ofTaste 88 = .ok (.iconst (-1), 1) := by decide +kernel
theorem d_BB_ofTaste_89 : decode b_BB_ofTaste 89 = .ok (.ireturn, 1) := by decide +kernel
theorem c_BB_ofTaste (l : Launch) (θ : ZT) {x1 : Nat} {x2 : Int32} {x3 : Int32} {σ : ZM} {res : Int32 × ZM} (h : f_BB_ofTaste x1 x2 x3 σ = some res) : zMet mkI l 0 129 θ y_BB_ofTaste b_BB_ofTaste 4 (some .int) (zrm 5 164) [.ref (za θ 0), .ref (za θ x1), .int x2, .int x3] σ res := by
  unfold f_BB_ofTaste at h
  obtain ⟨hx1, h⟩ := zck_i h
  refine z_met (lv := [(0, .ref (za θ 0)), (1, .ref (za θ x1)), (2, .int x2), (3, .int x3)]) (by decide +kernel) rfl (Nat.le_of_ble_eq_true rfl) (by decide) ?_
  refine z_iload_n 3 d_BB_ofTaste_0 rfl rfl ?_
  obtain ⟨⟨v1, s2⟩, e3, h⟩ := zbd_i h
  refine w_callS (As := [.int x3]) (c_BB_isTaste l θ e3) cf_BB_isTaste q_356 d_BB_ofTaste_1 rfl rfl rfl (Nat.le_of_ble_eq_true rfl) rfl rfl ⟨Nat.le_of_ble_eq_true rfl, Nat.le_of_ble_eq_true rfl⟩ ?_
  refine z_if_ne (tgt := 9) d_BB_ofTaste_4 (by decide) (fun c4 => ?_) (fun c4 => ?_)
  · have h := (if_neg c4).symm.trans h
    refine z_iload_n 2 d_BB_ofTaste_9 rfl rfl ?_
    by_cases c5 : x2 = (1 : Int32)
    · have h := (if_pos c5).symm.trans h
      refine z_tableIn (k := 1) (off := 30) (tgt := 40) d_BB_ofTaste_10 c5 (by decide) ?_
      refine z_aload_n 1 d_BB_ofTaste_40 rfl rfl ?_
      refine gf_Loaf_gives (o2 := x1 + 12) hx1 rfl d_BB_ofTaste_41 q_88 ?_
      refine z_iload_n 3 d_BB_ofTaste_44 rfl rfl ?_
      obtain ⟨c6, h⟩ := zck_i h
      refine w_iald (zr_Loaf_gives hx1) c6 d_BB_ofTaste_45 ?_
      exact z_iret d_BB_ofTaste_46 h
    have h := (if_neg c5).symm.trans h
    by_cases c7 : x2 = (2 : Int32)
    · have h := (if_pos c7).symm.trans h
      refine z_tableIn (k := 2) (off := 37) (tgt := 47) d_BB_ofTaste_10 c7 (by decide) ?_
      refine z_aload_n 1 d_BB_ofTaste_47 rfl rfl ?_
      refine gf_Loaf_bears (o2 := x1 + 24) hx1 rfl d_BB_ofTaste_48 q_91 ?_
      refine z_iload_n 3 d_BB_ofTaste_51 rfl rfl ?_
      obtain ⟨c8, h⟩ := zck_i h
      refine w_iald (zr_Loaf_bears hx1) c8 d_BB_ofTaste_52 ?_
      exact z_iret d_BB_ofTaste_53 h
    have h := (if_neg c7).symm.trans h
    by_cases c9 : x2 = (3 : Int32)
    · have h := (if_pos c9).symm.trans h
      refine z_tableIn (k := 3) (off := 44) (tgt := 54) d_BB_ofTaste_10 c9 (by decide) ?_
      refine z_aload_n 0 d_BB_ofTaste_54 rfl rfl ?_
      refine gf_BB_baker zl_0 d_BB_ofTaste_55 q_308 ?_
      refine z_aload_n 1 d_BB_ofTaste_58 rfl rfl ?_
      refine z_iload_n 3 d_BB_ofTaste_59 rfl rfl ?_
      refine z_aload_n 0 d_BB_ofTaste_60 rfl rfl ?_
      refine gf_BB_now zl_0 d_BB_ofTaste_61 q_303 ?_
      refine gf_Stand_oven (o2 := 33) zl_1 rfl d_BB_ofTaste_64 q_121 ?_
      obtain ⟨⟨v10, s11⟩, e12, h⟩ := zbd_i h
      refine w_callV (As := [.ref (za θ x1), .int x3, .ref (za θ 33)]) (kc := 13) (ci := 3) (c_Baker_takes l θ e12) cf_Baker_takes q_408 d_BB_ofTaste_67 zl_5 rfl rfl rfl rfl rfl rfl (Nat.le_of_ble_eq_true rfl) rfl rfl ⟨Nat.le_of_ble_eq_true rfl, Nat.le_of_ble_eq_true rfl⟩ ?_
      exact z_iret d_BB_ofTaste_70 h
    have h := (if_neg c9).symm.trans h
    by_cases c13 : x2 = (4 : Int32)
    · have h := (if_pos c13).symm.trans h
      refine z_tableIn (k := 4) (off := 61) (tgt := 71) d_BB_ofTaste_10 c13 (by decide) ?_
      refine z_aload_n 0 d_BB_ofTaste_71 rfl rfl ?_
      refine gf_BB_baker zl_0 d_BB_ofTaste_72 q_308 ?_
      refine z_aload_n 1 d_BB_ofTaste_75 rfl rfl ?_
      refine z_iload_n 3 d_BB_ofTaste_76 rfl rfl ?_
      refine z_aload_n 0 d_BB_ofTaste_77 rfl rfl ?_
      refine gf_BB_now zl_0 d_BB_ofTaste_78 q_303 ?_
      refine gf_Stand_oven (o2 := 33) zl_1 rfl d_BB_ofTaste_81 q_121 ?_
      obtain ⟨⟨v14, s15⟩, e16, h⟩ := zbd_i h
      refine w_callV (As := [.ref (za θ x1), .int x3, .ref (za θ 33)]) (kc := 13) (ci := 3) (c_Baker_leaves l θ e16) cf_Baker_leaves q_409 d_BB_ofTaste_84 zl_5 rfl rfl rfl rfl rfl rfl (Nat.le_of_ble_eq_true rfl) rfl rfl ⟨Nat.le_of_ble_eq_true rfl, Nat.le_of_ble_eq_true rfl⟩ ?_
      exact z_iret d_BB_ofTaste_87 h
    have h := (if_neg c13).symm.trans h
    have nc5 := lv_neT (a := 1) c5 (by decide)
    have nc7 := lv_neT (a := 2) c7 (by decide)
    have nc9 := lv_neT (a := 3) c9 (by decide)
    have nc13 := lv_neT (a := 4) c13 (by decide)
    refine z_tableOut (tgt := 88) d_BB_ofTaste_10 (by omega) (by decide) ?_
    refine z_iconst (v := -1) d_BB_ofTaste_88 (by decide) ?_
    exact z_iret d_BB_ofTaste_89 h
  · have h := (if_pos c4).symm.trans h
    refine z_iconst (v := -1) d_BB_ofTaste_7 (by decide) ?_
    exact z_iret d_BB_ofTaste_8 h
theorem d_BB_of_0 : decode b_BB_of 0 = .ok (.aload_n 0, 1) := by decide +kernel
theorem d_BB_of_1 : decode b_BB_of 1 = .ok (.iload_n 1, 1) := by decide +kernel
theorem d_BB_of_2 : decode b_BB_of 2 = .ok (.invokevirtual 92, 3) := by decide +kernel
theorem d_BB_of_5 : decode b_BB_of 5 = .ok (.ifCond .eq (7), 3) := by decide +kernel
theorem d_BB_of_8 : decode b_BB_of 8 = .ok (.iload_n 2, 1) := by decide +kernel
theorem d_BB_of_9 : decode b_BB_of 9 = .ok (.ifCond .ge (5), 3) := by decide +kernel
theorem d_BB_of_12 : decode b_BB_of 12 = .ok (.iconst (-1), 1) := by decide +kernel
theorem d_BB_of_13 : decode b_BB_of 13 = .ok (.ireturn, 1) := by decide +kernel
theorem d_BB_of_14 : decode b_BB_of 14 = .ok (.aload_n 0, 1) := by decide +kernel
theorem d_BB_of_15 : decode b_BB_of 15 = .ok (.getfield 12, 3) := by decide +kernel
theorem d_BB_of_18 : decode b_BB_of 18 = .ok (.getfield 82, 3) := by decide +kernel
theorem d_BB_of_21 : decode b_BB_of 21 = .ok (.iload_n 1, 1) := by decide +kernel
theorem d_BB_of_22 : decode b_BB_of 22 = .ok (.aaload, 1) := by decide +kernel
theorem d_BB_of_23 : decode b_BB_of 23 = .ok (.astore_n 3, 1) := by decide +kernel
theorem d_BB_of_24 : decode b_BB_of 24 = .ok (.iload_n 2, 1) := by decide +kernel
theorem d_BB_of_25 : decode b_BB_of 25 = .ok (.tableswitch (79) (0) (3) #[31, 36, 41, 60], 31) := by decide +kernel
theorem d_BB_of_56 : decode b_BB_of 56 = .ok (.aload_n 3, 1) := by decide +kernel
theorem d_BB_of_57 : decode b_BB_of 57 = .ok (.getfield 106, 3) := by decide +kernel
theorem d_BB_of_60 : decode b_BB_of 60 = .ok (.ireturn, 1) := by decide +kernel
theorem d_BB_of_61 : decode b_BB_of 61 = .ok (.aload_n 3, 1) := by decide +kernel
theorem d_BB_of_62 : decode b_BB_of 62 = .ok (.getfield 109, 3) := by decide +kernel
theorem d_BB_of_65 : decode b_BB_of 65 = .ok (.ireturn, 1) := by decide +kernel
theorem d_BB_of_66 : decode b_BB_of 66 = .ok (.aload_n 0, 1) := by decide +kernel
theorem d_BB_of_67 : decode b_BB_of 67 = .ok (.getfield 44, 3) := by decide +kernel
theorem d_BB_of_70 : decode b_BB_of 70 = .ok (.aload_n 3, 1) := by decide +kernel
theorem d_BB_of_71 : decode b_BB_of 71 = .ok (.aload_n 0, 1) := by decide +kernel
theorem d_BB_of_72 : decode b_BB_of 72 = .ok (.getfield 12, 3) := by decide +kernel
theorem d_BB_of_75 : decode b_BB_of 75 = .ok (.getfield 112, 3) := by decide +kernel
theorem d_BB_of_78 : decode b_BB_of 78 = .ok (.getfield 116, 3) := by decide +kernel
theorem d_BB_of_81 : decode b_BB_of 81 = .ok (.invokevirtual 121, 3) := by decide +kernel
theorem d_BB_of_84 : decode b_BB_of 84 = .ok (.ireturn, 1) := by decide +kernel
theorem d_BB_of_85 : decode b_BB_of 85 = .ok (.aload_n 0, 1) := by decide +kernel
theorem d_BB_of_86 : decode b_BB_of 86 = .ok (.getfield 44, 3) := by decide +kernel
theorem d_BB_of_89 : decode b_BB_of 89 = .ok (.aload_n 3, 1) := by decide +kernel
theorem d_BB_of_90 : decode b_BB_of 90 = .ok (.aload_n 0, 1) := by decide +kernel
theorem d_BB_of_91 : decode b_BB_of 91 = .ok (.getfield 12, 3) := by decide +kernel
theorem d_BB_of_94 : decode b_BB_of 94 = .ok (.getfield 112, 3) := by decide +kernel
theorem d_BB_of_97 : decode b_BB_of 97 = .ok (.invokevirtual 125, 3) := by decide +kernel
theorem d_BB_of_100 : decode b_BB_of 100 = .ok (.invokestatic 129, 3) := by decide +kernel
theorem d_BB_of_103 : decode b_BB_of 103 = .ok (.ireturn, 1) := by decide +kernel
theorem d_BB_of_104 : decode b_BB_of 104 = .ok (.aload_n 0, 1) := by decide +kernel
theorem d_BB_of_105 : decode b_BB_of 105 = .ok (.aload_n 3, 1) := by decide +kernel
theorem d_BB_of_106 : decode b_BB_of 106 = .ok (.iload_n 2, 1) := by decide +kernel
theorem d_BB_of_107 : decode b_BB_of 107 = .ok (.bipush (10), 2) := by decide +kernel
theorem d_BB_of_109 : decode b_BB_of 109 = .ok (.idiv, 1) := by decide +kernel
theorem d_BB_of_110 : decode b_BB_of 110 = .ok (.iload_n 2, 1) := by decide +kernel
theorem d_BB_of_111 : decode b_BB_of 111 = .ok (.bipush (10), 2) := by decide +kernel
theorem d_BB_of_113 : decode b_BB_of 113 = .ok (.irem, 1) := by decide +kernel
theorem d_BB_of_114 : decode b_BB_of 114 = .ok (.invokevirtual 133, 3) := by decide +kernel
theorem d_BB_of_117 : decode b_BB_of 117 = .ok (.ireturn, 1) := by decide +kernel
theorem c_BB_of (l : Launch) (θ : ZT) {x1 : Int32} {x2 : Int32} {σ : ZM} {res : Int32 × ZM} (h : f_BB_of x1 x2 σ = some res) : zMet mkI l 0 129 θ y_BB_of b_BB_of 4 (some .int) (zrm 6 187) [.ref (za θ 0), .int x1, .int x2] σ res := by
  unfold f_BB_of at h
  refine z_met (lv := [(0, .ref (za θ 0)), (1, .int x1), (2, .int x2)]) (by decide +kernel) rfl (Nat.le_of_ble_eq_true rfl) (by decide) ?_
  refine z_aload_n 0 d_BB_of_0 rfl rfl ?_
  refine z_iload_n 1 d_BB_of_1 rfl rfl ?_
  obtain ⟨⟨v1, s2⟩, e3, h⟩ := zbd_i h
  refine w_callV (As := [.int x1]) (kc := 10) (ci := 0) (c_BB_isLoaf l θ e3) cf_BB_isLoaf q_352 d_BB_of_2 zl_0 rfl rfl rfl rfl rfl rfl (Nat.le_of_ble_eq_true rfl) rfl rfl ⟨Nat.le_of_ble_eq_true rfl, Nat.le_of_ble_eq_true rfl⟩ ?_
  refine z_if_eq (tgt := 12) d_BB_of_5 (by decide) (fun c4 => ?_) (fun c4 => ?_)
  · have h := (if_pos c4).symm.trans h
    refine z_iconst (v := -1) d_BB_of_12 (by decide) ?_
    exact z_iret d_BB_of_13 h
  · have h := (if_neg c4).symm.trans h
    refine z_iload_n 2 d_BB_of_8 rfl rfl ?_
    refine z_if_ge (tgt := 14) d_BB_of_9 (by decide) (fun c5 => ?_) (fun c5 => ?_)
    · have h := (if_pos c5).symm.trans h
      refine z_aload_n 0 d_BB_of_14 rfl rfl ?_
      refine gf_BB_now zl_0 d_BB_of_15 q_303 ?_
      refine gf_Stand_loaves (o2 := 25) zl_1 rfl d_BB_of_18 q_116 ?_
      refine z_iload_n 1 d_BB_of_21 rfl rfl ?_
      obtain ⟨c6, h⟩ := zck_i h
      refine w_aald3 zl_25 c6 d_BB_of_22 ?_
      obtain ⟨c7, h⟩ := zck_i h
      refine z_astore_n d_BB_of_23 rfl (by decide) rfl ?_
      refine z_iload_n 3 d_BB_of_24 rfl rfl ?_
      by_cases c8 : x2 = (0 : Int32)
      · have h := (if_pos c8).symm.trans h
        refine z_tableIn (k := 0) (off := 31) (tgt := 56) d_BB_of_25 c8 (by decide) ?_
        refine z_aload_n 0 d_BB_of_56 rfl rfl ?_
        refine gf_Loaf_kind c7 d_BB_of_57 q_96 ?_
        exact z_iret d_BB_of_60 h
      have h := (if_neg c8).symm.trans h
      by_cases c9 : x2 = (1 : Int32)
      · have h := (if_pos c9).symm.trans h
        refine z_tableIn (k := 1) (off := 36) (tgt := 61) d_BB_of_25 c9 (by decide) ?_
        refine z_aload_n 0 d_BB_of_61 rfl rfl ?_
        refine gf_Loaf_v c7 d_BB_of_62 q_101 ?_
        exact z_iret d_BB_of_65 h
      have h := (if_neg c9).symm.trans h
      by_cases c10 : x2 = (2 : Int32)
      · have h := (if_pos c10).symm.trans h
        refine z_tableIn (k := 2) (off := 41) (tgt := 66) d_BB_of_25 c10 (by decide) ?_
        refine z_aload_n 1 d_BB_of_66 rfl rfl ?_
        refine gf_BB_baker zl_0 d_BB_of_67 q_308 ?_
        refine z_aload_n 0 d_BB_of_70 rfl rfl ?_
        refine z_aload_n 1 d_BB_of_71 rfl rfl ?_
        refine gf_BB_now zl_0 d_BB_of_72 q_303 ?_
        refine gf_Stand_oven (o2 := 33) zl_1 rfl d_BB_of_75 q_121 ?_
        refine gf_Oven_hour zl_33 d_BB_of_78 q_50 ?_
        obtain ⟨⟨v11, s12⟩, e13, h⟩ := zbd_i h
        refine w_callV (As := [.ref (za θ (zel 25 x1.toNatClampNeg)), .int (zI s2 33 1)]) (kc := 13) (ci := 3) (c_Baker_feeOf l θ e13) cf_Baker_feeOf q_363 d_BB_of_81 zl_5 rfl rfl rfl rfl rfl rfl (Nat.le_of_ble_eq_true rfl) rfl rfl ⟨Nat.le_of_ble_eq_true rfl, Nat.le_of_ble_eq_true rfl⟩ ?_
        exact z_iret d_BB_of_84 h
      have h := (if_neg c10).symm.trans h
      by_cases c14 : x2 = (3 : Int32)
      · have h := (if_pos c14).symm.trans h
        refine z_tableIn (k := 3) (off := 60) (tgt := 85) d_BB_of_25 c14 (by decide) ?_
        refine z_aload_n 1 d_BB_of_85 rfl rfl ?_
        refine gf_BB_baker zl_0 d_BB_of_86 q_308 ?_
        refine z_aload_n 0 d_BB_of_89 rfl rfl ?_
        refine z_aload_n 1 d_BB_of_90 rfl rfl ?_
        refine gf_BB_now zl_0 d_BB_of_91 q_303 ?_
        refine gf_Stand_oven (o2 := 33) zl_1 rfl d_BB_of_94 q_121 ?_
        obtain ⟨⟨v15, s16⟩, e17, h⟩ := zbd_i h
        refine w_callV (As := [.ref (za θ (zel 25 x1.toNatClampNeg)), .ref (za θ 33)]) (kc := 13) (ci := 3) (c_Baker_spoils l θ e17) cf_Baker_spoils q_380 d_BB_of_97 zl_5 rfl rfl rfl rfl rfl rfl (Nat.le_of_ble_eq_true rfl) rfl rfl ⟨Nat.le_of_ble_eq_true rfl, Nat.le_of_ble_eq_true rfl⟩ ?_
        obtain ⟨⟨v18, s19⟩, e20, h⟩ := zbd_i h
        refine w_callS (As := [.int v15]) (c_BB_flag l θ e20) cf_BB_flag q_401 d_BB_of_100 rfl rfl rfl (Nat.le_of_ble_eq_true rfl) rfl rfl ⟨Nat.le_of_ble_eq_true rfl, Nat.le_of_ble_eq_true rfl⟩ ?_
        exact z_iret d_BB_of_103 h
      have h := (if_neg c14).symm.trans h
      have nc8 := lv_neT (a := 0) c8 (by decide)
      have nc9 := lv_neT (a := 1) c9 (by decide)
      have nc10 := lv_neT (a := 2) c10 (by decide)
      have nc14 := lv_neT (a := 3) c14 (by decide)
      refine z_tableOut (tgt := 104) d_BB_of_25 (by omega) (by decide) ?_
      refine z_aload_n 1 d_BB_of_104 rfl rfl ?_
      refine z_aload_n 0 d_BB_of_105 rfl rfl ?_
      refine z_iload_n 3 d_BB_of_106 rfl rfl ?_
      refine z_bipush (v := 10) d_BB_of_107 (by decide) ?_
      refine z_idiv d_BB_of_109 (by decide) ?_
      refine z_iload_n 3 d_BB_of_110 rfl rfl ?_
      refine z_bipush (v := 10) d_BB_of_111 (by decide) ?_
      refine z_irem d_BB_of_113 (by decide) ?_
      obtain ⟨⟨v21, s22⟩, e23, h⟩ := zbd_i h
      refine w_callV (As := [.ref (za θ (zel 25 x1.toNatClampNeg)), .int (x2 / (10 : Int32)), .int (x2 - x2 / (10 : Int32) * (10 : Int32))]) (kc := 10) (ci := 0) (c_BB_ofTaste l θ e23) cf_BB_ofTaste q_404 d_BB_of_114 zl_0 rfl rfl rfl rfl rfl rfl (Nat.le_of_ble_eq_true rfl) rfl rfl ⟨Nat.le_of_ble_eq_true rfl, Nat.le_of_ble_eq_true rfl⟩ ?_
      exact z_iret d_BB_of_117 h
    · have h := (if_neg c5).symm.trans h
      refine z_iconst (v := -1) d_BB_of_12 (by decide) ?_
      exact z_iret d_BB_of_13 h
theorem d_BB_oven_0 : decode b_BB_oven 0 = .ok (.iload_n 1, 1) := by decide +kernel
theorem d_BB_oven_1 : decode b_BB_oven 1 = .ok (.invokestatic 96, 3) := by decide +kernel
theorem d_BB_oven_4 : decode b_BB_oven 4 = .ok (.ifCond .ne (5), 3) := by decide +kernel
theorem d_BB_oven_7 : decode b_BB_oven 7 = .ok (.iconst (-1), 1) := by decide +kernel
theorem d_BB_oven_8 : decode b_BB_oven 8 = .ok (.ireturn, 1) := by decide +kernel
theorem d_BB_oven_9 : decode b_BB_oven 9 = .ok (.iload_n 2, 1) := by decide +kernel
theorem d_BB_oven_10 : decode b_BB_oven 10 = .ok (.ifCond .lt (10), 3) := by decide +kernel
theorem d_BB_oven_13 : decode b_BB_oven 13 = .ok (.iload_n 2, 1) := by decide +kernel
theorem d_BB_oven_14 : decode b_BB_oven 14 = .ok (.sipush (9999), 3) := by decide +kernel
theorem d_BB_oven_17 : decode b_BB_oven 17 = .ok (.if_icmp .le (6), 3) := by decide +kernel
theorem d_BB_oven_20 : decode b_BB_oven 20 = .ok (.bipush (-2), 2) := by decide +kernel
theorem d_BB_oven_22 : decode b_BB_oven 22 = .ok (.ireturn, 1) := by decide +kernel
theorem d_BB_oven_23 : decode b_BB_oven 23 = .ok (.aload_n 0, 1) := by decide +kernel
theorem d_BB_oven_24 : decode b_BB_oven 24 = .ok (.getfield 12, 3) := by decide +kernel
theorem d_BB_oven_27 : decode b_BB_oven 27 = .ok (.getfield 112, 3) := by decide +kernel
theorem d_BB_oven_30 : decode b_BB_oven 30 = .ok (.getfield 144, 3) := by decide +kernel
theorem d_BB_oven_33 : decode b_BB_oven 33 = .ok (.iload_n 1, 1) := by decide +kernel
theorem d_BB_oven_34 : decode b_BB_oven 34 = .ok (.iaload, 1) := by decide +kernel
theorem d_BB_oven_35 : decode b_BB_oven 35 = .ok (.istore_n 3, 1) := by decide +kernel
theorem d_BB_oven_36 : decode b_BB_oven 36 = .ok (.aload_n 0, 1) := by decide +kernel
theorem d_BB_oven_37 : decode b_BB_oven 37 = .ok (.getfield 12, 3) := by decide +kernel
theorem d_BB_oven_40 : decode b_BB_oven 40 = .ok (.getfield 112, 3) := by decide +kernel
theorem d_BB_oven_43 : decode b_BB_oven 43 = .ok (.getfield 144, 3) := by decide +kernel
theorem d_BB_oven_46 : decode b_BB_oven 46 = .ok (.iload_n 1, 1) := by decide +kernel
theorem d_BB_oven_47 : decode b_BB_oven 47 = .ok (.iload_n 2, 1) := by decide +kernel
theorem d_BB_oven_48 : decode b_BB_oven 48 = .ok (.iastore, 1) := by decide +kernel
theorem d_BB_oven_49 : decode b_BB_oven 49 = .ok (.iload_n 3, 1) := by decide +kernel
theorem d_BB_oven_50 : decode b_BB_oven 50 = .ok (.ireturn, 1) := by decide +kernel
theorem c_BB_oven (l : Launch) (θ : ZT) {x1 : Int32} {x2 : Int32} {σ : ZM} {res : Int32 × ZM} (h : f_BB_oven x1 x2 σ = some res) : zMet mkI l 0 129 θ y_BB_oven b_BB_oven 4 (some .int) (zrm 2 80) [.ref (za θ 0), .int x1, .int x2] σ res := by
  unfold f_BB_oven at h
  refine z_met (lv := [(0, .ref (za θ 0)), (1, .int x1), (2, .int x2)]) (by decide +kernel) rfl (Nat.le_of_ble_eq_true rfl) (by decide) ?_
  refine z_iload_n 1 d_BB_oven_0 rfl rfl ?_
  obtain ⟨⟨v1, s2⟩, e3, h⟩ := zbd_i h
  refine w_callS (As := [.int x1]) (c_BB_isTaste l θ e3) cf_BB_isTaste q_356 d_BB_oven_1 rfl rfl rfl (Nat.le_of_ble_eq_true rfl) rfl rfl ⟨Nat.le_of_ble_eq_true rfl, Nat.le_of_ble_eq_true rfl⟩ ?_
  refine z_if_ne (tgt := 9) d_BB_oven_4 (by decide) (fun c4 => ?_) (fun c4 => ?_)
  · have h := (if_neg c4).symm.trans h
    refine z_iload_n 2 d_BB_oven_9 rfl rfl ?_
    refine z_if_lt (tgt := 20) d_BB_oven_10 (by decide) (fun c5 => ?_) (fun c5 => ?_)
    · have h := (if_pos c5).symm.trans h
      refine z_bipush (v := -2) d_BB_oven_20 (by decide) ?_
      exact z_iret d_BB_oven_22 h
    · have h := (if_neg c5).symm.trans h
      refine z_iload_n 2 d_BB_oven_13 rfl rfl ?_
      refine z_sipush (v := 9999) d_BB_oven_14 (by decide) ?_
      refine z_icmp_le (tgt := 23) d_BB_oven_17 (by decide) (fun c6 => ?_) (fun c6 => ?_)
      · have h := (if_pos c6).symm.trans h
        refine z_aload_n 0 d_BB_oven_23 rfl rfl ?_
        refine gf_BB_now zl_0 d_BB_oven_24 q_303 ?_
        refine gf_Stand_oven (o2 := 33) zl_1 rfl d_BB_oven_27 q_121 ?_
        refine gf_Oven_held (o2 := 42) zl_33 rfl d_BB_oven_30 q_45 ?_
        refine z_iload_n 1 d_BB_oven_33 rfl rfl ?_
        obtain ⟨c7, h⟩ := zck_i h
        refine w_iald zl_42 c7 d_BB_oven_34 ?_
        refine z_istore_n d_BB_oven_35 rfl (by decide) rfl ?_
        refine z_aload_n 1 d_BB_oven_36 rfl rfl ?_
        refine gf_BB_now zl_0 d_BB_oven_37 q_303 ?_
        refine gf_Stand_oven (o2 := 33) zl_1 rfl d_BB_oven_40 q_121 ?_
        refine gf_Oven_held (o2 := 42) zl_33 rfl d_BB_oven_43 q_45 ?_
        refine z_iload_n 2 d_BB_oven_46 rfl rfl ?_
        refine z_iload_n 3 d_BB_oven_47 rfl rfl ?_
        obtain ⟨c8, h⟩ := zck_i h
        refine w_iast zl_42 c8 d_BB_oven_48 ?_
        refine z_iload_n 0 d_BB_oven_49 rfl rfl ?_
        exact z_iret d_BB_oven_50 h
      · have h := (if_neg c6).symm.trans h
        refine z_bipush (v := -2) d_BB_oven_20 (by decide) ?_
        exact z_iret d_BB_oven_22 h
  · have h := (if_pos c4).symm.trans h
    refine z_iconst (v := -1) d_BB_oven_7 (by decide) ?_
    exact z_iret d_BB_oven_8 h
theorem d_Reader_append_0 : decode b_Reader_append 0 = .ok (.aload_n 0, 1) := by decide +kernel
theorem d_Reader_append_1 : decode b_Reader_append 1 = .ok (.getfield 15, 3) := by decide +kernel
theorem d_Reader_append_4 : decode b_Reader_append 4 = .ok (.bipush (100), 2) := by decide +kernel
theorem d_Reader_append_6 : decode b_Reader_append 6 = .ok (.if_icmp .lt (6), 3) := by decide +kernel
theorem d_Reader_append_9 : decode b_Reader_append 9 = .ok (.bipush (-4), 2) := by decide +kernel
theorem d_Reader_append_11 : decode b_Reader_append 11 = .ok (.ireturn, 1) := by decide +kernel
theorem d_Reader_append_12 : decode b_Reader_append 12 = .ok (.aload_n 0, 1) := by decide +kernel
theorem d_Reader_append_13 : decode b_Reader_append 13 = .ok (.getfield 11, 3) := by decide +kernel
theorem d_Reader_append_16 : decode b_Reader_append 16 = .ok (.aload_n 0, 1) := by decide +kernel
theorem d_Reader_append_17 : decode b_Reader_append 17 = .ok (.getfield 15, 3) := by decide +kernel
theorem d_Reader_append_20 : decode b_Reader_append 20 = .ok (.iload_n 1, 1) := by decide +kernel
theorem d_Reader_append_21 : decode b_Reader_append 21 = .ok (.iastore, 1) := by decide +kernel
theorem d_Reader_append_22 : decode b_Reader_append 22 = .ok (.aload_n 0, 1) := by decide +kernel
theorem d_Reader_append_23 : decode b_Reader_append 23 = .ok (.dup, 1) := by decide +kernel
theorem d_Reader_append_24 : decode b_Reader_append 24 = .ok (.getfield 15, 3) := by decide +kernel
theorem d_Reader_append_27 : decode b_Reader_append 27 = .ok (.iconst (1), 1) := by decide +kernel
theorem d_Reader_append_28 : decode b_Reader_append 28 = .ok (.iadd, 1) := by decide +kernel
theorem d_Reader_append_29 : decode b_Reader_append 29 = .ok (.putfield 15, 3) := by decide +kernel
theorem d_Reader_append_32 : decode b_Reader_append 32 = .ok (.aload_n 0, 1) := by decide +kernel
theorem d_Reader_append_33 : decode b_Reader_append 33 = .ok (.getfield 15, 3) := by decide +kernel
theorem d_Reader_append_36 : decode b_Reader_append 36 = .ok (.ireturn, 1) := by decide +kernel
theorem c_Reader_append (l : Launch) (θ : ZT) {x1 : Int32} {σ : ZM} {res : Int32 × ZM} (h : f_Reader_append x1 σ = some res) : zMet mkI l 0 129 θ y_Reader_append b_Reader_append 2 (some .int) (zrm 1 60) [.ref (za θ 3), .int x1] σ res := by
  unfold f_Reader_append at h
  refine z_met (lv := [(0, .ref (za θ 3)), (1, .int x1)]) (by decide +kernel) rfl (Nat.le_of_ble_eq_true rfl) (by decide) ?_
  refine z_aload_n 0 d_Reader_append_0 rfl rfl ?_
  refine gf_Reader_length zl_3 d_Reader_append_1 q_149 ?_
  refine z_bipush (v := 100) d_Reader_append_4 (by decide) ?_
  refine z_icmp_lt (tgt := 12) d_Reader_append_6 (by decide) (fun c1 => ?_) (fun c1 => ?_)
  · have h := (if_pos c1).symm.trans h
    refine z_aload_n 0 d_Reader_append_12 rfl rfl ?_
    refine gf_Reader_text zl_3 d_Reader_append_13 q_148 ?_
    refine z_aload_n 0 d_Reader_append_16 rfl rfl ?_
    refine gf_Reader_length zl_3 d_Reader_append_17 q_149 ?_
    refine z_iload_n 1 d_Reader_append_20 rfl rfl ?_
    obtain ⟨c2, h⟩ := zck_i h
    refine w_iast zl_4 c2 d_Reader_append_21 ?_
    refine z_aload_n 0 d_Reader_append_22 rfl rfl ?_
    refine z_dup d_Reader_append_23 rfl ?_
    refine gf_Reader_length zl_3 d_Reader_append_24 q_149 ?_
    refine z_iconst (v := 1) d_Reader_append_27 (by decide) ?_
    refine z_iadd d_Reader_append_28 ?_
    refine pf_Reader_length zl_3 d_Reader_append_29 q_149 ?_
    refine z_aload_n 0 d_Reader_append_32 rfl rfl ?_
    refine gf_Reader_length zl_3 d_Reader_append_33 q_149 ?_
    exact z_iret d_Reader_append_36 h
  · have h := (if_neg c1).symm.trans h
    refine z_bipush (v := -4) d_Reader_append_9 (by decide) ?_
    exact z_iret d_Reader_append_11 h
theorem d_BB_feed_0 : decode b_BB_feed 0 = .ok (.iload_n 1, 1) := by decide +kernel
theorem d_BB_feed_1 : decode b_BB_feed 1 = .ok (.ifCond .lt (9), 3) := by decide +kernel
theorem d_BB_feed_4 : decode b_BB_feed 4 = .ok (.iload_n 1, 1) := by decide +kernel
theorem d_BB_feed_5 : decode b_BB_feed 5 = .ok (.bipush (127), 2) := by decide +kernel
theorem d_BB_feed_7 : decode b_BB_feed 7 = .ok (.if_icmp .le (6), 3) := by decide +kernel
theorem d_BB_feed_10 : decode b_BB_feed 10 = .ok (.bipush (-2), 2) := by decide +kernel
theorem d_BB_feed_12 : decode b_BB_feed 12 = .ok (.ireturn, 1) := by decide +kernel
theorem d_BB_feed_13 : decode b_BB_feed 13 = .ok (.aload_n 0, 1) := by decide +kernel
theorem d_BB_feed_14 : decode b_BB_feed 14 = .ok (.getfield 24, 3) := by decide +kernel
theorem d_BB_feed_17 : decode b_BB_feed 17 = .ok (.iload_n 1, 1) := by decide +kernel
theorem d_BB_feed_18 : decode b_BB_feed 18 = .ok (.invokevirtual 147, 3) := by decide +kernel
theorem d_BB_feed_21 : decode b_BB_feed 21 = .ok (.ireturn, 1) := by decide +kernel
theorem c_BB_feed (l : Launch) (θ : ZT) {x1 : Int32} {σ : ZM} {res : Int32 × ZM} (h : f_BB_feed x1 σ = some res) : zMet mkI l 0 129 θ y_BB_feed b_BB_feed 2 (some .int) (zrm 2 81) [.ref (za θ 0), .int x1] σ res := by
  unfold f_BB_feed at h
  refine z_met (lv := [(0, .ref (za θ 0)), (1, .int x1)]) (by decide +kernel) rfl (Nat.le_of_ble_eq_true rfl) (by decide) ?_
  refine z_iload_n 1 d_BB_feed_0 rfl rfl ?_
  refine z_if_lt (tgt := 10) d_BB_feed_1 (by decide) (fun c1 => ?_) (fun c1 => ?_)
  · have h := (if_pos c1).symm.trans h
    refine z_bipush (v := -2) d_BB_feed_10 (by decide) ?_
    exact z_iret d_BB_feed_12 h
  · have h := (if_neg c1).symm.trans h
    refine z_iload_n 1 d_BB_feed_4 rfl rfl ?_
    refine z_bipush (v := 127) d_BB_feed_5 (by decide) ?_
    refine z_icmp_le (tgt := 13) d_BB_feed_7 (by decide) (fun c2 => ?_) (fun c2 => ?_)
    · have h := (if_pos c2).symm.trans h
      refine z_aload_n 0 d_BB_feed_13 rfl rfl ?_
      refine gf_BB_reader zl_0 d_BB_feed_14 q_305 ?_
      refine z_iload_n 1 d_BB_feed_17 rfl rfl ?_
      obtain ⟨⟨v3, s4⟩, e5, h⟩ := zbd_i h
      refine w_callV (As := [.int x1]) (kc := 18) (ci := 8) (c_Reader_append l θ e5) cf_Reader_append q_421 d_BB_feed_18 zl_3 rfl rfl rfl rfl rfl rfl (Nat.le_of_ble_eq_true rfl) rfl rfl ⟨Nat.le_of_ble_eq_true rfl, Nat.le_of_ble_eq_true rfl⟩ ?_
      exact z_iret d_BB_feed_21 h
    · have h := (if_neg c2).symm.trans h
      refine z_bipush (v := -2) d_BB_feed_10 (by decide) ?_
      exact z_iret d_BB_feed_12 h
theorem d_Kiln_empty_0 : decode b_Kiln_empty 0 = .ok (.aload_n 0, 1) := by decide +kernel
theorem d_Kiln_empty_1 : decode b_Kiln_empty 1 = .ok (.iconst (0), 1) := by decide +kernel
theorem d_Kiln_empty_2 : decode b_Kiln_empty 2 = .ok (.putfield 33, 3) := by decide +kernel
theorem d_Kiln_empty_5 : decode b_Kiln_empty 5 = .ok (.aload_n 0, 1) := by decide +kernel
theorem d_Kiln_empty_6 : decode b_Kiln_empty 6 = .ok (.iconst (0), 1) := by decide +kernel
theorem d_Kiln_empty_7 : decode b_Kiln_empty 7 = .ok (.putfield 36, 3) := by decide +kernel
theorem d_Kiln_empty_10 : decode b_Kiln_empty 10 = .ok (.aload_n 0, 1) := by decide +kernel
theorem d_Kiln_empty_11 : decode b_Kiln_empty 11 = .ok (.iconst (0), 1) := by decide +kernel
theorem d_Kiln_empty_12 : decode b_Kiln_empty 12 = .ok (.putfield 39, 3) := by decide +kernel
theorem d_Kiln_empty_15 : decode b_Kiln_empty 15 = .ok (.aload_n 0, 1) := by decide +kernel
theorem d_Kiln_empty_16 : decode b_Kiln_empty 16 = .ok (.bipush (50), 2) := by decide +kernel
theorem d_Kiln_empty_18 : decode b_Kiln_empty 18 = .ok (.putfield 29, 3) := by decide +kernel
theorem d_Kiln_empty_21 : decode b_Kiln_empty 21 = .ok (.return_, 1) := by decide +kernel
theorem c_Kiln_empty (l : Launch) (θ : ZT) {x0 : Nat} {σ : ZM} {res : Unit × ZM} (h : f_Kiln_empty x0 σ = some res) : zMet mkV l 0 129 θ y_Kiln_empty b_Kiln_empty 1 none (zrm 1 60) [.ref (za θ x0)] σ res := by
  unfold f_Kiln_empty at h
  obtain ⟨hx0, h⟩ := zck_i h
  refine z_met (lv := [(0, .ref (za θ x0))]) (by decide +kernel) rfl (Nat.le_of_ble_eq_true rfl) (by decide) ?_
  refine z_aload_n 0 d_Kiln_empty_0 rfl rfl ?_
  refine z_iconst (v := 0) d_Kiln_empty_1 (by decide) ?_
  refine pf_Kiln_clauses hx0 d_Kiln_empty_2 q_177 ?_
  refine z_aload_n 0 d_Kiln_empty_5 rfl rfl ?_
  refine z_iconst (v := 0) d_Kiln_empty_6 (by decide) ?_
  refine pf_Kiln_stepCount hx0 d_Kiln_empty_7 q_178 ?_
  refine z_aload_n 0 d_Kiln_empty_10 rfl rfl ?_
  refine z_iconst (v := 0) d_Kiln_empty_11 (by decide) ?_
  refine pf_Kiln_takeClauses hx0 d_Kiln_empty_12 q_180 ?_
  refine z_aload_n 0 d_Kiln_empty_15 rfl rfl ?_
  refine z_bipush (v := 50) d_Kiln_empty_16 (by decide) ?_
  refine pf_Kiln_coldPart hx0 d_Kiln_empty_18 q_181 ?_
  exact z_vret d_Kiln_empty_21 h
theorem d_Reader_here_0 : decode b_Reader_here 0 = .ok (.aload_n 0, 1) := by decide +kernel
theorem d_Reader_here_1 : decode b_Reader_here 1 = .ok (.getfield 28, 3) := by decide +kernel
theorem d_Reader_here_4 : decode b_Reader_here 4 = .ok (.ifCond .lt (26), 3) := by decide +kernel
theorem d_Reader_here_7 : decode b_Reader_here 7 = .ok (.aload_n 0, 1) := by decide +kernel
theorem d_Reader_here_8 : decode b_Reader_here 8 = .ok (.getfield 28, 3) := by decide +kernel
theorem d_Reader_here_11 : decode b_Reader_here 11 = .ok (.aload_n 0, 1) := by decide +kernel
theorem d_Reader_here_12 : decode b_Reader_here 12 = .ok (.getfield 15, 3) := by decide +kernel
theorem d_Reader_here_15 : decode b_Reader_here 15 = .ok (.if_icmp .ge (15), 3) := by decide +kernel
theorem d_Reader_here_18 : decode b_Reader_here 18 = .ok (.aload_n 0, 1) := by decide +kernel
theorem d_Reader_here_19 : decode b_Reader_here 19 = .ok (.getfield 11, 3) := by decide +kernel
theorem d_Reader_here_22 : decode b_Reader_here 22 = .ok (.aload_n 0, 1) := by decide +kernel
theorem d_Reader_here_23 : decode b_Reader_here 23 = .ok (.getfield 28, 3) := by decide +kernel
theorem d_Reader_here_26 : decode b_Reader_here 26 = .ok (.iaload, 1) := by decide +kernel
theorem d_Reader_here_27 : decode b_Reader_here 27 = .ok (.goto (4), 3) := by decide +kernel
theorem d_Reader_here_30 : decode b_Reader_here 30 = .ok (.iconst (-1), 1) := by decide +kernel
theorem d_Reader_here_31 : decode b_Reader_here 31 = .ok (.ireturn, 1) := by decide +kernel
theorem c_Reader_here (l : Launch) (θ : ZT)  {σ : ZM} {res : Int32 × ZM} (h : f_Reader_here σ = some res) : zMet mkI l 0 129 θ y_Reader_here b_Reader_here 1 (some .int) (zrm 1 60) [.ref (za θ 3)] σ res := by
  unfold f_Reader_here at h
  refine z_met (lv := [(0, .ref (za θ 3))]) (by decide +kernel) rfl (Nat.le_of_ble_eq_true rfl) (by decide) ?_
  refine z_aload_n 0 d_Reader_here_0 rfl rfl ?_
  refine gf_Reader_at zl_3 d_Reader_here_1 q_151 ?_
  refine z_if_lt (tgt := 30) d_Reader_here_4 (by decide) (fun c1 => ?_) (fun c1 => ?_)
  · have h := (if_pos c1).symm.trans h
    refine z_iconst (v := -1) d_Reader_here_30 (by decide) ?_
    exact z_iret d_Reader_here_31 h
  · have h := (if_neg c1).symm.trans h
    refine z_aload_n 0 d_Reader_here_7 rfl rfl ?_
    refine gf_Reader_at zl_3 d_Reader_here_8 q_151 ?_
    refine z_aload_n 0 d_Reader_here_11 rfl rfl ?_
    refine gf_Reader_length zl_3 d_Reader_here_12 q_149 ?_
    refine z_icmp_ge (tgt := 30) d_Reader_here_15 (by decide) (fun c2 => ?_) (fun c2 => ?_)
    · have h := (if_pos c2).symm.trans h
      refine z_iconst (v := -1) d_Reader_here_30 (by decide) ?_
      exact z_iret d_Reader_here_31 h
    · have h := (if_neg c2).symm.trans h
      refine z_aload_n 0 d_Reader_here_18 rfl rfl ?_
      refine gf_Reader_text zl_3 d_Reader_here_19 q_148 ?_
      refine z_aload_n 0 d_Reader_here_22 rfl rfl ?_
      refine gf_Reader_at zl_3 d_Reader_here_23 q_151 ?_
      obtain ⟨c3, h⟩ := zck_i h
      refine w_iald zl_4 c3 d_Reader_here_26 ?_
      refine z_goto (tgt := 31) d_Reader_here_27 (by decide) ?_
      exact z_iret d_Reader_here_31 h
theorem d_Reader_wordFrom_0 : decode b_Reader_wordFrom 0 = .ok (.iload_n 0, 1) := by decide +kernel
theorem d_Reader_wordFrom_1 : decode b_Reader_wordFrom 1 = .ok (.lookupswitch (51) #[(99, 47), (102, 49), (109, 45), (116, 43)], 43) := by decide +kernel
theorem d_Reader_wordFrom_44 : decode b_Reader_wordFrom 44 = .ok (.iconst (0), 1) := by decide +kernel
theorem d_Reader_wordFrom_45 : decode b_Reader_wordFrom 45 = .ok (.ireturn, 1) := by decide +kernel
theorem d_Reader_wordFrom_46 : decode b_Reader_wordFrom 46 = .ok (.iconst (1), 1) := by decide +kernel
theorem d_Reader_wordFrom_47 : decode b_Reader_wordFrom 47 = .ok (.ireturn, 1) := by decide +kernel
theorem d_Reader_wordFrom_48 : decode b_Reader_wordFrom 48 = .ok (.iconst (2), 1) := by decide +kernel
theorem d_Reader_wordFrom_49 : decode b_Reader_wordFrom 49 = .ok (.ireturn, 1) := by decide +kernel
theorem d_Reader_wordFrom_50 : decode b_Reader_wordFrom 50 = .ok (.iconst (3), 1) := by decide +kernel
theorem d_Reader_wordFrom_51 : decode b_Reader_wordFrom 51 = .ok (.ireturn, 1) := by decide +kernel
theorem d_Reader_wordFrom_52 : decode b_Reader_wordFrom 52 = .ok (.iconst (-1), 1) := by decide +kernel
theorem d_Reader_wordFrom_53 : decode b_Reader_wordFrom 53 = .ok (.ireturn, 1) := by decide +kernel
theorem c_Reader_wordFrom (l : Launch) (θ : ZT) {x0 : Int32} {σ : ZM} {res : Int32 × ZM} (h : f_Reader_wordFrom x0 σ = some res) : zMet mkI l 0 129 θ y_Reader_wordFrom b_Reader_wordFrom 1 (some .int) (zrm 1 60) [.int x0] σ res := by
  unfold f_Reader_wordFrom at h
  refine z_met (lv := [(0, .int x0)]) (by decide +kernel) rfl (Nat.le_of_ble_eq_true rfl) (by decide) ?_
  refine z_iload_n 0 d_Reader_wordFrom_0 rfl rfl ?_
  by_cases c1 : x0 = (99 : Int32)
  · have h := (if_pos c1).symm.trans h
    refine z_lookup (off := 47) (tgt := 48) d_Reader_wordFrom_1 (by decide) (by rw [c1]; decide) (by decide) ?_
    refine z_iconst (v := 2) d_Reader_wordFrom_48 (by decide) ?_
    exact z_iret d_Reader_wordFrom_49 h
  have h := (if_neg c1).symm.trans h
  by_cases c2 : x0 = (102 : Int32)
  · have h := (if_pos c2).symm.trans h
    refine z_lookup (off := 49) (tgt := 50) d_Reader_wordFrom_1 (by decide) (by rw [c2]; decide) (by decide) ?_
    refine z_iconst (v := 3) d_Reader_wordFrom_50 (by decide) ?_
    exact z_iret d_Reader_wordFrom_51 h
  have h := (if_neg c2).symm.trans h
  by_cases c3 : x0 = (109 : Int32)
  · have h := (if_pos c3).symm.trans h
    refine z_lookup (off := 45) (tgt := 46) d_Reader_wordFrom_1 (by decide) (by rw [c3]; decide) (by decide) ?_
    refine z_iconst (v := 1) d_Reader_wordFrom_46 (by decide) ?_
    exact z_iret d_Reader_wordFrom_47 h
  have h := (if_neg c3).symm.trans h
  by_cases c4 : x0 = (116 : Int32)
  · have h := (if_pos c4).symm.trans h
    refine z_lookup (off := 43) (tgt := 44) d_Reader_wordFrom_1 (by decide) (by rw [c4]; decide) (by decide) ?_
    refine z_iconst (v := 0) d_Reader_wordFrom_44 (by decide) ?_
    exact z_iret d_Reader_wordFrom_45 h
  have h := (if_neg c4).symm.trans h
  refine z_lookup (off := 51) (tgt := 52) d_Reader_wordFrom_1 (by decide) ((lv_osw c1 (by decide)).trans ((lv_osw c2 (by decide)).trans ((lv_osw c3 (by decide)).trans ((lv_osw c4 (by decide)).trans (rfl))))) (by decide) ?_
  refine z_iconst (v := -1) d_Reader_wordFrom_52 (by decide) ?_
  exact z_iret d_Reader_wordFrom_53 h
theorem d_Reader_spelling_0 : decode b_Reader_spelling 0 = .ok (.iload_n 0, 1) := by decide +kernel
theorem d_Reader_spelling_1 : decode b_Reader_spelling 1 = .ok (.tableswitch (36) (0) (2) #[27, 30, 33], 27) := by decide +kernel
theorem d_Reader_spelling_28 : decode b_Reader_spelling 28 = .ok (.ldc 96, 2) := by decide +kernel
theorem d_Reader_spelling_30 : decode b_Reader_spelling 30 = .ok (.areturn, 1) := by decide +kernel
theorem d_Reader_spelling_31 : decode b_Reader_spelling 31 = .ok (.ldc 98, 2) := by decide +kernel
theorem d_Reader_spelling_33 : decode b_Reader_spelling 33 = .ok (.areturn, 1) := by decide +kernel
theorem d_Reader_spelling_34 : decode b_Reader_spelling 34 = .ok (.ldc 100, 2) := by decide +kernel
theorem d_Reader_spelling_36 : decode b_Reader_spelling 36 = .ok (.areturn, 1) := by decide +kernel
theorem d_Reader_spelling_37 : decode b_Reader_spelling 37 = .ok (.ldc 102, 2) := by decide +kernel
theorem d_Reader_spelling_39 : decode b_Reader_spelling 39 = .ok (.areturn, 1) := by decide +kernel
theorem c_Reader_spelling (l : Launch) (θ : ZT) {x0 : Int32} {σ : ZM} {res : Nat × ZM} (h : f_Reader_spelling x0 σ = some res) : zMet mkS l 0 129 θ y_Reader_spelling b_Reader_spelling 1 (some (.object "java/lang/String")) (zrm 1 60) [.int x0] σ res := by
  unfold f_Reader_spelling at h
  refine z_met (lv := [(0, .int x0)]) (by decide +kernel) rfl (Nat.le_of_ble_eq_true rfl) (by decide) ?_
  refine z_iload_n 0 d_Reader_spelling_0 rfl rfl ?_
  by_cases c1 : x0 = (0 : Int32)
  · have h := (if_pos c1).symm.trans h
    refine z_tableIn (k := 0) (off := 27) (tgt := 28) d_Reader_spelling_1 c1 (by decide) ?_
    refine z_lds0 rfl d_Reader_spelling_28 ?_
    exact z_sret (i := 0) d_Reader_spelling_30 h
  have h := (if_neg c1).symm.trans h
  by_cases c2 : x0 = (1 : Int32)
  · have h := (if_pos c2).symm.trans h
    refine z_tableIn (k := 1) (off := 30) (tgt := 31) d_Reader_spelling_1 c2 (by decide) ?_
    refine z_lds1 rfl d_Reader_spelling_31 ?_
    exact z_sret (i := 1) d_Reader_spelling_33 h
  have h := (if_neg c2).symm.trans h
  by_cases c3 : x0 = (2 : Int32)
  · have h := (if_pos c3).symm.trans h
    refine z_tableIn (k := 2) (off := 33) (tgt := 34) d_Reader_spelling_1 c3 (by decide) ?_
    refine z_lds2 rfl d_Reader_spelling_34 ?_
    exact z_sret (i := 2) d_Reader_spelling_36 h
  have h := (if_neg c3).symm.trans h
  have nc1 := lv_neT (a := 0) c1 (by decide)
  have nc2 := lv_neT (a := 1) c2 (by decide)
  have nc3 := lv_neT (a := 2) c3 (by decide)
  refine z_tableOut (tgt := 37) d_Reader_spelling_1 (by omega) (by decide) ?_
  refine z_lds3 rfl d_Reader_spelling_37 ?_
  exact z_sret (i := 3) d_Reader_spelling_39 h
theorem d_Reader_skip_0 : decode b_Reader_skip 0 = .ok (.aload_n 0, 1) := by decide +kernel
theorem d_Reader_skip_1 : decode b_Reader_skip 1 = .ok (.invokevirtual 39, 3) := by decide +kernel
theorem d_Reader_skip_4 : decode b_Reader_skip 4 = .ok (.iload_n 1, 1) := by decide +kernel
theorem d_Reader_skip_5 : decode b_Reader_skip 5 = .ok (.if_icmp .eq (5), 3) := by decide +kernel
theorem d_Reader_skip_8 : decode b_Reader_skip 8 = .ok (.iconst (0), 1) := by decide +kernel
theorem d_Reader_skip_9 : decode b_Reader_skip 9 = .ok (.ireturn, 1) := by decide +kernel
theorem d_Reader_skip_10 : decode b_Reader_skip 10 = .ok (.aload_n 0, 1) := by decide +kernel
theorem d_Reader_skip_11 : decode b_Reader_skip 11 = .ok (.dup, 1) := by decide +kernel
theorem d_Reader_skip_12 : decode b_Reader_skip 12 = .ok (.getfield 28, 3) := by decide +kernel
theorem d_Reader_skip_15 : decode b_Reader_skip 15 = .ok (.iconst (1), 1) := by decide +kernel
theorem d_Reader_skip_16 : decode b_Reader_skip 16 = .ok (.iadd, 1) := by decide +kernel
theorem d_Reader_skip_17 : decode b_Reader_skip 17 = .ok (.putfield 28, 3) := by decide +kernel
theorem d_Reader_skip_20 : decode b_Reader_skip 20 = .ok (.iconst (1), 1) := by decide +kernel
theorem d_Reader_skip_21 : decode b_Reader_skip 21 = .ok (.ireturn, 1) := by decide +kernel
theorem c_Reader_skip (l : Launch) (θ : ZT) {x1 : Int32} {σ : ZM} {res : Int32 × ZM} (h : f_Reader_skip x1 σ = some res) : zMet mkI l 0 129 θ y_Reader_skip b_Reader_skip 2 (some .boolean) (zrm 2 80) [.ref (za θ 3), .int x1] σ res := by
  unfold f_Reader_skip at h
  refine z_met (lv := [(0, .ref (za θ 3)), (1, .int x1)]) (by decide +kernel) rfl (Nat.le_of_ble_eq_true rfl) (by decide) ?_
  refine z_aload_n 0 d_Reader_skip_0 rfl rfl ?_
  obtain ⟨⟨v1, s2⟩, e3, h⟩ := zbd_i h
  refine w_callV (As := []) (kc := 18) (ci := 8) (c_Reader_here l θ e3) cf_Reader_here q_441 d_Reader_skip_1 zl_3 rfl rfl rfl rfl rfl rfl (Nat.le_of_ble_eq_true rfl) rfl rfl ⟨Nat.le_of_ble_eq_true rfl, Nat.le_of_ble_eq_true rfl⟩ ?_
  refine z_iload_n 1 d_Reader_skip_4 rfl rfl ?_
  refine z_icmp_eq (tgt := 10) d_Reader_skip_5 (by decide) (fun c4 => ?_) (fun c4 => ?_)
  · have h := (if_pos c4).symm.trans h
    refine z_aload_n 0 d_Reader_skip_10 rfl rfl ?_
    refine z_dup d_Reader_skip_11 rfl ?_
    refine gf_Reader_at zl_3 d_Reader_skip_12 q_151 ?_
    refine z_iconst (v := 1) d_Reader_skip_15 (by decide) ?_
    refine z_iadd d_Reader_skip_16 ?_
    refine pf_Reader_at zl_3 d_Reader_skip_17 q_151 ?_
    refine z_iconst (v := 1) d_Reader_skip_20 (by decide) ?_
    exact z_zret d_Reader_skip_21 (by decide) h
  · have h := (if_neg c4).symm.trans h
    refine z_iconst (v := 0) d_Reader_skip_8 (by decide) ?_
    exact z_zret d_Reader_skip_9 (by decide) h
theorem d_Reader_readWord_0 : decode b_Reader_readWord 0 = .ok (.iconst (0), 1) := by decide +kernel
theorem d_Reader_readWord_1 : decode b_Reader_readWord 1 = .ok (.istore_n 2, 1) := by decide +kernel
theorem d_Reader_readWord_2 : decode b_Reader_readWord 2 = .ok (.iload_n 2, 1) := by decide +kernel
theorem d_Reader_readWord_3 : decode b_Reader_readWord 3 = .ok (.aload_n 1, 1) := by decide +kernel
theorem d_Reader_readWord_4 : decode b_Reader_readWord 4 = .ok (.invokevirtual 69, 3) := by decide +kernel
theorem d_Reader_readWord_7 : decode b_Reader_readWord 7 = .ok (.if_icmp .ge (23), 3) := by decide +kernel
theorem d_Reader_readWord_10 : decode b_Reader_readWord 10 = .ok (.aload_n 0, 1) := by decide +kernel
theorem d_Reader_readWord_11 : decode b_Reader_readWord 11 = .ok (.aload_n 1, 1) := by decide +kernel
theorem d_Reader_readWord_12 : decode b_Reader_readWord 12 = .ok (.iload_n 2, 1) := by decide +kernel
theorem d_Reader_readWord_13 : decode b_Reader_readWord 13 = .ok (.invokevirtual 73, 3) := by decide +kernel
theorem d_Reader_readWord_16 : decode b_Reader_readWord 16 = .ok (.invokevirtual 35, 3) := by decide +kernel
theorem d_Reader_readWord_19 : decode b_Reader_readWord 19 = .ok (.ifCond .ne (5), 3) := by decide +kernel
theorem d_Reader_readWord_22 : decode b_Reader_readWord 22 = .ok (.iconst (0), 1) := by decide +kernel
theorem d_Reader_readWord_23 : decode b_Reader_readWord 23 = .ok (.ireturn, 1) := by decide +kernel
theorem d_Reader_readWord_24 : decode b_Reader_readWord 24 = .ok (.iinc 2 (1), 3) := by decide +kernel
theorem d_Reader_readWord_27 : decode b_Reader_readWord 27 = .ok (.goto (-25), 3) := by decide +kernel
theorem d_Reader_readWord_30 : decode b_Reader_readWord 30 = .ok (.iconst (1), 1) := by decide +kernel
theorem d_Reader_readWord_31 : decode b_Reader_readWord 31 = .ok (.ireturn, 1) := by decide +kernel
theorem zb_Reader_readWord_2 {l : Launch} {θ : ZT} {res : Int32 × ZM} {k2 : Nat × Int32 × ZM → Option (Int32 × ZM)} (hk2 : ∀ a : Nat × Int32 × ZM, decide (a.1 < 8) = true → k2 a = some res → WZ l b_Reader_readWord 3 (some .boolean) "BakedBefore$Reade\x72" 0 129 θ (zrm 7 400) (zQ mkI 0 129 θ res) a.2.2 [(0, .ref (za θ 3)), (1, .ref (zf θ (2 + a.1))), (2, .int a.2.1)] 2 []) {x1 : Nat} {x2 : Int32} {σ : ZM} (hx1 : decide (x1 < 8) = true) (h : f_Reader_readWord_2 k2 x1 x2 σ = some res) : WZ l b_Reader_readWord 3 (some .boolean) "BakedBefore$Reade\x72" 0 129 θ (zrm 7 400) (zQ mkI 0 129 θ res) σ [(0, .ref (za θ 3)), (1, .ref (zf θ (2 + x1))), (2, .int x2)] 2 [] := by
  unfold f_Reader_readWord_2 at h
  refine z_iload_n 2 d_Reader_readWord_2 rfl rfl ?_
  refine z_aload_n 1 d_Reader_readWord_3 rfl rfl ?_
  refine w_slen hx1 d_Reader_readWord_4 q_459 (by decide) (by decide) (Nat.le_of_ble_eq_true rfl) ?_
  refine z_icmp_ge (tgt := 30) d_Reader_readWord_7 (by decide) (fun c1 => ?_) (fun c1 => ?_)
  · have h := (if_pos c1).symm.trans h
    refine z_iconst (v := 1) d_Reader_readWord_30 (by decide) ?_
    exact z_zret d_Reader_readWord_31 (by decide) h
  · have h := (if_neg c1).symm.trans h
    refine z_aload_n 0 d_Reader_readWord_10 rfl rfl ?_
    refine z_aload_n 1 d_Reader_readWord_11 rfl rfl ?_
    refine z_iload_n 2 d_Reader_readWord_12 rfl rfl ?_
    obtain ⟨c2, h⟩ := zck_i h
    refine w_schar hx1 c2 d_Reader_readWord_13 q_469 (by decide) (by decide) (Nat.le_of_ble_eq_true rfl) ?_
    obtain ⟨⟨v3, s4⟩, e5, h⟩ := zbd_i h
    refine w_callV (As := [.int (zschar x1 x2)]) (kc := 18) (ci := 8) (c_Reader_skip l θ e5) cf_Reader_skip q_507 d_Reader_readWord_16 zl_3 rfl rfl rfl rfl rfl rfl (Nat.le_of_ble_eq_true rfl) rfl rfl ⟨Nat.le_of_ble_eq_true rfl, Nat.le_of_ble_eq_true rfl⟩ ?_
    refine z_if_ne (tgt := 24) d_Reader_readWord_19 (by decide) (fun c6 => ?_) (fun c6 => ?_)
    · have h := (if_neg c6).symm.trans h
      refine z_iinc (v := x2 + (1 : Int32)) 2 d_Reader_readWord_24 rfl rfl (by decide) rfl ?_
      refine z_goto (tgt := 2) d_Reader_readWord_27 (by decide) ?_
      refine z_sub [1, 2, 0] rfl ?_
      exact hk2 (x1, (x2 + (1 : Int32)), s4) hx1 h
    · have h := (if_pos c6).symm.trans h
      refine z_iconst (v := 0) d_Reader_readWord_22 (by decide) ?_
      exact z_zret d_Reader_readWord_23 (by decide) h
theorem zl_Reader_readWord_2 {l : Launch} {θ : ZT} {res : Int32 × ZM} : ∀ (N : Nat) (a : Nat × Int32 × ZM), decide (a.1 < 8) = true → F_Reader_readWord_2 N a = some res → WZ l b_Reader_readWord 3 (some .boolean) "BakedBefore$Reade\x72" 0 129 θ (zrm 7 400) (zQ mkI 0 129 θ res) a.2.2 [(0, .ref (za θ 3)), (1, .ref (zf θ (2 + a.1))), (2, .int a.2.1)] 2 [] := by
  intro N
  induction N with
  | zero => intro a hx1 h; cases (show (none : Option (Int32 × ZM)) = some res from h)
  | succ N ih => intro a hx1 h; exact zb_Reader_readWord_2 ih hx1 (show f_Reader_readWord_2 (F_Reader_readWord_2 N) a.1 a.2.1 a.2.2 = some res from h)
theorem c_Reader_readWord (l : Launch) (θ : ZT) {x1 : Nat} {σ : ZM} {res : Int32 × ZM} (h : f_Reader_readWord x1 σ = some res) : zMet mkI l 0 129 θ y_Reader_readWord b_Reader_readWord 3 (some .boolean) (zrm 7 400) [.ref (za θ 3), .ref (zf θ (2 + x1))] σ res := by
  unfold f_Reader_readWord at h
  obtain ⟨hx1, h⟩ := zck_i h
  refine z_met (lv := [(0, .ref (za θ 3)), (1, .ref (zf θ (2 + x1)))]) (by decide +kernel) rfl (Nat.le_of_ble_eq_true rfl) (by decide) ?_
  refine z_iconst (v := 0) d_Reader_readWord_0 (by decide) ?_
  refine z_istore_n d_Reader_readWord_1 rfl (by decide) rfl ?_
  refine z_sub [1, 2, 0] rfl ?_
  exact zl_Reader_readWord_2 2000 (x1, (0 : Int32), σ) hx1 h
theorem d_Reader_isDigit_0 : decode b_Reader_isDigit 0 = .ok (.iload_n 0, 1) := by decide +kernel
theorem d_Reader_isDigit_1 : decode b_Reader_isDigit 1 = .ok (.bipush (48), 2) := by decide +kernel
theorem d_Reader_isDigit_3 : decode b_Reader_isDigit 3 = .ok (.if_icmp .lt (13), 3) := by decide +kernel
theorem d_Reader_isDigit_6 : decode b_Reader_isDigit 6 = .ok (.iload_n 0, 1) := by decide +kernel
theorem d_Reader_isDigit_7 : decode b_Reader_isDigit 7 = .ok (.bipush (57), 2) := by decide +kernel
theorem d_Reader_isDigit_9 : decode b_Reader_isDigit 9 = .ok (.if_icmp .gt (7), 3) := by decide +kernel
theorem d_Reader_isDigit_12 : decode b_Reader_isDigit 12 = .ok (.iconst (1), 1) := by decide +kernel
theorem d_Reader_isDigit_13 : decode b_Reader_isDigit 13 = .ok (.goto (4), 3) := by decide +kernel
theorem d_Reader_isDigit_16 : decode b_Reader_isDigit 16 = .ok (.iconst (0), 1) := by decide +kernel
theorem d_Reader_isDigit_17 : decode b_Reader_isDigit 17 = .ok (.ireturn, 1) := by decide +kernel
theorem c_Reader_isDigit (l : Launch) (θ : ZT) {x0 : Int32} {σ : ZM} {res : Int32 × ZM} (h : f_Reader_isDigit x0 σ = some res) : zMet mkI l 0 129 θ y_Reader_isDigit b_Reader_isDigit 1 (some .boolean) (zrm 1 60) [.int x0] σ res := by
  unfold f_Reader_isDigit at h
  refine z_met (lv := [(0, .int x0)]) (by decide +kernel) rfl (Nat.le_of_ble_eq_true rfl) (by decide) ?_
  refine z_iload_n 0 d_Reader_isDigit_0 rfl rfl ?_
  refine z_bipush (v := 48) d_Reader_isDigit_1 (by decide) ?_
  refine z_icmp_lt (tgt := 16) d_Reader_isDigit_3 (by decide) (fun c1 => ?_) (fun c1 => ?_)
  · have h := (if_pos c1).symm.trans h
    refine z_iconst (v := 0) d_Reader_isDigit_16 (by decide) ?_
    exact z_zret d_Reader_isDigit_17 (by decide) h
  · have h := (if_neg c1).symm.trans h
    refine z_iload_n 0 d_Reader_isDigit_6 rfl rfl ?_
    refine z_bipush (v := 57) d_Reader_isDigit_7 (by decide) ?_
    refine z_icmp_gt (tgt := 16) d_Reader_isDigit_9 (by decide) (fun c2 => ?_) (fun c2 => ?_)
    · have h := (if_pos c2).symm.trans h
      refine z_iconst (v := 0) d_Reader_isDigit_16 (by decide) ?_
      exact z_zret d_Reader_isDigit_17 (by decide) h
    · have h := (if_neg c2).symm.trans h
      refine z_iconst (v := 1) d_Reader_isDigit_12 (by decide) ?_
      refine z_goto (tgt := 17) d_Reader_isDigit_13 (by decide) ?_
      exact z_zret d_Reader_isDigit_17 (by decide) h
theorem d_Reader_readNumber_0 : decode b_Reader_readNumber 0 = .ok (.aload_n 0, 1) := by decide +kernel
theorem d_Reader_readNumber_1 : decode b_Reader_readNumber 1 = .ok (.invokevirtual 39, 3) := by decide +kernel
theorem d_Reader_readNumber_4 : decode b_Reader_readNumber 4 = .ok (.invokestatic 77, 3) := by decide +kernel
theorem d_Reader_readNumber_7 : decode b_Reader_readNumber 7 = .ok (.ifCond .ne (5), 3) := by decide +kernel
theorem d_Reader_readNumber_10 : decode b_Reader_readNumber 10 = .ok (.iconst (0), 1) := by decide +kernel
theorem d_Reader_readNumber_11 : decode b_Reader_readNumber 11 = .ok (.ireturn, 1) := by decide +kernel
theorem d_Reader_readNumber_12 : decode b_Reader_readNumber 12 = .ok (.aload_n 0, 1) := by decide +kernel
theorem d_Reader_readNumber_13 : decode b_Reader_readNumber 13 = .ok (.aload_n 0, 1) := by decide +kernel
theorem d_Reader_readNumber_14 : decode b_Reader_readNumber 14 = .ok (.invokevirtual 39, 3) := by decide +kernel
theorem d_Reader_readNumber_17 : decode b_Reader_readNumber 17 = .ok (.bipush (48), 2) := by decide +kernel
theorem d_Reader_readNumber_19 : decode b_Reader_readNumber 19 = .ok (.isub, 1) := by decide +kernel
theorem d_Reader_readNumber_20 : decode b_Reader_readNumber 20 = .ok (.putfield 58, 3) := by decide +kernel
theorem d_Reader_readNumber_23 : decode b_Reader_readNumber 23 = .ok (.aload_n 0, 1) := by decide +kernel
theorem d_Reader_readNumber_24 : decode b_Reader_readNumber 24 = .ok (.dup, 1) := by decide +kernel
theorem d_Reader_readNumber_25 : decode b_Reader_readNumber 25 = .ok (.getfield 28, 3) := by decide +kernel
theorem d_Reader_readNumber_28 : decode b_Reader_readNumber 28 = .ok (.iconst (1), 1) := by decide +kernel
theorem d_Reader_readNumber_29 : decode b_Reader_readNumber 29 = .ok (.iadd, 1) := by decide +kernel
theorem d_Reader_readNumber_30 : decode b_Reader_readNumber 30 = .ok (.putfield 28, 3) := by decide +kernel
theorem d_Reader_readNumber_33 : decode b_Reader_readNumber 33 = .ok (.aload_n 0, 1) := by decide +kernel
theorem d_Reader_readNumber_34 : decode b_Reader_readNumber 34 = .ok (.invokevirtual 39, 3) := by decide +kernel
theorem d_Reader_readNumber_37 : decode b_Reader_readNumber 37 = .ok (.invokestatic 77, 3) := by decide +kernel
theorem d_Reader_readNumber_40 : decode b_Reader_readNumber 40 = .ok (.ifCond .eq (32), 3) := by decide +kernel
theorem d_Reader_readNumber_43 : decode b_Reader_readNumber 43 = .ok (.aload_n 0, 1) := by decide +kernel
theorem d_Reader_readNumber_44 : decode b_Reader_readNumber 44 = .ok (.aload_n 0, 1) := by decide +kernel
theorem d_Reader_readNumber_45 : decode b_Reader_readNumber 45 = .ok (.getfield 58, 3) := by decide +kernel
theorem d_Reader_readNumber_48 : decode b_Reader_readNumber 48 = .ok (.bipush (10), 2) := by decide +kernel
theorem d_Reader_readNumber_50 : decode b_Reader_readNumber 50 = .ok (.imul, 1) := by decide +kernel
theorem d_Reader_readNumber_51 : decode b_Reader_readNumber 51 = .ok (.aload_n 0, 1) := by decide +kernel
theorem d_Reader_readNumber_52 : decode b_Reader_readNumber 52 = .ok (.invokevirtual 39, 3) := by decide +kernel
theorem d_Reader_readNumber_55 : decode b_Reader_readNumber 55 = .ok (.iadd, 1) := by decide +kernel
theorem d_Reader_readNumber_56 : decode b_Reader_readNumber 56 = .ok (.bipush (48), 2) := by decide +kernel
theorem d_Reader_readNumber_58 : decode b_Reader_readNumber 58 = .ok (.isub, 1) := by decide +kernel
theorem d_Reader_readNumber_59 : decode b_Reader_readNumber 59 = .ok (.putfield 58, 3) := by decide +kernel
theorem d_Reader_readNumber_62 : decode b_Reader_readNumber 62 = .ok (.aload_n 0, 1) := by decide +kernel
theorem d_Reader_readNumber_63 : decode b_Reader_readNumber 63 = .ok (.dup, 1) := by decide +kernel
theorem d_Reader_readNumber_64 : decode b_Reader_readNumber 64 = .ok (.getfield 28, 3) := by decide +kernel
theorem d_Reader_readNumber_67 : decode b_Reader_readNumber 67 = .ok (.iconst (1), 1) := by decide +kernel
theorem d_Reader_readNumber_68 : decode b_Reader_readNumber 68 = .ok (.iadd, 1) := by decide +kernel
theorem d_Reader_readNumber_69 : decode b_Reader_readNumber 69 = .ok (.putfield 28, 3) := by decide +kernel
theorem d_Reader_readNumber_72 : decode b_Reader_readNumber 72 = .ok (.iconst (1), 1) := by decide +kernel
theorem d_Reader_readNumber_73 : decode b_Reader_readNumber 73 = .ok (.ireturn, 1) := by decide +kernel
theorem c_Reader_readNumber (l : Launch) (θ : ZT)  {σ : ZM} {res : Int32 × ZM} (h : f_Reader_readNumber σ = some res) : zMet mkI l 0 129 θ y_Reader_readNumber b_Reader_readNumber 1 (some .boolean) (zrm 2 80) [.ref (za θ 3)] σ res := by
  unfold f_Reader_readNumber at h
  refine z_met (lv := [(0, .ref (za θ 3))]) (by decide +kernel) rfl (Nat.le_of_ble_eq_true rfl) (by decide) ?_
  refine z_aload_n 0 d_Reader_readNumber_0 rfl rfl ?_
  obtain ⟨⟨v1, s2⟩, e3, h⟩ := zbd_i h
  refine w_callV (As := []) (kc := 18) (ci := 8) (c_Reader_here l θ e3) cf_Reader_here q_441 d_Reader_readNumber_1 zl_3 rfl rfl rfl rfl rfl rfl (Nat.le_of_ble_eq_true rfl) rfl rfl ⟨Nat.le_of_ble_eq_true rfl, Nat.le_of_ble_eq_true rfl⟩ ?_
  obtain ⟨⟨v4, s5⟩, e6, h⟩ := zbd_i h
  refine w_callS (As := [.int v1]) (c_Reader_isDigit l θ e6) cf_Reader_isDigit q_515 d_Reader_readNumber_4 rfl rfl rfl (Nat.le_of_ble_eq_true rfl) rfl rfl ⟨Nat.le_of_ble_eq_true rfl, Nat.le_of_ble_eq_true rfl⟩ ?_
  refine z_if_ne (tgt := 12) d_Reader_readNumber_7 (by decide) (fun c7 => ?_) (fun c7 => ?_)
  · have h := (if_neg c7).symm.trans h
    refine z_aload_n 0 d_Reader_readNumber_12 rfl rfl ?_
    refine z_aload_n 0 d_Reader_readNumber_13 rfl rfl ?_
    obtain ⟨⟨v8, s9⟩, e10, h⟩ := zbd_i h
    refine w_callV (As := []) (kc := 18) (ci := 8) (c_Reader_here l θ e10) cf_Reader_here q_441 d_Reader_readNumber_14 zl_3 rfl rfl rfl rfl rfl rfl (Nat.le_of_ble_eq_true rfl) rfl rfl ⟨Nat.le_of_ble_eq_true rfl, Nat.le_of_ble_eq_true rfl⟩ ?_
    refine z_bipush (v := 48) d_Reader_readNumber_17 (by decide) ?_
    refine z_isub d_Reader_readNumber_19 ?_
    refine pf_Reader_number zl_3 d_Reader_readNumber_20 q_152 ?_
    refine z_aload_n 0 d_Reader_readNumber_23 rfl rfl ?_
    refine z_dup d_Reader_readNumber_24 rfl ?_
    refine gf_Reader_at zl_3 d_Reader_readNumber_25 q_151 ?_
    refine z_iconst (v := 1) d_Reader_readNumber_28 (by decide) ?_
    refine z_iadd d_Reader_readNumber_29 ?_
    refine pf_Reader_at zl_3 d_Reader_readNumber_30 q_151 ?_
    refine z_aload_n 0 d_Reader_readNumber_33 rfl rfl ?_
    obtain ⟨⟨v11, s12⟩, e13, h⟩ := zbd_i h
    refine w_callV (As := []) (kc := 18) (ci := 8) (c_Reader_here l θ e13) cf_Reader_here q_441 d_Reader_readNumber_34 zl_3 rfl rfl rfl rfl rfl rfl (Nat.le_of_ble_eq_true rfl) rfl rfl ⟨Nat.le_of_ble_eq_true rfl, Nat.le_of_ble_eq_true rfl⟩ ?_
    obtain ⟨⟨v14, s15⟩, e16, h⟩ := zbd_i h
    refine w_callS (As := [.int v11]) (c_Reader_isDigit l θ e16) cf_Reader_isDigit q_515 d_Reader_readNumber_37 rfl rfl rfl (Nat.le_of_ble_eq_true rfl) rfl rfl ⟨Nat.le_of_ble_eq_true rfl, Nat.le_of_ble_eq_true rfl⟩ ?_
    refine z_if_eq (tgt := 72) d_Reader_readNumber_40 (by decide) (fun c17 => ?_) (fun c17 => ?_)
    · have h := (if_pos c17).symm.trans h
      refine z_iconst (v := 1) d_Reader_readNumber_72 (by decide) ?_
      exact z_zret d_Reader_readNumber_73 (by decide) h
    · have h := (if_neg c17).symm.trans h
      refine z_aload_n 0 d_Reader_readNumber_43 rfl rfl ?_
      refine z_aload_n 0 d_Reader_readNumber_44 rfl rfl ?_
      refine gf_Reader_number zl_3 d_Reader_readNumber_45 q_152 ?_
      refine z_bipush (v := 10) d_Reader_readNumber_48 (by decide) ?_
      refine z_imul d_Reader_readNumber_50 ?_
      refine z_aload_n 0 d_Reader_readNumber_51 rfl rfl ?_
      obtain ⟨⟨v18, s19⟩, e20, h⟩ := zbd_i h
      refine w_callV (As := []) (kc := 18) (ci := 8) (c_Reader_here l θ e20) cf_Reader_here q_441 d_Reader_readNumber_52 zl_3 rfl rfl rfl rfl rfl rfl (Nat.le_of_ble_eq_true rfl) rfl rfl ⟨Nat.le_of_ble_eq_true rfl, Nat.le_of_ble_eq_true rfl⟩ ?_
      refine z_iadd d_Reader_readNumber_55 ?_
      refine z_bipush (v := 48) d_Reader_readNumber_56 (by decide) ?_
      refine z_isub d_Reader_readNumber_58 ?_
      refine pf_Reader_number zl_3 d_Reader_readNumber_59 q_152 ?_
      refine z_aload_n 0 d_Reader_readNumber_62 rfl rfl ?_
      refine z_dup d_Reader_readNumber_63 rfl ?_
      refine gf_Reader_at zl_3 d_Reader_readNumber_64 q_151 ?_
      refine z_iconst (v := 1) d_Reader_readNumber_67 (by decide) ?_
      refine z_iadd d_Reader_readNumber_68 ?_
      refine pf_Reader_at zl_3 d_Reader_readNumber_69 q_151 ?_
      refine z_iconst (v := 1) d_Reader_readNumber_72 (by decide) ?_
      exact z_zret d_Reader_readNumber_73 (by decide) h
  · have h := (if_pos c7).symm.trans h
    refine z_iconst (v := 0) d_Reader_readNumber_10 (by decide) ?_
    exact z_zret d_Reader_readNumber_11 (by decide) h
theorem d_Kiln_begin_0 : decode b_Kiln_begin 0 = .ok (.aload_n 0, 1) := by decide +kernel
theorem d_Kiln_begin_1 : decode b_Kiln_begin 1 = .ok (.getfield 33, 3) := by decide +kernel
theorem d_Kiln_begin_4 : decode b_Kiln_begin 4 = .ok (.bipush (10), 2) := by decide +kernel
theorem d_Kiln_begin_6 : decode b_Kiln_begin 6 = .ok (.if_icmp .lt (4), 3) := by decide +kernel
theorem d_Kiln_begin_9 : decode b_Kiln_begin 9 = .ok (.return_, 1) := by decide +kernel
theorem d_Kiln_begin_10 : decode b_Kiln_begin 10 = .ok (.aload_n 0, 1) := by decide +kernel
theorem d_Kiln_begin_11 : decode b_Kiln_begin 11 = .ok (.getfield 11, 3) := by decide +kernel
theorem d_Kiln_begin_14 : decode b_Kiln_begin 14 = .ok (.aload_n 0, 1) := by decide +kernel
theorem d_Kiln_begin_15 : decode b_Kiln_begin 15 = .ok (.getfield 33, 3) := by decide +kernel
theorem d_Kiln_begin_18 : decode b_Kiln_begin 18 = .ok (.iload_n 1, 1) := by decide +kernel
theorem d_Kiln_begin_19 : decode b_Kiln_begin 19 = .ok (.iastore, 1) := by decide +kernel
theorem d_Kiln_begin_20 : decode b_Kiln_begin 20 = .ok (.aload_n 0, 1) := by decide +kernel
theorem d_Kiln_begin_21 : decode b_Kiln_begin 21 = .ok (.getfield 15, 3) := by decide +kernel
theorem d_Kiln_begin_24 : decode b_Kiln_begin 24 = .ok (.aload_n 0, 1) := by decide +kernel
theorem d_Kiln_begin_25 : decode b_Kiln_begin 25 = .ok (.getfield 33, 3) := by decide +kernel
theorem d_Kiln_begin_28 : decode b_Kiln_begin 28 = .ok (.iload_n 2, 1) := by decide +kernel
theorem d_Kiln_begin_29 : decode b_Kiln_begin 29 = .ok (.iastore, 1) := by decide +kernel
theorem d_Kiln_begin_30 : decode b_Kiln_begin 30 = .ok (.aload_n 0, 1) := by decide +kernel
theorem d_Kiln_begin_31 : decode b_Kiln_begin 31 = .ok (.getfield 18, 3) := by decide +kernel
theorem d_Kiln_begin_34 : decode b_Kiln_begin 34 = .ok (.aload_n 0, 1) := by decide +kernel
theorem d_Kiln_begin_35 : decode b_Kiln_begin 35 = .ok (.getfield 33, 3) := by decide +kernel
theorem d_Kiln_begin_38 : decode b_Kiln_begin 38 = .ok (.aload_n 0, 1) := by decide +kernel
theorem d_Kiln_begin_39 : decode b_Kiln_begin 39 = .ok (.getfield 36, 3) := by decide +kernel
theorem d_Kiln_begin_42 : decode b_Kiln_begin 42 = .ok (.iastore, 1) := by decide +kernel
theorem d_Kiln_begin_43 : decode b_Kiln_begin 43 = .ok (.aload_n 0, 1) := by decide +kernel
theorem d_Kiln_begin_44 : decode b_Kiln_begin 44 = .ok (.dup, 1) := by decide +kernel
theorem d_Kiln_begin_45 : decode b_Kiln_begin 45 = .ok (.getfield 33, 3) := by decide +kernel
theorem d_Kiln_begin_48 : decode b_Kiln_begin 48 = .ok (.iconst (1), 1) := by decide +kernel
theorem d_Kiln_begin_49 : decode b_Kiln_begin 49 = .ok (.iadd, 1) := by decide +kernel
theorem d_Kiln_begin_50 : decode b_Kiln_begin 50 = .ok (.putfield 33, 3) := by decide +kernel
theorem d_Kiln_begin_53 : decode b_Kiln_begin 53 = .ok (.iload_n 1, 1) := by decide +kernel
theorem d_Kiln_begin_54 : decode b_Kiln_begin 54 = .ok (.ifCond .ne (13), 3) := by decide +kernel
theorem d_Kiln_begin_57 : decode b_Kiln_begin 57 = .ok (.aload_n 0, 1) := by decide +kernel
theorem d_Kiln_begin_58 : decode b_Kiln_begin 58 = .ok (.dup, 1) := by decide +kernel
theorem d_Kiln_begin_59 : decode b_Kiln_begin 59 = .ok (.getfield 39, 3) := by decide +kernel
theorem d_Kiln_begin_62 : decode b_Kiln_begin 62 = .ok (.iconst (1), 1) := by decide +kernel
theorem d_Kiln_begin_63 : decode b_Kiln_begin 63 = .ok (.iadd, 1) := by decide +kernel
theorem d_Kiln_begin_64 : decode b_Kiln_begin 64 = .ok (.putfield 39, 3) := by decide +kernel
theorem d_Kiln_begin_67 : decode b_Kiln_begin 67 = .ok (.iload_n 1, 1) := by decide +kernel
theorem d_Kiln_begin_68 : decode b_Kiln_begin 68 = .ok (.iconst (2), 1) := by decide +kernel
theorem d_Kiln_begin_69 : decode b_Kiln_begin 69 = .ok (.if_icmp .ne (8), 3) := by decide +kernel
theorem d_Kiln_begin_72 : decode b_Kiln_begin 72 = .ok (.aload_n 0, 1) := by decide +kernel
theorem d_Kiln_begin_73 : decode b_Kiln_begin 73 = .ok (.iload_n 2, 1) := by decide +kernel
theorem d_Kiln_begin_74 : decode b_Kiln_begin 74 = .ok (.putfield 29, 3) := by decide +kernel
theorem d_Kiln_begin_77 : decode b_Kiln_begin 77 = .ok (.return_, 1) := by decide +kernel
theorem zb_Kiln_begin_67 {l : Launch} {θ : ZT} {res : Unit × ZM} {x0 : Nat} {x1 : Int32} {x2 : Int32} {σ : ZM} (hx0 : zR 0 129 x0 15 0 = true) (h : f_Kiln_begin_67 x0 x1 x2 σ = some res) : WZ l b_Kiln_begin 3 none "BakedBefore$Kiln" 0 129 θ (zrm 1 60) (zQ mkV 0 129 θ res) σ [(0, .ref (za θ x0)), (1, .int x1), (2, .int x2)] 67 [] := by
  unfold f_Kiln_begin_67 at h
  refine z_iload_n 1 d_Kiln_begin_67 rfl rfl ?_
  refine z_iconst (v := 2) d_Kiln_begin_68 (by decide) ?_
  refine z_icmp_ne (tgt := 77) d_Kiln_begin_69 (by decide) (fun c1 => ?_) (fun c1 => ?_)
  · have h := (if_neg c1).symm.trans h
    exact z_vret d_Kiln_begin_77 h
  · have h := (if_pos c1).symm.trans h
    refine z_aload_n 0 d_Kiln_begin_72 rfl rfl ?_
    refine z_iload_n 2 d_Kiln_begin_73 rfl rfl ?_
    refine pf_Kiln_coldPart hx0 d_Kiln_begin_74 q_181 ?_
    exact z_vret d_Kiln_begin_77 h
theorem c_Kiln_begin (l : Launch) (θ : ZT) {x0 : Nat} {x1 : Int32} {x2 : Int32} {σ : ZM} {res : Unit × ZM} (h : f_Kiln_begin x0 x1 x2 σ = some res) : zMet mkV l 0 129 θ y_Kiln_begin b_Kiln_begin 3 none (zrm 1 60) [.ref (za θ x0), .int x1, .int x2] σ res := by
  unfold f_Kiln_begin at h
  obtain ⟨hx0, h⟩ := zck_i h
  refine z_met (lv := [(0, .ref (za θ x0)), (1, .int x1), (2, .int x2)]) (by decide +kernel) rfl (Nat.le_of_ble_eq_true rfl) (by decide) ?_
  refine z_aload_n 0 d_Kiln_begin_0 rfl rfl ?_
  refine gf_Kiln_clauses hx0 d_Kiln_begin_1 q_177 ?_
  refine z_bipush (v := 10) d_Kiln_begin_4 (by decide) ?_
  refine z_icmp_lt (tgt := 10) d_Kiln_begin_6 (by decide) (fun c1 => ?_) (fun c1 => ?_)
  · have h := (if_pos c1).symm.trans h
    refine z_aload_n 0 d_Kiln_begin_10 rfl rfl ?_
    refine gf_Kiln_words (o2 := x0 + 7) hx0 rfl d_Kiln_begin_11 q_172 ?_
    refine z_aload_n 0 d_Kiln_begin_14 rfl rfl ?_
    refine gf_Kiln_clauses hx0 d_Kiln_begin_15 q_177 ?_
    refine z_iload_n 1 d_Kiln_begin_18 rfl rfl ?_
    obtain ⟨c2, h⟩ := zck_i h
    refine w_iast (zr_Kiln_words hx0) c2 d_Kiln_begin_19 ?_
    refine z_aload_n 0 d_Kiln_begin_20 rfl rfl ?_
    refine gf_Kiln_numbers (o2 := x0 + 14) hx0 rfl d_Kiln_begin_21 q_173 ?_
    refine z_aload_n 0 d_Kiln_begin_24 rfl rfl ?_
    refine gf_Kiln_clauses hx0 d_Kiln_begin_25 q_177 ?_
    refine z_iload_n 2 d_Kiln_begin_28 rfl rfl ?_
    obtain ⟨c3, h⟩ := zck_i h
    refine w_iast (zr_Kiln_numbers hx0) c3 d_Kiln_begin_29 ?_
    refine z_aload_n 0 d_Kiln_begin_30 rfl rfl ?_
    refine gf_Kiln_ends (o2 := x0 + 21) hx0 rfl d_Kiln_begin_31 q_174 ?_
    refine z_aload_n 0 d_Kiln_begin_34 rfl rfl ?_
    refine gf_Kiln_clauses hx0 d_Kiln_begin_35 q_177 ?_
    refine z_aload_n 0 d_Kiln_begin_38 rfl rfl ?_
    refine gf_Kiln_stepCount hx0 d_Kiln_begin_39 q_178 ?_
    obtain ⟨c4, h⟩ := zck_i h
    refine w_iast (zr_Kiln_ends hx0) c4 d_Kiln_begin_42 ?_
    refine z_aload_n 0 d_Kiln_begin_43 rfl rfl ?_
    refine z_dup d_Kiln_begin_44 rfl ?_
    refine gf_Kiln_clauses hx0 d_Kiln_begin_45 q_177 ?_
    refine z_iconst (v := 1) d_Kiln_begin_48 (by decide) ?_
    refine z_iadd d_Kiln_begin_49 ?_
    refine pf_Kiln_clauses hx0 d_Kiln_begin_50 q_177 ?_
    refine z_iload_n 1 d_Kiln_begin_53 rfl rfl ?_
    refine z_if_ne (tgt := 67) d_Kiln_begin_54 (by decide) (fun c5 => ?_) (fun c5 => ?_)
    · have h := (if_neg c5).symm.trans h
      exact zb_Kiln_begin_67 hx0 h
    · have h := (if_pos c5).symm.trans h
      refine z_aload_n 0 d_Kiln_begin_57 rfl rfl ?_
      refine z_dup d_Kiln_begin_58 rfl ?_
      refine gf_Kiln_takeClauses hx0 d_Kiln_begin_59 q_180 ?_
      refine z_iconst (v := 1) d_Kiln_begin_62 (by decide) ?_
      refine z_iadd d_Kiln_begin_63 ?_
      refine pf_Kiln_takeClauses hx0 d_Kiln_begin_64 q_180 ?_
      exact zb_Kiln_begin_67 hx0 h
  · have h := (if_neg c1).symm.trans h
    exact z_vret d_Kiln_begin_9 h
theorem d_Reader_letterOf_0 : decode b_Reader_letterOf 0 = .ok (.iload_n 0, 1) := by decide +kernel
theorem d_Reader_letterOf_1 : decode b_Reader_letterOf 1 = .ok (.tableswitch (87) (104) (118) #[83, 87, 87, 77, 75, 87, 87, 85, 87, 87, 87, 87, 79, 87, 81], 75) := by decide +kernel
theorem d_Reader_letterOf_76 : decode b_Reader_letterOf 76 = .ok (.iconst (0), 1) := by decide +kernel
theorem d_Reader_letterOf_77 : decode b_Reader_letterOf 77 = .ok (.ireturn, 1) := by decide +kernel
theorem d_Reader_letterOf_78 : decode b_Reader_letterOf 78 = .ok (.iconst (1), 1) := by decide +kernel
theorem d_Reader_letterOf_79 : decode b_Reader_letterOf 79 = .ok (.ireturn, 1) := by decide +kernel
theorem d_Reader_letterOf_80 : decode b_Reader_letterOf 80 = .ok (.iconst (2), 1) := by decide +kernel
theorem d_Reader_letterOf_81 : decode b_Reader_letterOf 81 = .ok (.ireturn, 1) := by decide +kernel
theorem d_Reader_letterOf_82 : decode b_Reader_letterOf 82 = .ok (.iconst (3), 1) := by decide +kernel
theorem d_Reader_letterOf_83 : decode b_Reader_letterOf 83 = .ok (.ireturn, 1) := by decide +kernel
theorem d_Reader_letterOf_84 : decode b_Reader_letterOf 84 = .ok (.iconst (4), 1) := by decide +kernel
theorem d_Reader_letterOf_85 : decode b_Reader_letterOf 85 = .ok (.ireturn, 1) := by decide +kernel
theorem d_Reader_letterOf_86 : decode b_Reader_letterOf 86 = .ok (.iconst (5), 1) := by decide +kernel
theorem d_Reader_letterOf_87 : decode b_Reader_letterOf 87 = .ok (.ireturn, 1) := by decide +kernel
theorem d_Reader_letterOf_88 : decode b_Reader_letterOf 88 = .ok (.iconst (-1), 1) := by decide +kernel
theorem d_Reader_letterOf_89 : decode b_Reader_letterOf 89 = .ok (.ireturn, 1) := by decide +kernel
theorem c_Reader_letterOf (l : Launch) (θ : ZT) {x0 : Int32} {σ : ZM} {res : Int32 × ZM} (h : f_Reader_letterOf x0 σ = some res) : zMet mkI l 0 129 θ y_Reader_letterOf b_Reader_letterOf 1 (some .int) (zrm 1 60) [.int x0] σ res := by
  unfold f_Reader_letterOf at h
  refine z_met (lv := [(0, .int x0)]) (by decide +kernel) rfl (Nat.le_of_ble_eq_true rfl) (by decide) ?_
  refine z_iload_n 0 d_Reader_letterOf_0 rfl rfl ?_
  by_cases c1 : x0 = (104 : Int32)
  · have h := (if_pos c1).symm.trans h
    refine z_tableIn (k := 104) (off := 83) (tgt := 84) d_Reader_letterOf_1 c1 (by decide) ?_
    refine z_iconst (v := 4) d_Reader_letterOf_84 (by decide) ?_
    exact z_iret d_Reader_letterOf_85 h
  have h := (if_neg c1).symm.trans h
  by_cases c2 : x0 = (105 : Int32)
  · have h := (if_pos c2).symm.trans h
    refine z_tableIn (k := 105) (off := 87) (tgt := 88) d_Reader_letterOf_1 c2 (by decide) ?_
    refine z_iconst (v := -1) d_Reader_letterOf_88 (by decide) ?_
    exact z_iret d_Reader_letterOf_89 h
  have h := (if_neg c2).symm.trans h
  by_cases c3 : x0 = (106 : Int32)
  · have h := (if_pos c3).symm.trans h
    refine z_tableIn (k := 106) (off := 87) (tgt := 88) d_Reader_letterOf_1 c3 (by decide) ?_
    refine z_iconst (v := -1) d_Reader_letterOf_88 (by decide) ?_
    exact z_iret d_Reader_letterOf_89 h
  have h := (if_neg c3).symm.trans h
  by_cases c4 : x0 = (107 : Int32)
  · have h := (if_pos c4).symm.trans h
    refine z_tableIn (k := 107) (off := 77) (tgt := 78) d_Reader_letterOf_1 c4 (by decide) ?_
    refine z_iconst (v := 1) d_Reader_letterOf_78 (by decide) ?_
    exact z_iret d_Reader_letterOf_79 h
  have h := (if_neg c4).symm.trans h
  by_cases c5 : x0 = (108 : Int32)
  · have h := (if_pos c5).symm.trans h
    refine z_tableIn (k := 108) (off := 75) (tgt := 76) d_Reader_letterOf_1 c5 (by decide) ?_
    refine z_iconst (v := 0) d_Reader_letterOf_76 (by decide) ?_
    exact z_iret d_Reader_letterOf_77 h
  have h := (if_neg c5).symm.trans h
  by_cases c6 : x0 = (109 : Int32)
  · have h := (if_pos c6).symm.trans h
    refine z_tableIn (k := 109) (off := 87) (tgt := 88) d_Reader_letterOf_1 c6 (by decide) ?_
    refine z_iconst (v := -1) d_Reader_letterOf_88 (by decide) ?_
    exact z_iret d_Reader_letterOf_89 h
  have h := (if_neg c6).symm.trans h
  by_cases c7 : x0 = (110 : Int32)
  · have h := (if_pos c7).symm.trans h
    refine z_tableIn (k := 110) (off := 87) (tgt := 88) d_Reader_letterOf_1 c7 (by decide) ?_
    refine z_iconst (v := -1) d_Reader_letterOf_88 (by decide) ?_
    exact z_iret d_Reader_letterOf_89 h
  have h := (if_neg c7).symm.trans h
  by_cases c8 : x0 = (111 : Int32)
  · have h := (if_pos c8).symm.trans h
    refine z_tableIn (k := 111) (off := 85) (tgt := 86) d_Reader_letterOf_1 c8 (by decide) ?_
    refine z_iconst (v := 5) d_Reader_letterOf_86 (by decide) ?_
    exact z_iret d_Reader_letterOf_87 h
  have h := (if_neg c8).symm.trans h
  by_cases c9 : x0 = (112 : Int32)
  · have h := (if_pos c9).symm.trans h
    refine z_tableIn (k := 112) (off := 87) (tgt := 88) d_Reader_letterOf_1 c9 (by decide) ?_
    refine z_iconst (v := -1) d_Reader_letterOf_88 (by decide) ?_
    exact z_iret d_Reader_letterOf_89 h
  have h := (if_neg c9).symm.trans h
  by_cases c10 : x0 = (113 : Int32)
  · have h := (if_pos c10).symm.trans h
    refine z_tableIn (k := 113) (off := 87) (tgt := 88) d_Reader_letterOf_1 c10 (by decide) ?_
    refine z_iconst (v := -1) d_Reader_letterOf_88 (by decide) ?_
    exact z_iret d_Reader_letterOf_89 h
  have h := (if_neg c10).symm.trans h
  by_cases c11 : x0 = (114 : Int32)
  · have h := (if_pos c11).symm.trans h
    refine z_tableIn (k := 114) (off := 87) (tgt := 88) d_Reader_letterOf_1 c11 (by decide) ?_
    refine z_iconst (v := -1) d_Reader_letterOf_88 (by decide) ?_
    exact z_iret d_Reader_letterOf_89 h
  have h := (if_neg c11).symm.trans h
  by_cases c12 : x0 = (115 : Int32)
  · have h := (if_pos c12).symm.trans h
    refine z_tableIn (k := 115) (off := 87) (tgt := 88) d_Reader_letterOf_1 c12 (by decide) ?_
    refine z_iconst (v := -1) d_Reader_letterOf_88 (by decide) ?_
    exact z_iret d_Reader_letterOf_89 h
  have h := (if_neg c12).symm.trans h
  by_cases c13 : x0 = (116 : Int32)
  · have h := (if_pos c13).symm.trans h
    refine z_tableIn (k := 116) (off := 79) (tgt := 80) d_Reader_letterOf_1 c13 (by decide) ?_
    refine z_iconst (v := 2) d_Reader_letterOf_80 (by decide) ?_
    exact z_iret d_Reader_letterOf_81 h
  have h := (if_neg c13).symm.trans h
  by_cases c14 : x0 = (117 : Int32)
  · have h := (if_pos c14).symm.trans h
    refine z_tableIn (k := 117) (off := 87) (tgt := 88) d_Reader_letterOf_1 c14 (by decide) ?_
    refine z_iconst (v := -1) d_Reader_letterOf_88 (by decide) ?_
    exact z_iret d_Reader_letterOf_89 h
  have h := (if_neg c14).symm.trans h
  by_cases c15 : x0 = (118 : Int32)
  · have h := (if_pos c15).symm.trans h
    refine z_tableIn (k := 118) (off := 81) (tgt := 82) d_Reader_letterOf_1 c15 (by decide) ?_
    refine z_iconst (v := 3) d_Reader_letterOf_82 (by decide) ?_
    exact z_iret d_Reader_letterOf_83 h
  have h := (if_neg c15).symm.trans h
  have nc1 := lv_neT (a := 104) c1 (by decide)
  have nc2 := lv_neT (a := 105) c2 (by decide)
  have nc3 := lv_neT (a := 106) c3 (by decide)
  have nc4 := lv_neT (a := 107) c4 (by decide)
  have nc5 := lv_neT (a := 108) c5 (by decide)
  have nc6 := lv_neT (a := 109) c6 (by decide)
  have nc7 := lv_neT (a := 110) c7 (by decide)
  have nc8 := lv_neT (a := 111) c8 (by decide)
  have nc9 := lv_neT (a := 112) c9 (by decide)
  have nc10 := lv_neT (a := 113) c10 (by decide)
  have nc11 := lv_neT (a := 114) c11 (by decide)
  have nc12 := lv_neT (a := 115) c12 (by decide)
  have nc13 := lv_neT (a := 116) c13 (by decide)
  have nc14 := lv_neT (a := 117) c14 (by decide)
  have nc15 := lv_neT (a := 118) c15 (by decide)
  refine z_tableOut (tgt := 88) d_Reader_letterOf_1 (by omega) (by decide) ?_
  refine z_iconst (v := -1) d_Reader_letterOf_88 (by decide) ?_
  exact z_iret d_Reader_letterOf_89 h
theorem d_Kiln_append_0 : decode b_Kiln_append 0 = .ok (.aload_n 0, 1) := by decide +kernel
theorem d_Kiln_append_1 : decode b_Kiln_append 1 = .ok (.getfield 36, 3) := by decide +kernel
theorem d_Kiln_append_4 : decode b_Kiln_append 4 = .ok (.aload_n 0, 1) := by decide +kernel
theorem d_Kiln_append_5 : decode b_Kiln_append 5 = .ok (.getfield 23, 3) := by decide +kernel
theorem d_Kiln_append_8 : decode b_Kiln_append 8 = .ok (.arraylength, 1) := by decide +kernel
theorem d_Kiln_append_9 : decode b_Kiln_append 9 = .ok (.if_icmp .ge (11), 3) := by decide +kernel
theorem d_Kiln_append_12 : decode b_Kiln_append 12 = .ok (.aload_n 0, 1) := by decide +kernel
theorem d_Kiln_append_13 : decode b_Kiln_append 13 = .ok (.getfield 33, 3) := by decide +kernel
theorem d_Kiln_append_16 : decode b_Kiln_append 16 = .ok (.iconst (1), 1) := by decide +kernel
theorem d_Kiln_append_17 : decode b_Kiln_append 17 = .ok (.if_icmp .ge (4), 3) := by decide +kernel
theorem d_Kiln_append_20 : decode b_Kiln_append 20 = .ok (.return_, 1) := by decide +kernel
theorem d_Kiln_append_21 : decode b_Kiln_append 21 = .ok (.aload_n 0, 1) := by decide +kernel
theorem d_Kiln_append_22 : decode b_Kiln_append 22 = .ok (.getfield 23, 3) := by decide +kernel
theorem d_Kiln_append_25 : decode b_Kiln_append 25 = .ok (.aload_n 0, 1) := by decide +kernel
theorem d_Kiln_append_26 : decode b_Kiln_append 26 = .ok (.getfield 36, 3) := by decide +kernel
theorem d_Kiln_append_29 : decode b_Kiln_append 29 = .ok (.iload_n 1, 1) := by decide +kernel
theorem d_Kiln_append_30 : decode b_Kiln_append 30 = .ok (.iastore, 1) := by decide +kernel
theorem d_Kiln_append_31 : decode b_Kiln_append 31 = .ok (.aload_n 0, 1) := by decide +kernel
theorem d_Kiln_append_32 : decode b_Kiln_append 32 = .ok (.dup, 1) := by decide +kernel
theorem d_Kiln_append_33 : decode b_Kiln_append 33 = .ok (.getfield 36, 3) := by decide +kernel
theorem d_Kiln_append_36 : decode b_Kiln_append 36 = .ok (.iconst (1), 1) := by decide +kernel
theorem d_Kiln_append_37 : decode b_Kiln_append 37 = .ok (.iadd, 1) := by decide +kernel
theorem d_Kiln_append_38 : decode b_Kiln_append 38 = .ok (.putfield 36, 3) := by decide +kernel
theorem d_Kiln_append_41 : decode b_Kiln_append 41 = .ok (.aload_n 0, 1) := by decide +kernel
theorem d_Kiln_append_42 : decode b_Kiln_append 42 = .ok (.getfield 18, 3) := by decide +kernel
theorem d_Kiln_append_45 : decode b_Kiln_append 45 = .ok (.aload_n 0, 1) := by decide +kernel
theorem d_Kiln_append_46 : decode b_Kiln_append 46 = .ok (.getfield 33, 3) := by decide +kernel
theorem d_Kiln_append_49 : decode b_Kiln_append 49 = .ok (.iconst (1), 1) := by decide +kernel
theorem d_Kiln_append_50 : decode b_Kiln_append 50 = .ok (.isub, 1) := by decide +kernel
theorem d_Kiln_append_51 : decode b_Kiln_append 51 = .ok (.aload_n 0, 1) := by decide +kernel
theorem d_Kiln_append_52 : decode b_Kiln_append 52 = .ok (.getfield 36, 3) := by decide +kernel
theorem d_Kiln_append_55 : decode b_Kiln_append 55 = .ok (.iastore, 1) := by decide +kernel
theorem d_Kiln_append_56 : decode b_Kiln_append 56 = .ok (.return_, 1) := by decide +kernel
theorem c_Kiln_append (l : Launch) (θ : ZT) {x0 : Nat} {x1 : Int32} {σ : ZM} {res : Unit × ZM} (h : f_Kiln_append x0 x1 σ = some res) : zMet mkV l 0 129 θ y_Kiln_append b_Kiln_append 2 none (zrm 1 60) [.ref (za θ x0), .int x1] σ res := by
  unfold f_Kiln_append at h
  obtain ⟨hx0, h⟩ := zck_i h
  refine z_met (lv := [(0, .ref (za θ x0)), (1, .int x1)]) (by decide +kernel) rfl (Nat.le_of_ble_eq_true rfl) (by decide) ?_
  refine z_aload_n 0 d_Kiln_append_0 rfl rfl ?_
  refine gf_Kiln_stepCount hx0 d_Kiln_append_1 q_178 ?_
  refine z_aload_n 0 d_Kiln_append_4 rfl rfl ?_
  refine gf_Kiln_steps (o2 := x0 + 28) hx0 rfl d_Kiln_append_5 q_175 ?_
  refine w_alen (v := 100) (zr_Kiln_steps hx0) (by decide) d_Kiln_append_8 ?_
  refine z_icmp_ge (tgt := 20) d_Kiln_append_9 (by decide) (fun c1 => ?_) (fun c1 => ?_)
  · have h := (if_pos c1).symm.trans h
    exact z_vret d_Kiln_append_20 h
  · have h := (if_neg c1).symm.trans h
    refine z_aload_n 0 d_Kiln_append_12 rfl rfl ?_
    refine gf_Kiln_clauses hx0 d_Kiln_append_13 q_177 ?_
    refine z_iconst (v := 1) d_Kiln_append_16 (by decide) ?_
    refine z_icmp_ge (tgt := 21) d_Kiln_append_17 (by decide) (fun c2 => ?_) (fun c2 => ?_)
    · have h := (if_pos c2).symm.trans h
      refine z_aload_n 0 d_Kiln_append_21 rfl rfl ?_
      refine gf_Kiln_steps (o2 := x0 + 28) hx0 rfl d_Kiln_append_22 q_175 ?_
      refine z_aload_n 0 d_Kiln_append_25 rfl rfl ?_
      refine gf_Kiln_stepCount hx0 d_Kiln_append_26 q_178 ?_
      refine z_iload_n 1 d_Kiln_append_29 rfl rfl ?_
      obtain ⟨c3, h⟩ := zck_i h
      refine w_iast (zr_Kiln_steps hx0) c3 d_Kiln_append_30 ?_
      refine z_aload_n 0 d_Kiln_append_31 rfl rfl ?_
      refine z_dup d_Kiln_append_32 rfl ?_
      refine gf_Kiln_stepCount hx0 d_Kiln_append_33 q_178 ?_
      refine z_iconst (v := 1) d_Kiln_append_36 (by decide) ?_
      refine z_iadd d_Kiln_append_37 ?_
      refine pf_Kiln_stepCount hx0 d_Kiln_append_38 q_178 ?_
      refine z_aload_n 0 d_Kiln_append_41 rfl rfl ?_
      refine gf_Kiln_ends (o2 := x0 + 21) hx0 rfl d_Kiln_append_42 q_174 ?_
      refine z_aload_n 0 d_Kiln_append_45 rfl rfl ?_
      refine gf_Kiln_clauses hx0 d_Kiln_append_46 q_177 ?_
      refine z_iconst (v := 1) d_Kiln_append_49 (by decide) ?_
      refine z_isub d_Kiln_append_50 ?_
      refine z_aload_n 0 d_Kiln_append_51 rfl rfl ?_
      refine gf_Kiln_stepCount hx0 d_Kiln_append_52 q_178 ?_
      obtain ⟨c4, h⟩ := zck_i h
      refine w_iast (zr_Kiln_ends hx0) c4 d_Kiln_append_55 ?_
      exact z_vret d_Kiln_append_56 h
    · have h := (if_neg c2).symm.trans h
      exact z_vret d_Kiln_append_20 h
theorem d_Reader_readTest_0 : decode b_Reader_readTest 0 = .ok (.aload_n 0, 1) := by decide +kernel
theorem d_Reader_readTest_1 : decode b_Reader_readTest 1 = .ok (.invokevirtual 39, 3) := by decide +kernel
theorem d_Reader_readTest_4 : decode b_Reader_readTest 4 = .ok (.invokestatic 93, 3) := by decide +kernel
theorem d_Reader_readTest_7 : decode b_Reader_readTest 7 = .ok (.istore_n 1, 1) := by decide +kernel
theorem d_Reader_readTest_8 : decode b_Reader_readTest 8 = .ok (.iload_n 1, 1) := by decide +kernel
theorem d_Reader_readTest_9 : decode b_Reader_readTest 9 = .ok (.ifCond .ge (5), 3) := by decide +kernel
theorem d_Reader_readTest_12 : decode b_Reader_readTest 12 = .ok (.iconst (0), 1) := by decide +kernel
theorem d_Reader_readTest_13 : decode b_Reader_readTest 13 = .ok (.ireturn, 1) := by decide +kernel
theorem d_Reader_readTest_14 : decode b_Reader_readTest 14 = .ok (.aload_n 0, 1) := by decide +kernel
theorem d_Reader_readTest_15 : decode b_Reader_readTest 15 = .ok (.dup, 1) := by decide +kernel
theorem d_Reader_readTest_16 : decode b_Reader_readTest 16 = .ok (.getfield 28, 3) := by decide +kernel
theorem d_Reader_readTest_19 : decode b_Reader_readTest 19 = .ok (.iconst (1), 1) := by decide +kernel
theorem d_Reader_readTest_20 : decode b_Reader_readTest 20 = .ok (.iadd, 1) := by decide +kernel
theorem d_Reader_readTest_21 : decode b_Reader_readTest 21 = .ok (.putfield 28, 3) := by decide +kernel
theorem d_Reader_readTest_24 : decode b_Reader_readTest 24 = .ok (.aload_n 0, 1) := by decide +kernel
theorem d_Reader_readTest_25 : decode b_Reader_readTest 25 = .ok (.invokevirtual 39, 3) := by decide +kernel
theorem d_Reader_readTest_28 : decode b_Reader_readTest 28 = .ok (.bipush (60), 2) := by decide +kernel
theorem d_Reader_readTest_30 : decode b_Reader_readTest 30 = .ok (.isub, 1) := by decide +kernel
theorem d_Reader_readTest_31 : decode b_Reader_readTest 31 = .ok (.istore_n 2, 1) := by decide +kernel
theorem d_Reader_readTest_32 : decode b_Reader_readTest 32 = .ok (.iload_n 2, 1) := by decide +kernel
theorem d_Reader_readTest_33 : decode b_Reader_readTest 33 = .ok (.ifCond .lt (8), 3) := by decide +kernel
theorem d_Reader_readTest_36 : decode b_Reader_readTest 36 = .ok (.iload_n 2, 1) := by decide +kernel
theorem d_Reader_readTest_37 : decode b_Reader_readTest 37 = .ok (.iconst (2), 1) := by decide +kernel
theorem d_Reader_readTest_38 : decode b_Reader_readTest 38 = .ok (.if_icmp .le (5), 3) := by decide +kernel
theorem d_Reader_readTest_41 : decode b_Reader_readTest 41 = .ok (.iconst (0), 1) := by decide +kernel
theorem d_Reader_readTest_42 : decode b_Reader_readTest 42 = .ok (.ireturn, 1) := by decide +kernel
theorem d_Reader_readTest_43 : decode b_Reader_readTest 43 = .ok (.aload_n 0, 1) := by decide +kernel
theorem d_Reader_readTest_44 : decode b_Reader_readTest 44 = .ok (.dup, 1) := by decide +kernel
theorem d_Reader_readTest_45 : decode b_Reader_readTest 45 = .ok (.getfield 28, 3) := by decide +kernel
theorem d_Reader_readTest_48 : decode b_Reader_readTest 48 = .ok (.iconst (1), 1) := by decide +kernel
theorem d_Reader_readTest_49 : decode b_Reader_readTest 49 = .ok (.iadd, 1) := by decide +kernel
theorem d_Reader_readTest_50 : decode b_Reader_readTest 50 = .ok (.putfield 28, 3) := by decide +kernel
theorem d_Reader_readTest_53 : decode b_Reader_readTest 53 = .ok (.aload_n 0, 1) := by decide +kernel
theorem d_Reader_readTest_54 : decode b_Reader_readTest 54 = .ok (.invokevirtual 55, 3) := by decide +kernel
theorem d_Reader_readTest_57 : decode b_Reader_readTest 57 = .ok (.ifCond .ne (5), 3) := by decide +kernel
theorem d_Reader_readTest_60 : decode b_Reader_readTest 60 = .ok (.iconst (0), 1) := by decide +kernel
theorem d_Reader_readTest_61 : decode b_Reader_readTest 61 = .ok (.ireturn, 1) := by decide +kernel
theorem d_Reader_readTest_62 : decode b_Reader_readTest 62 = .ok (.aload_n 0, 1) := by decide +kernel
theorem d_Reader_readTest_63 : decode b_Reader_readTest 63 = .ok (.getfield 19, 3) := by decide +kernel
theorem d_Reader_readTest_66 : decode b_Reader_readTest 66 = .ok (.iload_n 1, 1) := by decide +kernel
theorem d_Reader_readTest_67 : decode b_Reader_readTest 67 = .ok (.bipush (9), 2) := by decide +kernel
theorem d_Reader_readTest_69 : decode b_Reader_readTest 69 = .ok (.ishl, 1) := by decide +kernel
theorem d_Reader_readTest_70 : decode b_Reader_readTest 70 = .ok (.iload_n 2, 1) := by decide +kernel
theorem d_Reader_readTest_71 : decode b_Reader_readTest 71 = .ok (.bipush (7), 2) := by decide +kernel
theorem d_Reader_readTest_73 : decode b_Reader_readTest 73 = .ok (.ishl, 1) := by decide +kernel
theorem d_Reader_readTest_74 : decode b_Reader_readTest 74 = .ok (.ior, 1) := by decide +kernel
theorem d_Reader_readTest_75 : decode b_Reader_readTest 75 = .ok (.aload_n 0, 1) := by decide +kernel
theorem d_Reader_readTest_76 : decode b_Reader_readTest 76 = .ok (.getfield 58, 3) := by decide +kernel
theorem d_Reader_readTest_79 : decode b_Reader_readTest 79 = .ok (.ior, 1) := by decide +kernel
theorem d_Reader_readTest_80 : decode b_Reader_readTest 80 = .ok (.invokevirtual 83, 3) := by decide +kernel
theorem d_Reader_readTest_83 : decode b_Reader_readTest 83 = .ok (.iconst (1), 1) := by decide +kernel
theorem d_Reader_readTest_84 : decode b_Reader_readTest 84 = .ok (.ireturn, 1) := by decide +kernel
theorem c_Reader_readTest (l : Launch) (θ : ZT)  {σ : ZM} {res : Int32 × ZM} (h : f_Reader_readTest σ = some res) : zMet mkI l 0 129 θ y_Reader_readTest b_Reader_readTest 3 (some .boolean) (zrm 3 100) [.ref (za θ 3)] σ res := by
  unfold f_Reader_readTest at h
  refine z_met (lv := [(0, .ref (za θ 3))]) (by decide +kernel) rfl (Nat.le_of_ble_eq_true rfl) (by decide) ?_
  refine z_aload_n 0 d_Reader_readTest_0 rfl rfl ?_
  obtain ⟨⟨v1, s2⟩, e3, h⟩ := zbd_i h
  refine w_callV (As := []) (kc := 18) (ci := 8) (c_Reader_here l θ e3) cf_Reader_here q_441 d_Reader_readTest_1 zl_3 rfl rfl rfl rfl rfl rfl (Nat.le_of_ble_eq_true rfl) rfl rfl ⟨Nat.le_of_ble_eq_true rfl, Nat.le_of_ble_eq_true rfl⟩ ?_
  obtain ⟨⟨v4, s5⟩, e6, h⟩ := zbd_i h
  refine w_callS (As := [.int v1]) (c_Reader_letterOf l θ e6) cf_Reader_letterOf q_538 d_Reader_readTest_4 rfl rfl rfl (Nat.le_of_ble_eq_true rfl) rfl rfl ⟨Nat.le_of_ble_eq_true rfl, Nat.le_of_ble_eq_true rfl⟩ ?_
  refine z_istore_n d_Reader_readTest_7 rfl (by decide) rfl ?_
  refine z_iload_n 0 d_Reader_readTest_8 rfl rfl ?_
  refine z_if_ge (tgt := 14) d_Reader_readTest_9 (by decide) (fun c7 => ?_) (fun c7 => ?_)
  · have h := (if_pos c7).symm.trans h
    refine z_aload_n 1 d_Reader_readTest_14 rfl rfl ?_
    refine z_dup d_Reader_readTest_15 rfl ?_
    refine gf_Reader_at zl_3 d_Reader_readTest_16 q_151 ?_
    refine z_iconst (v := 1) d_Reader_readTest_19 (by decide) ?_
    refine z_iadd d_Reader_readTest_20 ?_
    refine pf_Reader_at zl_3 d_Reader_readTest_21 q_151 ?_
    refine z_aload_n 1 d_Reader_readTest_24 rfl rfl ?_
    obtain ⟨⟨v8, s9⟩, e10, h⟩ := zbd_i h
    refine w_callV (As := []) (kc := 18) (ci := 8) (c_Reader_here l θ e10) cf_Reader_here q_441 d_Reader_readTest_25 zl_3 rfl rfl rfl rfl rfl rfl (Nat.le_of_ble_eq_true rfl) rfl rfl ⟨Nat.le_of_ble_eq_true rfl, Nat.le_of_ble_eq_true rfl⟩ ?_
    refine z_bipush (v := 60) d_Reader_readTest_28 (by decide) ?_
    refine z_isub d_Reader_readTest_30 ?_
    refine z_istore_n d_Reader_readTest_31 rfl (by decide) rfl ?_
    refine z_iload_n 0 d_Reader_readTest_32 rfl rfl ?_
    refine z_if_lt (tgt := 41) d_Reader_readTest_33 (by decide) (fun c11 => ?_) (fun c11 => ?_)
    · have h := (if_pos c11).symm.trans h
      refine z_iconst (v := 0) d_Reader_readTest_41 (by decide) ?_
      exact z_zret d_Reader_readTest_42 (by decide) h
    · have h := (if_neg c11).symm.trans h
      refine z_iload_n 0 d_Reader_readTest_36 rfl rfl ?_
      refine z_iconst (v := 2) d_Reader_readTest_37 (by decide) ?_
      refine z_icmp_le (tgt := 43) d_Reader_readTest_38 (by decide) (fun c12 => ?_) (fun c12 => ?_)
      · have h := (if_pos c12).symm.trans h
        refine z_aload_n 2 d_Reader_readTest_43 rfl rfl ?_
        refine z_dup d_Reader_readTest_44 rfl ?_
        refine gf_Reader_at zl_3 d_Reader_readTest_45 q_151 ?_
        refine z_iconst (v := 1) d_Reader_readTest_48 (by decide) ?_
        refine z_iadd d_Reader_readTest_49 ?_
        refine pf_Reader_at zl_3 d_Reader_readTest_50 q_151 ?_
        refine z_aload_n 2 d_Reader_readTest_53 rfl rfl ?_
        obtain ⟨⟨v13, s14⟩, e15, h⟩ := zbd_i h
        refine w_callV (As := []) (kc := 18) (ci := 8) (c_Reader_readNumber l θ e15) cf_Reader_readNumber q_511 d_Reader_readTest_54 zl_3 rfl rfl rfl rfl rfl rfl (Nat.le_of_ble_eq_true rfl) rfl rfl ⟨Nat.le_of_ble_eq_true rfl, Nat.le_of_ble_eq_true rfl⟩ ?_
        refine z_if_ne (tgt := 62) d_Reader_readTest_57 (by decide) (fun c16 => ?_) (fun c16 => ?_)
        · have h := (if_neg c16).symm.trans h
          refine z_aload_n 2 d_Reader_readTest_62 rfl rfl ?_
          obtain ⟨c17, h⟩ := zck_i h
          refine gf_Reader_kiln zl_3 c17 d_Reader_readTest_63 q_153 ?_
          refine z_iload_n 1 d_Reader_readTest_66 rfl rfl ?_
          refine z_bipush (v := 9) d_Reader_readTest_67 (by decide) ?_
          refine z_ishl d_Reader_readTest_69 ?_
          refine z_iload_n 0 d_Reader_readTest_70 rfl rfl ?_
          refine z_bipush (v := 7) d_Reader_readTest_71 (by decide) ?_
          refine z_ishl d_Reader_readTest_73 ?_
          refine z_ior d_Reader_readTest_74 ?_
          refine z_aload_n 2 d_Reader_readTest_75 rfl rfl ?_
          refine gf_Reader_number zl_3 d_Reader_readTest_76 q_152 ?_
          refine z_ior d_Reader_readTest_79 ?_
          obtain ⟨⟨v18, s19⟩, e20, h⟩ := zbd_i h
          refine w_callV (As := [.int (((v4 <<< ((9 : Int32) &&& 31)) ||| ((v8 - (60 : Int32)) <<< ((7 : Int32) &&& 31))) ||| (zI s14 3 3))]) (kc := 15) (ci := 5) (c_Kiln_append l θ e20) cf_Kiln_append q_541 d_Reader_readTest_80 c17 rfl rfl rfl rfl rfl rfl (Nat.le_of_ble_eq_true rfl) rfl rfl ⟨Nat.le_of_ble_eq_true rfl, Nat.le_of_ble_eq_true rfl⟩ ?_
          refine z_iconst (v := 1) d_Reader_readTest_83 (by decide) ?_
          exact z_zret d_Reader_readTest_84 (by decide) h
        · have h := (if_pos c16).symm.trans h
          refine z_iconst (v := 0) d_Reader_readTest_60 (by decide) ?_
          exact z_zret d_Reader_readTest_61 (by decide) h
      · have h := (if_neg c12).symm.trans h
        refine z_iconst (v := 0) d_Reader_readTest_41 (by decide) ?_
        exact z_zret d_Reader_readTest_42 (by decide) h
  · have h := (if_neg c7).symm.trans h
    refine z_iconst (v := 0) d_Reader_readTest_12 (by decide) ?_
    exact z_zret d_Reader_readTest_13 (by decide) h
