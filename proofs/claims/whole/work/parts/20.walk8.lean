/-! walks: Model_act Model_trace Model_above Model_taken Model_count Model_tape Model_kept Model_item Model_read Model_shift -/
theorem d_Model_act_0 : decode b_Model_act 0 = .ok (.aload_n 0, 1) := by decide +kernel
theorem d_Model_act_1 : decode b_Model_act 1 = .ok (.iconst (0), 1) := by decide +kernel
theorem d_Model_act_2 : decode b_Model_act 2 = .ok (.putfield 281, 3) := by decide +kernel
theorem d_Model_act_5 : decode b_Model_act 5 = .ok (.aload_n 0, 1) := by decide +kernel
theorem d_Model_act_6 : decode b_Model_act 6 = .ok (.iload_n 1, 1) := by decide +kernel
theorem d_Model_act_7 : decode b_Model_act 7 = .ok (.invokevirtual 199, 3) := by decide +kernel
theorem d_Model_act_10 : decode b_Model_act 10 = .ok (.ifCond .eq (12), 3) := by decide +kernel
theorem d_Model_act_13 : decode b_Model_act 13 = .ok (.iload_n 2, 1) := by decide +kernel
theorem d_Model_act_14 : decode b_Model_act 14 = .ok (.iconst (0), 1) := by decide +kernel
theorem d_Model_act_15 : decode b_Model_act 15 = .ok (.iconst (2), 1) := by decide +kernel
theorem d_Model_act_16 : decode b_Model_act 16 = .ok (.invokestatic 52, 3) := by decide +kernel
theorem d_Model_act_19 : decode b_Model_act 19 = .ok (.ifCond .ne (5), 3) := by decide +kernel
theorem d_Model_act_22 : decode b_Model_act 22 = .ok (.iconst (0), 1) := by decide +kernel
theorem d_Model_act_23 : decode b_Model_act 23 = .ok (.ireturn, 1) := by decide +kernel
theorem d_Model_act_24 : decode b_Model_act 24 = .ok (.aload_n 0, 1) := by decide +kernel
theorem d_Model_act_25 : decode b_Model_act 25 = .ok (.iload_n 1, 1) := by decide +kernel
theorem d_Model_act_26 : decode b_Model_act 26 = .ok (.putfield 291, 3) := by decide +kernel
theorem d_Model_act_29 : decode b_Model_act 29 = .ok (.aload_n 0, 1) := by decide +kernel
theorem d_Model_act_30 : decode b_Model_act 30 = .ok (.iload_n 1, 1) := by decide +kernel
theorem d_Model_act_31 : decode b_Model_act 31 = .ok (.invokevirtual 92, 3) := by decide +kernel
theorem d_Model_act_34 : decode b_Model_act 34 = .ok (.istore 4, 2) := by decide +kernel
theorem d_Model_act_36 : decode b_Model_act 36 = .ok (.iload_n 2, 1) := by decide +kernel
theorem d_Model_act_37 : decode b_Model_act 37 = .ok (.ifCond .ne (13), 3) := by decide +kernel
theorem d_Model_act_40 : decode b_Model_act 40 = .ok (.aload_n 0, 1) := by decide +kernel
theorem d_Model_act_41 : decode b_Model_act 41 = .ok (.iload 4, 2) := by decide +kernel
theorem d_Model_act_43 : decode b_Model_act 43 = .ok (.iload_n 3, 1) := by decide +kernel
theorem d_Model_act_44 : decode b_Model_act 44 = .ok (.invokevirtual 288, 3) := by decide +kernel
theorem d_Model_act_47 : decode b_Model_act 47 = .ok (.goto (25), 3) := by decide +kernel
theorem d_Model_act_50 : decode b_Model_act 50 = .ok (.iload_n 2, 1) := by decide +kernel
theorem d_Model_act_51 : decode b_Model_act 51 = .ok (.iconst (1), 1) := by decide +kernel
theorem d_Model_act_52 : decode b_Model_act 52 = .ok (.if_icmp .ne (13), 3) := by decide +kernel
theorem d_Model_act_55 : decode b_Model_act 55 = .ok (.aload_n 0, 1) := by decide +kernel
theorem d_Model_act_56 : decode b_Model_act 56 = .ok (.iload 4, 2) := by decide +kernel
theorem d_Model_act_58 : decode b_Model_act 58 = .ok (.iload_n 3, 1) := by decide +kernel
theorem d_Model_act_59 : decode b_Model_act 59 = .ok (.invokevirtual 294, 3) := by decide +kernel
theorem d_Model_act_62 : decode b_Model_act 62 = .ok (.goto (10), 3) := by decide +kernel
theorem d_Model_act_65 : decode b_Model_act 65 = .ok (.aload_n 0, 1) := by decide +kernel
theorem d_Model_act_66 : decode b_Model_act 66 = .ok (.iload 4, 2) := by decide +kernel
theorem d_Model_act_68 : decode b_Model_act 68 = .ok (.iload_n 3, 1) := by decide +kernel
theorem d_Model_act_69 : decode b_Model_act 69 = .ok (.invokevirtual 297, 3) := by decide +kernel
theorem d_Model_act_72 : decode b_Model_act 72 = .ok (.ireturn, 1) := by decide +kernel
theorem c_Model_act (l : Launch) (θ : ZT) {x1 : Int32} {x2 : Int32} {x3 : Int32} {σ : ZM} {res : Int32 × ZM} (h : f_Model_act x1 x2 x3 σ = some res) : zMet mkI l 129 14 θ y_Model_act b_Model_act 5 (some .int) (zrm 28 671) [.ref (za θ 129), .int x1, .int x2, .int x3] σ res := by
  unfold f_Model_act at h
  refine z_met (lv := [(0, .ref (za θ 129)), (1, .int x1), (2, .int x2), (3, .int x3)]) (by decide +kernel) rfl (Nat.le_of_ble_eq_true rfl) (by decide) ?_
  refine z_aload_n 0 d_Model_act_0 rfl rfl ?_
  refine z_iconst (v := 0) d_Model_act_1 (by decide) ?_
  refine pf_Model_ran zl_129 d_Model_act_2 q_900 ?_
  refine z_aload_n 0 d_Model_act_5 rfl rfl ?_
  refine z_iload_n 1 d_Model_act_6 rfl rfl ?_
  obtain ⟨⟨v1, s2⟩, e3, h⟩ := zbd_i h
  refine w_callV (As := [.int x1]) (kc := 22) (ci := 12) (c_Model_isLoaf l θ e3) cf_Model_isLoaf q_1053 d_Model_act_7 zl_129 rfl rfl rfl rfl rfl rfl (Nat.le_of_ble_eq_true rfl) rfl rfl ⟨Nat.le_of_ble_eq_true rfl, Nat.le_of_ble_eq_true rfl⟩ ?_
  refine z_if_eq (tgt := 22) d_Model_act_10 (by decide) (fun c4 => ?_) (fun c4 => ?_)
  · have h := (if_pos c4).symm.trans h
    refine z_iconst (v := 0) d_Model_act_22 (by decide) ?_
    exact z_iret d_Model_act_23 h
  · have h := (if_neg c4).symm.trans h
    refine z_iload_n 2 d_Model_act_13 rfl rfl ?_
    refine z_iconst (v := 0) d_Model_act_14 (by decide) ?_
    refine z_iconst (v := 2) d_Model_act_15 (by decide) ?_
    obtain ⟨⟨v5, s6⟩, e7, h⟩ := zbd_i h
    refine w_callS (As := [.int x2, .int (0 : Int32), .int (2 : Int32)]) (c_Model_isIn l θ e7) cf_Model_isIn q_969 d_Model_act_16 rfl rfl rfl (Nat.le_of_ble_eq_true rfl) rfl rfl ⟨Nat.le_of_ble_eq_true rfl, Nat.le_of_ble_eq_true rfl⟩ ?_
    refine z_if_ne (tgt := 24) d_Model_act_19 (by decide) (fun c8 => ?_) (fun c8 => ?_)
    · have h := (if_neg c8).symm.trans h
      refine z_aload_n 0 d_Model_act_24 rfl rfl ?_
      refine z_iload_n 1 d_Model_act_25 rfl rfl ?_
      refine pf_Model_own zl_129 d_Model_act_26 q_901 ?_
      refine z_aload_n 0 d_Model_act_29 rfl rfl ?_
      refine z_iload_n 1 d_Model_act_30 rfl rfl ?_
      obtain ⟨⟨v9, s10⟩, e11, h⟩ := zbd_i h
      refine w_callV (As := [.int x1]) (kc := 22) (ci := 12) (c_Model_kind l θ e11) cf_Model_kind q_1033 d_Model_act_31 zl_129 rfl rfl rfl rfl rfl rfl (Nat.le_of_ble_eq_true rfl) rfl rfl ⟨Nat.le_of_ble_eq_true rfl, Nat.le_of_ble_eq_true rfl⟩ ?_
      refine z_istore d_Model_act_34 (by decide) rfl ?_
      refine z_iload_n 3 d_Model_act_36 rfl rfl ?_
      refine z_if_ne (tgt := 50) d_Model_act_37 (by decide) (fun c12 => ?_) (fun c12 => ?_)
      · have h := (if_neg c12).symm.trans h
        refine z_iload_n 3 d_Model_act_50 rfl rfl ?_
        refine z_iconst (v := 1) d_Model_act_51 (by decide) ?_
        refine z_icmp_ne (tgt := 65) d_Model_act_52 (by decide) (fun c13 => ?_) (fun c13 => ?_)
        · have h := (if_neg c13).symm.trans h
          refine z_aload_n 1 d_Model_act_65 rfl rfl ?_
          refine z_iload 0 d_Model_act_66 rfl ?_
          refine z_iload_n 4 d_Model_act_68 rfl rfl ?_
          obtain ⟨⟨v14, s15⟩, e16, h⟩ := zbd_i h
          refine w_callV (As := [.int v9, .int x3]) (kc := 22) (ci := 12) (cn_Model_tells l θ 8 (v9, x3, s10) _ e16) cf_Model_tells q_1278 d_Model_act_69 zl_129 rfl rfl rfl rfl rfl rfl (Nat.le_of_ble_eq_true rfl) rfl rfl ⟨Nat.le_of_ble_eq_true rfl, Nat.le_of_ble_eq_true rfl⟩ ?_
          exact z_iret d_Model_act_72 h
        · have h := (if_pos c13).symm.trans h
          refine z_aload_n 1 d_Model_act_55 rfl rfl ?_
          refine z_iload 0 d_Model_act_56 rfl ?_
          refine z_iload_n 4 d_Model_act_58 rfl rfl ?_
          obtain ⟨⟨v17, s18⟩, e19, h⟩ := zbd_i h
          refine w_callV (As := [.int v9, .int x3]) (kc := 22) (ci := 12) (cn_Model_bakesFrom l θ 8 (v9, x3, s10) _ e19) cf_Model_bakesFrom q_1274 d_Model_act_59 zl_129 rfl rfl rfl rfl rfl rfl (Nat.le_of_ble_eq_true rfl) rfl rfl ⟨Nat.le_of_ble_eq_true rfl, Nat.le_of_ble_eq_true rfl⟩ ?_
          refine z_goto (tgt := 72) d_Model_act_62 (by decide) ?_
          exact z_iret d_Model_act_72 h
      · have h := (if_pos c12).symm.trans h
        refine z_aload_n 1 d_Model_act_40 rfl rfl ?_
        refine z_iload 0 d_Model_act_41 rfl ?_
        refine z_iload_n 4 d_Model_act_43 rfl rfl ?_
        obtain ⟨⟨v20, s21⟩, e22, h⟩ := zbd_i h
        refine w_callV (As := [.int v9, .int x3]) (kc := 22) (ci := 12) (cn_Model_rises l θ 6 (v9, x3, s10) _ e22) cf_Model_rises q_1266 d_Model_act_44 zl_129 rfl rfl rfl rfl rfl rfl (Nat.le_of_ble_eq_true rfl) rfl rfl ⟨Nat.le_of_ble_eq_true rfl, Nat.le_of_ble_eq_true rfl⟩ ?_
        refine z_goto (tgt := 72) d_Model_act_47 (by decide) ?_
        exact z_iret d_Model_act_72 h
    · have h := (if_pos c8).symm.trans h
      refine z_iconst (v := 0) d_Model_act_22 (by decide) ?_
      exact z_iret d_Model_act_23 h
theorem d_Model_trace_0 : decode b_Model_trace 0 = .ok (.iload_n 1, 1) := by decide +kernel
theorem d_Model_trace_1 : decode b_Model_trace 1 = .ok (.ifCond .lt (26), 3) := by decide +kernel
theorem d_Model_trace_4 : decode b_Model_trace 4 = .ok (.iload_n 1, 1) := by decide +kernel
theorem d_Model_trace_5 : decode b_Model_trace 5 = .ok (.aload_n 0, 1) := by decide +kernel
theorem d_Model_trace_6 : decode b_Model_trace 6 = .ok (.getfield 281, 3) := by decide +kernel
theorem d_Model_trace_9 : decode b_Model_trace 9 = .ok (.if_icmp .ge (18), 3) := by decide +kernel
theorem d_Model_trace_12 : decode b_Model_trace 12 = .ok (.iload_n 1, 1) := by decide +kernel
theorem d_Model_trace_13 : decode b_Model_trace 13 = .ok (.bipush (20), 2) := by decide +kernel
theorem d_Model_trace_15 : decode b_Model_trace 15 = .ok (.if_icmp .ge (12), 3) := by decide +kernel
theorem d_Model_trace_18 : decode b_Model_trace 18 = .ok (.aload_n 0, 1) := by decide +kernel
theorem d_Model_trace_19 : decode b_Model_trace 19 = .ok (.getfield 49, 3) := by decide +kernel
theorem d_Model_trace_22 : decode b_Model_trace 22 = .ok (.iload_n 1, 1) := by decide +kernel
theorem d_Model_trace_23 : decode b_Model_trace 23 = .ok (.iaload, 1) := by decide +kernel
theorem d_Model_trace_24 : decode b_Model_trace 24 = .ok (.goto (4), 3) := by decide +kernel
theorem d_Model_trace_27 : decode b_Model_trace 27 = .ok (.iconst (-1), 1) := by decide +kernel
theorem d_Model_trace_28 : decode b_Model_trace 28 = .ok (.ireturn, 1) := by decide +kernel
theorem c_Model_trace (l : Launch) (θ : ZT) {x1 : Int32} {σ : ZM} {res : Int32 × ZM} (h : f_Model_trace x1 σ = some res) : zMet mkI l 129 14 θ y_Model_trace b_Model_trace 2 (some .int) (zrm 1 60) [.ref (za θ 129), .int x1] σ res := by
  unfold f_Model_trace at h
  refine z_met (lv := [(0, .ref (za θ 129)), (1, .int x1)]) (by decide +kernel) rfl (Nat.le_of_ble_eq_true rfl) (by decide) ?_
  refine z_iload_n 1 d_Model_trace_0 rfl rfl ?_
  refine z_if_lt (tgt := 27) d_Model_trace_1 (by decide) (fun c1 => ?_) (fun c1 => ?_)
  · have h := (if_pos c1).symm.trans h
    refine z_iconst (v := -1) d_Model_trace_27 (by decide) ?_
    exact z_iret d_Model_trace_28 h
  · have h := (if_neg c1).symm.trans h
    refine z_iload_n 1 d_Model_trace_4 rfl rfl ?_
    refine z_aload_n 0 d_Model_trace_5 rfl rfl ?_
    refine gf_Model_ran zl_129 d_Model_trace_6 q_900 ?_
    refine z_icmp_ge (tgt := 27) d_Model_trace_9 (by decide) (fun c2 => ?_) (fun c2 => ?_)
    · have h := (if_pos c2).symm.trans h
      refine z_iconst (v := -1) d_Model_trace_27 (by decide) ?_
      exact z_iret d_Model_trace_28 h
    · have h := (if_neg c2).symm.trans h
      refine z_iload_n 1 d_Model_trace_12 rfl rfl ?_
      refine z_bipush (v := 20) d_Model_trace_13 (by decide) ?_
      refine z_icmp_ge (tgt := 27) d_Model_trace_15 (by decide) (fun c3 => ?_) (fun c3 => ?_)
      · have h := (if_pos c3).symm.trans h
        refine z_iconst (v := -1) d_Model_trace_27 (by decide) ?_
        exact z_iret d_Model_trace_28 h
      · have h := (if_neg c3).symm.trans h
        refine z_aload_n 0 d_Model_trace_18 rfl rfl ?_
        refine gf_Model_trace zl_129 d_Model_trace_19 q_899 ?_
        refine z_iload_n 1 d_Model_trace_22 rfl rfl ?_
        obtain ⟨c4, h⟩ := zck_i h
        refine w_iald zl_142 c4 d_Model_trace_23 ?_
        refine z_goto (tgt := 28) d_Model_trace_24 (by decide) ?_
        exact z_iret d_Model_trace_28 h
theorem d_Model_above_0 : decode b_Model_above 0 = .ok (.iload_n 0, 1) := by decide +kernel
theorem d_Model_above_1 : decode b_Model_above 1 = .ok (.iconst (4), 1) := by decide +kernel
theorem d_Model_above_2 : decode b_Model_above 2 = .ok (.if_icmp .lt (9), 3) := by decide +kernel
theorem d_Model_above_5 : decode b_Model_above 5 = .ok (.iload_n 0, 1) := by decide +kernel
theorem d_Model_above_6 : decode b_Model_above 6 = .ok (.iconst (3), 1) := by decide +kernel
theorem d_Model_above_7 : decode b_Model_above 7 = .ok (.isub, 1) := by decide +kernel
theorem d_Model_above_8 : decode b_Model_above 8 = .ok (.goto (4), 3) := by decide +kernel
theorem d_Model_above_11 : decode b_Model_above 11 = .ok (.iconst (0), 1) := by decide +kernel
theorem d_Model_above_12 : decode b_Model_above 12 = .ok (.ireturn, 1) := by decide +kernel
theorem c_Model_above (l : Launch) (θ : ZT) {x0 : Int32} {σ : ZM} {res : Int32 × ZM} (h : f_Model_above x0 σ = some res) : zMet mkI l 129 14 θ y_Model_above b_Model_above 1 (some .int) (zrm 1 60) [.int x0] σ res := by
  unfold f_Model_above at h
  refine z_met (lv := [(0, .int x0)]) (by decide +kernel) rfl (Nat.le_of_ble_eq_true rfl) (by decide) ?_
  refine z_iload_n 0 d_Model_above_0 rfl rfl ?_
  refine z_iconst (v := 4) d_Model_above_1 (by decide) ?_
  refine z_icmp_lt (tgt := 11) d_Model_above_2 (by decide) (fun c1 => ?_) (fun c1 => ?_)
  · have h := (if_pos c1).symm.trans h
    refine z_iconst (v := 0) d_Model_above_11 (by decide) ?_
    exact z_iret d_Model_above_12 h
  · have h := (if_neg c1).symm.trans h
    refine z_iload_n 0 d_Model_above_5 rfl rfl ?_
    refine z_iconst (v := 3) d_Model_above_6 (by decide) ?_
    refine z_isub d_Model_above_7 ?_
    refine z_goto (tgt := 12) d_Model_above_8 (by decide) ?_
    exact z_iret d_Model_above_12 h
theorem d_Model_taken_0 : decode b_Model_taken 0 = .ok (.iload_n 2, 1) := by decide +kernel
theorem d_Model_taken_1 : decode b_Model_taken 1 = .ok (.iconst (0), 1) := by decide +kernel
theorem d_Model_taken_2 : decode b_Model_taken 2 = .ok (.bipush (6), 2) := by decide +kernel
theorem d_Model_taken_4 : decode b_Model_taken 4 = .ok (.invokestatic 52, 3) := by decide +kernel
theorem d_Model_taken_7 : decode b_Model_taken 7 = .ok (.ifCond .ne (6), 3) := by decide +kernel
theorem d_Model_taken_10 : decode b_Model_taken 10 = .ok (.bipush (-2), 2) := by decide +kernel
theorem d_Model_taken_12 : decode b_Model_taken 12 = .ok (.ireturn, 1) := by decide +kernel
theorem d_Model_taken_13 : decode b_Model_taken 13 = .ok (.aload_n 0, 1) := by decide +kernel
theorem d_Model_taken_14 : decode b_Model_taken 14 = .ok (.iload_n 1, 1) := by decide +kernel
theorem d_Model_taken_15 : decode b_Model_taken 15 = .ok (.invokevirtual 199, 3) := by decide +kernel
theorem d_Model_taken_18 : decode b_Model_taken 18 = .ok (.ifCond .ne (6), 3) := by decide +kernel
theorem d_Model_taken_21 : decode b_Model_taken 21 = .ok (.bipush (-11), 2) := by decide +kernel
theorem d_Model_taken_23 : decode b_Model_taken 23 = .ok (.ireturn, 1) := by decide +kernel
theorem d_Model_taken_24 : decode b_Model_taken 24 = .ok (.aload_n 0, 1) := by decide +kernel
theorem d_Model_taken_25 : decode b_Model_taken 25 = .ok (.iload_n 1, 1) := by decide +kernel
theorem d_Model_taken_26 : decode b_Model_taken 26 = .ok (.invokevirtual 92, 3) := by decide +kernel
theorem d_Model_taken_29 : decode b_Model_taken 29 = .ok (.istore_n 3, 1) := by decide +kernel
theorem d_Model_taken_30 : decode b_Model_taken 30 = .ok (.iload_n 3, 1) := by decide +kernel
theorem d_Model_taken_31 : decode b_Model_taken 31 = .ok (.iload_n 2, 1) := by decide +kernel
theorem d_Model_taken_32 : decode b_Model_taken 32 = .ok (.if_icmp .eq (15), 3) := by decide +kernel
theorem d_Model_taken_35 : decode b_Model_taken 35 = .ok (.iload_n 3, 1) := by decide +kernel
theorem d_Model_taken_36 : decode b_Model_taken 36 = .ok (.invokestatic 300, 3) := by decide +kernel
theorem d_Model_taken_39 : decode b_Model_taken 39 = .ok (.iload_n 2, 1) := by decide +kernel
theorem d_Model_taken_40 : decode b_Model_taken 40 = .ok (.if_icmp .eq (7), 3) := by decide +kernel
theorem d_Model_taken_43 : decode b_Model_taken 43 = .ok (.iload_n 2, 1) := by decide +kernel
theorem d_Model_taken_44 : decode b_Model_taken 44 = .ok (.ifCond .ne (7), 3) := by decide +kernel
theorem d_Model_taken_47 : decode b_Model_taken 47 = .ok (.iload_n 3, 1) := by decide +kernel
theorem d_Model_taken_48 : decode b_Model_taken 48 = .ok (.goto (5), 3) := by decide +kernel
theorem d_Model_taken_51 : decode b_Model_taken 51 = .ok (.bipush (-12), 2) := by decide +kernel
theorem d_Model_taken_53 : decode b_Model_taken 53 = .ok (.ireturn, 1) := by decide +kernel
theorem c_Model_taken (l : Launch) (θ : ZT) {x1 : Int32} {x2 : Int32} {σ : ZM} {res : Int32 × ZM} (h : f_Model_taken x1 x2 σ = some res) : zMet mkI l 129 14 θ y_Model_taken b_Model_taken 4 (some .int) (zrm 3 103) [.ref (za θ 129), .int x1, .int x2] σ res := by
  unfold f_Model_taken at h
  refine z_met (lv := [(0, .ref (za θ 129)), (1, .int x1), (2, .int x2)]) (by decide +kernel) rfl (Nat.le_of_ble_eq_true rfl) (by decide) ?_
  refine z_iload_n 2 d_Model_taken_0 rfl rfl ?_
  refine z_iconst (v := 0) d_Model_taken_1 (by decide) ?_
  refine z_bipush (v := 6) d_Model_taken_2 (by decide) ?_
  obtain ⟨⟨v1, s2⟩, e3, h⟩ := zbd_i h
  refine w_callS (As := [.int x2, .int (0 : Int32), .int (6 : Int32)]) (c_Model_isIn l θ e3) cf_Model_isIn q_969 d_Model_taken_4 rfl rfl rfl (Nat.le_of_ble_eq_true rfl) rfl rfl ⟨Nat.le_of_ble_eq_true rfl, Nat.le_of_ble_eq_true rfl⟩ ?_
  refine z_if_ne (tgt := 13) d_Model_taken_7 (by decide) (fun c4 => ?_) (fun c4 => ?_)
  · have h := (if_neg c4).symm.trans h
    refine z_aload_n 0 d_Model_taken_13 rfl rfl ?_
    refine z_iload_n 1 d_Model_taken_14 rfl rfl ?_
    obtain ⟨⟨v5, s6⟩, e7, h⟩ := zbd_i h
    refine w_callV (As := [.int x1]) (kc := 22) (ci := 12) (c_Model_isLoaf l θ e7) cf_Model_isLoaf q_1053 d_Model_taken_15 zl_129 rfl rfl rfl rfl rfl rfl (Nat.le_of_ble_eq_true rfl) rfl rfl ⟨Nat.le_of_ble_eq_true rfl, Nat.le_of_ble_eq_true rfl⟩ ?_
    refine z_if_ne (tgt := 24) d_Model_taken_18 (by decide) (fun c8 => ?_) (fun c8 => ?_)
    · have h := (if_neg c8).symm.trans h
      refine z_aload_n 0 d_Model_taken_24 rfl rfl ?_
      refine z_iload_n 1 d_Model_taken_25 rfl rfl ?_
      obtain ⟨⟨v9, s10⟩, e11, h⟩ := zbd_i h
      refine w_callV (As := [.int x1]) (kc := 22) (ci := 12) (c_Model_kind l θ e11) cf_Model_kind q_1033 d_Model_taken_26 zl_129 rfl rfl rfl rfl rfl rfl (Nat.le_of_ble_eq_true rfl) rfl rfl ⟨Nat.le_of_ble_eq_true rfl, Nat.le_of_ble_eq_true rfl⟩ ?_
      refine z_istore_n d_Model_taken_29 rfl (by decide) rfl ?_
      refine z_iload_n 0 d_Model_taken_30 rfl rfl ?_
      refine z_iload_n 3 d_Model_taken_31 rfl rfl ?_
      refine z_icmp_eq (tgt := 47) d_Model_taken_32 (by decide) (fun c12 => ?_) (fun c12 => ?_)
      · have h := (if_pos c12).symm.trans h
        refine z_iload_n 0 d_Model_taken_47 rfl rfl ?_
        refine z_goto (tgt := 53) d_Model_taken_48 (by decide) ?_
        exact z_iret d_Model_taken_53 h
      · have h := (if_neg c12).symm.trans h
        refine z_iload_n 0 d_Model_taken_35 rfl rfl ?_
        obtain ⟨⟨v13, s14⟩, e15, h⟩ := zbd_i h
        refine w_callS (As := [.int v9]) (c_Model_above l θ e15) cf_Model_above q_1290 d_Model_taken_36 rfl rfl rfl (Nat.le_of_ble_eq_true rfl) rfl rfl ⟨Nat.le_of_ble_eq_true rfl, Nat.le_of_ble_eq_true rfl⟩ ?_
        refine z_iload_n 3 d_Model_taken_39 rfl rfl ?_
        refine z_icmp_eq (tgt := 47) d_Model_taken_40 (by decide) (fun c16 => ?_) (fun c16 => ?_)
        · have h := (if_pos c16).symm.trans h
          refine z_iload_n 0 d_Model_taken_47 rfl rfl ?_
          refine z_goto (tgt := 53) d_Model_taken_48 (by decide) ?_
          exact z_iret d_Model_taken_53 h
        · have h := (if_neg c16).symm.trans h
          refine z_iload_n 3 d_Model_taken_43 rfl rfl ?_
          refine z_if_ne (tgt := 51) d_Model_taken_44 (by decide) (fun c17 => ?_) (fun c17 => ?_)
          · have h := (if_neg c17).symm.trans h
            refine z_bipush (v := -12) d_Model_taken_51 (by decide) ?_
            exact z_iret d_Model_taken_53 h
          · have h := (if_pos c17).symm.trans h
            refine z_iload_n 0 d_Model_taken_47 rfl rfl ?_
            refine z_goto (tgt := 53) d_Model_taken_48 (by decide) ?_
            exact z_iret d_Model_taken_53 h
    · have h := (if_pos c8).symm.trans h
      refine z_bipush (v := -11) d_Model_taken_21 (by decide) ?_
      exact z_iret d_Model_taken_23 h
  · have h := (if_pos c4).symm.trans h
    refine z_bipush (v := -2) d_Model_taken_10 (by decide) ?_
    exact z_iret d_Model_taken_12 h
theorem d_Model_count_0 : decode b_Model_count 0 = .ok (.iload_n 1, 1) := by decide +kernel
theorem d_Model_count_1 : decode b_Model_count 1 = .ok (.tableswitch (65) (0) (4) #[35, 42, 47, 55, 60], 35) := by decide +kernel
theorem d_Model_count_36 : decode b_Model_count 36 = .ok (.aload_n 0, 1) := by decide +kernel
theorem d_Model_count_37 : decode b_Model_count 37 = .ok (.getfield 11, 3) := by decide +kernel
theorem d_Model_count_40 : decode b_Model_count 40 = .ok (.iconst (5), 1) := by decide +kernel
theorem d_Model_count_41 : decode b_Model_count 41 = .ok (.iaload, 1) := by decide +kernel
theorem d_Model_count_42 : decode b_Model_count 42 = .ok (.ireturn, 1) := by decide +kernel
theorem d_Model_count_43 : decode b_Model_count 43 = .ok (.aload_n 0, 1) := by decide +kernel
theorem d_Model_count_44 : decode b_Model_count 44 = .ok (.getfield 173, 3) := by decide +kernel
theorem d_Model_count_47 : decode b_Model_count 47 = .ok (.ireturn, 1) := by decide +kernel
theorem d_Model_count_48 : decode b_Model_count 48 = .ok (.aload_n 0, 1) := by decide +kernel
theorem d_Model_count_49 : decode b_Model_count 49 = .ok (.getfield 11, 3) := by decide +kernel
theorem d_Model_count_52 : decode b_Model_count 52 = .ok (.bipush (7), 2) := by decide +kernel
theorem d_Model_count_54 : decode b_Model_count 54 = .ok (.iaload, 1) := by decide +kernel
theorem d_Model_count_55 : decode b_Model_count 55 = .ok (.ireturn, 1) := by decide +kernel
theorem d_Model_count_56 : decode b_Model_count 56 = .ok (.aload_n 0, 1) := by decide +kernel
theorem d_Model_count_57 : decode b_Model_count 57 = .ok (.getfield 64, 3) := by decide +kernel
theorem d_Model_count_60 : decode b_Model_count 60 = .ok (.ireturn, 1) := by decide +kernel
theorem d_Model_count_61 : decode b_Model_count 61 = .ok (.aload_n 0, 1) := by decide +kernel
theorem d_Model_count_62 : decode b_Model_count 62 = .ok (.getfield 281, 3) := by decide +kernel
theorem d_Model_count_65 : decode b_Model_count 65 = .ok (.ireturn, 1) := by decide +kernel
theorem d_Model_count_66 : decode b_Model_count 66 = .ok (.bipush (-2), 2) := by decide +kernel
theorem d_Model_count_68 : decode b_Model_count 68 = .ok (.ireturn, 1) := by decide +kernel
theorem c_Model_count (l : Launch) (θ : ZT) {x1 : Int32} {σ : ZM} {res : Int32 × ZM} (h : f_Model_count x1 σ = some res) : zMet mkI l 129 14 θ y_Model_count b_Model_count 2 (some .int) (zrm 1 60) [.ref (za θ 129), .int x1] σ res := by
  unfold f_Model_count at h
  refine z_met (lv := [(0, .ref (za θ 129)), (1, .int x1)]) (by decide +kernel) rfl (Nat.le_of_ble_eq_true rfl) (by decide) ?_
  refine z_iload_n 1 d_Model_count_0 rfl rfl ?_
  by_cases c1 : x1 = (0 : Int32)
  · have h := (if_pos c1).symm.trans h
    refine z_tableIn (k := 0) (off := 35) (tgt := 36) d_Model_count_1 c1 (by decide) ?_
    refine z_aload_n 0 d_Model_count_36 rfl rfl ?_
    refine gf_Model_s zl_129 d_Model_count_37 q_871 ?_
    refine z_iconst (v := 5) d_Model_count_40 (by decide) ?_
    obtain ⟨c2, h⟩ := zck_i h
    refine w_iald zl_130 c2 d_Model_count_41 ?_
    exact z_iret d_Model_count_42 h
  have h := (if_neg c1).symm.trans h
  by_cases c3 : x1 = (1 : Int32)
  · have h := (if_pos c3).symm.trans h
    refine z_tableIn (k := 1) (off := 42) (tgt := 43) d_Model_count_1 c3 (by decide) ?_
    refine z_aload_n 0 d_Model_count_43 rfl rfl ?_
    refine gf_Model_kilns zl_129 d_Model_count_44 q_879 ?_
    exact z_iret d_Model_count_47 h
  have h := (if_neg c3).symm.trans h
  by_cases c4 : x1 = (2 : Int32)
  · have h := (if_pos c4).symm.trans h
    refine z_tableIn (k := 2) (off := 47) (tgt := 48) d_Model_count_1 c4 (by decide) ?_
    refine z_aload_n 0 d_Model_count_48 rfl rfl ?_
    refine gf_Model_s zl_129 d_Model_count_49 q_871 ?_
    refine z_bipush (v := 7) d_Model_count_52 (by decide) ?_
    obtain ⟨c5, h⟩ := zck_i h
    refine w_iald zl_130 c5 d_Model_count_54 ?_
    exact z_iret d_Model_count_55 h
  have h := (if_neg c4).symm.trans h
  by_cases c6 : x1 = (3 : Int32)
  · have h := (if_pos c6).symm.trans h
    refine z_tableIn (k := 3) (off := 55) (tgt := 56) d_Model_count_1 c6 (by decide) ?_
    refine z_aload_n 0 d_Model_count_56 rfl rfl ?_
    refine gf_Model_texted zl_129 d_Model_count_57 q_878 ?_
    exact z_iret d_Model_count_60 h
  have h := (if_neg c6).symm.trans h
  by_cases c7 : x1 = (4 : Int32)
  · have h := (if_pos c7).symm.trans h
    refine z_tableIn (k := 4) (off := 60) (tgt := 61) d_Model_count_1 c7 (by decide) ?_
    refine z_aload_n 0 d_Model_count_61 rfl rfl ?_
    refine gf_Model_ran zl_129 d_Model_count_62 q_900 ?_
    exact z_iret d_Model_count_65 h
  have h := (if_neg c7).symm.trans h
  have nc1 := lv_neT (a := 0) c1 (by decide)
  have nc3 := lv_neT (a := 1) c3 (by decide)
  have nc4 := lv_neT (a := 2) c4 (by decide)
  have nc6 := lv_neT (a := 3) c6 (by decide)
  have nc7 := lv_neT (a := 4) c7 (by decide)
  refine z_tableOut (tgt := 66) d_Model_count_1 (by omega) (by decide) ?_
  refine z_bipush (v := -2) d_Model_count_66 (by decide) ?_
  exact z_iret d_Model_count_68 h
theorem d_Model_tape_0 : decode b_Model_tape 0 = .ok (.iload_n 1, 1) := by decide +kernel
theorem d_Model_tape_1 : decode b_Model_tape 1 = .ok (.invokestatic 275, 3) := by decide +kernel
theorem d_Model_tape_4 : decode b_Model_tape 4 = .ok (.ifCond .ne (5), 3) := by decide +kernel
theorem d_Model_tape_7 : decode b_Model_tape 7 = .ok (.iconst (-1), 1) := by decide +kernel
theorem d_Model_tape_8 : decode b_Model_tape 8 = .ok (.ireturn, 1) := by decide +kernel
theorem d_Model_tape_9 : decode b_Model_tape 9 = .ok (.iload_n 2, 1) := by decide +kernel
theorem d_Model_tape_10 : decode b_Model_tape 10 = .ok (.iconst (-1), 1) := by decide +kernel
theorem d_Model_tape_11 : decode b_Model_tape 11 = .ok (.iconst (4), 1) := by decide +kernel
theorem d_Model_tape_12 : decode b_Model_tape 12 = .ok (.invokestatic 52, 3) := by decide +kernel
theorem d_Model_tape_15 : decode b_Model_tape 15 = .ok (.ifCond .eq (13), 3) := by decide +kernel
theorem d_Model_tape_18 : decode b_Model_tape 18 = .ok (.iload_n 2, 1) := by decide +kernel
theorem d_Model_tape_19 : decode b_Model_tape 19 = .ok (.ifCond .lt (12), 3) := by decide +kernel
theorem d_Model_tape_22 : decode b_Model_tape 22 = .ok (.iload_n 3, 1) := by decide +kernel
theorem d_Model_tape_23 : decode b_Model_tape 23 = .ok (.bipush (60), 2) := by decide +kernel
theorem d_Model_tape_25 : decode b_Model_tape 25 = .ok (.if_icmp .le (6), 3) := by decide +kernel
theorem d_Model_tape_28 : decode b_Model_tape 28 = .ok (.bipush (-2), 2) := by decide +kernel
theorem d_Model_tape_30 : decode b_Model_tape 30 = .ok (.ireturn, 1) := by decide +kernel
theorem d_Model_tape_31 : decode b_Model_tape 31 = .ok (.iload_n 2, 1) := by decide +kernel
theorem d_Model_tape_32 : decode b_Model_tape 32 = .ok (.ifCond .lt (10), 3) := by decide +kernel
theorem d_Model_tape_35 : decode b_Model_tape 35 = .ok (.iload_n 3, 1) := by decide +kernel
theorem d_Model_tape_36 : decode b_Model_tape 36 = .ok (.ifCond .ge (6), 3) := by decide +kernel
theorem d_Model_tape_39 : decode b_Model_tape 39 = .ok (.bipush (-14), 2) := by decide +kernel
theorem d_Model_tape_41 : decode b_Model_tape 41 = .ok (.ireturn, 1) := by decide +kernel
theorem d_Model_tape_42 : decode b_Model_tape 42 = .ok (.aload_n 0, 1) := by decide +kernel
theorem d_Model_tape_43 : decode b_Model_tape 43 = .ok (.getfield 39, 3) := by decide +kernel
theorem d_Model_tape_46 : decode b_Model_tape 46 = .ok (.iload_n 1, 1) := by decide +kernel
theorem d_Model_tape_47 : decode b_Model_tape 47 = .ok (.iload_n 2, 1) := by decide +kernel
theorem d_Model_tape_48 : decode b_Model_tape 48 = .ok (.iastore, 1) := by decide +kernel
theorem d_Model_tape_49 : decode b_Model_tape 49 = .ok (.aload_n 0, 1) := by decide +kernel
theorem d_Model_tape_50 : decode b_Model_tape 50 = .ok (.getfield 42, 3) := by decide +kernel
theorem d_Model_tape_53 : decode b_Model_tape 53 = .ok (.iload_n 1, 1) := by decide +kernel
theorem d_Model_tape_54 : decode b_Model_tape 54 = .ok (.iload_n 2, 1) := by decide +kernel
theorem d_Model_tape_55 : decode b_Model_tape 55 = .ok (.ifCond .ge (7), 3) := by decide +kernel
theorem d_Model_tape_58 : decode b_Model_tape 58 = .ok (.iconst (0), 1) := by decide +kernel
theorem d_Model_tape_59 : decode b_Model_tape 59 = .ok (.goto (4), 3) := by decide +kernel
theorem d_Model_tape_62 : decode b_Model_tape 62 = .ok (.iload_n 3, 1) := by decide +kernel
theorem d_Model_tape_63 : decode b_Model_tape 63 = .ok (.iastore, 1) := by decide +kernel
theorem d_Model_tape_64 : decode b_Model_tape 64 = .ok (.iconst (0), 1) := by decide +kernel
theorem d_Model_tape_65 : decode b_Model_tape 65 = .ok (.istore 4, 2) := by decide +kernel
theorem d_Model_tape_67 : decode b_Model_tape 67 = .ok (.iload 4, 2) := by decide +kernel
theorem d_Model_tape_69 : decode b_Model_tape 69 = .ok (.bipush (60), 2) := by decide +kernel
theorem d_Model_tape_71 : decode b_Model_tape 71 = .ok (.if_icmp .ge (22), 3) := by decide +kernel
theorem d_Model_tape_74 : decode b_Model_tape 74 = .ok (.aload_n 0, 1) := by decide +kernel
theorem d_Model_tape_75 : decode b_Model_tape 75 = .ok (.getfield 45, 3) := by decide +kernel
theorem d_Model_tape_78 : decode b_Model_tape 78 = .ok (.bipush (60), 2) := by decide +kernel
theorem d_Model_tape_80 : decode b_Model_tape 80 = .ok (.iload_n 1, 1) := by decide +kernel
theorem d_Model_tape_81 : decode b_Model_tape 81 = .ok (.imul, 1) := by decide +kernel
theorem d_Model_tape_82 : decode b_Model_tape 82 = .ok (.iload 4, 2) := by decide +kernel
theorem d_Model_tape_84 : decode b_Model_tape 84 = .ok (.iadd, 1) := by decide +kernel
theorem d_Model_tape_85 : decode b_Model_tape 85 = .ok (.lconst 0, 1) := by decide +kernel
theorem d_Model_tape_86 : decode b_Model_tape 86 = .ok (.lastore, 1) := by decide +kernel
theorem d_Model_tape_87 : decode b_Model_tape 87 = .ok (.iinc 4 (1), 3) := by decide +kernel
theorem d_Model_tape_90 : decode b_Model_tape 90 = .ok (.goto (-23), 3) := by decide +kernel
theorem d_Model_tape_93 : decode b_Model_tape 93 = .ok (.iconst (1), 1) := by decide +kernel
theorem d_Model_tape_94 : decode b_Model_tape 94 = .ok (.ireturn, 1) := by decide +kernel
theorem zb_Model_tape_67 {l : Launch} {θ : ZT} {res : Int32 × ZM} {k67 : Int32 × Int32 × ZM → Option (Int32 × ZM)} (hk67 : ∀ a : Int32 × Int32 × ZM, k67 a = some res → WZ l b_Model_tape 5 (some .int) "BakedBeforeModel" 129 14 θ (zrm 3 102) (zQ mkI 129 14 θ res) a.2.2 [(0, .ref (za θ 129)), (1, .int a.1), (4, .int a.2.1)] 67 []) {x1 : Int32} {x4 : Int32} {σ : ZM} (h : f_Model_tape_67 k67 x1 x4 σ = some res) : WZ l b_Model_tape 5 (some .int) "BakedBeforeModel" 129 14 θ (zrm 3 102) (zQ mkI 129 14 θ res) σ [(0, .ref (za θ 129)), (1, .int x1), (4, .int x4)] 67 [] := by
  unfold f_Model_tape_67 at h
  refine z_iload 2 d_Model_tape_67 rfl ?_
  refine z_bipush (v := 60) d_Model_tape_69 (by decide) ?_
  refine z_icmp_ge (tgt := 93) d_Model_tape_71 (by decide) (fun c1 => ?_) (fun c1 => ?_)
  · have h := (if_pos c1).symm.trans h
    refine z_iconst (v := 1) d_Model_tape_93 (by decide) ?_
    exact z_iret d_Model_tape_94 h
  · have h := (if_neg c1).symm.trans h
    refine z_aload_n 0 d_Model_tape_74 rfl rfl ?_
    refine gf_Model_item zl_129 d_Model_tape_75 q_898 ?_
    refine z_bipush (v := 60) d_Model_tape_78 (by decide) ?_
    refine z_iload_n 1 d_Model_tape_80 rfl rfl ?_
    refine z_imul d_Model_tape_81 ?_
    refine z_iload 2 d_Model_tape_82 rfl ?_
    refine z_iadd d_Model_tape_84 ?_
    refine z_lconst (v := 0) d_Model_tape_85 (by decide) ?_
    obtain ⟨c2, h⟩ := zck_i h
    refine w_last zl_141 c2 d_Model_tape_86 ?_
    refine z_iinc (v := x4 + (1 : Int32)) 2 d_Model_tape_87 rfl rfl (by decide) rfl ?_
    refine z_goto (tgt := 67) d_Model_tape_90 (by decide) ?_
    refine z_sub [1, 2, 0] rfl ?_
    exact hk67 (x1, (x4 + (1 : Int32)), (zsL σ 141 (((60 : Int32) * x1) + x4).toNatClampNeg (0 : Int64))) h
theorem zl_Model_tape_67 {l : Launch} {θ : ZT} {res : Int32 × ZM} : ∀ (N : Nat) (a : Int32 × Int32 × ZM), F_Model_tape_67 N a = some res → WZ l b_Model_tape 5 (some .int) "BakedBeforeModel" 129 14 θ (zrm 3 102) (zQ mkI 129 14 θ res) a.2.2 [(0, .ref (za θ 129)), (1, .int a.1), (4, .int a.2.1)] 67 [] := by
  intro N
  induction N with
  | zero => intro a  h; cases (show (none : Option (Int32 × ZM)) = some res from h)
  | succ N ih => intro a  h; exact zb_Model_tape_67 ih (show f_Model_tape_67 (F_Model_tape_67 N) a.1 a.2.1 a.2.2 = some res from h)
theorem zb_Model_tape_63 {l : Launch} {θ : ZT} {res : Int32 × ZM} {x1 : Int32} {y0 : Int32} {y1 : Int32} {σ : ZM} (h : f_Model_tape_63 x1 y0 y1 σ = some res) : WZ l b_Model_tape 5 (some .int) "BakedBeforeModel" 129 14 θ (zrm 3 102) (zQ mkI 129 14 θ res) σ [(0, .ref (za θ 129)), (1, .int x1)] 63 [.int y0, .int y1, .ref (za θ 140)] := by
  unfold f_Model_tape_63 at h
  obtain ⟨c1, h⟩ := zck_i h
  refine w_iast zl_140 c1 d_Model_tape_63 ?_
  refine z_iconst (v := 0) d_Model_tape_64 (by decide) ?_
  refine z_istore d_Model_tape_65 (by decide) rfl ?_
  refine z_sub [1, 2, 0] rfl ?_
  exact zl_Model_tape_67 2000 (x1, (0 : Int32), (zsI σ 140 y1.toNatClampNeg y0)) h
theorem zb_Model_tape_42 {l : Launch} {θ : ZT} {res : Int32 × ZM} {x1 : Int32} {x2 : Int32} {x3 : Int32} {σ : ZM} (h : f_Model_tape_42 x1 x2 x3 σ = some res) : WZ l b_Model_tape 5 (some .int) "BakedBeforeModel" 129 14 θ (zrm 3 102) (zQ mkI 129 14 θ res) σ [(0, .ref (za θ 129)), (1, .int x1), (2, .int x2), (3, .int x3)] 42 [] := by
  unfold f_Model_tape_42 at h
  refine z_aload_n 0 d_Model_tape_42 rfl rfl ?_
  refine gf_Model_tapeSort zl_129 d_Model_tape_43 q_896 ?_
  refine z_iload_n 1 d_Model_tape_46 rfl rfl ?_
  refine z_iload_n 2 d_Model_tape_47 rfl rfl ?_
  obtain ⟨c1, h⟩ := zck_i h
  refine w_iast zl_139 c1 d_Model_tape_48 ?_
  refine z_aload_n 0 d_Model_tape_49 rfl rfl ?_
  refine gf_Model_tapeLong zl_129 d_Model_tape_50 q_897 ?_
  refine z_iload_n 1 d_Model_tape_53 rfl rfl ?_
  refine z_iload_n 2 d_Model_tape_54 rfl rfl ?_
  refine z_if_ge (tgt := 62) d_Model_tape_55 (by decide) (fun c2 => ?_) (fun c2 => ?_)
  · have h := (if_pos c2).symm.trans h
    refine z_iload_n 3 d_Model_tape_62 rfl rfl ?_
    refine z_sub [0, 1] rfl ?_
    exact zb_Model_tape_63 h
  · have h := (if_neg c2).symm.trans h
    refine z_iconst (v := 0) d_Model_tape_58 (by decide) ?_
    refine z_goto (tgt := 63) d_Model_tape_59 (by decide) ?_
    refine z_sub [0, 1] rfl ?_
    exact zb_Model_tape_63 h
theorem zb_Model_tape_31 {l : Launch} {θ : ZT} {res : Int32 × ZM} {x1 : Int32} {x2 : Int32} {x3 : Int32} {σ : ZM} (h : f_Model_tape_31 x1 x2 x3 σ = some res) : WZ l b_Model_tape 5 (some .int) "BakedBeforeModel" 129 14 θ (zrm 3 102) (zQ mkI 129 14 θ res) σ [(0, .ref (za θ 129)), (1, .int x1), (2, .int x2), (3, .int x3)] 31 [] := by
  unfold f_Model_tape_31 at h
  refine z_iload_n 2 d_Model_tape_31 rfl rfl ?_
  refine z_if_lt (tgt := 42) d_Model_tape_32 (by decide) (fun c1 => ?_) (fun c1 => ?_)
  · have h := (if_pos c1).symm.trans h
    exact zb_Model_tape_42 h
  · have h := (if_neg c1).symm.trans h
    refine z_iload_n 3 d_Model_tape_35 rfl rfl ?_
    refine z_if_ge (tgt := 42) d_Model_tape_36 (by decide) (fun c2 => ?_) (fun c2 => ?_)
    · have h := (if_pos c2).symm.trans h
      exact zb_Model_tape_42 h
    · have h := (if_neg c2).symm.trans h
      refine z_bipush (v := -14) d_Model_tape_39 (by decide) ?_
      exact z_iret d_Model_tape_41 h
theorem c_Model_tape (l : Launch) (θ : ZT) {x1 : Int32} {x2 : Int32} {x3 : Int32} {σ : ZM} {res : Int32 × ZM} (h : f_Model_tape x1 x2 x3 σ = some res) : zMet mkI l 129 14 θ y_Model_tape b_Model_tape 5 (some .int) (zrm 3 102) [.ref (za θ 129), .int x1, .int x2, .int x3] σ res := by
  unfold f_Model_tape at h
  refine z_met (lv := [(0, .ref (za θ 129)), (1, .int x1), (2, .int x2), (3, .int x3)]) (by decide +kernel) rfl (Nat.le_of_ble_eq_true rfl) (by decide) ?_
  refine z_iload_n 1 d_Model_tape_0 rfl rfl ?_
  obtain ⟨⟨v1, s2⟩, e3, h⟩ := zbd_i h
  refine w_callS (As := [.int x1]) (c_Model_isTape l θ e3) cf_Model_isTape q_1251 d_Model_tape_1 rfl rfl rfl (Nat.le_of_ble_eq_true rfl) rfl rfl ⟨Nat.le_of_ble_eq_true rfl, Nat.le_of_ble_eq_true rfl⟩ ?_
  refine z_if_ne (tgt := 9) d_Model_tape_4 (by decide) (fun c4 => ?_) (fun c4 => ?_)
  · have h := (if_neg c4).symm.trans h
    refine z_iload_n 2 d_Model_tape_9 rfl rfl ?_
    refine z_iconst (v := -1) d_Model_tape_10 (by decide) ?_
    refine z_iconst (v := 4) d_Model_tape_11 (by decide) ?_
    obtain ⟨⟨v5, s6⟩, e7, h⟩ := zbd_i h
    refine w_callS (As := [.int x2, .int (-1 : Int32), .int (4 : Int32)]) (c_Model_isIn l θ e7) cf_Model_isIn q_969 d_Model_tape_12 rfl rfl rfl (Nat.le_of_ble_eq_true rfl) rfl rfl ⟨Nat.le_of_ble_eq_true rfl, Nat.le_of_ble_eq_true rfl⟩ ?_
    refine z_if_eq (tgt := 28) d_Model_tape_15 (by decide) (fun c8 => ?_) (fun c8 => ?_)
    · have h := (if_pos c8).symm.trans h
      refine z_bipush (v := -2) d_Model_tape_28 (by decide) ?_
      exact z_iret d_Model_tape_30 h
    · have h := (if_neg c8).symm.trans h
      refine z_iload_n 2 d_Model_tape_18 rfl rfl ?_
      refine z_if_lt (tgt := 31) d_Model_tape_19 (by decide) (fun c9 => ?_) (fun c9 => ?_)
      · have h := (if_pos c9).symm.trans h
        exact zb_Model_tape_31 h
      · have h := (if_neg c9).symm.trans h
        refine z_iload_n 3 d_Model_tape_22 rfl rfl ?_
        refine z_bipush (v := 60) d_Model_tape_23 (by decide) ?_
        refine z_icmp_le (tgt := 31) d_Model_tape_25 (by decide) (fun c10 => ?_) (fun c10 => ?_)
        · have h := (if_pos c10).symm.trans h
          exact zb_Model_tape_31 h
        · have h := (if_neg c10).symm.trans h
          refine z_bipush (v := -2) d_Model_tape_28 (by decide) ?_
          exact z_iret d_Model_tape_30 h
  · have h := (if_pos c4).symm.trans h
    refine z_iconst (v := -1) d_Model_tape_7 (by decide) ?_
    exact z_iret d_Model_tape_8 h
theorem d_Model_kept_0 : decode b_Model_kept 0 = .ok (.iload_n 0, 1) := by decide +kernel
theorem d_Model_kept_1 : decode b_Model_kept 1 = .ok (.tableswitch (47) (0) (3) #[31, 36, 41, 45], 31) := by decide +kernel
theorem d_Model_kept_32 : decode b_Model_kept 32 = .ok (.lload_n 1, 1) := by decide +kernel
theorem d_Model_kept_33 : decode b_Model_kept 33 = .ok (.l2i, 1) := by decide +kernel
theorem d_Model_kept_34 : decode b_Model_kept 34 = .ok (.i2b, 1) := by decide +kernel
theorem d_Model_kept_35 : decode b_Model_kept 35 = .ok (.i2l, 1) := by decide +kernel
theorem d_Model_kept_36 : decode b_Model_kept 36 = .ok (.lreturn, 1) := by decide +kernel
theorem d_Model_kept_37 : decode b_Model_kept 37 = .ok (.lload_n 1, 1) := by decide +kernel
theorem d_Model_kept_38 : decode b_Model_kept 38 = .ok (.l2i, 1) := by decide +kernel
theorem d_Model_kept_39 : decode b_Model_kept 39 = .ok (.i2s, 1) := by decide +kernel
theorem d_Model_kept_40 : decode b_Model_kept 40 = .ok (.i2l, 1) := by decide +kernel
theorem d_Model_kept_41 : decode b_Model_kept 41 = .ok (.lreturn, 1) := by decide +kernel
theorem d_Model_kept_42 : decode b_Model_kept 42 = .ok (.lload_n 1, 1) := by decide +kernel
theorem d_Model_kept_43 : decode b_Model_kept 43 = .ok (.l2i, 1) := by decide +kernel
theorem d_Model_kept_44 : decode b_Model_kept 44 = .ok (.i2l, 1) := by decide +kernel
theorem d_Model_kept_45 : decode b_Model_kept 45 = .ok (.lreturn, 1) := by decide +kernel
theorem d_Model_kept_46 : decode b_Model_kept 46 = .ok (.lload_n 1, 1) := by decide +kernel
theorem d_Model_kept_47 : decode b_Model_kept 47 = .ok (.lreturn, 1) := by decide +kernel
theorem d_Model_kept_48 : decode b_Model_kept 48 = .ok (.lload_n 1, 1) := by decide +kernel
theorem d_Model_kept_49 : decode b_Model_kept 49 = .ok (.lconst 0, 1) := by decide +kernel
theorem d_Model_kept_50 : decode b_Model_kept 50 = .ok (.lcmp, 1) := by decide +kernel
theorem d_Model_kept_51 : decode b_Model_kept 51 = .ok (.ifCond .eq (7), 3) := by decide +kernel
theorem d_Model_kept_54 : decode b_Model_kept 54 = .ok (.lconst 1, 1) := by decide +kernel
theorem d_Model_kept_55 : decode b_Model_kept 55 = .ok (.goto (4), 3) := by decide +kernel
theorem d_Model_kept_58 : decode b_Model_kept 58 = .ok (.lconst 0, 1) := by decide +kernel
theorem d_Model_kept_59 : decode b_Model_kept 59 = .ok (.lreturn, 1) := by decide +kernel
theorem c_Model_kept (l : Launch) (θ : ZT) {x0 : Int32} {x1 : Int64} {σ : ZM} {res : Int64 × ZM} (h : f_Model_kept x0 x1 σ = some res) : zMet mkL l 129 14 θ y_Model_kept b_Model_kept 3 (some .long) (zrm 1 60) [.int x0, .long x1] σ res := by
  unfold f_Model_kept at h
  refine z_met (lv := [(0, .int x0), (1, .long x1)]) (by decide +kernel) rfl (Nat.le_of_ble_eq_true rfl) (by decide) ?_
  refine z_iload_n 0 d_Model_kept_0 rfl rfl ?_
  by_cases c1 : x0 = (0 : Int32)
  · have h := (if_pos c1).symm.trans h
    refine z_tableIn (k := 0) (off := 31) (tgt := 32) d_Model_kept_1 c1 (by decide) ?_
    refine z_lload_n 1 d_Model_kept_32 rfl rfl ?_
    refine z_l2i d_Model_kept_33 ?_
    refine z_i2b d_Model_kept_34 ?_
    refine z_i2l d_Model_kept_35 ?_
    exact z_lret d_Model_kept_36 h
  have h := (if_neg c1).symm.trans h
  by_cases c2 : x0 = (1 : Int32)
  · have h := (if_pos c2).symm.trans h
    refine z_tableIn (k := 1) (off := 36) (tgt := 37) d_Model_kept_1 c2 (by decide) ?_
    refine z_lload_n 1 d_Model_kept_37 rfl rfl ?_
    refine z_l2i d_Model_kept_38 ?_
    refine z_i2s d_Model_kept_39 ?_
    refine z_i2l d_Model_kept_40 ?_
    exact z_lret d_Model_kept_41 h
  have h := (if_neg c2).symm.trans h
  by_cases c3 : x0 = (2 : Int32)
  · have h := (if_pos c3).symm.trans h
    refine z_tableIn (k := 2) (off := 41) (tgt := 42) d_Model_kept_1 c3 (by decide) ?_
    refine z_lload_n 1 d_Model_kept_42 rfl rfl ?_
    refine z_l2i d_Model_kept_43 ?_
    refine z_i2l d_Model_kept_44 ?_
    exact z_lret d_Model_kept_45 h
  have h := (if_neg c3).symm.trans h
  by_cases c4 : x0 = (3 : Int32)
  · have h := (if_pos c4).symm.trans h
    refine z_tableIn (k := 3) (off := 45) (tgt := 46) d_Model_kept_1 c4 (by decide) ?_
    refine z_lload_n 1 d_Model_kept_46 rfl rfl ?_
    exact z_lret d_Model_kept_47 h
  have h := (if_neg c4).symm.trans h
  have nc1 := lv_neT (a := 0) c1 (by decide)
  have nc2 := lv_neT (a := 1) c2 (by decide)
  have nc3 := lv_neT (a := 2) c3 (by decide)
  have nc4 := lv_neT (a := 3) c4 (by decide)
  refine z_tableOut (tgt := 48) d_Model_kept_1 (by omega) (by decide) ?_
  refine z_lload_n 1 d_Model_kept_48 rfl rfl ?_
  refine z_lconst (v := 0) d_Model_kept_49 (by decide) ?_
  refine z_lcmp d_Model_kept_50 ?_
  refine z_if_eq (tgt := 58) d_Model_kept_51 (by decide) (fun c5 => ?_) (fun c5 => ?_)
  · have h := (if_pos c5).symm.trans h
    refine z_lconst (v := 0) d_Model_kept_58 (by decide) ?_
    exact z_lret d_Model_kept_59 h
  · have h := (if_neg c5).symm.trans h
    refine z_lconst (v := 1) d_Model_kept_54 (by decide) ?_
    refine z_goto (tgt := 59) d_Model_kept_55 (by decide) ?_
    exact z_lret d_Model_kept_59 h
theorem d_Model_item_0 : decode b_Model_item 0 = .ok (.iload_n 1, 1) := by decide +kernel
theorem d_Model_item_1 : decode b_Model_item 1 = .ok (.invokestatic 275, 3) := by decide +kernel
theorem d_Model_item_4 : decode b_Model_item 4 = .ok (.ifCond .ne (5), 3) := by decide +kernel
theorem d_Model_item_7 : decode b_Model_item 7 = .ok (.iconst (-1), 1) := by decide +kernel
theorem d_Model_item_8 : decode b_Model_item 8 = .ok (.ireturn, 1) := by decide +kernel
theorem d_Model_item_9 : decode b_Model_item 9 = .ok (.aload_n 0, 1) := by decide +kernel
theorem d_Model_item_10 : decode b_Model_item 10 = .ok (.getfield 39, 3) := by decide +kernel
theorem d_Model_item_13 : decode b_Model_item 13 = .ok (.iload_n 1, 1) := by decide +kernel
theorem d_Model_item_14 : decode b_Model_item 14 = .ok (.iaload, 1) := by decide +kernel
theorem d_Model_item_15 : decode b_Model_item 15 = .ok (.ifCond .ge (6), 3) := by decide +kernel
theorem d_Model_item_18 : decode b_Model_item 18 = .ok (.bipush (-11), 2) := by decide +kernel
theorem d_Model_item_20 : decode b_Model_item 20 = .ok (.ireturn, 1) := by decide +kernel
theorem d_Model_item_21 : decode b_Model_item 21 = .ok (.iload_n 2, 1) := by decide +kernel
theorem d_Model_item_22 : decode b_Model_item 22 = .ok (.iconst (0), 1) := by decide +kernel
theorem d_Model_item_23 : decode b_Model_item 23 = .ok (.aload_n 0, 1) := by decide +kernel
theorem d_Model_item_24 : decode b_Model_item 24 = .ok (.getfield 42, 3) := by decide +kernel
theorem d_Model_item_27 : decode b_Model_item 27 = .ok (.iload_n 1, 1) := by decide +kernel
theorem d_Model_item_28 : decode b_Model_item 28 = .ok (.iaload, 1) := by decide +kernel
theorem d_Model_item_29 : decode b_Model_item 29 = .ok (.iconst (1), 1) := by decide +kernel
theorem d_Model_item_30 : decode b_Model_item 30 = .ok (.isub, 1) := by decide +kernel
theorem d_Model_item_31 : decode b_Model_item 31 = .ok (.invokestatic 52, 3) := by decide +kernel
theorem d_Model_item_34 : decode b_Model_item 34 = .ok (.ifCond .ne (6), 3) := by decide +kernel
theorem d_Model_item_37 : decode b_Model_item 37 = .ok (.bipush (-13), 2) := by decide +kernel
theorem d_Model_item_39 : decode b_Model_item 39 = .ok (.ireturn, 1) := by decide +kernel
theorem d_Model_item_40 : decode b_Model_item 40 = .ok (.aload_n 0, 1) := by decide +kernel
theorem d_Model_item_41 : decode b_Model_item 41 = .ok (.getfield 45, 3) := by decide +kernel
theorem d_Model_item_44 : decode b_Model_item 44 = .ok (.bipush (60), 2) := by decide +kernel
theorem d_Model_item_46 : decode b_Model_item 46 = .ok (.iload_n 1, 1) := by decide +kernel
theorem d_Model_item_47 : decode b_Model_item 47 = .ok (.imul, 1) := by decide +kernel
theorem d_Model_item_48 : decode b_Model_item 48 = .ok (.iload_n 2, 1) := by decide +kernel
theorem d_Model_item_49 : decode b_Model_item 49 = .ok (.iadd, 1) := by decide +kernel
theorem d_Model_item_50 : decode b_Model_item 50 = .ok (.aload_n 0, 1) := by decide +kernel
theorem d_Model_item_51 : decode b_Model_item 51 = .ok (.getfield 39, 3) := by decide +kernel
theorem d_Model_item_54 : decode b_Model_item 54 = .ok (.iload_n 1, 1) := by decide +kernel
theorem d_Model_item_55 : decode b_Model_item 55 = .ok (.iaload, 1) := by decide +kernel
theorem d_Model_item_56 : decode b_Model_item 56 = .ok (.lload_n 3, 1) := by decide +kernel
theorem d_Model_item_57 : decode b_Model_item 57 = .ok (.invokestatic 303, 3) := by decide +kernel
theorem d_Model_item_60 : decode b_Model_item 60 = .ok (.lastore, 1) := by decide +kernel
theorem d_Model_item_61 : decode b_Model_item 61 = .ok (.iconst (1), 1) := by decide +kernel
theorem d_Model_item_62 : decode b_Model_item 62 = .ok (.ireturn, 1) := by decide +kernel
theorem c_Model_item (l : Launch) (θ : ZT) {x1 : Int32} {x2 : Int32} {x3 : Int64} {σ : ZM} {res : Int32 × ZM} (h : f_Model_item x1 x2 x3 σ = some res) : zMet mkI l 129 14 θ y_Model_item b_Model_item 5 (some .int) (zrm 3 102) [.ref (za θ 129), .int x1, .int x2, .long x3] σ res := by
  unfold f_Model_item at h
  refine z_met (lv := [(0, .ref (za θ 129)), (1, .int x1), (2, .int x2), (3, .long x3)]) (by decide +kernel) rfl (Nat.le_of_ble_eq_true rfl) (by decide) ?_
  refine z_iload_n 1 d_Model_item_0 rfl rfl ?_
  obtain ⟨⟨v1, s2⟩, e3, h⟩ := zbd_i h
  refine w_callS (As := [.int x1]) (c_Model_isTape l θ e3) cf_Model_isTape q_1251 d_Model_item_1 rfl rfl rfl (Nat.le_of_ble_eq_true rfl) rfl rfl ⟨Nat.le_of_ble_eq_true rfl, Nat.le_of_ble_eq_true rfl⟩ ?_
  refine z_if_ne (tgt := 9) d_Model_item_4 (by decide) (fun c4 => ?_) (fun c4 => ?_)
  · have h := (if_neg c4).symm.trans h
    refine z_aload_n 0 d_Model_item_9 rfl rfl ?_
    refine gf_Model_tapeSort zl_129 d_Model_item_10 q_896 ?_
    refine z_iload_n 1 d_Model_item_13 rfl rfl ?_
    obtain ⟨c5, h⟩ := zck_i h
    refine w_iald zl_139 c5 d_Model_item_14 ?_
    refine z_if_ge (tgt := 21) d_Model_item_15 (by decide) (fun c6 => ?_) (fun c6 => ?_)
    · have h := (if_pos c6).symm.trans h
      refine z_iload_n 2 d_Model_item_21 rfl rfl ?_
      refine z_iconst (v := 0) d_Model_item_22 (by decide) ?_
      refine z_aload_n 0 d_Model_item_23 rfl rfl ?_
      refine gf_Model_tapeLong zl_129 d_Model_item_24 q_897 ?_
      refine z_iload_n 1 d_Model_item_27 rfl rfl ?_
      obtain ⟨c7, h⟩ := zck_i h
      refine w_iald zl_140 c7 d_Model_item_28 ?_
      refine z_iconst (v := 1) d_Model_item_29 (by decide) ?_
      refine z_isub d_Model_item_30 ?_
      obtain ⟨⟨v8, s9⟩, e10, h⟩ := zbd_i h
      refine w_callS (As := [.int x2, .int (0 : Int32), .int ((zI s2 140 x1.toNatClampNeg) - (1 : Int32))]) (c_Model_isIn l θ e10) cf_Model_isIn q_969 d_Model_item_31 rfl rfl rfl (Nat.le_of_ble_eq_true rfl) rfl rfl ⟨Nat.le_of_ble_eq_true rfl, Nat.le_of_ble_eq_true rfl⟩ ?_
      refine z_if_ne (tgt := 40) d_Model_item_34 (by decide) (fun c11 => ?_) (fun c11 => ?_)
      · have h := (if_neg c11).symm.trans h
        refine z_aload_n 0 d_Model_item_40 rfl rfl ?_
        refine gf_Model_item zl_129 d_Model_item_41 q_898 ?_
        refine z_bipush (v := 60) d_Model_item_44 (by decide) ?_
        refine z_iload_n 1 d_Model_item_46 rfl rfl ?_
        refine z_imul d_Model_item_47 ?_
        refine z_iload_n 2 d_Model_item_48 rfl rfl ?_
        refine z_iadd d_Model_item_49 ?_
        refine z_aload_n 0 d_Model_item_50 rfl rfl ?_
        refine gf_Model_tapeSort zl_129 d_Model_item_51 q_896 ?_
        refine z_iload_n 1 d_Model_item_54 rfl rfl ?_
        obtain ⟨c12, h⟩ := zck_i h
        refine w_iald zl_139 c12 d_Model_item_55 ?_
        refine z_lload_n 3 d_Model_item_56 rfl rfl ?_
        obtain ⟨⟨v13, s14⟩, e15, h⟩ := zbd_i h
        refine w_callS (As := [.int (zI s9 139 x1.toNatClampNeg), .long x3]) (c_Model_kept l θ e15) cf_Model_kept q_1305 d_Model_item_57 rfl rfl rfl (Nat.le_of_ble_eq_true rfl) rfl rfl ⟨Nat.le_of_ble_eq_true rfl, Nat.le_of_ble_eq_true rfl⟩ ?_
        obtain ⟨c16, h⟩ := zck_i h
        refine w_last zl_141 c16 d_Model_item_60 ?_
        refine z_iconst (v := 1) d_Model_item_61 (by decide) ?_
        exact z_iret d_Model_item_62 h
      · have h := (if_pos c11).symm.trans h
        refine z_bipush (v := -13) d_Model_item_37 (by decide) ?_
        exact z_iret d_Model_item_39 h
    · have h := (if_neg c6).symm.trans h
      refine z_bipush (v := -11) d_Model_item_18 (by decide) ?_
      exact z_iret d_Model_item_20 h
  · have h := (if_pos c4).symm.trans h
    refine z_iconst (v := -1) d_Model_item_7 (by decide) ?_
    exact z_iret d_Model_item_8 h
theorem d_Model_read_0 : decode b_Model_read 0 = .ok (.iload_n 1, 1) := by decide +kernel
theorem d_Model_read_1 : decode b_Model_read 1 = .ok (.invokestatic 275, 3) := by decide +kernel
theorem d_Model_read_4 : decode b_Model_read 4 = .ok (.ifCond .eq (42), 3) := by decide +kernel
theorem d_Model_read_7 : decode b_Model_read 7 = .ok (.aload_n 0, 1) := by decide +kernel
theorem d_Model_read_8 : decode b_Model_read 8 = .ok (.getfield 39, 3) := by decide +kernel
theorem d_Model_read_11 : decode b_Model_read 11 = .ok (.iload_n 1, 1) := by decide +kernel
theorem d_Model_read_12 : decode b_Model_read 12 = .ok (.iaload, 1) := by decide +kernel
theorem d_Model_read_13 : decode b_Model_read 13 = .ok (.ifCond .lt (33), 3) := by decide +kernel
theorem d_Model_read_16 : decode b_Model_read 16 = .ok (.iload_n 2, 1) := by decide +kernel
theorem d_Model_read_17 : decode b_Model_read 17 = .ok (.iconst (0), 1) := by decide +kernel
theorem d_Model_read_18 : decode b_Model_read 18 = .ok (.aload_n 0, 1) := by decide +kernel
theorem d_Model_read_19 : decode b_Model_read 19 = .ok (.getfield 42, 3) := by decide +kernel
theorem d_Model_read_22 : decode b_Model_read 22 = .ok (.iload_n 1, 1) := by decide +kernel
theorem d_Model_read_23 : decode b_Model_read 23 = .ok (.iaload, 1) := by decide +kernel
theorem d_Model_read_24 : decode b_Model_read 24 = .ok (.iconst (1), 1) := by decide +kernel
theorem d_Model_read_25 : decode b_Model_read 25 = .ok (.isub, 1) := by decide +kernel
theorem d_Model_read_26 : decode b_Model_read 26 = .ok (.invokestatic 52, 3) := by decide +kernel
theorem d_Model_read_29 : decode b_Model_read 29 = .ok (.ifCond .eq (17), 3) := by decide +kernel
theorem d_Model_read_32 : decode b_Model_read 32 = .ok (.aload_n 0, 1) := by decide +kernel
theorem d_Model_read_33 : decode b_Model_read 33 = .ok (.getfield 45, 3) := by decide +kernel
theorem d_Model_read_36 : decode b_Model_read 36 = .ok (.bipush (60), 2) := by decide +kernel
theorem d_Model_read_38 : decode b_Model_read 38 = .ok (.iload_n 1, 1) := by decide +kernel
theorem d_Model_read_39 : decode b_Model_read 39 = .ok (.imul, 1) := by decide +kernel
theorem d_Model_read_40 : decode b_Model_read 40 = .ok (.iload_n 2, 1) := by decide +kernel
theorem d_Model_read_41 : decode b_Model_read 41 = .ok (.iadd, 1) := by decide +kernel
theorem d_Model_read_42 : decode b_Model_read 42 = .ok (.laload, 1) := by decide +kernel
theorem d_Model_read_43 : decode b_Model_read 43 = .ok (.goto (6), 3) := by decide +kernel
theorem d_Model_read_46 : decode b_Model_read 46 = .ok (.ldc2_w 266, 3) := by decide +kernel
theorem d_Model_read_49 : decode b_Model_read 49 = .ok (.lreturn, 1) := by decide +kernel
theorem zb_Model_read_46 {l : Launch} {θ : ZT} {res : Int64 × ZM}  {σ : ZM} (h : f_Model_read_46 σ = some res) : WZ l b_Model_read 3 (some .long) "BakedBeforeModel" 129 14 θ (zrm 3 102) (zQ mkL 129 14 θ res) σ [] 46 [] := by
  unfold f_Model_read_46 at h
  refine z_ldc2 (v := -9223372036854775808) d_Model_read_46 q_1224 ?_
  exact z_lret d_Model_read_49 h
theorem c_Model_read (l : Launch) (θ : ZT) {x1 : Int32} {x2 : Int32} {σ : ZM} {res : Int64 × ZM} (h : f_Model_read x1 x2 σ = some res) : zMet mkL l 129 14 θ y_Model_read b_Model_read 3 (some .long) (zrm 3 102) [.ref (za θ 129), .int x1, .int x2] σ res := by
  unfold f_Model_read at h
  refine z_met (lv := [(0, .ref (za θ 129)), (1, .int x1), (2, .int x2)]) (by decide +kernel) rfl (Nat.le_of_ble_eq_true rfl) (by decide) ?_
  refine z_iload_n 1 d_Model_read_0 rfl rfl ?_
  obtain ⟨⟨v1, s2⟩, e3, h⟩ := zbd_i h
  refine w_callS (As := [.int x1]) (c_Model_isTape l θ e3) cf_Model_isTape q_1251 d_Model_read_1 rfl rfl rfl (Nat.le_of_ble_eq_true rfl) rfl rfl ⟨Nat.le_of_ble_eq_true rfl, Nat.le_of_ble_eq_true rfl⟩ ?_
  refine z_if_eq (tgt := 46) d_Model_read_4 (by decide) (fun c4 => ?_) (fun c4 => ?_)
  · have h := (if_pos c4).symm.trans h
    refine z_sub [] rfl ?_
    exact zb_Model_read_46 h
  · have h := (if_neg c4).symm.trans h
    refine z_aload_n 0 d_Model_read_7 rfl rfl ?_
    refine gf_Model_tapeSort zl_129 d_Model_read_8 q_896 ?_
    refine z_iload_n 1 d_Model_read_11 rfl rfl ?_
    obtain ⟨c5, h⟩ := zck_i h
    refine w_iald zl_139 c5 d_Model_read_12 ?_
    refine z_if_lt (tgt := 46) d_Model_read_13 (by decide) (fun c6 => ?_) (fun c6 => ?_)
    · have h := (if_pos c6).symm.trans h
      refine z_sub [] rfl ?_
      exact zb_Model_read_46 h
    · have h := (if_neg c6).symm.trans h
      refine z_iload_n 2 d_Model_read_16 rfl rfl ?_
      refine z_iconst (v := 0) d_Model_read_17 (by decide) ?_
      refine z_aload_n 0 d_Model_read_18 rfl rfl ?_
      refine gf_Model_tapeLong zl_129 d_Model_read_19 q_897 ?_
      refine z_iload_n 1 d_Model_read_22 rfl rfl ?_
      obtain ⟨c7, h⟩ := zck_i h
      refine w_iald zl_140 c7 d_Model_read_23 ?_
      refine z_iconst (v := 1) d_Model_read_24 (by decide) ?_
      refine z_isub d_Model_read_25 ?_
      obtain ⟨⟨v8, s9⟩, e10, h⟩ := zbd_i h
      refine w_callS (As := [.int x2, .int (0 : Int32), .int ((zI s2 140 x1.toNatClampNeg) - (1 : Int32))]) (c_Model_isIn l θ e10) cf_Model_isIn q_969 d_Model_read_26 rfl rfl rfl (Nat.le_of_ble_eq_true rfl) rfl rfl ⟨Nat.le_of_ble_eq_true rfl, Nat.le_of_ble_eq_true rfl⟩ ?_
      refine z_if_eq (tgt := 46) d_Model_read_29 (by decide) (fun c11 => ?_) (fun c11 => ?_)
      · have h := (if_pos c11).symm.trans h
        refine z_sub [] rfl ?_
        exact zb_Model_read_46 h
      · have h := (if_neg c11).symm.trans h
        refine z_aload_n 0 d_Model_read_32 rfl rfl ?_
        refine gf_Model_item zl_129 d_Model_read_33 q_898 ?_
        refine z_bipush (v := 60) d_Model_read_36 (by decide) ?_
        refine z_iload_n 1 d_Model_read_38 rfl rfl ?_
        refine z_imul d_Model_read_39 ?_
        refine z_iload_n 2 d_Model_read_40 rfl rfl ?_
        refine z_iadd d_Model_read_41 ?_
        obtain ⟨c12, h⟩ := zck_i h
        refine w_lald zl_141 c12 d_Model_read_42 ?_
        refine z_goto (tgt := 49) d_Model_read_43 (by decide) ?_
        exact z_lret d_Model_read_49 h
theorem d_Model_shift_0 : decode b_Model_shift 0 = .ok (.iload_n 1, 1) := by decide +kernel
theorem d_Model_shift_1 : decode b_Model_shift 1 = .ok (.invokestatic 275, 3) := by decide +kernel
theorem d_Model_shift_4 : decode b_Model_shift 4 = .ok (.ifCond .eq (10), 3) := by decide +kernel
theorem d_Model_shift_7 : decode b_Model_shift 7 = .ok (.iload_n 3, 1) := by decide +kernel
theorem d_Model_shift_8 : decode b_Model_shift 8 = .ok (.invokestatic 275, 3) := by decide +kernel
theorem d_Model_shift_11 : decode b_Model_shift 11 = .ok (.ifCond .ne (5), 3) := by decide +kernel
theorem d_Model_shift_14 : decode b_Model_shift 14 = .ok (.iconst (-1), 1) := by decide +kernel
theorem d_Model_shift_15 : decode b_Model_shift 15 = .ok (.ireturn, 1) := by decide +kernel
theorem d_Model_shift_16 : decode b_Model_shift 16 = .ok (.aload_n 0, 1) := by decide +kernel
theorem d_Model_shift_17 : decode b_Model_shift 17 = .ok (.getfield 39, 3) := by decide +kernel
theorem d_Model_shift_20 : decode b_Model_shift 20 = .ok (.iload_n 1, 1) := by decide +kernel
theorem d_Model_shift_21 : decode b_Model_shift 21 = .ok (.iaload, 1) := by decide +kernel
theorem d_Model_shift_22 : decode b_Model_shift 22 = .ok (.ifCond .lt (12), 3) := by decide +kernel
theorem d_Model_shift_25 : decode b_Model_shift 25 = .ok (.aload_n 0, 1) := by decide +kernel
theorem d_Model_shift_26 : decode b_Model_shift 26 = .ok (.getfield 39, 3) := by decide +kernel
theorem d_Model_shift_29 : decode b_Model_shift 29 = .ok (.iload_n 3, 1) := by decide +kernel
theorem d_Model_shift_30 : decode b_Model_shift 30 = .ok (.iaload, 1) := by decide +kernel
theorem d_Model_shift_31 : decode b_Model_shift 31 = .ok (.ifCond .ge (6), 3) := by decide +kernel
theorem d_Model_shift_34 : decode b_Model_shift 34 = .ok (.bipush (-11), 2) := by decide +kernel
theorem d_Model_shift_36 : decode b_Model_shift 36 = .ok (.ireturn, 1) := by decide +kernel
theorem d_Model_shift_37 : decode b_Model_shift 37 = .ok (.aload_n 0, 1) := by decide +kernel
theorem d_Model_shift_38 : decode b_Model_shift 38 = .ok (.getfield 39, 3) := by decide +kernel
theorem d_Model_shift_41 : decode b_Model_shift 41 = .ok (.iload_n 1, 1) := by decide +kernel
theorem d_Model_shift_42 : decode b_Model_shift 42 = .ok (.iaload, 1) := by decide +kernel
theorem d_Model_shift_43 : decode b_Model_shift 43 = .ok (.aload_n 0, 1) := by decide +kernel
theorem d_Model_shift_44 : decode b_Model_shift 44 = .ok (.getfield 39, 3) := by decide +kernel
theorem d_Model_shift_47 : decode b_Model_shift 47 = .ok (.iload_n 3, 1) := by decide +kernel
theorem d_Model_shift_48 : decode b_Model_shift 48 = .ok (.iaload, 1) := by decide +kernel
theorem d_Model_shift_49 : decode b_Model_shift 49 = .ok (.if_icmp .eq (6), 3) := by decide +kernel
theorem d_Model_shift_52 : decode b_Model_shift 52 = .ok (.bipush (-12), 2) := by decide +kernel
theorem d_Model_shift_54 : decode b_Model_shift 54 = .ok (.ireturn, 1) := by decide +kernel
theorem d_Model_shift_55 : decode b_Model_shift 55 = .ok (.iload 5, 2) := by decide +kernel
theorem d_Model_shift_57 : decode b_Model_shift 57 = .ok (.ifCond .lt (39), 3) := by decide +kernel
theorem d_Model_shift_60 : decode b_Model_shift 60 = .ok (.iload_n 2, 1) := by decide +kernel
theorem d_Model_shift_61 : decode b_Model_shift 61 = .ok (.ifCond .lt (35), 3) := by decide +kernel
theorem d_Model_shift_64 : decode b_Model_shift 64 = .ok (.iload 4, 2) := by decide +kernel
theorem d_Model_shift_66 : decode b_Model_shift 66 = .ok (.ifCond .lt (30), 3) := by decide +kernel
theorem d_Model_shift_69 : decode b_Model_shift 69 = .ok (.iload 5, 2) := by decide +kernel
theorem d_Model_shift_71 : decode b_Model_shift 71 = .ok (.aload_n 0, 1) := by decide +kernel
theorem d_Model_shift_72 : decode b_Model_shift 72 = .ok (.getfield 42, 3) := by decide +kernel
theorem d_Model_shift_75 : decode b_Model_shift 75 = .ok (.iload_n 1, 1) := by decide +kernel
theorem d_Model_shift_76 : decode b_Model_shift 76 = .ok (.iaload, 1) := by decide +kernel
theorem d_Model_shift_77 : decode b_Model_shift 77 = .ok (.iload_n 2, 1) := by decide +kernel
theorem d_Model_shift_78 : decode b_Model_shift 78 = .ok (.isub, 1) := by decide +kernel
theorem d_Model_shift_79 : decode b_Model_shift 79 = .ok (.if_icmp .gt (17), 3) := by decide +kernel
theorem d_Model_shift_82 : decode b_Model_shift 82 = .ok (.iload 5, 2) := by decide +kernel
theorem d_Model_shift_84 : decode b_Model_shift 84 = .ok (.aload_n 0, 1) := by decide +kernel
theorem d_Model_shift_85 : decode b_Model_shift 85 = .ok (.getfield 42, 3) := by decide +kernel
theorem d_Model_shift_88 : decode b_Model_shift 88 = .ok (.iload_n 3, 1) := by decide +kernel
theorem d_Model_shift_89 : decode b_Model_shift 89 = .ok (.iaload, 1) := by decide +kernel
theorem d_Model_shift_90 : decode b_Model_shift 90 = .ok (.iload 4, 2) := by decide +kernel
theorem d_Model_shift_92 : decode b_Model_shift 92 = .ok (.isub, 1) := by decide +kernel
theorem d_Model_shift_93 : decode b_Model_shift 93 = .ok (.if_icmp .le (6), 3) := by decide +kernel
theorem d_Model_shift_96 : decode b_Model_shift 96 = .ok (.bipush (-13), 2) := by decide +kernel
theorem d_Model_shift_98 : decode b_Model_shift 98 = .ok (.ireturn, 1) := by decide +kernel
theorem d_Model_shift_99 : decode b_Model_shift 99 = .ok (.iconst (0), 1) := by decide +kernel
theorem d_Model_shift_100 : decode b_Model_shift 100 = .ok (.istore 6, 2) := by decide +kernel
theorem d_Model_shift_102 : decode b_Model_shift 102 = .ok (.iload 6, 2) := by decide +kernel
theorem d_Model_shift_104 : decode b_Model_shift 104 = .ok (.iload 5, 2) := by decide +kernel
theorem d_Model_shift_106 : decode b_Model_shift 106 = .ok (.if_icmp .ge (58), 3) := by decide +kernel
theorem d_Model_shift_109 : decode b_Model_shift 109 = .ok (.iload_n 2, 1) := by decide +kernel
theorem d_Model_shift_110 : decode b_Model_shift 110 = .ok (.iload 4, 2) := by decide +kernel
theorem d_Model_shift_112 : decode b_Model_shift 112 = .ok (.if_icmp .le (8), 3) := by decide +kernel
theorem d_Model_shift_115 : decode b_Model_shift 115 = .ok (.iload 6, 2) := by decide +kernel
theorem d_Model_shift_117 : decode b_Model_shift 117 = .ok (.goto (10), 3) := by decide +kernel
theorem d_Model_shift_120 : decode b_Model_shift 120 = .ok (.iload 5, 2) := by decide +kernel
theorem d_Model_shift_122 : decode b_Model_shift 122 = .ok (.iconst (1), 1) := by decide +kernel
theorem d_Model_shift_123 : decode b_Model_shift 123 = .ok (.isub, 1) := by decide +kernel
theorem d_Model_shift_124 : decode b_Model_shift 124 = .ok (.iload 6, 2) := by decide +kernel
theorem d_Model_shift_126 : decode b_Model_shift 126 = .ok (.isub, 1) := by decide +kernel
theorem d_Model_shift_127 : decode b_Model_shift 127 = .ok (.istore 7, 2) := by decide +kernel
theorem d_Model_shift_129 : decode b_Model_shift 129 = .ok (.aload_n 0, 1) := by decide +kernel
theorem d_Model_shift_130 : decode b_Model_shift 130 = .ok (.getfield 45, 3) := by decide +kernel
theorem d_Model_shift_133 : decode b_Model_shift 133 = .ok (.bipush (60), 2) := by decide +kernel
theorem d_Model_shift_135 : decode b_Model_shift 135 = .ok (.iload_n 3, 1) := by decide +kernel
theorem d_Model_shift_136 : decode b_Model_shift 136 = .ok (.imul, 1) := by decide +kernel
theorem d_Model_shift_137 : decode b_Model_shift 137 = .ok (.iload 4, 2) := by decide +kernel
theorem d_Model_shift_139 : decode b_Model_shift 139 = .ok (.iadd, 1) := by decide +kernel
theorem d_Model_shift_140 : decode b_Model_shift 140 = .ok (.iload 7, 2) := by decide +kernel
theorem d_Model_shift_142 : decode b_Model_shift 142 = .ok (.iadd, 1) := by decide +kernel
theorem d_Model_shift_143 : decode b_Model_shift 143 = .ok (.aload_n 0, 1) := by decide +kernel
theorem d_Model_shift_144 : decode b_Model_shift 144 = .ok (.getfield 45, 3) := by decide +kernel
theorem d_Model_shift_147 : decode b_Model_shift 147 = .ok (.bipush (60), 2) := by decide +kernel
theorem d_Model_shift_149 : decode b_Model_shift 149 = .ok (.iload_n 1, 1) := by decide +kernel
theorem d_Model_shift_150 : decode b_Model_shift 150 = .ok (.imul, 1) := by decide +kernel
theorem d_Model_shift_151 : decode b_Model_shift 151 = .ok (.iload_n 2, 1) := by decide +kernel
theorem d_Model_shift_152 : decode b_Model_shift 152 = .ok (.iadd, 1) := by decide +kernel
theorem d_Model_shift_153 : decode b_Model_shift 153 = .ok (.iload 7, 2) := by decide +kernel
theorem d_Model_shift_155 : decode b_Model_shift 155 = .ok (.iadd, 1) := by decide +kernel
theorem d_Model_shift_156 : decode b_Model_shift 156 = .ok (.laload, 1) := by decide +kernel
theorem d_Model_shift_157 : decode b_Model_shift 157 = .ok (.lastore, 1) := by decide +kernel
theorem d_Model_shift_158 : decode b_Model_shift 158 = .ok (.iinc 6 (1), 3) := by decide +kernel
theorem d_Model_shift_161 : decode b_Model_shift 161 = .ok (.goto (-59), 3) := by decide +kernel
theorem d_Model_shift_164 : decode b_Model_shift 164 = .ok (.iload 5, 2) := by decide +kernel
theorem d_Model_shift_166 : decode b_Model_shift 166 = .ok (.ireturn, 1) := by decide +kernel
theorem zb_Model_shift_127 {l : Launch} {θ : ZT} {res : Int32 × ZM} {k102 : Int32 × Int32 × Int32 × Int32 × Int32 × Int32 × ZM → Option (Int32 × ZM)} (hk102 : ∀ a : Int32 × Int32 × Int32 × Int32 × Int32 × Int32 × ZM, k102 a = some res → WZ l b_Model_shift 8 (some .int) "BakedBeforeModel" 129 14 θ (zrm 3 102) (zQ mkI 129 14 θ res) a.2.2.2.2.2.2 [(0, .ref (za θ 129)), (1, .int a.1), (2, .int a.2.1), (3, .int a.2.2.1), (4, .int a.2.2.2.1), (5, .int a.2.2.2.2.1), (6, .int a.2.2.2.2.2.1)] 102 []) {x1 : Int32} {x2 : Int32} {x3 : Int32} {x4 : Int32} {x5 : Int32} {x6 : Int32} {y0 : Int32} {σ : ZM} (h : f_Model_shift_127 k102 x1 x2 x3 x4 x5 x6 y0 σ = some res) : WZ l b_Model_shift 8 (some .int) "BakedBeforeModel" 129 14 θ (zrm 3 102) (zQ mkI 129 14 θ res) σ [(0, .ref (za θ 129)), (1, .int x1), (2, .int x2), (3, .int x3), (4, .int x4), (5, .int x5), (6, .int x6)] 127 [.int y0] := by
  unfold f_Model_shift_127 at h
  refine z_istore d_Model_shift_127 (by decide) rfl ?_
  refine z_aload_n 1 d_Model_shift_129 rfl rfl ?_
  refine gf_Model_item zl_129 d_Model_shift_130 q_898 ?_
  refine z_bipush (v := 60) d_Model_shift_133 (by decide) ?_
  refine z_iload_n 4 d_Model_shift_135 rfl rfl ?_
  refine z_imul d_Model_shift_136 ?_
  refine z_iload 5 d_Model_shift_137 rfl ?_
  refine z_iadd d_Model_shift_139 ?_
  refine z_iload 0 d_Model_shift_140 rfl ?_
  refine z_iadd d_Model_shift_142 ?_
  refine z_aload_n 1 d_Model_shift_143 rfl rfl ?_
  refine gf_Model_item zl_129 d_Model_shift_144 q_898 ?_
  refine z_bipush (v := 60) d_Model_shift_147 (by decide) ?_
  refine z_iload_n 2 d_Model_shift_149 rfl rfl ?_
  refine z_imul d_Model_shift_150 ?_
  refine z_iload_n 3 d_Model_shift_151 rfl rfl ?_
  refine z_iadd d_Model_shift_152 ?_
  refine z_iload 0 d_Model_shift_153 rfl ?_
  refine z_iadd d_Model_shift_155 ?_
  obtain ⟨c1, h⟩ := zck_i h
  refine w_lald zl_141 c1 d_Model_shift_156 ?_
  obtain ⟨c2, h⟩ := zck_i h
  refine w_last zl_141 c2 d_Model_shift_157 ?_
  refine z_iinc (v := x6 + (1 : Int32)) 7 d_Model_shift_158 rfl rfl (by decide) rfl ?_
  refine z_goto (tgt := 102) d_Model_shift_161 (by decide) ?_
  refine z_sub [2, 3, 4, 5, 6, 7, 0] rfl ?_
  exact hk102 (x1, x2, x3, x4, x5, (x6 + (1 : Int32)), (zsL σ 141 ((((60 : Int32) * x3) + x4) + y0).toNatClampNeg (zL σ 141 ((((60 : Int32) * x1) + x2) + y0).toNatClampNeg))) h
theorem zb_Model_shift_102 {l : Launch} {θ : ZT} {res : Int32 × ZM} {k102 : Int32 × Int32 × Int32 × Int32 × Int32 × Int32 × ZM → Option (Int32 × ZM)} (hk102 : ∀ a : Int32 × Int32 × Int32 × Int32 × Int32 × Int32 × ZM, k102 a = some res → WZ l b_Model_shift 8 (some .int) "BakedBeforeModel" 129 14 θ (zrm 3 102) (zQ mkI 129 14 θ res) a.2.2.2.2.2.2 [(0, .ref (za θ 129)), (1, .int a.1), (2, .int a.2.1), (3, .int a.2.2.1), (4, .int a.2.2.2.1), (5, .int a.2.2.2.2.1), (6, .int a.2.2.2.2.2.1)] 102 []) {x1 : Int32} {x2 : Int32} {x3 : Int32} {x4 : Int32} {x5 : Int32} {x6 : Int32} {σ : ZM} (h : f_Model_shift_102 k102 x1 x2 x3 x4 x5 x6 σ = some res) : WZ l b_Model_shift 8 (some .int) "BakedBeforeModel" 129 14 θ (zrm 3 102) (zQ mkI 129 14 θ res) σ [(0, .ref (za θ 129)), (1, .int x1), (2, .int x2), (3, .int x3), (4, .int x4), (5, .int x5), (6, .int x6)] 102 [] := by
  unfold f_Model_shift_102 at h
  refine z_iload 6 d_Model_shift_102 rfl ?_
  refine z_iload 5 d_Model_shift_104 rfl ?_
  refine z_icmp_ge (tgt := 164) d_Model_shift_106 (by decide) (fun c1 => ?_) (fun c1 => ?_)
  · have h := (if_pos c1).symm.trans h
    refine z_iload 5 d_Model_shift_164 rfl ?_
    exact z_iret d_Model_shift_166 h
  · have h := (if_neg c1).symm.trans h
    refine z_iload_n 2 d_Model_shift_109 rfl rfl ?_
    refine z_iload 4 d_Model_shift_110 rfl ?_
    refine z_icmp_le (tgt := 120) d_Model_shift_112 (by decide) (fun c2 => ?_) (fun c2 => ?_)
    · have h := (if_pos c2).symm.trans h
      refine z_iload 5 d_Model_shift_120 rfl ?_
      refine z_iconst (v := 1) d_Model_shift_122 (by decide) ?_
      refine z_isub d_Model_shift_123 ?_
      refine z_iload 6 d_Model_shift_124 rfl ?_
      refine z_isub d_Model_shift_126 ?_
      exact zb_Model_shift_127 hk102 h
    · have h := (if_neg c2).symm.trans h
      refine z_iload 6 d_Model_shift_115 rfl ?_
      refine z_goto (tgt := 127) d_Model_shift_117 (by decide) ?_
      exact zb_Model_shift_127 hk102 h
theorem zl_Model_shift_102 {l : Launch} {θ : ZT} {res : Int32 × ZM} : ∀ (N : Nat) (a : Int32 × Int32 × Int32 × Int32 × Int32 × Int32 × ZM), F_Model_shift_102 N a = some res → WZ l b_Model_shift 8 (some .int) "BakedBeforeModel" 129 14 θ (zrm 3 102) (zQ mkI 129 14 θ res) a.2.2.2.2.2.2 [(0, .ref (za θ 129)), (1, .int a.1), (2, .int a.2.1), (3, .int a.2.2.1), (4, .int a.2.2.2.1), (5, .int a.2.2.2.2.1), (6, .int a.2.2.2.2.2.1)] 102 [] := by
  intro N
  induction N with
  | zero => intro a  h; cases (show (none : Option (Int32 × ZM)) = some res from h)
  | succ N ih => intro a  h; exact zb_Model_shift_102 ih (show f_Model_shift_102 (F_Model_shift_102 N) a.1 a.2.1 a.2.2.1 a.2.2.2.1 a.2.2.2.2.1 a.2.2.2.2.2.1 a.2.2.2.2.2.2 = some res from h)
theorem c_Model_shift (l : Launch) (θ : ZT) {x1 : Int32} {x2 : Int32} {x3 : Int32} {x4 : Int32} {x5 : Int32} {σ : ZM} {res : Int32 × ZM} (h : f_Model_shift x1 x2 x3 x4 x5 σ = some res) : zMet mkI l 129 14 θ y_Model_shift b_Model_shift 8 (some .int) (zrm 3 102) [.ref (za θ 129), .int x1, .int x2, .int x3, .int x4, .int x5] σ res := by
  unfold f_Model_shift at h
  refine z_met (lv := [(0, .ref (za θ 129)), (1, .int x1), (2, .int x2), (3, .int x3), (4, .int x4), (5, .int x5)]) (by decide +kernel) rfl (Nat.le_of_ble_eq_true rfl) (by decide) ?_
  refine z_iload_n 1 d_Model_shift_0 rfl rfl ?_
  obtain ⟨⟨v1, s2⟩, e3, h⟩ := zbd_i h
  refine w_callS (As := [.int x1]) (c_Model_isTape l θ e3) cf_Model_isTape q_1251 d_Model_shift_1 rfl rfl rfl (Nat.le_of_ble_eq_true rfl) rfl rfl ⟨Nat.le_of_ble_eq_true rfl, Nat.le_of_ble_eq_true rfl⟩ ?_
  refine z_if_eq (tgt := 14) d_Model_shift_4 (by decide) (fun c4 => ?_) (fun c4 => ?_)
  · have h := (if_pos c4).symm.trans h
    refine z_iconst (v := -1) d_Model_shift_14 (by decide) ?_
    exact z_iret d_Model_shift_15 h
  · have h := (if_neg c4).symm.trans h
    refine z_iload_n 3 d_Model_shift_7 rfl rfl ?_
    obtain ⟨⟨v5, s6⟩, e7, h⟩ := zbd_i h
    refine w_callS (As := [.int x3]) (c_Model_isTape l θ e7) cf_Model_isTape q_1251 d_Model_shift_8 rfl rfl rfl (Nat.le_of_ble_eq_true rfl) rfl rfl ⟨Nat.le_of_ble_eq_true rfl, Nat.le_of_ble_eq_true rfl⟩ ?_
    refine z_if_ne (tgt := 16) d_Model_shift_11 (by decide) (fun c8 => ?_) (fun c8 => ?_)
    · have h := (if_neg c8).symm.trans h
      refine z_aload_n 0 d_Model_shift_16 rfl rfl ?_
      refine gf_Model_tapeSort zl_129 d_Model_shift_17 q_896 ?_
      refine z_iload_n 1 d_Model_shift_20 rfl rfl ?_
      obtain ⟨c9, h⟩ := zck_i h
      refine w_iald zl_139 c9 d_Model_shift_21 ?_
      refine z_if_lt (tgt := 34) d_Model_shift_22 (by decide) (fun c10 => ?_) (fun c10 => ?_)
      · have h := (if_pos c10).symm.trans h
        refine z_bipush (v := -11) d_Model_shift_34 (by decide) ?_
        exact z_iret d_Model_shift_36 h
      · have h := (if_neg c10).symm.trans h
        refine z_aload_n 0 d_Model_shift_25 rfl rfl ?_
        refine gf_Model_tapeSort zl_129 d_Model_shift_26 q_896 ?_
        refine z_iload_n 3 d_Model_shift_29 rfl rfl ?_
        obtain ⟨c11, h⟩ := zck_i h
        refine w_iald zl_139 c11 d_Model_shift_30 ?_
        refine z_if_ge (tgt := 37) d_Model_shift_31 (by decide) (fun c12 => ?_) (fun c12 => ?_)
        · have h := (if_pos c12).symm.trans h
          refine z_aload_n 0 d_Model_shift_37 rfl rfl ?_
          refine gf_Model_tapeSort zl_129 d_Model_shift_38 q_896 ?_
          refine z_iload_n 1 d_Model_shift_41 rfl rfl ?_
          obtain ⟨c13, h⟩ := zck_i h
          refine w_iald zl_139 c13 d_Model_shift_42 ?_
          refine z_aload_n 0 d_Model_shift_43 rfl rfl ?_
          refine gf_Model_tapeSort zl_129 d_Model_shift_44 q_896 ?_
          refine z_iload_n 3 d_Model_shift_47 rfl rfl ?_
          obtain ⟨c14, h⟩ := zck_i h
          refine w_iald zl_139 c14 d_Model_shift_48 ?_
          refine z_icmp_eq (tgt := 55) d_Model_shift_49 (by decide) (fun c15 => ?_) (fun c15 => ?_)
          · have h := (if_pos c15).symm.trans h
            refine z_iload 5 d_Model_shift_55 rfl ?_
            refine z_if_lt (tgt := 96) d_Model_shift_57 (by decide) (fun c16 => ?_) (fun c16 => ?_)
            · have h := (if_pos c16).symm.trans h
              refine z_bipush (v := -13) d_Model_shift_96 (by decide) ?_
              exact z_iret d_Model_shift_98 h
            · have h := (if_neg c16).symm.trans h
              refine z_iload_n 2 d_Model_shift_60 rfl rfl ?_
              refine z_if_lt (tgt := 96) d_Model_shift_61 (by decide) (fun c17 => ?_) (fun c17 => ?_)
              · have h := (if_pos c17).symm.trans h
                refine z_bipush (v := -13) d_Model_shift_96 (by decide) ?_
                exact z_iret d_Model_shift_98 h
              · have h := (if_neg c17).symm.trans h
                refine z_iload 4 d_Model_shift_64 rfl ?_
                refine z_if_lt (tgt := 96) d_Model_shift_66 (by decide) (fun c18 => ?_) (fun c18 => ?_)
                · have h := (if_pos c18).symm.trans h
                  refine z_bipush (v := -13) d_Model_shift_96 (by decide) ?_
                  exact z_iret d_Model_shift_98 h
                · have h := (if_neg c18).symm.trans h
                  refine z_iload 5 d_Model_shift_69 rfl ?_
                  refine z_aload_n 0 d_Model_shift_71 rfl rfl ?_
                  refine gf_Model_tapeLong zl_129 d_Model_shift_72 q_897 ?_
                  refine z_iload_n 1 d_Model_shift_75 rfl rfl ?_
                  obtain ⟨c19, h⟩ := zck_i h
                  refine w_iald zl_140 c19 d_Model_shift_76 ?_
                  refine z_iload_n 2 d_Model_shift_77 rfl rfl ?_
                  refine z_isub d_Model_shift_78 ?_
                  refine z_icmp_gt (tgt := 96) d_Model_shift_79 (by decide) (fun c20 => ?_) (fun c20 => ?_)
                  · have h := (if_pos c20).symm.trans h
                    refine z_bipush (v := -13) d_Model_shift_96 (by decide) ?_
                    exact z_iret d_Model_shift_98 h
                  · have h := (if_neg c20).symm.trans h
                    refine z_iload 5 d_Model_shift_82 rfl ?_
                    refine z_aload_n 0 d_Model_shift_84 rfl rfl ?_
                    refine gf_Model_tapeLong zl_129 d_Model_shift_85 q_897 ?_
                    refine z_iload_n 3 d_Model_shift_88 rfl rfl ?_
                    obtain ⟨c21, h⟩ := zck_i h
                    refine w_iald zl_140 c21 d_Model_shift_89 ?_
                    refine z_iload 4 d_Model_shift_90 rfl ?_
                    refine z_isub d_Model_shift_92 ?_
                    refine z_icmp_le (tgt := 99) d_Model_shift_93 (by decide) (fun c22 => ?_) (fun c22 => ?_)
                    · have h := (if_pos c22).symm.trans h
                      refine z_iconst (v := 0) d_Model_shift_99 (by decide) ?_
                      refine z_istore d_Model_shift_100 (by decide) rfl ?_
                      refine z_sub [1, 2, 3, 4, 5, 6, 0] rfl ?_
                      exact zl_Model_shift_102 2000 (x1, x2, x3, x4, x5, (0 : Int32), s6) h
                    · have h := (if_neg c22).symm.trans h
                      refine z_bipush (v := -13) d_Model_shift_96 (by decide) ?_
                      exact z_iret d_Model_shift_98 h
          · have h := (if_neg c15).symm.trans h
            refine z_bipush (v := -12) d_Model_shift_52 (by decide) ?_
            exact z_iret d_Model_shift_54 h
        · have h := (if_neg c12).symm.trans h
          refine z_bipush (v := -11) d_Model_shift_34 (by decide) ?_
          exact z_iret d_Model_shift_36 h
    · have h := (if_pos c8).symm.trans h
      refine z_iconst (v := -1) d_Model_shift_14 (by decide) ?_
      exact z_iret d_Model_shift_15 h
