/-! walks: Model_get Model_kind Model_number Model_feed Model_here Model_takes Model_isDigit Model_readsNumber Model_valueOf Model_isLetter Model_readsTest Model_readsT Model_readsE Model_readsF Model_readsWord Model_readsClause Model_reads Model_readsNow Model_kiln Model_partOf Model_takesBy Model_takesOf Model_leavesOf Model_allTakes Model_isSpoiled Model_feeOf Model_ages -/
theorem d_Model_get_0 : decode b_Model_get 0 = .ok (.aload_n 0, 1) := by decide +kernel
theorem d_Model_get_1 : decode b_Model_get 1 = .ok (.getfield 11, 3) := by decide +kernel
theorem d_Model_get_4 : decode b_Model_get 4 = .ok (.bipush (8), 2) := by decide +kernel
theorem d_Model_get_6 : decode b_Model_get 6 = .ok (.bipush (10), 2) := by decide +kernel
theorem d_Model_get_8 : decode b_Model_get 8 = .ok (.iload_n 1, 1) := by decide +kernel
theorem d_Model_get_9 : decode b_Model_get 9 = .ok (.imul, 1) := by decide +kernel
theorem d_Model_get_10 : decode b_Model_get 10 = .ok (.iadd, 1) := by decide +kernel
theorem d_Model_get_11 : decode b_Model_get 11 = .ok (.iload_n 2, 1) := by decide +kernel
theorem d_Model_get_12 : decode b_Model_get 12 = .ok (.iadd, 1) := by decide +kernel
theorem d_Model_get_13 : decode b_Model_get 13 = .ok (.iaload, 1) := by decide +kernel
theorem d_Model_get_14 : decode b_Model_get 14 = .ok (.ireturn, 1) := by decide +kernel
theorem c_Model_get (l : Launch) (θ : ZT) {x1 : Int32} {x2 : Int32} {σ : ZM} {res : Int32 × ZM} (h : f_Model_get x1 x2 σ = some res) : zMet mkI l 129 14 θ y_Model_get b_Model_get 3 (some .int) (zrm 1 60) [.ref (za θ 129), .int x1, .int x2] σ res := by
  unfold f_Model_get at h
  refine z_met (lv := [(0, .ref (za θ 129)), (1, .int x1), (2, .int x2)]) (by decide +kernel) rfl (Nat.le_of_ble_eq_true rfl) (by decide) ?_
  refine z_aload_n 0 d_Model_get_0 rfl rfl ?_
  refine gf_Model_s zl_129 d_Model_get_1 q_871 ?_
  refine z_bipush (v := 8) d_Model_get_4 (by decide) ?_
  refine z_bipush (v := 10) d_Model_get_6 (by decide) ?_
  refine z_iload_n 1 d_Model_get_8 rfl rfl ?_
  refine z_imul d_Model_get_9 ?_
  refine z_iadd d_Model_get_10 ?_
  refine z_iload_n 2 d_Model_get_11 rfl rfl ?_
  refine z_iadd d_Model_get_12 ?_
  obtain ⟨c1, h⟩ := zck_i h
  refine w_iald zl_130 c1 d_Model_get_13 ?_
  exact z_iret d_Model_get_14 h
theorem d_Model_kind_0 : decode b_Model_kind 0 = .ok (.aload_n 0, 1) := by decide +kernel
theorem d_Model_kind_1 : decode b_Model_kind 1 = .ok (.iload_n 1, 1) := by decide +kernel
theorem d_Model_kind_2 : decode b_Model_kind 2 = .ok (.iconst (0), 1) := by decide +kernel
theorem d_Model_kind_3 : decode b_Model_kind 3 = .ok (.invokevirtual 60, 3) := by decide +kernel
theorem d_Model_kind_6 : decode b_Model_kind 6 = .ok (.ireturn, 1) := by decide +kernel
theorem c_Model_kind (l : Launch) (θ : ZT) {x1 : Int32} {σ : ZM} {res : Int32 × ZM} (h : f_Model_kind x1 σ = some res) : zMet mkI l 129 14 θ y_Model_kind b_Model_kind 2 (some .int) (zrm 2 82) [.ref (za θ 129), .int x1] σ res := by
  unfold f_Model_kind at h
  refine z_met (lv := [(0, .ref (za θ 129)), (1, .int x1)]) (by decide +kernel) rfl (Nat.le_of_ble_eq_true rfl) (by decide) ?_
  refine z_aload_n 0 d_Model_kind_0 rfl rfl ?_
  refine z_iload_n 1 d_Model_kind_1 rfl rfl ?_
  refine z_iconst (v := 0) d_Model_kind_2 (by decide) ?_
  obtain ⟨⟨v1, s2⟩, e3, h⟩ := zbd_i h
  refine w_callV (As := [.int x1, .int (0 : Int32)]) (kc := 22) (ci := 12) (c_Model_get l θ e3) cf_Model_get q_1037 d_Model_kind_3 zl_129 rfl rfl rfl rfl rfl rfl (Nat.le_of_ble_eq_true rfl) rfl rfl ⟨Nat.le_of_ble_eq_true rfl, Nat.le_of_ble_eq_true rfl⟩ ?_
  exact z_iret d_Model_kind_6 h
theorem d_Model_number_0 : decode b_Model_number 0 = .ok (.aload_n 0, 1) := by decide +kernel
theorem d_Model_number_1 : decode b_Model_number 1 = .ok (.iload_n 1, 1) := by decide +kernel
theorem d_Model_number_2 : decode b_Model_number 2 = .ok (.iconst (1), 1) := by decide +kernel
theorem d_Model_number_3 : decode b_Model_number 3 = .ok (.invokevirtual 60, 3) := by decide +kernel
theorem d_Model_number_6 : decode b_Model_number 6 = .ok (.ireturn, 1) := by decide +kernel
theorem c_Model_number (l : Launch) (θ : ZT) {x1 : Int32} {σ : ZM} {res : Int32 × ZM} (h : f_Model_number x1 σ = some res) : zMet mkI l 129 14 θ y_Model_number b_Model_number 2 (some .int) (zrm 2 82) [.ref (za θ 129), .int x1] σ res := by
  unfold f_Model_number at h
  refine z_met (lv := [(0, .ref (za θ 129)), (1, .int x1)]) (by decide +kernel) rfl (Nat.le_of_ble_eq_true rfl) (by decide) ?_
  refine z_aload_n 0 d_Model_number_0 rfl rfl ?_
  refine z_iload_n 1 d_Model_number_1 rfl rfl ?_
  refine z_iconst (v := 1) d_Model_number_2 (by decide) ?_
  obtain ⟨⟨v1, s2⟩, e3, h⟩ := zbd_i h
  refine w_callV (As := [.int x1, .int (1 : Int32)]) (kc := 22) (ci := 12) (c_Model_get l θ e3) cf_Model_get q_1037 d_Model_number_3 zl_129 rfl rfl rfl rfl rfl rfl (Nat.le_of_ble_eq_true rfl) rfl rfl ⟨Nat.le_of_ble_eq_true rfl, Nat.le_of_ble_eq_true rfl⟩ ?_
  exact z_iret d_Model_number_6 h
theorem d_Model_feed_0 : decode b_Model_feed 0 = .ok (.iload_n 1, 1) := by decide +kernel
theorem d_Model_feed_1 : decode b_Model_feed 1 = .ok (.iconst (0), 1) := by decide +kernel
theorem d_Model_feed_2 : decode b_Model_feed 2 = .ok (.bipush (127), 2) := by decide +kernel
theorem d_Model_feed_4 : decode b_Model_feed 4 = .ok (.invokestatic 52, 3) := by decide +kernel
theorem d_Model_feed_7 : decode b_Model_feed 7 = .ok (.ifCond .ne (6), 3) := by decide +kernel
theorem d_Model_feed_10 : decode b_Model_feed 10 = .ok (.bipush (-2), 2) := by decide +kernel
theorem d_Model_feed_12 : decode b_Model_feed 12 = .ok (.ireturn, 1) := by decide +kernel
theorem d_Model_feed_13 : decode b_Model_feed 13 = .ok (.aload_n 0, 1) := by decide +kernel
theorem d_Model_feed_14 : decode b_Model_feed 14 = .ok (.getfield 64, 3) := by decide +kernel
theorem d_Model_feed_17 : decode b_Model_feed 17 = .ok (.bipush (100), 2) := by decide +kernel
theorem d_Model_feed_19 : decode b_Model_feed 19 = .ok (.if_icmp .ne (6), 3) := by decide +kernel
theorem d_Model_feed_22 : decode b_Model_feed 22 = .ok (.bipush (-4), 2) := by decide +kernel
theorem d_Model_feed_24 : decode b_Model_feed 24 = .ok (.ireturn, 1) := by decide +kernel
theorem d_Model_feed_25 : decode b_Model_feed 25 = .ok (.aload_n 0, 1) := by decide +kernel
theorem d_Model_feed_26 : decode b_Model_feed 26 = .ok (.getfield 21, 3) := by decide +kernel
theorem d_Model_feed_29 : decode b_Model_feed 29 = .ok (.aload_n 0, 1) := by decide +kernel
theorem d_Model_feed_30 : decode b_Model_feed 30 = .ok (.getfield 64, 3) := by decide +kernel
theorem d_Model_feed_33 : decode b_Model_feed 33 = .ok (.iload_n 1, 1) := by decide +kernel
theorem d_Model_feed_34 : decode b_Model_feed 34 = .ok (.iastore, 1) := by decide +kernel
theorem d_Model_feed_35 : decode b_Model_feed 35 = .ok (.aload_n 0, 1) := by decide +kernel
theorem d_Model_feed_36 : decode b_Model_feed 36 = .ok (.dup, 1) := by decide +kernel
theorem d_Model_feed_37 : decode b_Model_feed 37 = .ok (.getfield 64, 3) := by decide +kernel
theorem d_Model_feed_40 : decode b_Model_feed 40 = .ok (.iconst (1), 1) := by decide +kernel
theorem d_Model_feed_41 : decode b_Model_feed 41 = .ok (.iadd, 1) := by decide +kernel
theorem d_Model_feed_42 : decode b_Model_feed 42 = .ok (.putfield 64, 3) := by decide +kernel
theorem d_Model_feed_45 : decode b_Model_feed 45 = .ok (.aload_n 0, 1) := by decide +kernel
theorem d_Model_feed_46 : decode b_Model_feed 46 = .ok (.getfield 64, 3) := by decide +kernel
theorem d_Model_feed_49 : decode b_Model_feed 49 = .ok (.ireturn, 1) := by decide +kernel
theorem c_Model_feed (l : Launch) (θ : ZT) {x1 : Int32} {σ : ZM} {res : Int32 × ZM} (h : f_Model_feed x1 σ = some res) : zMet mkI l 129 14 θ y_Model_feed b_Model_feed 2 (some .int) (zrm 2 82) [.ref (za θ 129), .int x1] σ res := by
  unfold f_Model_feed at h
  refine z_met (lv := [(0, .ref (za θ 129)), (1, .int x1)]) (by decide +kernel) rfl (Nat.le_of_ble_eq_true rfl) (by decide) ?_
  refine z_iload_n 1 d_Model_feed_0 rfl rfl ?_
  refine z_iconst (v := 0) d_Model_feed_1 (by decide) ?_
  refine z_bipush (v := 127) d_Model_feed_2 (by decide) ?_
  obtain ⟨⟨v1, s2⟩, e3, h⟩ := zbd_i h
  refine w_callS (As := [.int x1, .int (0 : Int32), .int (127 : Int32)]) (c_Model_isIn l θ e3) cf_Model_isIn q_969 d_Model_feed_4 rfl rfl rfl (Nat.le_of_ble_eq_true rfl) rfl rfl ⟨Nat.le_of_ble_eq_true rfl, Nat.le_of_ble_eq_true rfl⟩ ?_
  refine z_if_ne (tgt := 13) d_Model_feed_7 (by decide) (fun c4 => ?_) (fun c4 => ?_)
  · have h := (if_neg c4).symm.trans h
    refine z_aload_n 0 d_Model_feed_13 rfl rfl ?_
    refine gf_Model_texted zl_129 d_Model_feed_14 q_878 ?_
    refine z_bipush (v := 100) d_Model_feed_17 (by decide) ?_
    refine z_icmp_ne (tgt := 25) d_Model_feed_19 (by decide) (fun c5 => ?_) (fun c5 => ?_)
    · have h := (if_neg c5).symm.trans h
      refine z_aload_n 0 d_Model_feed_25 rfl rfl ?_
      refine gf_Model_text zl_129 d_Model_feed_26 q_875 ?_
      refine z_aload_n 0 d_Model_feed_29 rfl rfl ?_
      refine gf_Model_texted zl_129 d_Model_feed_30 q_878 ?_
      refine z_iload_n 1 d_Model_feed_33 rfl rfl ?_
      obtain ⟨c6, h⟩ := zck_i h
      refine w_iast zl_133 c6 d_Model_feed_34 ?_
      refine z_aload_n 0 d_Model_feed_35 rfl rfl ?_
      refine z_dup d_Model_feed_36 rfl ?_
      refine gf_Model_texted zl_129 d_Model_feed_37 q_878 ?_
      refine z_iconst (v := 1) d_Model_feed_40 (by decide) ?_
      refine z_iadd d_Model_feed_41 ?_
      refine pf_Model_texted zl_129 d_Model_feed_42 q_878 ?_
      refine z_aload_n 0 d_Model_feed_45 rfl rfl ?_
      refine gf_Model_texted zl_129 d_Model_feed_46 q_878 ?_
      exact z_iret d_Model_feed_49 h
    · have h := (if_pos c5).symm.trans h
      refine z_bipush (v := -4) d_Model_feed_22 (by decide) ?_
      exact z_iret d_Model_feed_24 h
  · have h := (if_pos c4).symm.trans h
    refine z_bipush (v := -2) d_Model_feed_10 (by decide) ?_
    exact z_iret d_Model_feed_12 h
theorem d_Model_here_0 : decode b_Model_here 0 = .ok (.aload_n 0, 1) := by decide +kernel
theorem d_Model_here_1 : decode b_Model_here 1 = .ok (.getfield 68, 3) := by decide +kernel
theorem d_Model_here_4 : decode b_Model_here 4 = .ok (.aload_n 0, 1) := by decide +kernel
theorem d_Model_here_5 : decode b_Model_here 5 = .ok (.getfield 71, 3) := by decide +kernel
theorem d_Model_here_8 : decode b_Model_here 8 = .ok (.if_icmp .ge (20), 3) := by decide +kernel
theorem d_Model_here_11 : decode b_Model_here 11 = .ok (.aload_n 0, 1) := by decide +kernel
theorem d_Model_here_12 : decode b_Model_here 12 = .ok (.getfield 24, 3) := by decide +kernel
theorem d_Model_here_15 : decode b_Model_here 15 = .ok (.aload_n 0, 1) := by decide +kernel
theorem d_Model_here_16 : decode b_Model_here 16 = .ok (.getfield 74, 3) := by decide +kernel
theorem d_Model_here_19 : decode b_Model_here 19 = .ok (.aload_n 0, 1) := by decide +kernel
theorem d_Model_here_20 : decode b_Model_here 20 = .ok (.getfield 68, 3) := by decide +kernel
theorem d_Model_here_23 : decode b_Model_here 23 = .ok (.iadd, 1) := by decide +kernel
theorem d_Model_here_24 : decode b_Model_here 24 = .ok (.iaload, 1) := by decide +kernel
theorem d_Model_here_25 : decode b_Model_here 25 = .ok (.goto (4), 3) := by decide +kernel
theorem d_Model_here_28 : decode b_Model_here 28 = .ok (.iconst (-1), 1) := by decide +kernel
theorem d_Model_here_29 : decode b_Model_here 29 = .ok (.ireturn, 1) := by decide +kernel
theorem c_Model_here (l : Launch) (θ : ZT)  {σ : ZM} {res : Int32 × ZM} (h : f_Model_here σ = some res) : zMet mkI l 129 14 θ y_Model_here b_Model_here 1 (some .int) (zrm 1 60) [.ref (za θ 129)] σ res := by
  unfold f_Model_here at h
  refine z_met (lv := [(0, .ref (za θ 129))]) (by decide +kernel) rfl (Nat.le_of_ble_eq_true rfl) (by decide) ?_
  refine z_aload_n 0 d_Model_here_0 rfl rfl ?_
  refine gf_Model_at zl_129 d_Model_here_1 q_882 ?_
  refine z_aload_n 0 d_Model_here_4 rfl rfl ?_
  refine gf_Model_end zl_129 d_Model_here_5 q_881 ?_
  refine z_icmp_ge (tgt := 28) d_Model_here_8 (by decide) (fun c1 => ?_) (fun c1 => ?_)
  · have h := (if_pos c1).symm.trans h
    refine z_iconst (v := -1) d_Model_here_28 (by decide) ?_
    exact z_iret d_Model_here_29 h
  · have h := (if_neg c1).symm.trans h
    refine z_aload_n 0 d_Model_here_11 rfl rfl ?_
    refine gf_Model_kilnText zl_129 d_Model_here_12 q_876 ?_
    refine z_aload_n 0 d_Model_here_15 rfl rfl ?_
    refine gf_Model_base zl_129 d_Model_here_16 q_880 ?_
    refine z_aload_n 0 d_Model_here_19 rfl rfl ?_
    refine gf_Model_at zl_129 d_Model_here_20 q_882 ?_
    refine z_iadd d_Model_here_23 ?_
    obtain ⟨c2, h⟩ := zck_i h
    refine w_iald zl_134 c2 d_Model_here_24 ?_
    refine z_goto (tgt := 29) d_Model_here_25 (by decide) ?_
    exact z_iret d_Model_here_29 h
theorem d_Model_takes_0 : decode b_Model_takes 0 = .ok (.aload_n 0, 1) := by decide +kernel
theorem d_Model_takes_1 : decode b_Model_takes 1 = .ok (.getfield 77, 3) := by decide +kernel
theorem d_Model_takes_4 : decode b_Model_takes 4 = .ok (.ifCond .eq (5), 3) := by decide +kernel
theorem d_Model_takes_7 : decode b_Model_takes 7 = .ok (.iconst (0), 1) := by decide +kernel
theorem d_Model_takes_8 : decode b_Model_takes 8 = .ok (.ireturn, 1) := by decide +kernel
theorem d_Model_takes_9 : decode b_Model_takes 9 = .ok (.aload_n 0, 1) := by decide +kernel
theorem d_Model_takes_10 : decode b_Model_takes 10 = .ok (.invokevirtual 81, 3) := by decide +kernel
theorem d_Model_takes_13 : decode b_Model_takes 13 = .ok (.iload_n 1, 1) := by decide +kernel
theorem d_Model_takes_14 : decode b_Model_takes 14 = .ok (.if_icmp .eq (10), 3) := by decide +kernel
theorem d_Model_takes_17 : decode b_Model_takes 17 = .ok (.aload_n 0, 1) := by decide +kernel
theorem d_Model_takes_18 : decode b_Model_takes 18 = .ok (.iconst (1), 1) := by decide +kernel
theorem d_Model_takes_19 : decode b_Model_takes 19 = .ok (.putfield 77, 3) := by decide +kernel
theorem d_Model_takes_22 : decode b_Model_takes 22 = .ok (.iconst (0), 1) := by decide +kernel
theorem d_Model_takes_23 : decode b_Model_takes 23 = .ok (.ireturn, 1) := by decide +kernel
theorem d_Model_takes_24 : decode b_Model_takes 24 = .ok (.aload_n 0, 1) := by decide +kernel
theorem d_Model_takes_25 : decode b_Model_takes 25 = .ok (.dup, 1) := by decide +kernel
theorem d_Model_takes_26 : decode b_Model_takes 26 = .ok (.getfield 68, 3) := by decide +kernel
theorem d_Model_takes_29 : decode b_Model_takes 29 = .ok (.iconst (1), 1) := by decide +kernel
theorem d_Model_takes_30 : decode b_Model_takes 30 = .ok (.iadd, 1) := by decide +kernel
theorem d_Model_takes_31 : decode b_Model_takes 31 = .ok (.putfield 68, 3) := by decide +kernel
theorem d_Model_takes_34 : decode b_Model_takes 34 = .ok (.iconst (1), 1) := by decide +kernel
theorem d_Model_takes_35 : decode b_Model_takes 35 = .ok (.ireturn, 1) := by decide +kernel
theorem c_Model_takes (l : Launch) (θ : ZT) {x1 : Int32} {σ : ZM} {res : Int32 × ZM} (h : f_Model_takes x1 σ = some res) : zMet mkI l 129 14 θ y_Model_takes b_Model_takes 2 (some .boolean) (zrm 2 80) [.ref (za θ 129), .int x1] σ res := by
  unfold f_Model_takes at h
  refine z_met (lv := [(0, .ref (za θ 129)), (1, .int x1)]) (by decide +kernel) rfl (Nat.le_of_ble_eq_true rfl) (by decide) ?_
  refine z_aload_n 0 d_Model_takes_0 rfl rfl ?_
  refine gf_Model_wrong zl_129 d_Model_takes_1 q_885 ?_
  refine z_if_eq (tgt := 9) d_Model_takes_4 (by decide) (fun c1 => ?_) (fun c1 => ?_)
  · have h := (if_pos c1).symm.trans h
    refine z_aload_n 0 d_Model_takes_9 rfl rfl ?_
    obtain ⟨⟨v2, s3⟩, e4, h⟩ := zbd_i h
    refine w_callV (As := []) (kc := 22) (ci := 12) (c_Model_here l θ e4) cf_Model_here q_984 d_Model_takes_10 zl_129 rfl rfl rfl rfl rfl rfl (Nat.le_of_ble_eq_true rfl) rfl rfl ⟨Nat.le_of_ble_eq_true rfl, Nat.le_of_ble_eq_true rfl⟩ ?_
    refine z_iload_n 1 d_Model_takes_13 rfl rfl ?_
    refine z_icmp_eq (tgt := 24) d_Model_takes_14 (by decide) (fun c5 => ?_) (fun c5 => ?_)
    · have h := (if_pos c5).symm.trans h
      refine z_aload_n 0 d_Model_takes_24 rfl rfl ?_
      refine z_dup d_Model_takes_25 rfl ?_
      refine gf_Model_at zl_129 d_Model_takes_26 q_882 ?_
      refine z_iconst (v := 1) d_Model_takes_29 (by decide) ?_
      refine z_iadd d_Model_takes_30 ?_
      refine pf_Model_at zl_129 d_Model_takes_31 q_882 ?_
      refine z_iconst (v := 1) d_Model_takes_34 (by decide) ?_
      exact z_zret d_Model_takes_35 (by decide) h
    · have h := (if_neg c5).symm.trans h
      refine z_aload_n 0 d_Model_takes_17 rfl rfl ?_
      refine z_iconst (v := 1) d_Model_takes_18 (by decide) ?_
      refine pf_Model_wrong zl_129 (by decide) d_Model_takes_19 q_885 ?_
      refine z_iconst (v := 0) d_Model_takes_22 (by decide) ?_
      exact z_zret d_Model_takes_23 (by decide) h
  · have h := (if_neg c1).symm.trans h
    refine z_iconst (v := 0) d_Model_takes_7 (by decide) ?_
    exact z_zret d_Model_takes_8 (by decide) h
theorem d_Model_isDigit_0 : decode b_Model_isDigit 0 = .ok (.aload_n 0, 1) := by decide +kernel
theorem d_Model_isDigit_1 : decode b_Model_isDigit 1 = .ok (.invokevirtual 81, 3) := by decide +kernel
theorem d_Model_isDigit_4 : decode b_Model_isDigit 4 = .ok (.bipush (48), 2) := by decide +kernel
theorem d_Model_isDigit_6 : decode b_Model_isDigit 6 = .ok (.bipush (57), 2) := by decide +kernel
theorem d_Model_isDigit_8 : decode b_Model_isDigit 8 = .ok (.invokestatic 52, 3) := by decide +kernel
theorem d_Model_isDigit_11 : decode b_Model_isDigit 11 = .ok (.ireturn, 1) := by decide +kernel
theorem c_Model_isDigit (l : Launch) (θ : ZT)  {σ : ZM} {res : Int32 × ZM} (h : f_Model_isDigit σ = some res) : zMet mkI l 129 14 θ y_Model_isDigit b_Model_isDigit 1 (some .boolean) (zrm 2 82) [.ref (za θ 129)] σ res := by
  unfold f_Model_isDigit at h
  refine z_met (lv := [(0, .ref (za θ 129))]) (by decide +kernel) rfl (Nat.le_of_ble_eq_true rfl) (by decide) ?_
  refine z_aload_n 0 d_Model_isDigit_0 rfl rfl ?_
  obtain ⟨⟨v1, s2⟩, e3, h⟩ := zbd_i h
  refine w_callV (As := []) (kc := 22) (ci := 12) (c_Model_here l θ e3) cf_Model_here q_984 d_Model_isDigit_1 zl_129 rfl rfl rfl rfl rfl rfl (Nat.le_of_ble_eq_true rfl) rfl rfl ⟨Nat.le_of_ble_eq_true rfl, Nat.le_of_ble_eq_true rfl⟩ ?_
  refine z_bipush (v := 48) d_Model_isDigit_4 (by decide) ?_
  refine z_bipush (v := 57) d_Model_isDigit_6 (by decide) ?_
  obtain ⟨⟨v4, s5⟩, e6, h⟩ := zbd_i h
  refine w_callS (As := [.int v1, .int (48 : Int32), .int (57 : Int32)]) (c_Model_isIn l θ e6) cf_Model_isIn q_969 d_Model_isDigit_8 rfl rfl rfl (Nat.le_of_ble_eq_true rfl) rfl rfl ⟨Nat.le_of_ble_eq_true rfl, Nat.le_of_ble_eq_true rfl⟩ ?_
  obtain ⟨c7, h⟩ := zck_i h
  exact z_zret d_Model_isDigit_11 c7 h
theorem d_Model_readsNumber_0 : decode b_Model_readsNumber 0 = .ok (.aload_n 0, 1) := by decide +kernel
theorem d_Model_readsNumber_1 : decode b_Model_readsNumber 1 = .ok (.getfield 77, 3) := by decide +kernel
theorem d_Model_readsNumber_4 : decode b_Model_readsNumber 4 = .ok (.ifCond .eq (5), 3) := by decide +kernel
theorem d_Model_readsNumber_7 : decode b_Model_readsNumber 7 = .ok (.iconst (0), 1) := by decide +kernel
theorem d_Model_readsNumber_8 : decode b_Model_readsNumber 8 = .ok (.ireturn, 1) := by decide +kernel
theorem d_Model_readsNumber_9 : decode b_Model_readsNumber 9 = .ok (.aload_n 0, 1) := by decide +kernel
theorem d_Model_readsNumber_10 : decode b_Model_readsNumber 10 = .ok (.invokevirtual 85, 3) := by decide +kernel
theorem d_Model_readsNumber_13 : decode b_Model_readsNumber 13 = .ok (.ifCond .ne (10), 3) := by decide +kernel
theorem d_Model_readsNumber_16 : decode b_Model_readsNumber 16 = .ok (.aload_n 0, 1) := by decide +kernel
theorem d_Model_readsNumber_17 : decode b_Model_readsNumber 17 = .ok (.iconst (1), 1) := by decide +kernel
theorem d_Model_readsNumber_18 : decode b_Model_readsNumber 18 = .ok (.putfield 77, 3) := by decide +kernel
theorem d_Model_readsNumber_21 : decode b_Model_readsNumber 21 = .ok (.iconst (0), 1) := by decide +kernel
theorem d_Model_readsNumber_22 : decode b_Model_readsNumber 22 = .ok (.ireturn, 1) := by decide +kernel
theorem d_Model_readsNumber_23 : decode b_Model_readsNumber 23 = .ok (.aload_n 0, 1) := by decide +kernel
theorem d_Model_readsNumber_24 : decode b_Model_readsNumber 24 = .ok (.invokevirtual 81, 3) := by decide +kernel
theorem d_Model_readsNumber_27 : decode b_Model_readsNumber 27 = .ok (.bipush (48), 2) := by decide +kernel
theorem d_Model_readsNumber_29 : decode b_Model_readsNumber 29 = .ok (.isub, 1) := by decide +kernel
theorem d_Model_readsNumber_30 : decode b_Model_readsNumber 30 = .ok (.istore_n 1, 1) := by decide +kernel
theorem d_Model_readsNumber_31 : decode b_Model_readsNumber 31 = .ok (.aload_n 0, 1) := by decide +kernel
theorem d_Model_readsNumber_32 : decode b_Model_readsNumber 32 = .ok (.dup, 1) := by decide +kernel
theorem d_Model_readsNumber_33 : decode b_Model_readsNumber 33 = .ok (.getfield 68, 3) := by decide +kernel
theorem d_Model_readsNumber_36 : decode b_Model_readsNumber 36 = .ok (.iconst (1), 1) := by decide +kernel
theorem d_Model_readsNumber_37 : decode b_Model_readsNumber 37 = .ok (.iadd, 1) := by decide +kernel
theorem d_Model_readsNumber_38 : decode b_Model_readsNumber 38 = .ok (.putfield 68, 3) := by decide +kernel
theorem d_Model_readsNumber_41 : decode b_Model_readsNumber 41 = .ok (.aload_n 0, 1) := by decide +kernel
theorem d_Model_readsNumber_42 : decode b_Model_readsNumber 42 = .ok (.invokevirtual 85, 3) := by decide +kernel
theorem d_Model_readsNumber_45 : decode b_Model_readsNumber 45 = .ok (.ifCond .eq (26), 3) := by decide +kernel
theorem d_Model_readsNumber_48 : decode b_Model_readsNumber 48 = .ok (.bipush (10), 2) := by decide +kernel
theorem d_Model_readsNumber_50 : decode b_Model_readsNumber 50 = .ok (.iload_n 1, 1) := by decide +kernel
theorem d_Model_readsNumber_51 : decode b_Model_readsNumber 51 = .ok (.imul, 1) := by decide +kernel
theorem d_Model_readsNumber_52 : decode b_Model_readsNumber 52 = .ok (.aload_n 0, 1) := by decide +kernel
theorem d_Model_readsNumber_53 : decode b_Model_readsNumber 53 = .ok (.invokevirtual 81, 3) := by decide +kernel
theorem d_Model_readsNumber_56 : decode b_Model_readsNumber 56 = .ok (.iadd, 1) := by decide +kernel
theorem d_Model_readsNumber_57 : decode b_Model_readsNumber 57 = .ok (.bipush (48), 2) := by decide +kernel
theorem d_Model_readsNumber_59 : decode b_Model_readsNumber 59 = .ok (.isub, 1) := by decide +kernel
theorem d_Model_readsNumber_60 : decode b_Model_readsNumber 60 = .ok (.istore_n 1, 1) := by decide +kernel
theorem d_Model_readsNumber_61 : decode b_Model_readsNumber 61 = .ok (.aload_n 0, 1) := by decide +kernel
theorem d_Model_readsNumber_62 : decode b_Model_readsNumber 62 = .ok (.dup, 1) := by decide +kernel
theorem d_Model_readsNumber_63 : decode b_Model_readsNumber 63 = .ok (.getfield 68, 3) := by decide +kernel
theorem d_Model_readsNumber_66 : decode b_Model_readsNumber 66 = .ok (.iconst (1), 1) := by decide +kernel
theorem d_Model_readsNumber_67 : decode b_Model_readsNumber 67 = .ok (.iadd, 1) := by decide +kernel
theorem d_Model_readsNumber_68 : decode b_Model_readsNumber 68 = .ok (.putfield 68, 3) := by decide +kernel
theorem d_Model_readsNumber_71 : decode b_Model_readsNumber 71 = .ok (.iload_n 1, 1) := by decide +kernel
theorem d_Model_readsNumber_72 : decode b_Model_readsNumber 72 = .ok (.ireturn, 1) := by decide +kernel
theorem c_Model_readsNumber (l : Launch) (θ : ZT)  {σ : ZM} {res : Int32 × ZM} (h : f_Model_readsNumber σ = some res) : zMet mkI l 129 14 θ y_Model_readsNumber b_Model_readsNumber 2 (some .int) (zrm 3 102) [.ref (za θ 129)] σ res := by
  unfold f_Model_readsNumber at h
  refine z_met (lv := [(0, .ref (za θ 129))]) (by decide +kernel) rfl (Nat.le_of_ble_eq_true rfl) (by decide) ?_
  refine z_aload_n 0 d_Model_readsNumber_0 rfl rfl ?_
  refine gf_Model_wrong zl_129 d_Model_readsNumber_1 q_885 ?_
  refine z_if_eq (tgt := 9) d_Model_readsNumber_4 (by decide) (fun c1 => ?_) (fun c1 => ?_)
  · have h := (if_pos c1).symm.trans h
    refine z_aload_n 0 d_Model_readsNumber_9 rfl rfl ?_
    obtain ⟨⟨v2, s3⟩, e4, h⟩ := zbd_i h
    refine w_callV (As := []) (kc := 22) (ci := 12) (c_Model_isDigit l θ e4) cf_Model_isDigit q_1006 d_Model_readsNumber_10 zl_129 rfl rfl rfl rfl rfl rfl (Nat.le_of_ble_eq_true rfl) rfl rfl ⟨Nat.le_of_ble_eq_true rfl, Nat.le_of_ble_eq_true rfl⟩ ?_
    refine z_if_ne (tgt := 23) d_Model_readsNumber_13 (by decide) (fun c5 => ?_) (fun c5 => ?_)
    · have h := (if_neg c5).symm.trans h
      refine z_aload_n 0 d_Model_readsNumber_23 rfl rfl ?_
      obtain ⟨⟨v6, s7⟩, e8, h⟩ := zbd_i h
      refine w_callV (As := []) (kc := 22) (ci := 12) (c_Model_here l θ e8) cf_Model_here q_984 d_Model_readsNumber_24 zl_129 rfl rfl rfl rfl rfl rfl (Nat.le_of_ble_eq_true rfl) rfl rfl ⟨Nat.le_of_ble_eq_true rfl, Nat.le_of_ble_eq_true rfl⟩ ?_
      refine z_bipush (v := 48) d_Model_readsNumber_27 (by decide) ?_
      refine z_isub d_Model_readsNumber_29 ?_
      refine z_istore_n d_Model_readsNumber_30 rfl (by decide) rfl ?_
      refine z_aload_n 1 d_Model_readsNumber_31 rfl rfl ?_
      refine z_dup d_Model_readsNumber_32 rfl ?_
      refine gf_Model_at zl_129 d_Model_readsNumber_33 q_882 ?_
      refine z_iconst (v := 1) d_Model_readsNumber_36 (by decide) ?_
      refine z_iadd d_Model_readsNumber_37 ?_
      refine pf_Model_at zl_129 d_Model_readsNumber_38 q_882 ?_
      refine z_aload_n 1 d_Model_readsNumber_41 rfl rfl ?_
      obtain ⟨⟨v9, s10⟩, e11, h⟩ := zbd_i h
      refine w_callV (As := []) (kc := 22) (ci := 12) (c_Model_isDigit l θ e11) cf_Model_isDigit q_1006 d_Model_readsNumber_42 zl_129 rfl rfl rfl rfl rfl rfl (Nat.le_of_ble_eq_true rfl) rfl rfl ⟨Nat.le_of_ble_eq_true rfl, Nat.le_of_ble_eq_true rfl⟩ ?_
      refine z_if_eq (tgt := 71) d_Model_readsNumber_45 (by decide) (fun c12 => ?_) (fun c12 => ?_)
      · have h := (if_pos c12).symm.trans h
        refine z_iload_n 0 d_Model_readsNumber_71 rfl rfl ?_
        exact z_iret d_Model_readsNumber_72 h
      · have h := (if_neg c12).symm.trans h
        refine z_bipush (v := 10) d_Model_readsNumber_48 (by decide) ?_
        refine z_iload_n 0 d_Model_readsNumber_50 rfl rfl ?_
        refine z_imul d_Model_readsNumber_51 ?_
        refine z_aload_n 1 d_Model_readsNumber_52 rfl rfl ?_
        obtain ⟨⟨v13, s14⟩, e15, h⟩ := zbd_i h
        refine w_callV (As := []) (kc := 22) (ci := 12) (c_Model_here l θ e15) cf_Model_here q_984 d_Model_readsNumber_53 zl_129 rfl rfl rfl rfl rfl rfl (Nat.le_of_ble_eq_true rfl) rfl rfl ⟨Nat.le_of_ble_eq_true rfl, Nat.le_of_ble_eq_true rfl⟩ ?_
        refine z_iadd d_Model_readsNumber_56 ?_
        refine z_bipush (v := 48) d_Model_readsNumber_57 (by decide) ?_
        refine z_isub d_Model_readsNumber_59 ?_
        refine z_istore_n d_Model_readsNumber_60 rfl (by decide) rfl ?_
        refine z_aload_n 1 d_Model_readsNumber_61 rfl rfl ?_
        refine z_dup d_Model_readsNumber_62 rfl ?_
        refine gf_Model_at zl_129 d_Model_readsNumber_63 q_882 ?_
        refine z_iconst (v := 1) d_Model_readsNumber_66 (by decide) ?_
        refine z_iadd d_Model_readsNumber_67 ?_
        refine pf_Model_at zl_129 d_Model_readsNumber_68 q_882 ?_
        refine z_iload_n 0 d_Model_readsNumber_71 rfl rfl ?_
        exact z_iret d_Model_readsNumber_72 h
    · have h := (if_pos c5).symm.trans h
      refine z_aload_n 0 d_Model_readsNumber_16 rfl rfl ?_
      refine z_iconst (v := 1) d_Model_readsNumber_17 (by decide) ?_
      refine pf_Model_wrong zl_129 (by decide) d_Model_readsNumber_18 q_885 ?_
      refine z_iconst (v := 0) d_Model_readsNumber_21 (by decide) ?_
      exact z_iret d_Model_readsNumber_22 h
  · have h := (if_neg c1).symm.trans h
    refine z_iconst (v := 0) d_Model_readsNumber_7 (by decide) ?_
    exact z_iret d_Model_readsNumber_8 h
theorem d_Model_valueOf_0 : decode b_Model_valueOf 0 = .ok (.iload_n 1, 1) := by decide +kernel
theorem d_Model_valueOf_1 : decode b_Model_valueOf 1 = .ok (.tableswitch (125) (104) (118) #[115, 125, 125, 80, 75, 125, 125, 125, 125, 125, 125, 125, 89, 125, 106], 75) := by decide +kernel
theorem d_Model_valueOf_76 : decode b_Model_valueOf 76 = .ok (.aload_n 0, 1) := by decide +kernel
theorem d_Model_valueOf_77 : decode b_Model_valueOf 77 = .ok (.getfield 89, 3) := by decide +kernel
theorem d_Model_valueOf_80 : decode b_Model_valueOf 80 = .ok (.ireturn, 1) := by decide +kernel
theorem d_Model_valueOf_81 : decode b_Model_valueOf 81 = .ok (.aload_n 0, 1) := by decide +kernel
theorem d_Model_valueOf_82 : decode b_Model_valueOf 82 = .ok (.aload_n 0, 1) := by decide +kernel
theorem d_Model_valueOf_83 : decode b_Model_valueOf 83 = .ok (.getfield 89, 3) := by decide +kernel
theorem d_Model_valueOf_86 : decode b_Model_valueOf 86 = .ok (.invokevirtual 92, 3) := by decide +kernel
theorem d_Model_valueOf_89 : decode b_Model_valueOf 89 = .ok (.ireturn, 1) := by decide +kernel
theorem d_Model_valueOf_90 : decode b_Model_valueOf 90 = .ok (.aload_n 0, 1) := by decide +kernel
theorem d_Model_valueOf_91 : decode b_Model_valueOf 91 = .ok (.getfield 96, 3) := by decide +kernel
theorem d_Model_valueOf_94 : decode b_Model_valueOf 94 = .ok (.ifCond .eq (8), 3) := by decide +kernel
theorem d_Model_valueOf_97 : decode b_Model_valueOf 97 = .ok (.bipush (99), 2) := by decide +kernel
theorem d_Model_valueOf_99 : decode b_Model_valueOf 99 = .ok (.goto (7), 3) := by decide +kernel
theorem d_Model_valueOf_102 : decode b_Model_valueOf 102 = .ok (.aload_n 0, 1) := by decide +kernel
theorem d_Model_valueOf_103 : decode b_Model_valueOf 103 = .ok (.getfield 99, 3) := by decide +kernel
theorem d_Model_valueOf_106 : decode b_Model_valueOf 106 = .ok (.ireturn, 1) := by decide +kernel
theorem d_Model_valueOf_107 : decode b_Model_valueOf 107 = .ok (.aload_n 0, 1) := by decide +kernel
theorem d_Model_valueOf_108 : decode b_Model_valueOf 108 = .ok (.aload_n 0, 1) := by decide +kernel
theorem d_Model_valueOf_109 : decode b_Model_valueOf 109 = .ok (.getfield 89, 3) := by decide +kernel
theorem d_Model_valueOf_112 : decode b_Model_valueOf 112 = .ok (.invokevirtual 102, 3) := by decide +kernel
theorem d_Model_valueOf_115 : decode b_Model_valueOf 115 = .ok (.ireturn, 1) := by decide +kernel
theorem d_Model_valueOf_116 : decode b_Model_valueOf 116 = .ok (.aload_n 0, 1) := by decide +kernel
theorem d_Model_valueOf_117 : decode b_Model_valueOf 117 = .ok (.getfield 11, 3) := by decide +kernel
theorem d_Model_valueOf_120 : decode b_Model_valueOf 120 = .ok (.iconst (4), 1) := by decide +kernel
theorem d_Model_valueOf_121 : decode b_Model_valueOf 121 = .ok (.iaload, 1) := by decide +kernel
theorem d_Model_valueOf_122 : decode b_Model_valueOf 122 = .ok (.bipush (60), 2) := by decide +kernel
theorem d_Model_valueOf_124 : decode b_Model_valueOf 124 = .ok (.irem, 1) := by decide +kernel
theorem d_Model_valueOf_125 : decode b_Model_valueOf 125 = .ok (.ireturn, 1) := by decide +kernel
theorem d_Model_valueOf_126 : decode b_Model_valueOf 126 = .ok (.aload_n 0, 1) := by decide +kernel
theorem d_Model_valueOf_127 : decode b_Model_valueOf 127 = .ok (.getfield 96, 3) := by decide +kernel
theorem d_Model_valueOf_130 : decode b_Model_valueOf 130 = .ok (.ifCond .eq (8), 3) := by decide +kernel
theorem d_Model_valueOf_133 : decode b_Model_valueOf 133 = .ok (.bipush (99), 2) := by decide +kernel
theorem d_Model_valueOf_135 : decode b_Model_valueOf 135 = .ok (.goto (15), 3) := by decide +kernel
theorem d_Model_valueOf_138 : decode b_Model_valueOf 138 = .ok (.aload_n 0, 1) := by decide +kernel
theorem d_Model_valueOf_139 : decode b_Model_valueOf 139 = .ok (.getfield 11, 3) := by decide +kernel
theorem d_Model_valueOf_142 : decode b_Model_valueOf 142 = .ok (.aload_n 0, 1) := by decide +kernel
theorem d_Model_valueOf_143 : decode b_Model_valueOf 143 = .ok (.getfield 99, 3) := by decide +kernel
theorem d_Model_valueOf_146 : decode b_Model_valueOf 146 = .ok (.iaload, 1) := by decide +kernel
theorem d_Model_valueOf_147 : decode b_Model_valueOf 147 = .ok (.bipush (10), 2) := by decide +kernel
theorem d_Model_valueOf_149 : decode b_Model_valueOf 149 = .ok (.idiv, 1) := by decide +kernel
theorem d_Model_valueOf_150 : decode b_Model_valueOf 150 = .ok (.ireturn, 1) := by decide +kernel
theorem zb_Model_valueOf_126 {l : Launch} {θ : ZT} {res : Int32 × ZM}  {σ : ZM} (h : f_Model_valueOf_126 σ = some res) : WZ l b_Model_valueOf 2 (some .int) "BakedBeforeModel" 129 14 θ (zrm 3 103) (zQ mkI 129 14 θ res) σ [(0, .ref (za θ 129))] 126 [] := by
  unfold f_Model_valueOf_126 at h
  refine z_aload_n 0 d_Model_valueOf_126 rfl rfl ?_
  refine gf_Model_isFee zl_129 d_Model_valueOf_127 q_886 ?_
  refine z_if_eq (tgt := 138) d_Model_valueOf_130 (by decide) (fun c1 => ?_) (fun c1 => ?_)
  · have h := (if_pos c1).symm.trans h
    refine z_aload_n 0 d_Model_valueOf_138 rfl rfl ?_
    refine gf_Model_s zl_129 d_Model_valueOf_139 q_871 ?_
    refine z_aload_n 0 d_Model_valueOf_142 rfl rfl ?_
    refine gf_Model_taste zl_129 d_Model_valueOf_143 q_884 ?_
    obtain ⟨c2, h⟩ := zck_i h
    refine w_iald zl_130 c2 d_Model_valueOf_146 ?_
    refine z_bipush (v := 10) d_Model_valueOf_147 (by decide) ?_
    refine z_idiv d_Model_valueOf_149 (by decide) ?_
    exact z_iret d_Model_valueOf_150 h
  · have h := (if_neg c1).symm.trans h
    refine z_bipush (v := 99) d_Model_valueOf_133 (by decide) ?_
    refine z_goto (tgt := 150) d_Model_valueOf_135 (by decide) ?_
    exact z_iret d_Model_valueOf_150 h
theorem c_Model_valueOf (l : Launch) (θ : ZT) {x1 : Int32} {σ : ZM} {res : Int32 × ZM} (h : f_Model_valueOf x1 σ = some res) : zMet mkI l 129 14 θ y_Model_valueOf b_Model_valueOf 2 (some .int) (zrm 3 103) [.ref (za θ 129), .int x1] σ res := by
  unfold f_Model_valueOf at h
  refine z_met (lv := [(0, .ref (za θ 129)), (1, .int x1)]) (by decide +kernel) rfl (Nat.le_of_ble_eq_true rfl) (by decide) ?_
  refine z_iload_n 1 d_Model_valueOf_0 rfl rfl ?_
  by_cases c1 : x1 = (104 : Int32)
  · have h := (if_pos c1).symm.trans h
    refine z_tableIn (k := 104) (off := 115) (tgt := 116) d_Model_valueOf_1 c1 (by decide) ?_
    refine z_aload_n 0 d_Model_valueOf_116 rfl rfl ?_
    refine gf_Model_s zl_129 d_Model_valueOf_117 q_871 ?_
    refine z_iconst (v := 4) d_Model_valueOf_120 (by decide) ?_
    obtain ⟨c2, h⟩ := zck_i h
    refine w_iald zl_130 c2 d_Model_valueOf_121 ?_
    refine z_bipush (v := 60) d_Model_valueOf_122 (by decide) ?_
    refine z_irem d_Model_valueOf_124 (by decide) ?_
    exact z_iret d_Model_valueOf_125 h
  have h := (if_neg c1).symm.trans h
  by_cases c3 : x1 = (105 : Int32)
  · have h := (if_pos c3).symm.trans h
    refine z_tableIn (k := 105) (off := 125) (tgt := 126) d_Model_valueOf_1 c3 (by decide) ?_
    refine z_sub [0] rfl ?_
    exact zb_Model_valueOf_126 h
  have h := (if_neg c3).symm.trans h
  by_cases c4 : x1 = (106 : Int32)
  · have h := (if_pos c4).symm.trans h
    refine z_tableIn (k := 106) (off := 125) (tgt := 126) d_Model_valueOf_1 c4 (by decide) ?_
    refine z_sub [0] rfl ?_
    exact zb_Model_valueOf_126 h
  have h := (if_neg c4).symm.trans h
  by_cases c5 : x1 = (107 : Int32)
  · have h := (if_pos c5).symm.trans h
    refine z_tableIn (k := 107) (off := 80) (tgt := 81) d_Model_valueOf_1 c5 (by decide) ?_
    refine z_aload_n 0 d_Model_valueOf_81 rfl rfl ?_
    refine z_aload_n 0 d_Model_valueOf_82 rfl rfl ?_
    refine gf_Model_loaf zl_129 d_Model_valueOf_83 q_883 ?_
    obtain ⟨⟨v6, s7⟩, e8, h⟩ := zbd_i h
    refine w_callV (As := [.int (zI σ 129 12)]) (kc := 22) (ci := 12) (c_Model_kind l θ e8) cf_Model_kind q_1033 d_Model_valueOf_86 zl_129 rfl rfl rfl rfl rfl rfl (Nat.le_of_ble_eq_true rfl) rfl rfl ⟨Nat.le_of_ble_eq_true rfl, Nat.le_of_ble_eq_true rfl⟩ ?_
    exact z_iret d_Model_valueOf_89 h
  have h := (if_neg c5).symm.trans h
  by_cases c9 : x1 = (108 : Int32)
  · have h := (if_pos c9).symm.trans h
    refine z_tableIn (k := 108) (off := 75) (tgt := 76) d_Model_valueOf_1 c9 (by decide) ?_
    refine z_aload_n 0 d_Model_valueOf_76 rfl rfl ?_
    refine gf_Model_loaf zl_129 d_Model_valueOf_77 q_883 ?_
    exact z_iret d_Model_valueOf_80 h
  have h := (if_neg c9).symm.trans h
  by_cases c10 : x1 = (109 : Int32)
  · have h := (if_pos c10).symm.trans h
    refine z_tableIn (k := 109) (off := 125) (tgt := 126) d_Model_valueOf_1 c10 (by decide) ?_
    refine z_sub [0] rfl ?_
    exact zb_Model_valueOf_126 h
  have h := (if_neg c10).symm.trans h
  by_cases c11 : x1 = (110 : Int32)
  · have h := (if_pos c11).symm.trans h
    refine z_tableIn (k := 110) (off := 125) (tgt := 126) d_Model_valueOf_1 c11 (by decide) ?_
    refine z_sub [0] rfl ?_
    exact zb_Model_valueOf_126 h
  have h := (if_neg c11).symm.trans h
  by_cases c12 : x1 = (111 : Int32)
  · have h := (if_pos c12).symm.trans h
    refine z_tableIn (k := 111) (off := 125) (tgt := 126) d_Model_valueOf_1 c12 (by decide) ?_
    refine z_sub [0] rfl ?_
    exact zb_Model_valueOf_126 h
  have h := (if_neg c12).symm.trans h
  by_cases c13 : x1 = (112 : Int32)
  · have h := (if_pos c13).symm.trans h
    refine z_tableIn (k := 112) (off := 125) (tgt := 126) d_Model_valueOf_1 c13 (by decide) ?_
    refine z_sub [0] rfl ?_
    exact zb_Model_valueOf_126 h
  have h := (if_neg c13).symm.trans h
  by_cases c14 : x1 = (113 : Int32)
  · have h := (if_pos c14).symm.trans h
    refine z_tableIn (k := 113) (off := 125) (tgt := 126) d_Model_valueOf_1 c14 (by decide) ?_
    refine z_sub [0] rfl ?_
    exact zb_Model_valueOf_126 h
  have h := (if_neg c14).symm.trans h
  by_cases c15 : x1 = (114 : Int32)
  · have h := (if_pos c15).symm.trans h
    refine z_tableIn (k := 114) (off := 125) (tgt := 126) d_Model_valueOf_1 c15 (by decide) ?_
    refine z_sub [0] rfl ?_
    exact zb_Model_valueOf_126 h
  have h := (if_neg c15).symm.trans h
  by_cases c16 : x1 = (115 : Int32)
  · have h := (if_pos c16).symm.trans h
    refine z_tableIn (k := 115) (off := 125) (tgt := 126) d_Model_valueOf_1 c16 (by decide) ?_
    refine z_sub [0] rfl ?_
    exact zb_Model_valueOf_126 h
  have h := (if_neg c16).symm.trans h
  by_cases c17 : x1 = (116 : Int32)
  · have h := (if_pos c17).symm.trans h
    refine z_tableIn (k := 116) (off := 89) (tgt := 90) d_Model_valueOf_1 c17 (by decide) ?_
    refine z_aload_n 0 d_Model_valueOf_90 rfl rfl ?_
    refine gf_Model_isFee zl_129 d_Model_valueOf_91 q_886 ?_
    refine z_if_eq (tgt := 102) d_Model_valueOf_94 (by decide) (fun c18 => ?_) (fun c18 => ?_)
    · have h := (if_pos c18).symm.trans h
      refine z_aload_n 0 d_Model_valueOf_102 rfl rfl ?_
      refine gf_Model_taste zl_129 d_Model_valueOf_103 q_884 ?_
      exact z_iret d_Model_valueOf_106 h
    · have h := (if_neg c18).symm.trans h
      refine z_bipush (v := 99) d_Model_valueOf_97 (by decide) ?_
      refine z_goto (tgt := 106) d_Model_valueOf_99 (by decide) ?_
      exact z_iret d_Model_valueOf_106 h
  have h := (if_neg c17).symm.trans h
  by_cases c19 : x1 = (117 : Int32)
  · have h := (if_pos c19).symm.trans h
    refine z_tableIn (k := 117) (off := 125) (tgt := 126) d_Model_valueOf_1 c19 (by decide) ?_
    refine z_sub [0] rfl ?_
    exact zb_Model_valueOf_126 h
  have h := (if_neg c19).symm.trans h
  by_cases c20 : x1 = (118 : Int32)
  · have h := (if_pos c20).symm.trans h
    refine z_tableIn (k := 118) (off := 106) (tgt := 107) d_Model_valueOf_1 c20 (by decide) ?_
    refine z_aload_n 0 d_Model_valueOf_107 rfl rfl ?_
    refine z_aload_n 0 d_Model_valueOf_108 rfl rfl ?_
    refine gf_Model_loaf zl_129 d_Model_valueOf_109 q_883 ?_
    obtain ⟨⟨v21, s22⟩, e23, h⟩ := zbd_i h
    refine w_callV (As := [.int (zI σ 129 12)]) (kc := 22) (ci := 12) (c_Model_number l θ e23) cf_Model_number q_1041 d_Model_valueOf_112 zl_129 rfl rfl rfl rfl rfl rfl (Nat.le_of_ble_eq_true rfl) rfl rfl ⟨Nat.le_of_ble_eq_true rfl, Nat.le_of_ble_eq_true rfl⟩ ?_
    exact z_iret d_Model_valueOf_115 h
  have h := (if_neg c20).symm.trans h
  have nc1 := lv_neT (a := 104) c1 (by decide)
  have nc3 := lv_neT (a := 105) c3 (by decide)
  have nc4 := lv_neT (a := 106) c4 (by decide)
  have nc5 := lv_neT (a := 107) c5 (by decide)
  have nc9 := lv_neT (a := 108) c9 (by decide)
  have nc10 := lv_neT (a := 109) c10 (by decide)
  have nc11 := lv_neT (a := 110) c11 (by decide)
  have nc12 := lv_neT (a := 111) c12 (by decide)
  have nc13 := lv_neT (a := 112) c13 (by decide)
  have nc14 := lv_neT (a := 113) c14 (by decide)
  have nc15 := lv_neT (a := 114) c15 (by decide)
  have nc16 := lv_neT (a := 115) c16 (by decide)
  have nc17 := lv_neT (a := 116) c17 (by decide)
  have nc19 := lv_neT (a := 117) c19 (by decide)
  have nc20 := lv_neT (a := 118) c20 (by decide)
  refine z_tableOut (tgt := 126) d_Model_valueOf_1 (by omega) (by decide) ?_
  refine z_sub [0] rfl ?_
  exact zb_Model_valueOf_126 h
theorem d_Model_isLetter_0 : decode b_Model_isLetter 0 = .ok (.iload_n 0, 1) := by decide +kernel
theorem d_Model_isLetter_1 : decode b_Model_isLetter 1 = .ok (.bipush (108), 2) := by decide +kernel
theorem d_Model_isLetter_3 : decode b_Model_isLetter 3 = .ok (.if_icmp .eq (33), 3) := by decide +kernel
theorem d_Model_isLetter_6 : decode b_Model_isLetter 6 = .ok (.iload_n 0, 1) := by decide +kernel
theorem d_Model_isLetter_7 : decode b_Model_isLetter 7 = .ok (.bipush (107), 2) := by decide +kernel
theorem d_Model_isLetter_9 : decode b_Model_isLetter 9 = .ok (.if_icmp .eq (27), 3) := by decide +kernel
theorem d_Model_isLetter_12 : decode b_Model_isLetter 12 = .ok (.iload_n 0, 1) := by decide +kernel
theorem d_Model_isLetter_13 : decode b_Model_isLetter 13 = .ok (.bipush (116), 2) := by decide +kernel
theorem d_Model_isLetter_15 : decode b_Model_isLetter 15 = .ok (.if_icmp .eq (21), 3) := by decide +kernel
theorem d_Model_isLetter_18 : decode b_Model_isLetter 18 = .ok (.iload_n 0, 1) := by decide +kernel
theorem d_Model_isLetter_19 : decode b_Model_isLetter 19 = .ok (.bipush (118), 2) := by decide +kernel
theorem d_Model_isLetter_21 : decode b_Model_isLetter 21 = .ok (.if_icmp .eq (15), 3) := by decide +kernel
theorem d_Model_isLetter_24 : decode b_Model_isLetter 24 = .ok (.iload_n 0, 1) := by decide +kernel
theorem d_Model_isLetter_25 : decode b_Model_isLetter 25 = .ok (.bipush (104), 2) := by decide +kernel
theorem d_Model_isLetter_27 : decode b_Model_isLetter 27 = .ok (.if_icmp .eq (9), 3) := by decide +kernel
theorem d_Model_isLetter_30 : decode b_Model_isLetter 30 = .ok (.iload_n 0, 1) := by decide +kernel
theorem d_Model_isLetter_31 : decode b_Model_isLetter 31 = .ok (.bipush (111), 2) := by decide +kernel
theorem d_Model_isLetter_33 : decode b_Model_isLetter 33 = .ok (.if_icmp .ne (7), 3) := by decide +kernel
theorem d_Model_isLetter_36 : decode b_Model_isLetter 36 = .ok (.iconst (1), 1) := by decide +kernel
theorem d_Model_isLetter_37 : decode b_Model_isLetter 37 = .ok (.goto (4), 3) := by decide +kernel
theorem d_Model_isLetter_40 : decode b_Model_isLetter 40 = .ok (.iconst (0), 1) := by decide +kernel
theorem d_Model_isLetter_41 : decode b_Model_isLetter 41 = .ok (.ireturn, 1) := by decide +kernel
theorem c_Model_isLetter (l : Launch) (θ : ZT) {x0 : Int32} {σ : ZM} {res : Int32 × ZM} (h : f_Model_isLetter x0 σ = some res) : zMet mkI l 129 14 θ y_Model_isLetter b_Model_isLetter 1 (some .boolean) (zrm 1 60) [.int x0] σ res := by
  unfold f_Model_isLetter at h
  refine z_met (lv := [(0, .int x0)]) (by decide +kernel) rfl (Nat.le_of_ble_eq_true rfl) (by decide) ?_
  refine z_iload_n 0 d_Model_isLetter_0 rfl rfl ?_
  refine z_bipush (v := 108) d_Model_isLetter_1 (by decide) ?_
  refine z_icmp_eq (tgt := 36) d_Model_isLetter_3 (by decide) (fun c1 => ?_) (fun c1 => ?_)
  · have h := (if_pos c1).symm.trans h
    refine z_iconst (v := 1) d_Model_isLetter_36 (by decide) ?_
    refine z_goto (tgt := 41) d_Model_isLetter_37 (by decide) ?_
    exact z_zret d_Model_isLetter_41 (by decide) h
  · have h := (if_neg c1).symm.trans h
    refine z_iload_n 0 d_Model_isLetter_6 rfl rfl ?_
    refine z_bipush (v := 107) d_Model_isLetter_7 (by decide) ?_
    refine z_icmp_eq (tgt := 36) d_Model_isLetter_9 (by decide) (fun c2 => ?_) (fun c2 => ?_)
    · have h := (if_pos c2).symm.trans h
      refine z_iconst (v := 1) d_Model_isLetter_36 (by decide) ?_
      refine z_goto (tgt := 41) d_Model_isLetter_37 (by decide) ?_
      exact z_zret d_Model_isLetter_41 (by decide) h
    · have h := (if_neg c2).symm.trans h
      refine z_iload_n 0 d_Model_isLetter_12 rfl rfl ?_
      refine z_bipush (v := 116) d_Model_isLetter_13 (by decide) ?_
      refine z_icmp_eq (tgt := 36) d_Model_isLetter_15 (by decide) (fun c3 => ?_) (fun c3 => ?_)
      · have h := (if_pos c3).symm.trans h
        refine z_iconst (v := 1) d_Model_isLetter_36 (by decide) ?_
        refine z_goto (tgt := 41) d_Model_isLetter_37 (by decide) ?_
        exact z_zret d_Model_isLetter_41 (by decide) h
      · have h := (if_neg c3).symm.trans h
        refine z_iload_n 0 d_Model_isLetter_18 rfl rfl ?_
        refine z_bipush (v := 118) d_Model_isLetter_19 (by decide) ?_
        refine z_icmp_eq (tgt := 36) d_Model_isLetter_21 (by decide) (fun c4 => ?_) (fun c4 => ?_)
        · have h := (if_pos c4).symm.trans h
          refine z_iconst (v := 1) d_Model_isLetter_36 (by decide) ?_
          refine z_goto (tgt := 41) d_Model_isLetter_37 (by decide) ?_
          exact z_zret d_Model_isLetter_41 (by decide) h
        · have h := (if_neg c4).symm.trans h
          refine z_iload_n 0 d_Model_isLetter_24 rfl rfl ?_
          refine z_bipush (v := 104) d_Model_isLetter_25 (by decide) ?_
          refine z_icmp_eq (tgt := 36) d_Model_isLetter_27 (by decide) (fun c5 => ?_) (fun c5 => ?_)
          · have h := (if_pos c5).symm.trans h
            refine z_iconst (v := 1) d_Model_isLetter_36 (by decide) ?_
            refine z_goto (tgt := 41) d_Model_isLetter_37 (by decide) ?_
            exact z_zret d_Model_isLetter_41 (by decide) h
          · have h := (if_neg c5).symm.trans h
            refine z_iload_n 0 d_Model_isLetter_30 rfl rfl ?_
            refine z_bipush (v := 111) d_Model_isLetter_31 (by decide) ?_
            refine z_icmp_ne (tgt := 40) d_Model_isLetter_33 (by decide) (fun c6 => ?_) (fun c6 => ?_)
            · have h := (if_neg c6).symm.trans h
              refine z_iconst (v := 0) d_Model_isLetter_40 (by decide) ?_
              exact z_zret d_Model_isLetter_41 (by decide) h
            · have h := (if_pos c6).symm.trans h
              refine z_iconst (v := 1) d_Model_isLetter_36 (by decide) ?_
              refine z_goto (tgt := 41) d_Model_isLetter_37 (by decide) ?_
              exact z_zret d_Model_isLetter_41 (by decide) h
theorem d_Model_readsTest_0 : decode b_Model_readsTest 0 = .ok (.aload_n 0, 1) := by decide +kernel
theorem d_Model_readsTest_1 : decode b_Model_readsTest 1 = .ok (.invokevirtual 81, 3) := by decide +kernel
theorem d_Model_readsTest_4 : decode b_Model_readsTest 4 = .ok (.istore_n 1, 1) := by decide +kernel
theorem d_Model_readsTest_5 : decode b_Model_readsTest 5 = .ok (.iload_n 1, 1) := by decide +kernel
theorem d_Model_readsTest_6 : decode b_Model_readsTest 6 = .ok (.invokestatic 105, 3) := by decide +kernel
theorem d_Model_readsTest_9 : decode b_Model_readsTest 9 = .ok (.ifCond .ne (10), 3) := by decide +kernel
theorem d_Model_readsTest_12 : decode b_Model_readsTest 12 = .ok (.aload_n 0, 1) := by decide +kernel
theorem d_Model_readsTest_13 : decode b_Model_readsTest 13 = .ok (.iconst (1), 1) := by decide +kernel
theorem d_Model_readsTest_14 : decode b_Model_readsTest 14 = .ok (.putfield 77, 3) := by decide +kernel
theorem d_Model_readsTest_17 : decode b_Model_readsTest 17 = .ok (.iconst (0), 1) := by decide +kernel
theorem d_Model_readsTest_18 : decode b_Model_readsTest 18 = .ok (.ireturn, 1) := by decide +kernel
theorem d_Model_readsTest_19 : decode b_Model_readsTest 19 = .ok (.aload_n 0, 1) := by decide +kernel
theorem d_Model_readsTest_20 : decode b_Model_readsTest 20 = .ok (.dup, 1) := by decide +kernel
theorem d_Model_readsTest_21 : decode b_Model_readsTest 21 = .ok (.getfield 68, 3) := by decide +kernel
theorem d_Model_readsTest_24 : decode b_Model_readsTest 24 = .ok (.iconst (1), 1) := by decide +kernel
theorem d_Model_readsTest_25 : decode b_Model_readsTest 25 = .ok (.iadd, 1) := by decide +kernel
theorem d_Model_readsTest_26 : decode b_Model_readsTest 26 = .ok (.putfield 68, 3) := by decide +kernel
theorem d_Model_readsTest_29 : decode b_Model_readsTest 29 = .ok (.aload_n 0, 1) := by decide +kernel
theorem d_Model_readsTest_30 : decode b_Model_readsTest 30 = .ok (.invokevirtual 81, 3) := by decide +kernel
theorem d_Model_readsTest_33 : decode b_Model_readsTest 33 = .ok (.istore_n 2, 1) := by decide +kernel
theorem d_Model_readsTest_34 : decode b_Model_readsTest 34 = .ok (.iload_n 2, 1) := by decide +kernel
theorem d_Model_readsTest_35 : decode b_Model_readsTest 35 = .ok (.bipush (60), 2) := by decide +kernel
theorem d_Model_readsTest_37 : decode b_Model_readsTest 37 = .ok (.if_icmp .eq (22), 3) := by decide +kernel
theorem d_Model_readsTest_40 : decode b_Model_readsTest 40 = .ok (.iload_n 2, 1) := by decide +kernel
theorem d_Model_readsTest_41 : decode b_Model_readsTest 41 = .ok (.bipush (61), 2) := by decide +kernel
theorem d_Model_readsTest_43 : decode b_Model_readsTest 43 = .ok (.if_icmp .eq (16), 3) := by decide +kernel
theorem d_Model_readsTest_46 : decode b_Model_readsTest 46 = .ok (.iload_n 2, 1) := by decide +kernel
theorem d_Model_readsTest_47 : decode b_Model_readsTest 47 = .ok (.bipush (62), 2) := by decide +kernel
theorem d_Model_readsTest_49 : decode b_Model_readsTest 49 = .ok (.if_icmp .eq (10), 3) := by decide +kernel
theorem d_Model_readsTest_52 : decode b_Model_readsTest 52 = .ok (.aload_n 0, 1) := by decide +kernel
theorem d_Model_readsTest_53 : decode b_Model_readsTest 53 = .ok (.iconst (1), 1) := by decide +kernel
theorem d_Model_readsTest_54 : decode b_Model_readsTest 54 = .ok (.putfield 77, 3) := by decide +kernel
theorem d_Model_readsTest_57 : decode b_Model_readsTest 57 = .ok (.iconst (0), 1) := by decide +kernel
theorem d_Model_readsTest_58 : decode b_Model_readsTest 58 = .ok (.ireturn, 1) := by decide +kernel
theorem d_Model_readsTest_59 : decode b_Model_readsTest 59 = .ok (.aload_n 0, 1) := by decide +kernel
theorem d_Model_readsTest_60 : decode b_Model_readsTest 60 = .ok (.dup, 1) := by decide +kernel
theorem d_Model_readsTest_61 : decode b_Model_readsTest 61 = .ok (.getfield 68, 3) := by decide +kernel
theorem d_Model_readsTest_64 : decode b_Model_readsTest 64 = .ok (.iconst (1), 1) := by decide +kernel
theorem d_Model_readsTest_65 : decode b_Model_readsTest 65 = .ok (.iadd, 1) := by decide +kernel
theorem d_Model_readsTest_66 : decode b_Model_readsTest 66 = .ok (.putfield 68, 3) := by decide +kernel
theorem d_Model_readsTest_69 : decode b_Model_readsTest 69 = .ok (.aload_n 0, 1) := by decide +kernel
theorem d_Model_readsTest_70 : decode b_Model_readsTest 70 = .ok (.invokevirtual 109, 3) := by decide +kernel
theorem d_Model_readsTest_73 : decode b_Model_readsTest 73 = .ok (.istore_n 3, 1) := by decide +kernel
theorem d_Model_readsTest_74 : decode b_Model_readsTest 74 = .ok (.aload_n 0, 1) := by decide +kernel
theorem d_Model_readsTest_75 : decode b_Model_readsTest 75 = .ok (.getfield 77, 3) := by decide +kernel
theorem d_Model_readsTest_78 : decode b_Model_readsTest 78 = .ok (.ifCond .ne (12), 3) := by decide +kernel
theorem d_Model_readsTest_81 : decode b_Model_readsTest 81 = .ok (.aload_n 0, 1) := by decide +kernel
theorem d_Model_readsTest_82 : decode b_Model_readsTest 82 = .ok (.getfield 11, 3) := by decide +kernel
theorem d_Model_readsTest_85 : decode b_Model_readsTest 85 = .ok (.iconst (5), 1) := by decide +kernel
theorem d_Model_readsTest_86 : decode b_Model_readsTest 86 = .ok (.iaload, 1) := by decide +kernel
theorem d_Model_readsTest_87 : decode b_Model_readsTest 87 = .ok (.ifCond .ne (5), 3) := by decide +kernel
theorem d_Model_readsTest_90 : decode b_Model_readsTest 90 = .ok (.iconst (0), 1) := by decide +kernel
theorem d_Model_readsTest_91 : decode b_Model_readsTest 91 = .ok (.ireturn, 1) := by decide +kernel
theorem d_Model_readsTest_92 : decode b_Model_readsTest 92 = .ok (.aload_n 0, 1) := by decide +kernel
theorem d_Model_readsTest_93 : decode b_Model_readsTest 93 = .ok (.iload_n 1, 1) := by decide +kernel
theorem d_Model_readsTest_94 : decode b_Model_readsTest 94 = .ok (.invokevirtual 112, 3) := by decide +kernel
theorem d_Model_readsTest_97 : decode b_Model_readsTest 97 = .ok (.istore 4, 2) := by decide +kernel
theorem d_Model_readsTest_99 : decode b_Model_readsTest 99 = .ok (.iload_n 2, 1) := by decide +kernel
theorem d_Model_readsTest_100 : decode b_Model_readsTest 100 = .ok (.bipush (60), 2) := by decide +kernel
theorem d_Model_readsTest_102 : decode b_Model_readsTest 102 = .ok (.if_icmp .ne (17), 3) := by decide +kernel
theorem d_Model_readsTest_105 : decode b_Model_readsTest 105 = .ok (.iload 4, 2) := by decide +kernel
theorem d_Model_readsTest_107 : decode b_Model_readsTest 107 = .ok (.iload_n 3, 1) := by decide +kernel
theorem d_Model_readsTest_108 : decode b_Model_readsTest 108 = .ok (.if_icmp .ge (7), 3) := by decide +kernel
theorem d_Model_readsTest_111 : decode b_Model_readsTest 111 = .ok (.iconst (1), 1) := by decide +kernel
theorem d_Model_readsTest_112 : decode b_Model_readsTest 112 = .ok (.goto (38), 3) := by decide +kernel
theorem d_Model_readsTest_115 : decode b_Model_readsTest 115 = .ok (.iconst (0), 1) := by decide +kernel
theorem d_Model_readsTest_116 : decode b_Model_readsTest 116 = .ok (.goto (34), 3) := by decide +kernel
theorem d_Model_readsTest_119 : decode b_Model_readsTest 119 = .ok (.iload_n 2, 1) := by decide +kernel
theorem d_Model_readsTest_120 : decode b_Model_readsTest 120 = .ok (.bipush (61), 2) := by decide +kernel
theorem d_Model_readsTest_122 : decode b_Model_readsTest 122 = .ok (.if_icmp .ne (17), 3) := by decide +kernel
theorem d_Model_readsTest_125 : decode b_Model_readsTest 125 = .ok (.iload 4, 2) := by decide +kernel
theorem d_Model_readsTest_127 : decode b_Model_readsTest 127 = .ok (.iload_n 3, 1) := by decide +kernel
theorem d_Model_readsTest_128 : decode b_Model_readsTest 128 = .ok (.if_icmp .ne (7), 3) := by decide +kernel
theorem d_Model_readsTest_131 : decode b_Model_readsTest 131 = .ok (.iconst (1), 1) := by decide +kernel
theorem d_Model_readsTest_132 : decode b_Model_readsTest 132 = .ok (.goto (18), 3) := by decide +kernel
theorem d_Model_readsTest_135 : decode b_Model_readsTest 135 = .ok (.iconst (0), 1) := by decide +kernel
theorem d_Model_readsTest_136 : decode b_Model_readsTest 136 = .ok (.goto (14), 3) := by decide +kernel
theorem d_Model_readsTest_139 : decode b_Model_readsTest 139 = .ok (.iload 4, 2) := by decide +kernel
theorem d_Model_readsTest_141 : decode b_Model_readsTest 141 = .ok (.iload_n 3, 1) := by decide +kernel
theorem d_Model_readsTest_142 : decode b_Model_readsTest 142 = .ok (.if_icmp .le (7), 3) := by decide +kernel
theorem d_Model_readsTest_145 : decode b_Model_readsTest 145 = .ok (.iconst (1), 1) := by decide +kernel
theorem d_Model_readsTest_146 : decode b_Model_readsTest 146 = .ok (.goto (4), 3) := by decide +kernel
theorem d_Model_readsTest_149 : decode b_Model_readsTest 149 = .ok (.iconst (0), 1) := by decide +kernel
theorem d_Model_readsTest_150 : decode b_Model_readsTest 150 = .ok (.ireturn, 1) := by decide +kernel
theorem zb_Model_readsTest_59 {l : Launch} {θ : ZT} {res : Int32 × ZM} {x1 : Int32} {x2 : Int32} {σ : ZM} (h : f_Model_readsTest_59 x1 x2 σ = some res) : WZ l b_Model_readsTest 5 (some .boolean) "BakedBeforeModel" 129 14 θ (zrm 4 124) (zQ mkI 129 14 θ res) σ [(0, .ref (za θ 129)), (1, .int x1), (2, .int x2)] 59 [] := by
  unfold f_Model_readsTest_59 at h
  refine z_aload_n 0 d_Model_readsTest_59 rfl rfl ?_
  refine z_dup d_Model_readsTest_60 rfl ?_
  refine gf_Model_at zl_129 d_Model_readsTest_61 q_882 ?_
  refine z_iconst (v := 1) d_Model_readsTest_64 (by decide) ?_
  refine z_iadd d_Model_readsTest_65 ?_
  refine pf_Model_at zl_129 d_Model_readsTest_66 q_882 ?_
  refine z_aload_n 0 d_Model_readsTest_69 rfl rfl ?_
  obtain ⟨⟨v1, s2⟩, e3, h⟩ := zbd_i h
  refine w_callV (As := []) (kc := 22) (ci := 12) (c_Model_readsNumber l θ e3) cf_Model_readsNumber q_1002 d_Model_readsTest_70 zl_129 rfl rfl rfl rfl rfl rfl (Nat.le_of_ble_eq_true rfl) rfl rfl ⟨Nat.le_of_ble_eq_true rfl, Nat.le_of_ble_eq_true rfl⟩ ?_
  refine z_istore_n d_Model_readsTest_73 rfl (by decide) rfl ?_
  refine z_aload_n 1 d_Model_readsTest_74 rfl rfl ?_
  refine gf_Model_wrong zl_129 d_Model_readsTest_75 q_885 ?_
  refine z_if_ne (tgt := 90) d_Model_readsTest_78 (by decide) (fun c4 => ?_) (fun c4 => ?_)
  · have h := (if_neg c4).symm.trans h
    refine z_iconst (v := 0) d_Model_readsTest_90 (by decide) ?_
    exact z_zret d_Model_readsTest_91 (by decide) h
  · have h := (if_pos c4).symm.trans h
    refine z_aload_n 1 d_Model_readsTest_81 rfl rfl ?_
    refine gf_Model_s zl_129 d_Model_readsTest_82 q_871 ?_
    refine z_iconst (v := 5) d_Model_readsTest_85 (by decide) ?_
    obtain ⟨c5, h⟩ := zck_i h
    refine w_iald zl_130 c5 d_Model_readsTest_86 ?_
    refine z_if_ne (tgt := 92) d_Model_readsTest_87 (by decide) (fun c6 => ?_) (fun c6 => ?_)
    · have h := (if_neg c6).symm.trans h
      refine z_aload_n 1 d_Model_readsTest_92 rfl rfl ?_
      refine z_iload_n 2 d_Model_readsTest_93 rfl rfl ?_
      obtain ⟨⟨v7, s8⟩, e9, h⟩ := zbd_i h
      refine w_callV (As := [.int x1]) (kc := 22) (ci := 12) (c_Model_valueOf l θ e9) cf_Model_valueOf q_1029 d_Model_readsTest_94 zl_129 rfl rfl rfl rfl rfl rfl (Nat.le_of_ble_eq_true rfl) rfl rfl ⟨Nat.le_of_ble_eq_true rfl, Nat.le_of_ble_eq_true rfl⟩ ?_
      refine z_istore d_Model_readsTest_97 (by decide) rfl ?_
      refine z_iload_n 4 d_Model_readsTest_99 rfl rfl ?_
      refine z_bipush (v := 60) d_Model_readsTest_100 (by decide) ?_
      refine z_icmp_ne (tgt := 119) d_Model_readsTest_102 (by decide) (fun c10 => ?_) (fun c10 => ?_)
      · have h := (if_neg c10).symm.trans h
        refine z_iload_n 4 d_Model_readsTest_119 rfl rfl ?_
        refine z_bipush (v := 61) d_Model_readsTest_120 (by decide) ?_
        refine z_icmp_ne (tgt := 139) d_Model_readsTest_122 (by decide) (fun c11 => ?_) (fun c11 => ?_)
        · have h := (if_neg c11).symm.trans h
          refine z_iload 0 d_Model_readsTest_139 rfl ?_
          refine z_iload_n 1 d_Model_readsTest_141 rfl rfl ?_
          refine z_icmp_le (tgt := 149) d_Model_readsTest_142 (by decide) (fun c12 => ?_) (fun c12 => ?_)
          · have h := (if_pos c12).symm.trans h
            refine z_iconst (v := 0) d_Model_readsTest_149 (by decide) ?_
            exact z_zret d_Model_readsTest_150 (by decide) h
          · have h := (if_neg c12).symm.trans h
            refine z_iconst (v := 1) d_Model_readsTest_145 (by decide) ?_
            refine z_goto (tgt := 150) d_Model_readsTest_146 (by decide) ?_
            exact z_zret d_Model_readsTest_150 (by decide) h
        · have h := (if_pos c11).symm.trans h
          refine z_iload 0 d_Model_readsTest_125 rfl ?_
          refine z_iload_n 1 d_Model_readsTest_127 rfl rfl ?_
          refine z_icmp_ne (tgt := 135) d_Model_readsTest_128 (by decide) (fun c13 => ?_) (fun c13 => ?_)
          · have h := (if_neg c13).symm.trans h
            refine z_iconst (v := 0) d_Model_readsTest_135 (by decide) ?_
            refine z_goto (tgt := 150) d_Model_readsTest_136 (by decide) ?_
            exact z_zret d_Model_readsTest_150 (by decide) h
          · have h := (if_pos c13).symm.trans h
            refine z_iconst (v := 1) d_Model_readsTest_131 (by decide) ?_
            refine z_goto (tgt := 150) d_Model_readsTest_132 (by decide) ?_
            exact z_zret d_Model_readsTest_150 (by decide) h
      · have h := (if_pos c10).symm.trans h
        refine z_iload 0 d_Model_readsTest_105 rfl ?_
        refine z_iload_n 1 d_Model_readsTest_107 rfl rfl ?_
        refine z_icmp_ge (tgt := 115) d_Model_readsTest_108 (by decide) (fun c14 => ?_) (fun c14 => ?_)
        · have h := (if_pos c14).symm.trans h
          refine z_iconst (v := 0) d_Model_readsTest_115 (by decide) ?_
          refine z_goto (tgt := 150) d_Model_readsTest_116 (by decide) ?_
          exact z_zret d_Model_readsTest_150 (by decide) h
        · have h := (if_neg c14).symm.trans h
          refine z_iconst (v := 1) d_Model_readsTest_111 (by decide) ?_
          refine z_goto (tgt := 150) d_Model_readsTest_112 (by decide) ?_
          exact z_zret d_Model_readsTest_150 (by decide) h
    · have h := (if_pos c6).symm.trans h
      refine z_iconst (v := 0) d_Model_readsTest_90 (by decide) ?_
      exact z_zret d_Model_readsTest_91 (by decide) h
theorem c_Model_readsTest (l : Launch) (θ : ZT)  {σ : ZM} {res : Int32 × ZM} (h : f_Model_readsTest σ = some res) : zMet mkI l 129 14 θ y_Model_readsTest b_Model_readsTest 5 (some .boolean) (zrm 4 124) [.ref (za θ 129)] σ res := by
  unfold f_Model_readsTest at h
  refine z_met (lv := [(0, .ref (za θ 129))]) (by decide +kernel) rfl (Nat.le_of_ble_eq_true rfl) (by decide) ?_
  refine z_aload_n 0 d_Model_readsTest_0 rfl rfl ?_
  obtain ⟨⟨v1, s2⟩, e3, h⟩ := zbd_i h
  refine w_callV (As := []) (kc := 22) (ci := 12) (c_Model_here l θ e3) cf_Model_here q_984 d_Model_readsTest_1 zl_129 rfl rfl rfl rfl rfl rfl (Nat.le_of_ble_eq_true rfl) rfl rfl ⟨Nat.le_of_ble_eq_true rfl, Nat.le_of_ble_eq_true rfl⟩ ?_
  refine z_istore_n d_Model_readsTest_4 rfl (by decide) rfl ?_
  refine z_iload_n 0 d_Model_readsTest_5 rfl rfl ?_
  obtain ⟨⟨v4, s5⟩, e6, h⟩ := zbd_i h
  refine w_callS (As := [.int v1]) (c_Model_isLetter l θ e6) cf_Model_isLetter q_1026 d_Model_readsTest_6 rfl rfl rfl (Nat.le_of_ble_eq_true rfl) rfl rfl ⟨Nat.le_of_ble_eq_true rfl, Nat.le_of_ble_eq_true rfl⟩ ?_
  refine z_if_ne (tgt := 19) d_Model_readsTest_9 (by decide) (fun c7 => ?_) (fun c7 => ?_)
  · have h := (if_neg c7).symm.trans h
    refine z_aload_n 1 d_Model_readsTest_19 rfl rfl ?_
    refine z_dup d_Model_readsTest_20 rfl ?_
    refine gf_Model_at zl_129 d_Model_readsTest_21 q_882 ?_
    refine z_iconst (v := 1) d_Model_readsTest_24 (by decide) ?_
    refine z_iadd d_Model_readsTest_25 ?_
    refine pf_Model_at zl_129 d_Model_readsTest_26 q_882 ?_
    refine z_aload_n 1 d_Model_readsTest_29 rfl rfl ?_
    obtain ⟨⟨v8, s9⟩, e10, h⟩ := zbd_i h
    refine w_callV (As := []) (kc := 22) (ci := 12) (c_Model_here l θ e10) cf_Model_here q_984 d_Model_readsTest_30 zl_129 rfl rfl rfl rfl rfl rfl (Nat.le_of_ble_eq_true rfl) rfl rfl ⟨Nat.le_of_ble_eq_true rfl, Nat.le_of_ble_eq_true rfl⟩ ?_
    refine z_istore_n d_Model_readsTest_33 rfl (by decide) rfl ?_
    refine z_iload_n 0 d_Model_readsTest_34 rfl rfl ?_
    refine z_bipush (v := 60) d_Model_readsTest_35 (by decide) ?_
    refine z_icmp_eq (tgt := 59) d_Model_readsTest_37 (by decide) (fun c11 => ?_) (fun c11 => ?_)
    · have h := (if_pos c11).symm.trans h
      refine z_sub [2, 1, 0] rfl ?_
      exact zb_Model_readsTest_59 h
    · have h := (if_neg c11).symm.trans h
      refine z_iload_n 0 d_Model_readsTest_40 rfl rfl ?_
      refine z_bipush (v := 61) d_Model_readsTest_41 (by decide) ?_
      refine z_icmp_eq (tgt := 59) d_Model_readsTest_43 (by decide) (fun c12 => ?_) (fun c12 => ?_)
      · have h := (if_pos c12).symm.trans h
        refine z_sub [2, 1, 0] rfl ?_
        exact zb_Model_readsTest_59 h
      · have h := (if_neg c12).symm.trans h
        refine z_iload_n 0 d_Model_readsTest_46 rfl rfl ?_
        refine z_bipush (v := 62) d_Model_readsTest_47 (by decide) ?_
        refine z_icmp_eq (tgt := 59) d_Model_readsTest_49 (by decide) (fun c13 => ?_) (fun c13 => ?_)
        · have h := (if_pos c13).symm.trans h
          refine z_sub [2, 1, 0] rfl ?_
          exact zb_Model_readsTest_59 h
        · have h := (if_neg c13).symm.trans h
          refine z_aload_n 2 d_Model_readsTest_52 rfl rfl ?_
          refine z_iconst (v := 1) d_Model_readsTest_53 (by decide) ?_
          refine pf_Model_wrong zl_129 (by decide) d_Model_readsTest_54 q_885 ?_
          refine z_iconst (v := 0) d_Model_readsTest_57 (by decide) ?_
          exact z_zret d_Model_readsTest_58 (by decide) h
  · have h := (if_pos c7).symm.trans h
    refine z_aload_n 1 d_Model_readsTest_12 rfl rfl ?_
    refine z_iconst (v := 1) d_Model_readsTest_13 (by decide) ?_
    refine pf_Model_wrong zl_129 (by decide) d_Model_readsTest_14 q_885 ?_
    refine z_iconst (v := 0) d_Model_readsTest_17 (by decide) ?_
    exact z_zret d_Model_readsTest_18 (by decide) h
theorem d_Model_readsT_0 : decode b_Model_readsT 0 = .ok (.aload_n 0, 1) := by decide +kernel
theorem d_Model_readsT_1 : decode b_Model_readsT 1 = .ok (.iload_n 1, 1) := by decide +kernel
theorem d_Model_readsT_2 : decode b_Model_readsT 2 = .ok (.invokevirtual 118, 3) := by decide +kernel
theorem d_Model_readsT_5 : decode b_Model_readsT 5 = .ok (.istore_n 2, 1) := by decide +kernel
theorem d_Model_readsT_6 : decode b_Model_readsT 6 = .ok (.aload_n 0, 1) := by decide +kernel
theorem d_Model_readsT_7 : decode b_Model_readsT 7 = .ok (.getfield 77, 3) := by decide +kernel
theorem d_Model_readsT_10 : decode b_Model_readsT 10 = .ok (.ifCond .ne (45), 3) := by decide +kernel
theorem d_Model_readsT_13 : decode b_Model_readsT 13 = .ok (.aload_n 0, 1) := by decide +kernel
theorem d_Model_readsT_14 : decode b_Model_readsT 14 = .ok (.invokevirtual 81, 3) := by decide +kernel
theorem d_Model_readsT_17 : decode b_Model_readsT 17 = .ok (.bipush (38), 2) := by decide +kernel
theorem d_Model_readsT_19 : decode b_Model_readsT 19 = .ok (.if_icmp .ne (36), 3) := by decide +kernel
theorem d_Model_readsT_22 : decode b_Model_readsT 22 = .ok (.aload_n 0, 1) := by decide +kernel
theorem d_Model_readsT_23 : decode b_Model_readsT 23 = .ok (.dup, 1) := by decide +kernel
theorem d_Model_readsT_24 : decode b_Model_readsT 24 = .ok (.getfield 68, 3) := by decide +kernel
theorem d_Model_readsT_27 : decode b_Model_readsT 27 = .ok (.iconst (1), 1) := by decide +kernel
theorem d_Model_readsT_28 : decode b_Model_readsT 28 = .ok (.iadd, 1) := by decide +kernel
theorem d_Model_readsT_29 : decode b_Model_readsT 29 = .ok (.putfield 68, 3) := by decide +kernel
theorem d_Model_readsT_32 : decode b_Model_readsT 32 = .ok (.aload_n 0, 1) := by decide +kernel
theorem d_Model_readsT_33 : decode b_Model_readsT 33 = .ok (.iload_n 1, 1) := by decide +kernel
theorem d_Model_readsT_34 : decode b_Model_readsT 34 = .ok (.invokevirtual 118, 3) := by decide +kernel
theorem d_Model_readsT_37 : decode b_Model_readsT 37 = .ok (.istore_n 3, 1) := by decide +kernel
theorem d_Model_readsT_38 : decode b_Model_readsT 38 = .ok (.iload_n 2, 1) := by decide +kernel
theorem d_Model_readsT_39 : decode b_Model_readsT 39 = .ok (.ifCond .eq (11), 3) := by decide +kernel
theorem d_Model_readsT_42 : decode b_Model_readsT 42 = .ok (.iload_n 3, 1) := by decide +kernel
theorem d_Model_readsT_43 : decode b_Model_readsT 43 = .ok (.ifCond .eq (7), 3) := by decide +kernel
theorem d_Model_readsT_46 : decode b_Model_readsT 46 = .ok (.iconst (1), 1) := by decide +kernel
theorem d_Model_readsT_47 : decode b_Model_readsT 47 = .ok (.goto (4), 3) := by decide +kernel
theorem d_Model_readsT_50 : decode b_Model_readsT 50 = .ok (.iconst (0), 1) := by decide +kernel
theorem d_Model_readsT_51 : decode b_Model_readsT 51 = .ok (.istore_n 2, 1) := by decide +kernel
theorem d_Model_readsT_52 : decode b_Model_readsT 52 = .ok (.goto (-46), 3) := by decide +kernel
theorem d_Model_readsT_55 : decode b_Model_readsT 55 = .ok (.iload_n 2, 1) := by decide +kernel
theorem d_Model_readsT_56 : decode b_Model_readsT 56 = .ok (.ireturn, 1) := by decide +kernel
theorem zb_Model_readsT_51 {l : Launch} {θ : ZT} {res : Int32 × ZM} {rec : Int32 × ZM → Option (Int32 × ZM)} (n : Nat) (hrec : ∀ (a : Int32 × ZM) (r : Int32 × ZM), rec a = some r → zMet mkI l 129 14 θ y_Model_readsF b_Model_readsF 4 (some .boolean) (zrm (5 + 3 * n) (148 + 69 * n)) [.ref (za θ 129), .int a.1] a.2 r) {k6 : Int32 × Int32 × ZM → Option (Int32 × ZM)} (hk6 : ∀ a : Int32 × Int32 × ZM, k6 a = some res → WZ l b_Model_readsT 4 (some .boolean) "BakedBeforeModel" 129 14 θ (zrm (6 + 3 * n) (171 + 69 * n)) (zQ mkI 129 14 θ res) a.2.2 [(0, .ref (za θ 129)), (1, .int a.1), (2, .int a.2.1)] 6 []) {x1 : Int32} {y0 : Int32} {σ : ZM} (h : f_Model_readsT_51 rec k6 x1 y0 σ = some res) : WZ l b_Model_readsT 4 (some .boolean) "BakedBeforeModel" 129 14 θ (zrm (6 + 3 * n) (171 + 69 * n)) (zQ mkI 129 14 θ res) σ [(0, .ref (za θ 129)), (1, .int x1)] 51 [.int y0] := by
  unfold f_Model_readsT_51 at h
  refine z_istore_n d_Model_readsT_51 rfl (by decide) rfl ?_
  refine z_goto (tgt := 6) d_Model_readsT_52 (by decide) ?_
  refine z_sub [1, 2, 0] rfl ?_
  exact hk6 (x1, y0, σ) h
theorem zb_Model_readsT_50 {l : Launch} {θ : ZT} {res : Int32 × ZM} {rec : Int32 × ZM → Option (Int32 × ZM)} (n : Nat) (hrec : ∀ (a : Int32 × ZM) (r : Int32 × ZM), rec a = some r → zMet mkI l 129 14 θ y_Model_readsF b_Model_readsF 4 (some .boolean) (zrm (5 + 3 * n) (148 + 69 * n)) [.ref (za θ 129), .int a.1] a.2 r) {k6 : Int32 × Int32 × ZM → Option (Int32 × ZM)} (hk6 : ∀ a : Int32 × Int32 × ZM, k6 a = some res → WZ l b_Model_readsT 4 (some .boolean) "BakedBeforeModel" 129 14 θ (zrm (6 + 3 * n) (171 + 69 * n)) (zQ mkI 129 14 θ res) a.2.2 [(0, .ref (za θ 129)), (1, .int a.1), (2, .int a.2.1)] 6 []) {x1 : Int32} {σ : ZM} (h : f_Model_readsT_50 rec k6 x1 σ = some res) : WZ l b_Model_readsT 4 (some .boolean) "BakedBeforeModel" 129 14 θ (zrm (6 + 3 * n) (171 + 69 * n)) (zQ mkI 129 14 θ res) σ [(0, .ref (za θ 129)), (1, .int x1)] 50 [] := by
  unfold f_Model_readsT_50 at h
  refine z_iconst (v := 0) d_Model_readsT_50 (by decide) ?_
  exact zb_Model_readsT_51 n hrec hk6 h
theorem zb_Model_readsT_6 {l : Launch} {θ : ZT} {res : Int32 × ZM} {rec : Int32 × ZM → Option (Int32 × ZM)} (n : Nat) (hrec : ∀ (a : Int32 × ZM) (r : Int32 × ZM), rec a = some r → zMet mkI l 129 14 θ y_Model_readsF b_Model_readsF 4 (some .boolean) (zrm (5 + 3 * n) (148 + 69 * n)) [.ref (za θ 129), .int a.1] a.2 r) {k6 : Int32 × Int32 × ZM → Option (Int32 × ZM)} (hk6 : ∀ a : Int32 × Int32 × ZM, k6 a = some res → WZ l b_Model_readsT 4 (some .boolean) "BakedBeforeModel" 129 14 θ (zrm (6 + 3 * n) (171 + 69 * n)) (zQ mkI 129 14 θ res) a.2.2 [(0, .ref (za θ 129)), (1, .int a.1), (2, .int a.2.1)] 6 []) {x1 : Int32} {x2 : Int32} {σ : ZM} (h : f_Model_readsT_6 rec k6 x1 x2 σ = some res) : WZ l b_Model_readsT 4 (some .boolean) "BakedBeforeModel" 129 14 θ (zrm (6 + 3 * n) (171 + 69 * n)) (zQ mkI 129 14 θ res) σ [(0, .ref (za θ 129)), (1, .int x1), (2, .int x2)] 6 [] := by
  unfold f_Model_readsT_6 at h
  refine z_aload_n 0 d_Model_readsT_6 rfl rfl ?_
  refine gf_Model_wrong zl_129 d_Model_readsT_7 q_885 ?_
  refine z_if_ne (tgt := 55) d_Model_readsT_10 (by decide) (fun c1 => ?_) (fun c1 => ?_)
  · have h := (if_neg c1).symm.trans h
    refine z_iload_n 2 d_Model_readsT_55 rfl rfl ?_
    obtain ⟨c2, h⟩ := zck_i h
    exact z_zret d_Model_readsT_56 c2 h
  · have h := (if_pos c1).symm.trans h
    refine z_aload_n 0 d_Model_readsT_13 rfl rfl ?_
    obtain ⟨⟨v3, s4⟩, e5, h⟩ := zbd_i h
    refine w_callV (As := []) (kc := 22) (ci := 12) (c_Model_here l θ e5) cf_Model_here q_984 d_Model_readsT_14 zl_129 rfl rfl rfl rfl rfl rfl (Nat.le_of_ble_eq_true rfl) rfl rfl ⟨by simp only [zrm]; omega, by simp only [zrm]; omega⟩ ?_
    refine z_bipush (v := 38) d_Model_readsT_17 (by decide) ?_
    refine z_icmp_ne (tgt := 55) d_Model_readsT_19 (by decide) (fun c6 => ?_) (fun c6 => ?_)
    · have h := (if_neg c6).symm.trans h
      refine z_iload_n 2 d_Model_readsT_55 rfl rfl ?_
      obtain ⟨c7, h⟩ := zck_i h
      exact z_zret d_Model_readsT_56 c7 h
    · have h := (if_pos c6).symm.trans h
      refine z_aload_n 0 d_Model_readsT_22 rfl rfl ?_
      refine z_dup d_Model_readsT_23 rfl ?_
      refine gf_Model_at zl_129 d_Model_readsT_24 q_882 ?_
      refine z_iconst (v := 1) d_Model_readsT_27 (by decide) ?_
      refine z_iadd d_Model_readsT_28 ?_
      refine pf_Model_at zl_129 d_Model_readsT_29 q_882 ?_
      refine z_aload_n 0 d_Model_readsT_32 rfl rfl ?_
      refine z_iload_n 1 d_Model_readsT_33 rfl rfl ?_
      obtain ⟨⟨v8, s9⟩, e10, h⟩ := zbd_i h
      refine w_callV (As := [.int x1]) (kc := 22) (ci := 12) (hrec (x1, (zsI s4 129 11 ((zI s4 129 11) + (1 : Int32)))) _ e10) cf_Model_readsF q_1018 d_Model_readsT_34 zl_129 rfl rfl rfl rfl rfl rfl (Nat.le_of_ble_eq_true rfl) rfl rfl ⟨by simp only [zrm]; omega, by simp only [zrm]; omega⟩ ?_
      refine z_istore_n d_Model_readsT_37 rfl (by decide) rfl ?_
      refine z_iload_n 3 d_Model_readsT_38 rfl rfl ?_
      refine z_if_eq (tgt := 50) d_Model_readsT_39 (by decide) (fun c11 => ?_) (fun c11 => ?_)
      · have h := (if_pos c11).symm.trans h
        refine z_sub [1, 2] rfl ?_
        exact zb_Model_readsT_50 n hrec hk6 h
      · have h := (if_neg c11).symm.trans h
        refine z_iload_n 0 d_Model_readsT_42 rfl rfl ?_
        refine z_if_eq (tgt := 50) d_Model_readsT_43 (by decide) (fun c12 => ?_) (fun c12 => ?_)
        · have h := (if_pos c12).symm.trans h
          refine z_sub [1, 2] rfl ?_
          exact zb_Model_readsT_50 n hrec hk6 h
        · have h := (if_neg c12).symm.trans h
          refine z_iconst (v := 1) d_Model_readsT_46 (by decide) ?_
          refine z_goto (tgt := 51) d_Model_readsT_47 (by decide) ?_
          refine z_sub [1, 2] rfl ?_
          exact zb_Model_readsT_51 n hrec hk6 h
theorem zl_Model_readsT_6 {l : Launch} {θ : ZT} {res : Int32 × ZM} {rec : Int32 × ZM → Option (Int32 × ZM)} (n : Nat) (hrec : ∀ (a : Int32 × ZM) (r : Int32 × ZM), rec a = some r → zMet mkI l 129 14 θ y_Model_readsF b_Model_readsF 4 (some .boolean) (zrm (5 + 3 * n) (148 + 69 * n)) [.ref (za θ 129), .int a.1] a.2 r) : ∀ (N : Nat) (a : Int32 × Int32 × ZM), F_Model_readsT_6 rec N a = some res → WZ l b_Model_readsT 4 (some .boolean) "BakedBeforeModel" 129 14 θ (zrm (6 + 3 * n) (171 + 69 * n)) (zQ mkI 129 14 θ res) a.2.2 [(0, .ref (za θ 129)), (1, .int a.1), (2, .int a.2.1)] 6 [] := by
  intro N
  induction N with
  | zero => intro a  h; cases (show (none : Option (Int32 × ZM)) = some res from h)
  | succ N ih => intro a  h; exact zb_Model_readsT_6 n hrec ih (show f_Model_readsT_6 rec (F_Model_readsT_6 rec N) a.1 a.2.1 a.2.2 = some res from h)
theorem c_Model_readsT (l : Launch) (θ : ZT) {rec : Int32 × ZM → Option (Int32 × ZM)} (n : Nat) (hrec : ∀ (a : Int32 × ZM) (r : Int32 × ZM), rec a = some r → zMet mkI l 129 14 θ y_Model_readsF b_Model_readsF 4 (some .boolean) (zrm (5 + 3 * n) (148 + 69 * n)) [.ref (za θ 129), .int a.1] a.2 r) {x1 : Int32} {σ : ZM} {res : Int32 × ZM} (h : f_Model_readsT rec x1 σ = some res) : zMet mkI l 129 14 θ y_Model_readsT b_Model_readsT 4 (some .boolean) (zrm (6 + 3 * n) (171 + 69 * n)) [.ref (za θ 129), .int x1] σ res := by
  unfold f_Model_readsT at h
  refine z_met (lv := [(0, .ref (za θ 129)), (1, .int x1)]) (by decide +kernel) rfl (Nat.le_of_ble_eq_true rfl) (by decide) ?_
  refine z_aload_n 0 d_Model_readsT_0 rfl rfl ?_
  refine z_iload_n 1 d_Model_readsT_1 rfl rfl ?_
  obtain ⟨⟨v1, s2⟩, e3, h⟩ := zbd_i h
  refine w_callV (As := [.int x1]) (kc := 22) (ci := 12) (hrec (x1, σ) _ e3) cf_Model_readsF q_1018 d_Model_readsT_2 zl_129 rfl rfl rfl rfl rfl rfl (Nat.le_of_ble_eq_true rfl) rfl rfl ⟨by simp only [zrm]; omega, by simp only [zrm]; omega⟩ ?_
  refine z_istore_n d_Model_readsT_5 rfl (by decide) rfl ?_
  refine z_sub [1, 2, 0] rfl ?_
  exact zl_Model_readsT_6 n hrec 2000 (x1, v1, s2) h
theorem d_Model_readsE_0 : decode b_Model_readsE 0 = .ok (.aload_n 0, 1) := by decide +kernel
theorem d_Model_readsE_1 : decode b_Model_readsE 1 = .ok (.iload_n 1, 1) := by decide +kernel
theorem d_Model_readsE_2 : decode b_Model_readsE 2 = .ok (.invokevirtual 127, 3) := by decide +kernel
theorem d_Model_readsE_5 : decode b_Model_readsE 5 = .ok (.istore_n 2, 1) := by decide +kernel
theorem d_Model_readsE_6 : decode b_Model_readsE 6 = .ok (.aload_n 0, 1) := by decide +kernel
theorem d_Model_readsE_7 : decode b_Model_readsE 7 = .ok (.getfield 77, 3) := by decide +kernel
theorem d_Model_readsE_10 : decode b_Model_readsE 10 = .ok (.ifCond .ne (45), 3) := by decide +kernel
theorem d_Model_readsE_13 : decode b_Model_readsE 13 = .ok (.aload_n 0, 1) := by decide +kernel
theorem d_Model_readsE_14 : decode b_Model_readsE 14 = .ok (.invokevirtual 81, 3) := by decide +kernel
theorem d_Model_readsE_17 : decode b_Model_readsE 17 = .ok (.bipush (124), 2) := by decide +kernel
theorem d_Model_readsE_19 : decode b_Model_readsE 19 = .ok (.if_icmp .ne (36), 3) := by decide +kernel
theorem d_Model_readsE_22 : decode b_Model_readsE 22 = .ok (.aload_n 0, 1) := by decide +kernel
theorem d_Model_readsE_23 : decode b_Model_readsE 23 = .ok (.dup, 1) := by decide +kernel
theorem d_Model_readsE_24 : decode b_Model_readsE 24 = .ok (.getfield 68, 3) := by decide +kernel
theorem d_Model_readsE_27 : decode b_Model_readsE 27 = .ok (.iconst (1), 1) := by decide +kernel
theorem d_Model_readsE_28 : decode b_Model_readsE 28 = .ok (.iadd, 1) := by decide +kernel
theorem d_Model_readsE_29 : decode b_Model_readsE 29 = .ok (.putfield 68, 3) := by decide +kernel
theorem d_Model_readsE_32 : decode b_Model_readsE 32 = .ok (.aload_n 0, 1) := by decide +kernel
theorem d_Model_readsE_33 : decode b_Model_readsE 33 = .ok (.iload_n 1, 1) := by decide +kernel
theorem d_Model_readsE_34 : decode b_Model_readsE 34 = .ok (.invokevirtual 127, 3) := by decide +kernel
theorem d_Model_readsE_37 : decode b_Model_readsE 37 = .ok (.istore_n 3, 1) := by decide +kernel
theorem d_Model_readsE_38 : decode b_Model_readsE 38 = .ok (.iload_n 2, 1) := by decide +kernel
theorem d_Model_readsE_39 : decode b_Model_readsE 39 = .ok (.ifCond .ne (7), 3) := by decide +kernel
theorem d_Model_readsE_42 : decode b_Model_readsE 42 = .ok (.iload_n 3, 1) := by decide +kernel
theorem d_Model_readsE_43 : decode b_Model_readsE 43 = .ok (.ifCond .eq (7), 3) := by decide +kernel
theorem d_Model_readsE_46 : decode b_Model_readsE 46 = .ok (.iconst (1), 1) := by decide +kernel
theorem d_Model_readsE_47 : decode b_Model_readsE 47 = .ok (.goto (4), 3) := by decide +kernel
theorem d_Model_readsE_50 : decode b_Model_readsE 50 = .ok (.iconst (0), 1) := by decide +kernel
theorem d_Model_readsE_51 : decode b_Model_readsE 51 = .ok (.istore_n 2, 1) := by decide +kernel
theorem d_Model_readsE_52 : decode b_Model_readsE 52 = .ok (.goto (-46), 3) := by decide +kernel
theorem d_Model_readsE_55 : decode b_Model_readsE 55 = .ok (.iload_n 2, 1) := by decide +kernel
theorem d_Model_readsE_56 : decode b_Model_readsE 56 = .ok (.ireturn, 1) := by decide +kernel
theorem zb_Model_readsE_51 {l : Launch} {θ : ZT} {res : Int32 × ZM} {rec : Int32 × ZM → Option (Int32 × ZM)} (n : Nat) (hrec : ∀ (a : Int32 × ZM) (r : Int32 × ZM), rec a = some r → zMet mkI l 129 14 θ y_Model_readsF b_Model_readsF 4 (some .boolean) (zrm (5 + 3 * n) (148 + 69 * n)) [.ref (za θ 129), .int a.1] a.2 r) {k6 : Int32 × Int32 × ZM → Option (Int32 × ZM)} (hk6 : ∀ a : Int32 × Int32 × ZM, k6 a = some res → WZ l b_Model_readsE 4 (some .boolean) "BakedBeforeModel" 129 14 θ (zrm (7 + 3 * n) (194 + 69 * n)) (zQ mkI 129 14 θ res) a.2.2 [(0, .ref (za θ 129)), (1, .int a.1), (2, .int a.2.1)] 6 []) {x1 : Int32} {y0 : Int32} {σ : ZM} (h : f_Model_readsE_51 rec k6 x1 y0 σ = some res) : WZ l b_Model_readsE 4 (some .boolean) "BakedBeforeModel" 129 14 θ (zrm (7 + 3 * n) (194 + 69 * n)) (zQ mkI 129 14 θ res) σ [(0, .ref (za θ 129)), (1, .int x1)] 51 [.int y0] := by
  unfold f_Model_readsE_51 at h
  refine z_istore_n d_Model_readsE_51 rfl (by decide) rfl ?_
  refine z_goto (tgt := 6) d_Model_readsE_52 (by decide) ?_
  refine z_sub [1, 2, 0] rfl ?_
  exact hk6 (x1, y0, σ) h
theorem zb_Model_readsE_46 {l : Launch} {θ : ZT} {res : Int32 × ZM} {rec : Int32 × ZM → Option (Int32 × ZM)} (n : Nat) (hrec : ∀ (a : Int32 × ZM) (r : Int32 × ZM), rec a = some r → zMet mkI l 129 14 θ y_Model_readsF b_Model_readsF 4 (some .boolean) (zrm (5 + 3 * n) (148 + 69 * n)) [.ref (za θ 129), .int a.1] a.2 r) {k6 : Int32 × Int32 × ZM → Option (Int32 × ZM)} (hk6 : ∀ a : Int32 × Int32 × ZM, k6 a = some res → WZ l b_Model_readsE 4 (some .boolean) "BakedBeforeModel" 129 14 θ (zrm (7 + 3 * n) (194 + 69 * n)) (zQ mkI 129 14 θ res) a.2.2 [(0, .ref (za θ 129)), (1, .int a.1), (2, .int a.2.1)] 6 []) {x1 : Int32} {σ : ZM} (h : f_Model_readsE_46 rec k6 x1 σ = some res) : WZ l b_Model_readsE 4 (some .boolean) "BakedBeforeModel" 129 14 θ (zrm (7 + 3 * n) (194 + 69 * n)) (zQ mkI 129 14 θ res) σ [(0, .ref (za θ 129)), (1, .int x1)] 46 [] := by
  unfold f_Model_readsE_46 at h
  refine z_iconst (v := 1) d_Model_readsE_46 (by decide) ?_
  refine z_goto (tgt := 51) d_Model_readsE_47 (by decide) ?_
  exact zb_Model_readsE_51 n hrec hk6 h
theorem zb_Model_readsE_6 {l : Launch} {θ : ZT} {res : Int32 × ZM} {rec : Int32 × ZM → Option (Int32 × ZM)} (n : Nat) (hrec : ∀ (a : Int32 × ZM) (r : Int32 × ZM), rec a = some r → zMet mkI l 129 14 θ y_Model_readsF b_Model_readsF 4 (some .boolean) (zrm (5 + 3 * n) (148 + 69 * n)) [.ref (za θ 129), .int a.1] a.2 r) {k6 : Int32 × Int32 × ZM → Option (Int32 × ZM)} (hk6 : ∀ a : Int32 × Int32 × ZM, k6 a = some res → WZ l b_Model_readsE 4 (some .boolean) "BakedBeforeModel" 129 14 θ (zrm (7 + 3 * n) (194 + 69 * n)) (zQ mkI 129 14 θ res) a.2.2 [(0, .ref (za θ 129)), (1, .int a.1), (2, .int a.2.1)] 6 []) {x1 : Int32} {x2 : Int32} {σ : ZM} (h : f_Model_readsE_6 rec k6 x1 x2 σ = some res) : WZ l b_Model_readsE 4 (some .boolean) "BakedBeforeModel" 129 14 θ (zrm (7 + 3 * n) (194 + 69 * n)) (zQ mkI 129 14 θ res) σ [(0, .ref (za θ 129)), (1, .int x1), (2, .int x2)] 6 [] := by
  unfold f_Model_readsE_6 at h
  refine z_aload_n 0 d_Model_readsE_6 rfl rfl ?_
  refine gf_Model_wrong zl_129 d_Model_readsE_7 q_885 ?_
  refine z_if_ne (tgt := 55) d_Model_readsE_10 (by decide) (fun c1 => ?_) (fun c1 => ?_)
  · have h := (if_neg c1).symm.trans h
    refine z_iload_n 2 d_Model_readsE_55 rfl rfl ?_
    obtain ⟨c2, h⟩ := zck_i h
    exact z_zret d_Model_readsE_56 c2 h
  · have h := (if_pos c1).symm.trans h
    refine z_aload_n 0 d_Model_readsE_13 rfl rfl ?_
    obtain ⟨⟨v3, s4⟩, e5, h⟩ := zbd_i h
    refine w_callV (As := []) (kc := 22) (ci := 12) (c_Model_here l θ e5) cf_Model_here q_984 d_Model_readsE_14 zl_129 rfl rfl rfl rfl rfl rfl (Nat.le_of_ble_eq_true rfl) rfl rfl ⟨by simp only [zrm]; omega, by simp only [zrm]; omega⟩ ?_
    refine z_bipush (v := 124) d_Model_readsE_17 (by decide) ?_
    refine z_icmp_ne (tgt := 55) d_Model_readsE_19 (by decide) (fun c6 => ?_) (fun c6 => ?_)
    · have h := (if_neg c6).symm.trans h
      refine z_iload_n 2 d_Model_readsE_55 rfl rfl ?_
      obtain ⟨c7, h⟩ := zck_i h
      exact z_zret d_Model_readsE_56 c7 h
    · have h := (if_pos c6).symm.trans h
      refine z_aload_n 0 d_Model_readsE_22 rfl rfl ?_
      refine z_dup d_Model_readsE_23 rfl ?_
      refine gf_Model_at zl_129 d_Model_readsE_24 q_882 ?_
      refine z_iconst (v := 1) d_Model_readsE_27 (by decide) ?_
      refine z_iadd d_Model_readsE_28 ?_
      refine pf_Model_at zl_129 d_Model_readsE_29 q_882 ?_
      refine z_aload_n 0 d_Model_readsE_32 rfl rfl ?_
      refine z_iload_n 1 d_Model_readsE_33 rfl rfl ?_
      obtain ⟨⟨v8, s9⟩, e10, h⟩ := zbd_i h
      refine w_callV (As := [.int x1]) (kc := 22) (ci := 12) (c_Model_readsT l θ n hrec e10) cf_Model_readsT q_1014 d_Model_readsE_34 zl_129 rfl rfl rfl rfl rfl rfl (Nat.le_of_ble_eq_true rfl) rfl rfl ⟨by simp only [zrm]; omega, by simp only [zrm]; omega⟩ ?_
      refine z_istore_n d_Model_readsE_37 rfl (by decide) rfl ?_
      refine z_iload_n 3 d_Model_readsE_38 rfl rfl ?_
      refine z_if_ne (tgt := 46) d_Model_readsE_39 (by decide) (fun c11 => ?_) (fun c11 => ?_)
      · have h := (if_neg c11).symm.trans h
        refine z_sub [1, 2] rfl ?_
        exact zb_Model_readsE_46 n hrec hk6 h
      · have h := (if_pos c11).symm.trans h
        refine z_iload_n 0 d_Model_readsE_42 rfl rfl ?_
        refine z_if_eq (tgt := 50) d_Model_readsE_43 (by decide) (fun c12 => ?_) (fun c12 => ?_)
        · have h := (if_pos c12).symm.trans h
          refine z_iconst (v := 0) d_Model_readsE_50 (by decide) ?_
          refine z_sub [1, 2] rfl ?_
          exact zb_Model_readsE_51 n hrec hk6 h
        · have h := (if_neg c12).symm.trans h
          refine z_sub [1, 2] rfl ?_
          exact zb_Model_readsE_46 n hrec hk6 h
theorem zl_Model_readsE_6 {l : Launch} {θ : ZT} {res : Int32 × ZM} {rec : Int32 × ZM → Option (Int32 × ZM)} (n : Nat) (hrec : ∀ (a : Int32 × ZM) (r : Int32 × ZM), rec a = some r → zMet mkI l 129 14 θ y_Model_readsF b_Model_readsF 4 (some .boolean) (zrm (5 + 3 * n) (148 + 69 * n)) [.ref (za θ 129), .int a.1] a.2 r) : ∀ (N : Nat) (a : Int32 × Int32 × ZM), F_Model_readsE_6 rec N a = some res → WZ l b_Model_readsE 4 (some .boolean) "BakedBeforeModel" 129 14 θ (zrm (7 + 3 * n) (194 + 69 * n)) (zQ mkI 129 14 θ res) a.2.2 [(0, .ref (za θ 129)), (1, .int a.1), (2, .int a.2.1)] 6 [] := by
  intro N
  induction N with
  | zero => intro a  h; cases (show (none : Option (Int32 × ZM)) = some res from h)
  | succ N ih => intro a  h; exact zb_Model_readsE_6 n hrec ih (show f_Model_readsE_6 rec (F_Model_readsE_6 rec N) a.1 a.2.1 a.2.2 = some res from h)
theorem c_Model_readsE (l : Launch) (θ : ZT) {rec : Int32 × ZM → Option (Int32 × ZM)} (n : Nat) (hrec : ∀ (a : Int32 × ZM) (r : Int32 × ZM), rec a = some r → zMet mkI l 129 14 θ y_Model_readsF b_Model_readsF 4 (some .boolean) (zrm (5 + 3 * n) (148 + 69 * n)) [.ref (za θ 129), .int a.1] a.2 r) {x1 : Int32} {σ : ZM} {res : Int32 × ZM} (h : f_Model_readsE rec x1 σ = some res) : zMet mkI l 129 14 θ y_Model_readsE b_Model_readsE 4 (some .boolean) (zrm (7 + 3 * n) (194 + 69 * n)) [.ref (za θ 129), .int x1] σ res := by
  unfold f_Model_readsE at h
  refine z_met (lv := [(0, .ref (za θ 129)), (1, .int x1)]) (by decide +kernel) rfl (Nat.le_of_ble_eq_true rfl) (by decide) ?_
  refine z_aload_n 0 d_Model_readsE_0 rfl rfl ?_
  refine z_iload_n 1 d_Model_readsE_1 rfl rfl ?_
  obtain ⟨⟨v1, s2⟩, e3, h⟩ := zbd_i h
  refine w_callV (As := [.int x1]) (kc := 22) (ci := 12) (c_Model_readsT l θ n hrec e3) cf_Model_readsT q_1014 d_Model_readsE_2 zl_129 rfl rfl rfl rfl rfl rfl (Nat.le_of_ble_eq_true rfl) rfl rfl ⟨by simp only [zrm]; omega, by simp only [zrm]; omega⟩ ?_
  refine z_istore_n d_Model_readsE_5 rfl (by decide) rfl ?_
  refine z_sub [1, 2, 0] rfl ?_
  exact zl_Model_readsE_6 n hrec 2000 (x1, v1, s2) h
theorem d_Model_readsF_0 : decode b_Model_readsF 0 = .ok (.aload_n 0, 1) := by decide +kernel
theorem d_Model_readsF_1 : decode b_Model_readsF 1 = .ok (.getfield 77, 3) := by decide +kernel
theorem d_Model_readsF_4 : decode b_Model_readsF 4 = .ok (.ifCond .eq (5), 3) := by decide +kernel
theorem d_Model_readsF_7 : decode b_Model_readsF 7 = .ok (.iconst (0), 1) := by decide +kernel
theorem d_Model_readsF_8 : decode b_Model_readsF 8 = .ok (.ireturn, 1) := by decide +kernel
theorem d_Model_readsF_9 : decode b_Model_readsF 9 = .ok (.aload_n 0, 1) := by decide +kernel
theorem d_Model_readsF_10 : decode b_Model_readsF 10 = .ok (.invokevirtual 81, 3) := by decide +kernel
theorem d_Model_readsF_13 : decode b_Model_readsF 13 = .ok (.istore_n 2, 1) := by decide +kernel
theorem d_Model_readsF_14 : decode b_Model_readsF 14 = .ok (.iload_n 2, 1) := by decide +kernel
theorem d_Model_readsF_15 : decode b_Model_readsF 15 = .ok (.bipush (33), 2) := by decide +kernel
theorem d_Model_readsF_17 : decode b_Model_readsF 17 = .ok (.if_icmp .eq (14), 3) := by decide +kernel
theorem d_Model_readsF_20 : decode b_Model_readsF 20 = .ok (.iload_n 2, 1) := by decide +kernel
theorem d_Model_readsF_21 : decode b_Model_readsF 21 = .ok (.bipush (40), 2) := by decide +kernel
theorem d_Model_readsF_23 : decode b_Model_readsF 23 = .ok (.if_icmp .eq (8), 3) := by decide +kernel
theorem d_Model_readsF_26 : decode b_Model_readsF 26 = .ok (.aload_n 0, 1) := by decide +kernel
theorem d_Model_readsF_27 : decode b_Model_readsF 27 = .ok (.invokevirtual 115, 3) := by decide +kernel
theorem d_Model_readsF_30 : decode b_Model_readsF 30 = .ok (.ireturn, 1) := by decide +kernel
theorem d_Model_readsF_31 : decode b_Model_readsF 31 = .ok (.iload_n 1, 1) := by decide +kernel
theorem d_Model_readsF_32 : decode b_Model_readsF 32 = .ok (.iconst (4), 1) := by decide +kernel
theorem d_Model_readsF_33 : decode b_Model_readsF 33 = .ok (.if_icmp .ne (10), 3) := by decide +kernel
theorem d_Model_readsF_36 : decode b_Model_readsF 36 = .ok (.aload_n 0, 1) := by decide +kernel
theorem d_Model_readsF_37 : decode b_Model_readsF 37 = .ok (.iconst (1), 1) := by decide +kernel
theorem d_Model_readsF_38 : decode b_Model_readsF 38 = .ok (.putfield 77, 3) := by decide +kernel
theorem d_Model_readsF_41 : decode b_Model_readsF 41 = .ok (.iconst (0), 1) := by decide +kernel
theorem d_Model_readsF_42 : decode b_Model_readsF 42 = .ok (.ireturn, 1) := by decide +kernel
theorem d_Model_readsF_43 : decode b_Model_readsF 43 = .ok (.aload_n 0, 1) := by decide +kernel
theorem d_Model_readsF_44 : decode b_Model_readsF 44 = .ok (.dup, 1) := by decide +kernel
theorem d_Model_readsF_45 : decode b_Model_readsF 45 = .ok (.getfield 68, 3) := by decide +kernel
theorem d_Model_readsF_48 : decode b_Model_readsF 48 = .ok (.iconst (1), 1) := by decide +kernel
theorem d_Model_readsF_49 : decode b_Model_readsF 49 = .ok (.iadd, 1) := by decide +kernel
theorem d_Model_readsF_50 : decode b_Model_readsF 50 = .ok (.putfield 68, 3) := by decide +kernel
theorem d_Model_readsF_53 : decode b_Model_readsF 53 = .ok (.iload_n 2, 1) := by decide +kernel
theorem d_Model_readsF_54 : decode b_Model_readsF 54 = .ok (.bipush (33), 2) := by decide +kernel
theorem d_Model_readsF_56 : decode b_Model_readsF 56 = .ok (.if_icmp .ne (19), 3) := by decide +kernel
theorem d_Model_readsF_59 : decode b_Model_readsF 59 = .ok (.aload_n 0, 1) := by decide +kernel
theorem d_Model_readsF_60 : decode b_Model_readsF 60 = .ok (.iload_n 1, 1) := by decide +kernel
theorem d_Model_readsF_61 : decode b_Model_readsF 61 = .ok (.iconst (1), 1) := by decide +kernel
theorem d_Model_readsF_62 : decode b_Model_readsF 62 = .ok (.iadd, 1) := by decide +kernel
theorem d_Model_readsF_63 : decode b_Model_readsF 63 = .ok (.invokevirtual 118, 3) := by decide +kernel
theorem d_Model_readsF_66 : decode b_Model_readsF 66 = .ok (.ifCond .ne (7), 3) := by decide +kernel
theorem d_Model_readsF_69 : decode b_Model_readsF 69 = .ok (.iconst (1), 1) := by decide +kernel
theorem d_Model_readsF_70 : decode b_Model_readsF 70 = .ok (.goto (4), 3) := by decide +kernel
theorem d_Model_readsF_73 : decode b_Model_readsF 73 = .ok (.iconst (0), 1) := by decide +kernel
theorem d_Model_readsF_74 : decode b_Model_readsF 74 = .ok (.ireturn, 1) := by decide +kernel
theorem d_Model_readsF_75 : decode b_Model_readsF 75 = .ok (.aload_n 0, 1) := by decide +kernel
theorem d_Model_readsF_76 : decode b_Model_readsF 76 = .ok (.iload_n 1, 1) := by decide +kernel
theorem d_Model_readsF_77 : decode b_Model_readsF 77 = .ok (.iconst (1), 1) := by decide +kernel
theorem d_Model_readsF_78 : decode b_Model_readsF 78 = .ok (.iadd, 1) := by decide +kernel
theorem d_Model_readsF_79 : decode b_Model_readsF 79 = .ok (.invokevirtual 121, 3) := by decide +kernel
theorem d_Model_readsF_82 : decode b_Model_readsF 82 = .ok (.istore_n 3, 1) := by decide +kernel
theorem d_Model_readsF_83 : decode b_Model_readsF 83 = .ok (.aload_n 0, 1) := by decide +kernel
theorem d_Model_readsF_84 : decode b_Model_readsF 84 = .ok (.bipush (41), 2) := by decide +kernel
theorem d_Model_readsF_86 : decode b_Model_readsF 86 = .ok (.invokevirtual 124, 3) := by decide +kernel
theorem d_Model_readsF_89 : decode b_Model_readsF 89 = .ok (.ifCond .eq (11), 3) := by decide +kernel
theorem d_Model_readsF_92 : decode b_Model_readsF 92 = .ok (.iload_n 3, 1) := by decide +kernel
theorem d_Model_readsF_93 : decode b_Model_readsF 93 = .ok (.ifCond .eq (7), 3) := by decide +kernel
theorem d_Model_readsF_96 : decode b_Model_readsF 96 = .ok (.iconst (1), 1) := by decide +kernel
theorem d_Model_readsF_97 : decode b_Model_readsF 97 = .ok (.goto (4), 3) := by decide +kernel
theorem d_Model_readsF_100 : decode b_Model_readsF 100 = .ok (.iconst (0), 1) := by decide +kernel
theorem d_Model_readsF_101 : decode b_Model_readsF 101 = .ok (.ireturn, 1) := by decide +kernel
theorem zb_Model_readsF_31 {l : Launch} {θ : ZT} {res : Int32 × ZM} {rec : Int32 × ZM → Option (Int32 × ZM)} (n : Nat) (hrec : ∀ (a : Int32 × ZM) (r : Int32 × ZM), rec a = some r → zMet mkI l 129 14 θ y_Model_readsF b_Model_readsF 4 (some .boolean) (zrm (5 + 3 * n) (148 + 69 * n)) [.ref (za θ 129), .int a.1] a.2 r) {x1 : Int32} {x2 : Int32} {σ : ZM} (h : f_Model_readsF_31 rec x1 x2 σ = some res) : WZ l b_Model_readsF 4 (some .boolean) "BakedBeforeModel" 129 14 θ (zrm (5 + 3 * (n + 1)) (148 + 69 * (n + 1))) (zQ mkI 129 14 θ res) σ [(0, .ref (za θ 129)), (1, .int x1), (2, .int x2)] 31 [] := by
  unfold f_Model_readsF_31 at h
  refine z_iload_n 1 d_Model_readsF_31 rfl rfl ?_
  refine z_iconst (v := 4) d_Model_readsF_32 (by decide) ?_
  refine z_icmp_ne (tgt := 43) d_Model_readsF_33 (by decide) (fun c1 => ?_) (fun c1 => ?_)
  · have h := (if_neg c1).symm.trans h
    refine z_aload_n 0 d_Model_readsF_43 rfl rfl ?_
    refine z_dup d_Model_readsF_44 rfl ?_
    refine gf_Model_at zl_129 d_Model_readsF_45 q_882 ?_
    refine z_iconst (v := 1) d_Model_readsF_48 (by decide) ?_
    refine z_iadd d_Model_readsF_49 ?_
    refine pf_Model_at zl_129 d_Model_readsF_50 q_882 ?_
    refine z_iload_n 2 d_Model_readsF_53 rfl rfl ?_
    refine z_bipush (v := 33) d_Model_readsF_54 (by decide) ?_
    refine z_icmp_ne (tgt := 75) d_Model_readsF_56 (by decide) (fun c2 => ?_) (fun c2 => ?_)
    · have h := (if_neg c2).symm.trans h
      refine z_aload_n 0 d_Model_readsF_75 rfl rfl ?_
      refine z_iload_n 1 d_Model_readsF_76 rfl rfl ?_
      refine z_iconst (v := 1) d_Model_readsF_77 (by decide) ?_
      refine z_iadd d_Model_readsF_78 ?_
      obtain ⟨⟨v3, s4⟩, e5, h⟩ := zbd_i h
      refine w_callV (As := [.int (x1 + (1 : Int32))]) (kc := 22) (ci := 12) (c_Model_readsE l θ n hrec e5) cf_Model_readsE q_1010 d_Model_readsF_79 zl_129 rfl rfl rfl rfl rfl rfl (Nat.le_of_ble_eq_true rfl) rfl rfl ⟨by simp only [zrm]; omega, by simp only [zrm]; omega⟩ ?_
      refine z_istore_n d_Model_readsF_82 rfl (by decide) rfl ?_
      refine z_aload_n 1 d_Model_readsF_83 rfl rfl ?_
      refine z_bipush (v := 41) d_Model_readsF_84 (by decide) ?_
      obtain ⟨⟨v6, s7⟩, e8, h⟩ := zbd_i h
      refine w_callV (As := [.int (41 : Int32)]) (kc := 22) (ci := 12) (c_Model_takes l θ e8) cf_Model_takes q_998 d_Model_readsF_86 zl_129 rfl rfl rfl rfl rfl rfl (Nat.le_of_ble_eq_true rfl) rfl rfl ⟨by simp only [zrm]; omega, by simp only [zrm]; omega⟩ ?_
      refine z_if_eq (tgt := 100) d_Model_readsF_89 (by decide) (fun c9 => ?_) (fun c9 => ?_)
      · have h := (if_pos c9).symm.trans h
        refine z_iconst (v := 0) d_Model_readsF_100 (by decide) ?_
        exact z_zret d_Model_readsF_101 (by decide) h
      · have h := (if_neg c9).symm.trans h
        refine z_iload_n 0 d_Model_readsF_92 rfl rfl ?_
        refine z_if_eq (tgt := 100) d_Model_readsF_93 (by decide) (fun c10 => ?_) (fun c10 => ?_)
        · have h := (if_pos c10).symm.trans h
          refine z_iconst (v := 0) d_Model_readsF_100 (by decide) ?_
          exact z_zret d_Model_readsF_101 (by decide) h
        · have h := (if_neg c10).symm.trans h
          refine z_iconst (v := 1) d_Model_readsF_96 (by decide) ?_
          refine z_goto (tgt := 101) d_Model_readsF_97 (by decide) ?_
          exact z_zret d_Model_readsF_101 (by decide) h
    · have h := (if_pos c2).symm.trans h
      refine z_aload_n 0 d_Model_readsF_59 rfl rfl ?_
      refine z_iload_n 1 d_Model_readsF_60 rfl rfl ?_
      refine z_iconst (v := 1) d_Model_readsF_61 (by decide) ?_
      refine z_iadd d_Model_readsF_62 ?_
      obtain ⟨⟨v11, s12⟩, e13, h⟩ := zbd_i h
      refine w_callV (As := [.int (x1 + (1 : Int32))]) (kc := 22) (ci := 12) (hrec ((x1 + (1 : Int32)), (zsI σ 129 11 ((zI σ 129 11) + (1 : Int32)))) _ e13) cf_Model_readsF q_1018 d_Model_readsF_63 zl_129 rfl rfl rfl rfl rfl rfl (Nat.le_of_ble_eq_true rfl) rfl rfl ⟨by simp only [zrm]; omega, by simp only [zrm]; omega⟩ ?_
      refine z_if_ne (tgt := 73) d_Model_readsF_66 (by decide) (fun c14 => ?_) (fun c14 => ?_)
      · have h := (if_neg c14).symm.trans h
        refine z_iconst (v := 0) d_Model_readsF_73 (by decide) ?_
        exact z_zret d_Model_readsF_74 (by decide) h
      · have h := (if_pos c14).symm.trans h
        refine z_iconst (v := 1) d_Model_readsF_69 (by decide) ?_
        refine z_goto (tgt := 74) d_Model_readsF_70 (by decide) ?_
        exact z_zret d_Model_readsF_74 (by decide) h
  · have h := (if_pos c1).symm.trans h
    refine z_aload_n 0 d_Model_readsF_36 rfl rfl ?_
    refine z_iconst (v := 1) d_Model_readsF_37 (by decide) ?_
    refine pf_Model_wrong zl_129 (by decide) d_Model_readsF_38 q_885 ?_
    refine z_iconst (v := 0) d_Model_readsF_41 (by decide) ?_
    exact z_zret d_Model_readsF_42 (by decide) h
theorem c_Model_readsF (l : Launch) (θ : ZT) {rec : Int32 × ZM → Option (Int32 × ZM)} (n : Nat) (hrec : ∀ (a : Int32 × ZM) (r : Int32 × ZM), rec a = some r → zMet mkI l 129 14 θ y_Model_readsF b_Model_readsF 4 (some .boolean) (zrm (5 + 3 * n) (148 + 69 * n)) [.ref (za θ 129), .int a.1] a.2 r) {x1 : Int32} {σ : ZM} {res : Int32 × ZM} (h : f_Model_readsF rec x1 σ = some res) : zMet mkI l 129 14 θ y_Model_readsF b_Model_readsF 4 (some .boolean) (zrm (5 + 3 * (n + 1)) (148 + 69 * (n + 1))) [.ref (za θ 129), .int x1] σ res := by
  unfold f_Model_readsF at h
  refine z_met (lv := [(0, .ref (za θ 129)), (1, .int x1)]) (by decide +kernel) rfl (Nat.le_of_ble_eq_true rfl) (by decide) ?_
  refine z_aload_n 0 d_Model_readsF_0 rfl rfl ?_
  refine gf_Model_wrong zl_129 d_Model_readsF_1 q_885 ?_
  refine z_if_eq (tgt := 9) d_Model_readsF_4 (by decide) (fun c1 => ?_) (fun c1 => ?_)
  · have h := (if_pos c1).symm.trans h
    refine z_aload_n 0 d_Model_readsF_9 rfl rfl ?_
    obtain ⟨⟨v2, s3⟩, e4, h⟩ := zbd_i h
    refine w_callV (As := []) (kc := 22) (ci := 12) (c_Model_here l θ e4) cf_Model_here q_984 d_Model_readsF_10 zl_129 rfl rfl rfl rfl rfl rfl (Nat.le_of_ble_eq_true rfl) rfl rfl ⟨by simp only [zrm]; omega, by simp only [zrm]; omega⟩ ?_
    refine z_istore_n d_Model_readsF_13 rfl (by decide) rfl ?_
    refine z_iload_n 0 d_Model_readsF_14 rfl rfl ?_
    refine z_bipush (v := 33) d_Model_readsF_15 (by decide) ?_
    refine z_icmp_eq (tgt := 31) d_Model_readsF_17 (by decide) (fun c5 => ?_) (fun c5 => ?_)
    · have h := (if_pos c5).symm.trans h
      refine z_sub [1, 2, 0] rfl ?_
      exact zb_Model_readsF_31 n hrec h
    · have h := (if_neg c5).symm.trans h
      refine z_iload_n 0 d_Model_readsF_20 rfl rfl ?_
      refine z_bipush (v := 40) d_Model_readsF_21 (by decide) ?_
      refine z_icmp_eq (tgt := 31) d_Model_readsF_23 (by decide) (fun c6 => ?_) (fun c6 => ?_)
      · have h := (if_pos c6).symm.trans h
        refine z_sub [1, 2, 0] rfl ?_
        exact zb_Model_readsF_31 n hrec h
      · have h := (if_neg c6).symm.trans h
        refine z_aload_n 1 d_Model_readsF_26 rfl rfl ?_
        obtain ⟨⟨v7, s8⟩, e9, h⟩ := zbd_i h
        refine w_callV (As := []) (kc := 22) (ci := 12) (c_Model_readsTest l θ e9) cf_Model_readsTest q_1022 d_Model_readsF_27 zl_129 rfl rfl rfl rfl rfl rfl (Nat.le_of_ble_eq_true rfl) rfl rfl ⟨by simp only [zrm]; omega, by simp only [zrm]; omega⟩ ?_
        obtain ⟨c10, h⟩ := zck_i h
        exact z_zret d_Model_readsF_30 c10 h
  · have h := (if_neg c1).symm.trans h
    refine z_iconst (v := 0) d_Model_readsF_7 (by decide) ?_
    exact z_zret d_Model_readsF_8 (by decide) h
theorem cn_Model_readsF (l : Launch) (θ : ZT) : ∀ (n : Nat) (a : Int32 × ZM) (r : Int32 × ZM), F_Model_readsF n a = some r → zMet mkI l 129 14 θ y_Model_readsF b_Model_readsF 4 (some .boolean) (zrm (5 + 3 * n) (148 + 69 * n)) [.ref (za θ 129), .int a.1] a.2 r := by
  intro n
  induction n with
  | zero => intro a r h; cases (show (none : Option (Int32 × ZM)) = some r from h)
  | succ n ih => intro a r h; exact c_Model_readsF l θ n ih (show f_Model_readsF (F_Model_readsF n) a.1 a.2 = some r from h)
theorem d_Model_readsWord_0 : decode b_Model_readsWord 0 = .ok (.iconst (1), 1) := by decide +kernel
theorem d_Model_readsWord_1 : decode b_Model_readsWord 1 = .ok (.istore_n 2, 1) := by decide +kernel
theorem d_Model_readsWord_2 : decode b_Model_readsWord 2 = .ok (.iload_n 2, 1) := by decide +kernel
theorem d_Model_readsWord_3 : decode b_Model_readsWord 3 = .ok (.aload_n 1, 1) := by decide +kernel
theorem d_Model_readsWord_4 : decode b_Model_readsWord 4 = .ok (.invokevirtual 130, 3) := by decide +kernel
theorem d_Model_readsWord_7 : decode b_Model_readsWord 7 = .ok (.if_icmp .ge (22), 3) := by decide +kernel
theorem d_Model_readsWord_10 : decode b_Model_readsWord 10 = .ok (.aload_n 0, 1) := by decide +kernel
theorem d_Model_readsWord_11 : decode b_Model_readsWord 11 = .ok (.aload_n 1, 1) := by decide +kernel
theorem d_Model_readsWord_12 : decode b_Model_readsWord 12 = .ok (.iload_n 2, 1) := by decide +kernel
theorem d_Model_readsWord_13 : decode b_Model_readsWord 13 = .ok (.invokevirtual 135, 3) := by decide +kernel
theorem d_Model_readsWord_16 : decode b_Model_readsWord 16 = .ok (.invokevirtual 124, 3) := by decide +kernel
theorem d_Model_readsWord_19 : decode b_Model_readsWord 19 = .ok (.ifCond .ne (4), 3) := by decide +kernel
theorem d_Model_readsWord_22 : decode b_Model_readsWord 22 = .ok (.return_, 1) := by decide +kernel
theorem d_Model_readsWord_23 : decode b_Model_readsWord 23 = .ok (.iinc 2 (1), 3) := by decide +kernel
theorem d_Model_readsWord_26 : decode b_Model_readsWord 26 = .ok (.goto (-24), 3) := by decide +kernel
theorem d_Model_readsWord_29 : decode b_Model_readsWord 29 = .ok (.return_, 1) := by decide +kernel
theorem zb_Model_readsWord_2 {l : Launch} {θ : ZT} {res : Unit × ZM} {k2 : Nat × Int32 × ZM → Option (Unit × ZM)} (hk2 : ∀ a : Nat × Int32 × ZM, decide (a.1 < 8) = true → k2 a = some res → WZ l b_Model_readsWord 3 none "BakedBeforeModel" 129 14 θ (zrm 7 400) (zQ mkV 129 14 θ res) a.2.2 [(0, .ref (za θ 129)), (1, .ref (zf θ (2 + a.1))), (2, .int a.2.1)] 2 []) {x1 : Nat} {x2 : Int32} {σ : ZM} (hx1 : decide (x1 < 8) = true) (h : f_Model_readsWord_2 k2 x1 x2 σ = some res) : WZ l b_Model_readsWord 3 none "BakedBeforeModel" 129 14 θ (zrm 7 400) (zQ mkV 129 14 θ res) σ [(0, .ref (za θ 129)), (1, .ref (zf θ (2 + x1))), (2, .int x2)] 2 [] := by
  unfold f_Model_readsWord_2 at h
  refine z_iload_n 2 d_Model_readsWord_2 rfl rfl ?_
  refine z_aload_n 1 d_Model_readsWord_3 rfl rfl ?_
  refine w_slen hx1 d_Model_readsWord_4 q_996 (by decide) (by decide) (Nat.le_of_ble_eq_true rfl) ?_
  refine z_icmp_ge (tgt := 29) d_Model_readsWord_7 (by decide) (fun c1 => ?_) (fun c1 => ?_)
  · have h := (if_pos c1).symm.trans h
    exact z_vret d_Model_readsWord_29 h
  · have h := (if_neg c1).symm.trans h
    refine z_aload_n 0 d_Model_readsWord_10 rfl rfl ?_
    refine z_aload_n 1 d_Model_readsWord_11 rfl rfl ?_
    refine z_iload_n 2 d_Model_readsWord_12 rfl rfl ?_
    obtain ⟨c2, h⟩ := zck_i h
    refine w_schar hx1 c2 d_Model_readsWord_13 q_997 (by decide) (by decide) (Nat.le_of_ble_eq_true rfl) ?_
    obtain ⟨⟨v3, s4⟩, e5, h⟩ := zbd_i h
    refine w_callV (As := [.int (zschar x1 x2)]) (kc := 22) (ci := 12) (c_Model_takes l θ e5) cf_Model_takes q_998 d_Model_readsWord_16 zl_129 rfl rfl rfl rfl rfl rfl (Nat.le_of_ble_eq_true rfl) rfl rfl ⟨Nat.le_of_ble_eq_true rfl, Nat.le_of_ble_eq_true rfl⟩ ?_
    refine z_if_ne (tgt := 23) d_Model_readsWord_19 (by decide) (fun c6 => ?_) (fun c6 => ?_)
    · have h := (if_neg c6).symm.trans h
      refine z_iinc (v := x2 + (1 : Int32)) 2 d_Model_readsWord_23 rfl rfl (by decide) rfl ?_
      refine z_goto (tgt := 2) d_Model_readsWord_26 (by decide) ?_
      refine z_sub [1, 2, 0] rfl ?_
      exact hk2 (x1, (x2 + (1 : Int32)), s4) hx1 h
    · have h := (if_pos c6).symm.trans h
      exact z_vret d_Model_readsWord_22 h
theorem zl_Model_readsWord_2 {l : Launch} {θ : ZT} {res : Unit × ZM} : ∀ (N : Nat) (a : Nat × Int32 × ZM), decide (a.1 < 8) = true → F_Model_readsWord_2 N a = some res → WZ l b_Model_readsWord 3 none "BakedBeforeModel" 129 14 θ (zrm 7 400) (zQ mkV 129 14 θ res) a.2.2 [(0, .ref (za θ 129)), (1, .ref (zf θ (2 + a.1))), (2, .int a.2.1)] 2 [] := by
  intro N
  induction N with
  | zero => intro a hx1 h; cases (show (none : Option (Unit × ZM)) = some res from h)
  | succ N ih => intro a hx1 h; exact zb_Model_readsWord_2 ih hx1 (show f_Model_readsWord_2 (F_Model_readsWord_2 N) a.1 a.2.1 a.2.2 = some res from h)
theorem c_Model_readsWord (l : Launch) (θ : ZT) {x1 : Nat} {σ : ZM} {res : Unit × ZM} (h : f_Model_readsWord x1 σ = some res) : zMet mkV l 129 14 θ y_Model_readsWord b_Model_readsWord 3 none (zrm 7 400) [.ref (za θ 129), .ref (zf θ (2 + x1))] σ res := by
  unfold f_Model_readsWord at h
  obtain ⟨hx1, h⟩ := zck_i h
  refine z_met (lv := [(0, .ref (za θ 129)), (1, .ref (zf θ (2 + x1)))]) (by decide +kernel) rfl (Nat.le_of_ble_eq_true rfl) (by decide) ?_
  refine z_iconst (v := 1) d_Model_readsWord_0 (by decide) ?_
  refine z_istore_n d_Model_readsWord_1 rfl (by decide) rfl ?_
  refine z_sub [1, 2, 0] rfl ?_
  exact zl_Model_readsWord_2 2000 (x1, (1 : Int32), σ) hx1 h
theorem d_Model_readsClause_0 : decode b_Model_readsClause 0 = .ok (.aload_n 0, 1) := by decide +kernel
theorem d_Model_readsClause_1 : decode b_Model_readsClause 1 = .ok (.invokevirtual 81, 3) := by decide +kernel
theorem d_Model_readsClause_4 : decode b_Model_readsClause 4 = .ok (.istore_n 1, 1) := by decide +kernel
theorem d_Model_readsClause_5 : decode b_Model_readsClause 5 = .ok (.iload_n 1, 1) := by decide +kernel
theorem d_Model_readsClause_6 : decode b_Model_readsClause 6 = .ok (.bipush (116), 2) := by decide +kernel
theorem d_Model_readsClause_8 : decode b_Model_readsClause 8 = .ok (.if_icmp .eq (27), 3) := by decide +kernel
theorem d_Model_readsClause_11 : decode b_Model_readsClause 11 = .ok (.iload_n 1, 1) := by decide +kernel
theorem d_Model_readsClause_12 : decode b_Model_readsClause 12 = .ok (.bipush (109), 2) := by decide +kernel
theorem d_Model_readsClause_14 : decode b_Model_readsClause 14 = .ok (.if_icmp .eq (21), 3) := by decide +kernel
theorem d_Model_readsClause_17 : decode b_Model_readsClause 17 = .ok (.iload_n 1, 1) := by decide +kernel
theorem d_Model_readsClause_18 : decode b_Model_readsClause 18 = .ok (.bipush (99), 2) := by decide +kernel
theorem d_Model_readsClause_20 : decode b_Model_readsClause 20 = .ok (.if_icmp .eq (15), 3) := by decide +kernel
theorem d_Model_readsClause_23 : decode b_Model_readsClause 23 = .ok (.iload_n 1, 1) := by decide +kernel
theorem d_Model_readsClause_24 : decode b_Model_readsClause 24 = .ok (.bipush (102), 2) := by decide +kernel
theorem d_Model_readsClause_26 : decode b_Model_readsClause 26 = .ok (.if_icmp .eq (9), 3) := by decide +kernel
theorem d_Model_readsClause_29 : decode b_Model_readsClause 29 = .ok (.aload_n 0, 1) := by decide +kernel
theorem d_Model_readsClause_30 : decode b_Model_readsClause 30 = .ok (.iconst (1), 1) := by decide +kernel
theorem d_Model_readsClause_31 : decode b_Model_readsClause 31 = .ok (.putfield 77, 3) := by decide +kernel
theorem d_Model_readsClause_34 : decode b_Model_readsClause 34 = .ok (.return_, 1) := by decide +kernel
theorem d_Model_readsClause_35 : decode b_Model_readsClause 35 = .ok (.aload_n 0, 1) := by decide +kernel
theorem d_Model_readsClause_36 : decode b_Model_readsClause 36 = .ok (.dup, 1) := by decide +kernel
theorem d_Model_readsClause_37 : decode b_Model_readsClause 37 = .ok (.getfield 68, 3) := by decide +kernel
theorem d_Model_readsClause_40 : decode b_Model_readsClause 40 = .ok (.iconst (1), 1) := by decide +kernel
theorem d_Model_readsClause_41 : decode b_Model_readsClause 41 = .ok (.iadd, 1) := by decide +kernel
theorem d_Model_readsClause_42 : decode b_Model_readsClause 42 = .ok (.putfield 68, 3) := by decide +kernel
theorem d_Model_readsClause_45 : decode b_Model_readsClause 45 = .ok (.aload_n 0, 1) := by decide +kernel
theorem d_Model_readsClause_46 : decode b_Model_readsClause 46 = .ok (.iload_n 1, 1) := by decide +kernel
theorem d_Model_readsClause_47 : decode b_Model_readsClause 47 = .ok (.bipush (116), 2) := by decide +kernel
theorem d_Model_readsClause_49 : decode b_Model_readsClause 49 = .ok (.if_icmp .ne (8), 3) := by decide +kernel
theorem d_Model_readsClause_52 : decode b_Model_readsClause 52 = .ok (.ldc 139, 2) := by decide +kernel
theorem d_Model_readsClause_54 : decode b_Model_readsClause 54 = .ok (.goto (27), 3) := by decide +kernel
theorem d_Model_readsClause_57 : decode b_Model_readsClause 57 = .ok (.iload_n 1, 1) := by decide +kernel
theorem d_Model_readsClause_58 : decode b_Model_readsClause 58 = .ok (.bipush (109), 2) := by decide +kernel
theorem d_Model_readsClause_60 : decode b_Model_readsClause 60 = .ok (.if_icmp .ne (8), 3) := by decide +kernel
theorem d_Model_readsClause_63 : decode b_Model_readsClause 63 = .ok (.ldc 141, 2) := by decide +kernel
theorem d_Model_readsClause_65 : decode b_Model_readsClause 65 = .ok (.goto (16), 3) := by decide +kernel
theorem d_Model_readsClause_68 : decode b_Model_readsClause 68 = .ok (.iload_n 1, 1) := by decide +kernel
theorem d_Model_readsClause_69 : decode b_Model_readsClause 69 = .ok (.bipush (99), 2) := by decide +kernel
theorem d_Model_readsClause_71 : decode b_Model_readsClause 71 = .ok (.if_icmp .ne (8), 3) := by decide +kernel
theorem d_Model_readsClause_74 : decode b_Model_readsClause 74 = .ok (.ldc 143, 2) := by decide +kernel
theorem d_Model_readsClause_76 : decode b_Model_readsClause 76 = .ok (.goto (5), 3) := by decide +kernel
theorem d_Model_readsClause_79 : decode b_Model_readsClause 79 = .ok (.ldc 145, 2) := by decide +kernel
theorem d_Model_readsClause_81 : decode b_Model_readsClause 81 = .ok (.invokevirtual 147, 3) := by decide +kernel
theorem d_Model_readsClause_84 : decode b_Model_readsClause 84 = .ok (.aload_n 0, 1) := by decide +kernel
theorem d_Model_readsClause_85 : decode b_Model_readsClause 85 = .ok (.invokevirtual 109, 3) := by decide +kernel
theorem d_Model_readsClause_88 : decode b_Model_readsClause 88 = .ok (.istore_n 2, 1) := by decide +kernel
theorem d_Model_readsClause_89 : decode b_Model_readsClause 89 = .ok (.iload_n 1, 1) := by decide +kernel
theorem d_Model_readsClause_90 : decode b_Model_readsClause 90 = .ok (.bipush (99), 2) := by decide +kernel
theorem d_Model_readsClause_92 : decode b_Model_readsClause 92 = .ok (.if_icmp .ne (9), 3) := by decide +kernel
theorem d_Model_readsClause_95 : decode b_Model_readsClause 95 = .ok (.aload_n 0, 1) := by decide +kernel
theorem d_Model_readsClause_96 : decode b_Model_readsClause 96 = .ok (.iload_n 2, 1) := by decide +kernel
theorem d_Model_readsClause_97 : decode b_Model_readsClause 97 = .ok (.putfield 151, 3) := by decide +kernel
theorem d_Model_readsClause_100 : decode b_Model_readsClause 100 = .ok (.return_, 1) := by decide +kernel
theorem d_Model_readsClause_101 : decode b_Model_readsClause 101 = .ok (.aload_n 0, 1) := by decide +kernel
theorem d_Model_readsClause_102 : decode b_Model_readsClause 102 = .ok (.bipush (32), 2) := by decide +kernel
theorem d_Model_readsClause_104 : decode b_Model_readsClause 104 = .ok (.invokevirtual 124, 3) := by decide +kernel
theorem d_Model_readsClause_107 : decode b_Model_readsClause 107 = .ok (.ifCond .ne (4), 3) := by decide +kernel
theorem d_Model_readsClause_110 : decode b_Model_readsClause 110 = .ok (.return_, 1) := by decide +kernel
theorem d_Model_readsClause_111 : decode b_Model_readsClause 111 = .ok (.aload_n 0, 1) := by decide +kernel
theorem d_Model_readsClause_112 : decode b_Model_readsClause 112 = .ok (.iload_n 1, 1) := by decide +kernel
theorem d_Model_readsClause_113 : decode b_Model_readsClause 113 = .ok (.bipush (102), 2) := by decide +kernel
theorem d_Model_readsClause_115 : decode b_Model_readsClause 115 = .ok (.if_icmp .ne (7), 3) := by decide +kernel
theorem d_Model_readsClause_118 : decode b_Model_readsClause 118 = .ok (.iconst (1), 1) := by decide +kernel
theorem d_Model_readsClause_119 : decode b_Model_readsClause 119 = .ok (.goto (4), 3) := by decide +kernel
theorem d_Model_readsClause_122 : decode b_Model_readsClause 122 = .ok (.iconst (0), 1) := by decide +kernel
theorem d_Model_readsClause_123 : decode b_Model_readsClause 123 = .ok (.putfield 96, 3) := by decide +kernel
theorem d_Model_readsClause_126 : decode b_Model_readsClause 126 = .ok (.aload_n 0, 1) := by decide +kernel
theorem d_Model_readsClause_127 : decode b_Model_readsClause 127 = .ok (.iconst (0), 1) := by decide +kernel
theorem d_Model_readsClause_128 : decode b_Model_readsClause 128 = .ok (.invokevirtual 121, 3) := by decide +kernel
theorem d_Model_readsClause_131 : decode b_Model_readsClause 131 = .ok (.istore_n 3, 1) := by decide +kernel
theorem d_Model_readsClause_132 : decode b_Model_readsClause 132 = .ok (.aload_n 0, 1) := by decide +kernel
theorem d_Model_readsClause_133 : decode b_Model_readsClause 133 = .ok (.dup, 1) := by decide +kernel
theorem d_Model_readsClause_134 : decode b_Model_readsClause 134 = .ok (.getfield 154, 3) := by decide +kernel
theorem d_Model_readsClause_137 : decode b_Model_readsClause 137 = .ok (.iload_n 1, 1) := by decide +kernel
theorem d_Model_readsClause_138 : decode b_Model_readsClause 138 = .ok (.bipush (116), 2) := by decide +kernel
theorem d_Model_readsClause_140 : decode b_Model_readsClause 140 = .ok (.if_icmp .ne (7), 3) := by decide +kernel
theorem d_Model_readsClause_143 : decode b_Model_readsClause 143 = .ok (.iconst (1), 1) := by decide +kernel
theorem d_Model_readsClause_144 : decode b_Model_readsClause 144 = .ok (.goto (4), 3) := by decide +kernel
theorem d_Model_readsClause_147 : decode b_Model_readsClause 147 = .ok (.iconst (0), 1) := by decide +kernel
theorem d_Model_readsClause_148 : decode b_Model_readsClause 148 = .ok (.iadd, 1) := by decide +kernel
theorem d_Model_readsClause_149 : decode b_Model_readsClause 149 = .ok (.putfield 154, 3) := by decide +kernel
theorem d_Model_readsClause_152 : decode b_Model_readsClause 152 = .ok (.aload_n 0, 1) := by decide +kernel
theorem d_Model_readsClause_153 : decode b_Model_readsClause 153 = .ok (.dup, 1) := by decide +kernel
theorem d_Model_readsClause_154 : decode b_Model_readsClause 154 = .ok (.getfield 157, 3) := by decide +kernel
theorem d_Model_readsClause_157 : decode b_Model_readsClause 157 = .ok (.iload_n 1, 1) := by decide +kernel
theorem d_Model_readsClause_158 : decode b_Model_readsClause 158 = .ok (.bipush (116), 2) := by decide +kernel
theorem d_Model_readsClause_160 : decode b_Model_readsClause 160 = .ok (.if_icmp .ne (11), 3) := by decide +kernel
theorem d_Model_readsClause_163 : decode b_Model_readsClause 163 = .ok (.iload_n 3, 1) := by decide +kernel
theorem d_Model_readsClause_164 : decode b_Model_readsClause 164 = .ok (.ifCond .eq (7), 3) := by decide +kernel
theorem d_Model_readsClause_167 : decode b_Model_readsClause 167 = .ok (.iload_n 2, 1) := by decide +kernel
theorem d_Model_readsClause_168 : decode b_Model_readsClause 168 = .ok (.goto (4), 3) := by decide +kernel
theorem d_Model_readsClause_171 : decode b_Model_readsClause 171 = .ok (.iconst (0), 1) := by decide +kernel
theorem d_Model_readsClause_172 : decode b_Model_readsClause 172 = .ok (.iadd, 1) := by decide +kernel
theorem d_Model_readsClause_173 : decode b_Model_readsClause 173 = .ok (.putfield 157, 3) := by decide +kernel
theorem d_Model_readsClause_176 : decode b_Model_readsClause 176 = .ok (.aload_n 0, 1) := by decide +kernel
theorem d_Model_readsClause_177 : decode b_Model_readsClause 177 = .ok (.dup, 1) := by decide +kernel
theorem d_Model_readsClause_178 : decode b_Model_readsClause 178 = .ok (.getfield 160, 3) := by decide +kernel
theorem d_Model_readsClause_181 : decode b_Model_readsClause 181 = .ok (.iload_n 1, 1) := by decide +kernel
theorem d_Model_readsClause_182 : decode b_Model_readsClause 182 = .ok (.bipush (109), 2) := by decide +kernel
theorem d_Model_readsClause_184 : decode b_Model_readsClause 184 = .ok (.if_icmp .ne (11), 3) := by decide +kernel
theorem d_Model_readsClause_187 : decode b_Model_readsClause 187 = .ok (.iload_n 3, 1) := by decide +kernel
theorem d_Model_readsClause_188 : decode b_Model_readsClause 188 = .ok (.ifCond .eq (7), 3) := by decide +kernel
theorem d_Model_readsClause_191 : decode b_Model_readsClause 191 = .ok (.iload_n 2, 1) := by decide +kernel
theorem d_Model_readsClause_192 : decode b_Model_readsClause 192 = .ok (.goto (4), 3) := by decide +kernel
theorem d_Model_readsClause_195 : decode b_Model_readsClause 195 = .ok (.iconst (0), 1) := by decide +kernel
theorem d_Model_readsClause_196 : decode b_Model_readsClause 196 = .ok (.iadd, 1) := by decide +kernel
theorem d_Model_readsClause_197 : decode b_Model_readsClause 197 = .ok (.putfield 160, 3) := by decide +kernel
theorem d_Model_readsClause_200 : decode b_Model_readsClause 200 = .ok (.aload_n 0, 1) := by decide +kernel
theorem d_Model_readsClause_201 : decode b_Model_readsClause 201 = .ok (.dup, 1) := by decide +kernel
theorem d_Model_readsClause_202 : decode b_Model_readsClause 202 = .ok (.getfield 163, 3) := by decide +kernel
theorem d_Model_readsClause_205 : decode b_Model_readsClause 205 = .ok (.iload_n 1, 1) := by decide +kernel
theorem d_Model_readsClause_206 : decode b_Model_readsClause 206 = .ok (.bipush (102), 2) := by decide +kernel
theorem d_Model_readsClause_208 : decode b_Model_readsClause 208 = .ok (.if_icmp .ne (11), 3) := by decide +kernel
theorem d_Model_readsClause_211 : decode b_Model_readsClause 211 = .ok (.iload_n 3, 1) := by decide +kernel
theorem d_Model_readsClause_212 : decode b_Model_readsClause 212 = .ok (.ifCond .eq (7), 3) := by decide +kernel
theorem d_Model_readsClause_215 : decode b_Model_readsClause 215 = .ok (.iload_n 2, 1) := by decide +kernel
theorem d_Model_readsClause_216 : decode b_Model_readsClause 216 = .ok (.goto (4), 3) := by decide +kernel
theorem d_Model_readsClause_219 : decode b_Model_readsClause 219 = .ok (.iconst (0), 1) := by decide +kernel
theorem d_Model_readsClause_220 : decode b_Model_readsClause 220 = .ok (.iadd, 1) := by decide +kernel
theorem d_Model_readsClause_221 : decode b_Model_readsClause 221 = .ok (.putfield 163, 3) := by decide +kernel
theorem d_Model_readsClause_224 : decode b_Model_readsClause 224 = .ok (.return_, 1) := by decide +kernel
theorem zb_Model_readsClause_220 {l : Launch} {θ : ZT} {res : Unit × ZM} {y0 : Int32} {y1 : Int32} {σ : ZM} (h : f_Model_readsClause_220 y0 y1 σ = some res) : WZ l b_Model_readsClause 4 none "BakedBeforeModel" 129 14 θ (zrm 32 769) (zQ mkV 129 14 θ res) σ [] 220 [.int y0, .int y1, .ref (za θ 129)] := by
  unfold f_Model_readsClause_220 at h
  refine z_iadd d_Model_readsClause_220 ?_
  refine pf_Model_fee zl_129 d_Model_readsClause_221 q_891 ?_
  exact z_vret d_Model_readsClause_224 h
theorem zb_Model_readsClause_219 {l : Launch} {θ : ZT} {res : Unit × ZM} {y0 : Int32} {σ : ZM} (h : f_Model_readsClause_219 y0 σ = some res) : WZ l b_Model_readsClause 4 none "BakedBeforeModel" 129 14 θ (zrm 32 769) (zQ mkV 129 14 θ res) σ [] 219 [.int y0, .ref (za θ 129)] := by
  unfold f_Model_readsClause_219 at h
  refine z_iconst (v := 0) d_Model_readsClause_219 (by decide) ?_
  exact zb_Model_readsClause_220 h
theorem zb_Model_readsClause_196 {l : Launch} {θ : ZT} {res : Unit × ZM} {x1 : Int32} {x2 : Int32} {x3 : Int32} {y0 : Int32} {y1 : Int32} {σ : ZM} (h : f_Model_readsClause_196 x1 x2 x3 y0 y1 σ = some res) : WZ l b_Model_readsClause 4 none "BakedBeforeModel" 129 14 θ (zrm 32 769) (zQ mkV 129 14 θ res) σ [(0, .ref (za θ 129)), (1, .int x1), (2, .int x2), (3, .int x3)] 196 [.int y0, .int y1, .ref (za θ 129)] := by
  unfold f_Model_readsClause_196 at h
  refine z_iadd d_Model_readsClause_196 ?_
  refine pf_Model_more zl_129 d_Model_readsClause_197 q_889 ?_
  refine z_aload_n 0 d_Model_readsClause_200 rfl rfl ?_
  refine z_dup d_Model_readsClause_201 rfl ?_
  refine gf_Model_fee zl_129 d_Model_readsClause_202 q_891 ?_
  refine z_iload_n 1 d_Model_readsClause_205 rfl rfl ?_
  refine z_bipush (v := 102) d_Model_readsClause_206 (by decide) ?_
  refine z_icmp_ne (tgt := 219) d_Model_readsClause_208 (by decide) (fun c1 => ?_) (fun c1 => ?_)
  · have h := (if_neg c1).symm.trans h
    refine z_sub [] rfl ?_
    exact zb_Model_readsClause_219 h
  · have h := (if_pos c1).symm.trans h
    refine z_iload_n 3 d_Model_readsClause_211 rfl rfl ?_
    refine z_if_eq (tgt := 219) d_Model_readsClause_212 (by decide) (fun c2 => ?_) (fun c2 => ?_)
    · have h := (if_pos c2).symm.trans h
      refine z_sub [] rfl ?_
      exact zb_Model_readsClause_219 h
    · have h := (if_neg c2).symm.trans h
      refine z_iload_n 2 d_Model_readsClause_215 rfl rfl ?_
      refine z_goto (tgt := 220) d_Model_readsClause_216 (by decide) ?_
      refine z_sub [] rfl ?_
      exact zb_Model_readsClause_220 h
theorem zb_Model_readsClause_195 {l : Launch} {θ : ZT} {res : Unit × ZM} {x1 : Int32} {x2 : Int32} {x3 : Int32} {y0 : Int32} {σ : ZM} (h : f_Model_readsClause_195 x1 x2 x3 y0 σ = some res) : WZ l b_Model_readsClause 4 none "BakedBeforeModel" 129 14 θ (zrm 32 769) (zQ mkV 129 14 θ res) σ [(0, .ref (za θ 129)), (1, .int x1), (2, .int x2), (3, .int x3)] 195 [.int y0, .ref (za θ 129)] := by
  unfold f_Model_readsClause_195 at h
  refine z_iconst (v := 0) d_Model_readsClause_195 (by decide) ?_
  exact zb_Model_readsClause_196 h
theorem zb_Model_readsClause_172 {l : Launch} {θ : ZT} {res : Unit × ZM} {x1 : Int32} {x2 : Int32} {x3 : Int32} {y0 : Int32} {y1 : Int32} {σ : ZM} (h : f_Model_readsClause_172 x1 x2 x3 y0 y1 σ = some res) : WZ l b_Model_readsClause 4 none "BakedBeforeModel" 129 14 θ (zrm 32 769) (zQ mkV 129 14 θ res) σ [(0, .ref (za θ 129)), (1, .int x1), (2, .int x2), (3, .int x3)] 172 [.int y0, .int y1, .ref (za θ 129)] := by
  unfold f_Model_readsClause_172 at h
  refine z_iadd d_Model_readsClause_172 ?_
  refine pf_Model_part zl_129 d_Model_readsClause_173 q_887 ?_
  refine z_aload_n 0 d_Model_readsClause_176 rfl rfl ?_
  refine z_dup d_Model_readsClause_177 rfl ?_
  refine gf_Model_more zl_129 d_Model_readsClause_178 q_889 ?_
  refine z_iload_n 1 d_Model_readsClause_181 rfl rfl ?_
  refine z_bipush (v := 109) d_Model_readsClause_182 (by decide) ?_
  refine z_icmp_ne (tgt := 195) d_Model_readsClause_184 (by decide) (fun c1 => ?_) (fun c1 => ?_)
  · have h := (if_neg c1).symm.trans h
    exact zb_Model_readsClause_195 h
  · have h := (if_pos c1).symm.trans h
    refine z_iload_n 3 d_Model_readsClause_187 rfl rfl ?_
    refine z_if_eq (tgt := 195) d_Model_readsClause_188 (by decide) (fun c2 => ?_) (fun c2 => ?_)
    · have h := (if_pos c2).symm.trans h
      exact zb_Model_readsClause_195 h
    · have h := (if_neg c2).symm.trans h
      refine z_iload_n 2 d_Model_readsClause_191 rfl rfl ?_
      refine z_goto (tgt := 196) d_Model_readsClause_192 (by decide) ?_
      exact zb_Model_readsClause_196 h
theorem zb_Model_readsClause_171 {l : Launch} {θ : ZT} {res : Unit × ZM} {x1 : Int32} {x2 : Int32} {x3 : Int32} {y0 : Int32} {σ : ZM} (h : f_Model_readsClause_171 x1 x2 x3 y0 σ = some res) : WZ l b_Model_readsClause 4 none "BakedBeforeModel" 129 14 θ (zrm 32 769) (zQ mkV 129 14 θ res) σ [(0, .ref (za θ 129)), (1, .int x1), (2, .int x2), (3, .int x3)] 171 [.int y0, .ref (za θ 129)] := by
  unfold f_Model_readsClause_171 at h
  refine z_iconst (v := 0) d_Model_readsClause_171 (by decide) ?_
  exact zb_Model_readsClause_172 h
theorem zb_Model_readsClause_148 {l : Launch} {θ : ZT} {res : Unit × ZM} {x1 : Int32} {x2 : Int32} {x3 : Int32} {y0 : Int32} {y1 : Int32} {σ : ZM} (h : f_Model_readsClause_148 x1 x2 x3 y0 y1 σ = some res) : WZ l b_Model_readsClause 4 none "BakedBeforeModel" 129 14 θ (zrm 32 769) (zQ mkV 129 14 θ res) σ [(0, .ref (za θ 129)), (1, .int x1), (2, .int x2), (3, .int x3)] 148 [.int y0, .int y1, .ref (za θ 129)] := by
  unfold f_Model_readsClause_148 at h
  refine z_iadd d_Model_readsClause_148 ?_
  refine pf_Model_parts zl_129 d_Model_readsClause_149 q_888 ?_
  refine z_aload_n 0 d_Model_readsClause_152 rfl rfl ?_
  refine z_dup d_Model_readsClause_153 rfl ?_
  refine gf_Model_part zl_129 d_Model_readsClause_154 q_887 ?_
  refine z_iload_n 1 d_Model_readsClause_157 rfl rfl ?_
  refine z_bipush (v := 116) d_Model_readsClause_158 (by decide) ?_
  refine z_icmp_ne (tgt := 171) d_Model_readsClause_160 (by decide) (fun c1 => ?_) (fun c1 => ?_)
  · have h := (if_neg c1).symm.trans h
    exact zb_Model_readsClause_171 h
  · have h := (if_pos c1).symm.trans h
    refine z_iload_n 3 d_Model_readsClause_163 rfl rfl ?_
    refine z_if_eq (tgt := 171) d_Model_readsClause_164 (by decide) (fun c2 => ?_) (fun c2 => ?_)
    · have h := (if_pos c2).symm.trans h
      exact zb_Model_readsClause_171 h
    · have h := (if_neg c2).symm.trans h
      refine z_iload_n 2 d_Model_readsClause_167 rfl rfl ?_
      refine z_goto (tgt := 172) d_Model_readsClause_168 (by decide) ?_
      exact zb_Model_readsClause_172 h
theorem zb_Model_readsClause_123 {l : Launch} {θ : ZT} {res : Unit × ZM} {x1 : Int32} {x2 : Int32} {y0 : Int32} {σ : ZM} (h : f_Model_readsClause_123 x1 x2 y0 σ = some res) : WZ l b_Model_readsClause 4 none "BakedBeforeModel" 129 14 θ (zrm 32 769) (zQ mkV 129 14 θ res) σ [(0, .ref (za θ 129)), (1, .int x1), (2, .int x2)] 123 [.int y0, .ref (za θ 129)] := by
  unfold f_Model_readsClause_123 at h
  obtain ⟨c1, h⟩ := zck_i h
  refine pf_Model_isFee zl_129 c1 d_Model_readsClause_123 q_886 ?_
  refine z_aload_n 0 d_Model_readsClause_126 rfl rfl ?_
  refine z_iconst (v := 0) d_Model_readsClause_127 (by decide) ?_
  obtain ⟨⟨v2, s3⟩, e4, h⟩ := zbd_i h
  refine w_callV (As := [.int (0 : Int32)]) (kc := 22) (ci := 12) (c_Model_readsE l θ 8 (cn_Model_readsF l θ 8) e4) cf_Model_readsE q_1010 d_Model_readsClause_128 zl_129 rfl rfl rfl rfl rfl rfl (Nat.le_of_ble_eq_true rfl) rfl rfl ⟨Nat.le_of_ble_eq_true rfl, Nat.le_of_ble_eq_true rfl⟩ ?_
  refine z_istore_n d_Model_readsClause_131 rfl (by decide) rfl ?_
  refine z_aload_n 1 d_Model_readsClause_132 rfl rfl ?_
  refine z_dup d_Model_readsClause_133 rfl ?_
  refine gf_Model_parts zl_129 d_Model_readsClause_134 q_888 ?_
  refine z_iload_n 2 d_Model_readsClause_137 rfl rfl ?_
  refine z_bipush (v := 116) d_Model_readsClause_138 (by decide) ?_
  refine z_icmp_ne (tgt := 147) d_Model_readsClause_140 (by decide) (fun c5 => ?_) (fun c5 => ?_)
  · have h := (if_neg c5).symm.trans h
    refine z_iconst (v := 0) d_Model_readsClause_147 (by decide) ?_
    refine z_sub [1, 2, 3, 0] rfl ?_
    exact zb_Model_readsClause_148 h
  · have h := (if_pos c5).symm.trans h
    refine z_iconst (v := 1) d_Model_readsClause_143 (by decide) ?_
    refine z_goto (tgt := 148) d_Model_readsClause_144 (by decide) ?_
    refine z_sub [1, 2, 3, 0] rfl ?_
    exact zb_Model_readsClause_148 h
theorem zb_Model_readsClause_81 {l : Launch} {θ : ZT} {res : Unit × ZM} {x1 : Int32} {y0 : Nat} {σ : ZM} (hy0 : decide (y0 < 8) = true) (h : f_Model_readsClause_81 x1 y0 σ = some res) : WZ l b_Model_readsClause 4 none "BakedBeforeModel" 129 14 θ (zrm 32 769) (zQ mkV 129 14 θ res) σ [(0, .ref (za θ 129)), (1, .int x1)] 81 [.ref (zf θ (2 + y0)), .ref (za θ 129)] := by
  unfold f_Model_readsClause_81 at h
  obtain ⟨⟨v1, s2⟩, e3, h⟩ := zbd_i h
  refine w_callV (As := [.ref (zf θ (2 + y0))]) (kc := 22) (ci := 12) (c_Model_readsWord l θ e3) cf_Model_readsWord q_992 d_Model_readsClause_81 zl_129 rfl rfl rfl rfl rfl rfl (Nat.le_of_ble_eq_true rfl) rfl rfl ⟨Nat.le_of_ble_eq_true rfl, Nat.le_of_ble_eq_true rfl⟩ ?_
  refine z_aload_n 0 d_Model_readsClause_84 rfl rfl ?_
  obtain ⟨⟨v4, s5⟩, e6, h⟩ := zbd_i h
  refine w_callV (As := []) (kc := 22) (ci := 12) (c_Model_readsNumber l θ e6) cf_Model_readsNumber q_1002 d_Model_readsClause_85 zl_129 rfl rfl rfl rfl rfl rfl (Nat.le_of_ble_eq_true rfl) rfl rfl ⟨Nat.le_of_ble_eq_true rfl, Nat.le_of_ble_eq_true rfl⟩ ?_
  refine z_istore_n d_Model_readsClause_88 rfl (by decide) rfl ?_
  refine z_iload_n 2 d_Model_readsClause_89 rfl rfl ?_
  refine z_bipush (v := 99) d_Model_readsClause_90 (by decide) ?_
  refine z_icmp_ne (tgt := 101) d_Model_readsClause_92 (by decide) (fun c7 => ?_) (fun c7 => ?_)
  · have h := (if_neg c7).symm.trans h
    refine z_aload_n 1 d_Model_readsClause_101 rfl rfl ?_
    refine z_bipush (v := 32) d_Model_readsClause_102 (by decide) ?_
    obtain ⟨⟨v8, s9⟩, e10, h⟩ := zbd_i h
    refine w_callV (As := [.int (32 : Int32)]) (kc := 22) (ci := 12) (c_Model_takes l θ e10) cf_Model_takes q_998 d_Model_readsClause_104 zl_129 rfl rfl rfl rfl rfl rfl (Nat.le_of_ble_eq_true rfl) rfl rfl ⟨Nat.le_of_ble_eq_true rfl, Nat.le_of_ble_eq_true rfl⟩ ?_
    refine z_if_ne (tgt := 111) d_Model_readsClause_107 (by decide) (fun c11 => ?_) (fun c11 => ?_)
    · have h := (if_neg c11).symm.trans h
      refine z_aload_n 1 d_Model_readsClause_111 rfl rfl ?_
      refine z_iload_n 2 d_Model_readsClause_112 rfl rfl ?_
      refine z_bipush (v := 102) d_Model_readsClause_113 (by decide) ?_
      refine z_icmp_ne (tgt := 122) d_Model_readsClause_115 (by decide) (fun c12 => ?_) (fun c12 => ?_)
      · have h := (if_neg c12).symm.trans h
        refine z_iconst (v := 0) d_Model_readsClause_122 (by decide) ?_
        refine z_sub [1, 2, 0] rfl ?_
        exact zb_Model_readsClause_123 h
      · have h := (if_pos c12).symm.trans h
        refine z_iconst (v := 1) d_Model_readsClause_118 (by decide) ?_
        refine z_goto (tgt := 123) d_Model_readsClause_119 (by decide) ?_
        refine z_sub [1, 2, 0] rfl ?_
        exact zb_Model_readsClause_123 h
    · have h := (if_pos c11).symm.trans h
      exact z_vret d_Model_readsClause_110 h
  · have h := (if_pos c7).symm.trans h
    refine z_aload_n 1 d_Model_readsClause_95 rfl rfl ?_
    refine z_iload_n 0 d_Model_readsClause_96 rfl rfl ?_
    refine pf_Model_cold zl_129 d_Model_readsClause_97 q_890 ?_
    exact z_vret d_Model_readsClause_100 h
theorem zb_Model_readsClause_35 {l : Launch} {θ : ZT} {res : Unit × ZM} {x1 : Int32} {σ : ZM} (h : f_Model_readsClause_35 x1 σ = some res) : WZ l b_Model_readsClause 4 none "BakedBeforeModel" 129 14 θ (zrm 32 769) (zQ mkV 129 14 θ res) σ [(0, .ref (za θ 129)), (1, .int x1)] 35 [] := by
  unfold f_Model_readsClause_35 at h
  refine z_aload_n 0 d_Model_readsClause_35 rfl rfl ?_
  refine z_dup d_Model_readsClause_36 rfl ?_
  refine gf_Model_at zl_129 d_Model_readsClause_37 q_882 ?_
  refine z_iconst (v := 1) d_Model_readsClause_40 (by decide) ?_
  refine z_iadd d_Model_readsClause_41 ?_
  refine pf_Model_at zl_129 d_Model_readsClause_42 q_882 ?_
  refine z_aload_n 0 d_Model_readsClause_45 rfl rfl ?_
  refine z_iload_n 1 d_Model_readsClause_46 rfl rfl ?_
  refine z_bipush (v := 116) d_Model_readsClause_47 (by decide) ?_
  refine z_icmp_ne (tgt := 57) d_Model_readsClause_49 (by decide) (fun c1 => ?_) (fun c1 => ?_)
  · have h := (if_neg c1).symm.trans h
    refine z_iload_n 1 d_Model_readsClause_57 rfl rfl ?_
    refine z_bipush (v := 109) d_Model_readsClause_58 (by decide) ?_
    refine z_icmp_ne (tgt := 68) d_Model_readsClause_60 (by decide) (fun c2 => ?_) (fun c2 => ?_)
    · have h := (if_neg c2).symm.trans h
      refine z_iload_n 1 d_Model_readsClause_68 rfl rfl ?_
      refine z_bipush (v := 99) d_Model_readsClause_69 (by decide) ?_
      refine z_icmp_ne (tgt := 79) d_Model_readsClause_71 (by decide) (fun c3 => ?_) (fun c3 => ?_)
      · have h := (if_neg c3).symm.trans h
        refine z_lds7 rfl d_Model_readsClause_79 ?_
        exact zb_Model_readsClause_81 (by decide) h
      · have h := (if_pos c3).symm.trans h
        refine z_lds6 rfl d_Model_readsClause_74 ?_
        refine z_goto (tgt := 81) d_Model_readsClause_76 (by decide) ?_
        exact zb_Model_readsClause_81 (by decide) h
    · have h := (if_pos c2).symm.trans h
      refine z_lds5 rfl d_Model_readsClause_63 ?_
      refine z_goto (tgt := 81) d_Model_readsClause_65 (by decide) ?_
      exact zb_Model_readsClause_81 (by decide) h
  · have h := (if_pos c1).symm.trans h
    refine z_lds4 rfl d_Model_readsClause_52 ?_
    refine z_goto (tgt := 81) d_Model_readsClause_54 (by decide) ?_
    exact zb_Model_readsClause_81 (by decide) h
theorem c_Model_readsClause (l : Launch) (θ : ZT)  {σ : ZM} {res : Unit × ZM} (h : f_Model_readsClause σ = some res) : zMet mkV l 129 14 θ y_Model_readsClause b_Model_readsClause 4 none (zrm 32 769) [.ref (za θ 129)] σ res := by
  unfold f_Model_readsClause at h
  refine z_met (lv := [(0, .ref (za θ 129))]) (by decide +kernel) rfl (Nat.le_of_ble_eq_true rfl) (by decide) ?_
  refine z_aload_n 0 d_Model_readsClause_0 rfl rfl ?_
  obtain ⟨⟨v1, s2⟩, e3, h⟩ := zbd_i h
  refine w_callV (As := []) (kc := 22) (ci := 12) (c_Model_here l θ e3) cf_Model_here q_984 d_Model_readsClause_1 zl_129 rfl rfl rfl rfl rfl rfl (Nat.le_of_ble_eq_true rfl) rfl rfl ⟨Nat.le_of_ble_eq_true rfl, Nat.le_of_ble_eq_true rfl⟩ ?_
  refine z_istore_n d_Model_readsClause_4 rfl (by decide) rfl ?_
  refine z_iload_n 0 d_Model_readsClause_5 rfl rfl ?_
  refine z_bipush (v := 116) d_Model_readsClause_6 (by decide) ?_
  refine z_icmp_eq (tgt := 35) d_Model_readsClause_8 (by decide) (fun c4 => ?_) (fun c4 => ?_)
  · have h := (if_pos c4).symm.trans h
    refine z_sub [1, 0] rfl ?_
    exact zb_Model_readsClause_35 h
  · have h := (if_neg c4).symm.trans h
    refine z_iload_n 0 d_Model_readsClause_11 rfl rfl ?_
    refine z_bipush (v := 109) d_Model_readsClause_12 (by decide) ?_
    refine z_icmp_eq (tgt := 35) d_Model_readsClause_14 (by decide) (fun c5 => ?_) (fun c5 => ?_)
    · have h := (if_pos c5).symm.trans h
      refine z_sub [1, 0] rfl ?_
      exact zb_Model_readsClause_35 h
    · have h := (if_neg c5).symm.trans h
      refine z_iload_n 0 d_Model_readsClause_17 rfl rfl ?_
      refine z_bipush (v := 99) d_Model_readsClause_18 (by decide) ?_
      refine z_icmp_eq (tgt := 35) d_Model_readsClause_20 (by decide) (fun c6 => ?_) (fun c6 => ?_)
      · have h := (if_pos c6).symm.trans h
        refine z_sub [1, 0] rfl ?_
        exact zb_Model_readsClause_35 h
      · have h := (if_neg c6).symm.trans h
        refine z_iload_n 0 d_Model_readsClause_23 rfl rfl ?_
        refine z_bipush (v := 102) d_Model_readsClause_24 (by decide) ?_
        refine z_icmp_eq (tgt := 35) d_Model_readsClause_26 (by decide) (fun c7 => ?_) (fun c7 => ?_)
        · have h := (if_pos c7).symm.trans h
          refine z_sub [1, 0] rfl ?_
          exact zb_Model_readsClause_35 h
        · have h := (if_neg c7).symm.trans h
          refine z_aload_n 1 d_Model_readsClause_29 rfl rfl ?_
          refine z_iconst (v := 1) d_Model_readsClause_30 (by decide) ?_
          refine pf_Model_wrong zl_129 (by decide) d_Model_readsClause_31 q_885 ?_
          exact z_vret d_Model_readsClause_34 h
theorem d_Model_reads_0 : decode b_Model_reads 0 = .ok (.aload_n 0, 1) := by decide +kernel
theorem d_Model_reads_1 : decode b_Model_reads 1 = .ok (.bipush (100), 2) := by decide +kernel
theorem d_Model_reads_3 : decode b_Model_reads 3 = .ok (.iload_n 1, 1) := by decide +kernel
theorem d_Model_reads_4 : decode b_Model_reads 4 = .ok (.imul, 1) := by decide +kernel
theorem d_Model_reads_5 : decode b_Model_reads 5 = .ok (.putfield 74, 3) := by decide +kernel
theorem d_Model_reads_8 : decode b_Model_reads 8 = .ok (.aload_n 0, 1) := by decide +kernel
theorem d_Model_reads_9 : decode b_Model_reads 9 = .ok (.iload_n 1, 1) := by decide +kernel
theorem d_Model_reads_10 : decode b_Model_reads 10 = .ok (.ifCond .ge (7), 3) := by decide +kernel
theorem d_Model_reads_13 : decode b_Model_reads 13 = .ok (.iconst (0), 1) := by decide +kernel
theorem d_Model_reads_14 : decode b_Model_reads 14 = .ok (.goto (9), 3) := by decide +kernel
theorem d_Model_reads_17 : decode b_Model_reads 17 = .ok (.aload_n 0, 1) := by decide +kernel
theorem d_Model_reads_18 : decode b_Model_reads 18 = .ok (.getfield 27, 3) := by decide +kernel
theorem d_Model_reads_21 : decode b_Model_reads 21 = .ok (.iload_n 1, 1) := by decide +kernel
theorem d_Model_reads_22 : decode b_Model_reads 22 = .ok (.iaload, 1) := by decide +kernel
theorem d_Model_reads_23 : decode b_Model_reads 23 = .ok (.putfield 71, 3) := by decide +kernel
theorem d_Model_reads_26 : decode b_Model_reads 26 = .ok (.aload_n 0, 1) := by decide +kernel
theorem d_Model_reads_27 : decode b_Model_reads 27 = .ok (.iconst (0), 1) := by decide +kernel
theorem d_Model_reads_28 : decode b_Model_reads 28 = .ok (.putfield 68, 3) := by decide +kernel
theorem d_Model_reads_31 : decode b_Model_reads 31 = .ok (.aload_n 0, 1) := by decide +kernel
theorem d_Model_reads_32 : decode b_Model_reads 32 = .ok (.iload_n 2, 1) := by decide +kernel
theorem d_Model_reads_33 : decode b_Model_reads 33 = .ok (.putfield 89, 3) := by decide +kernel
theorem d_Model_reads_36 : decode b_Model_reads 36 = .ok (.aload_n 0, 1) := by decide +kernel
theorem d_Model_reads_37 : decode b_Model_reads 37 = .ok (.iload_n 3, 1) := by decide +kernel
theorem d_Model_reads_38 : decode b_Model_reads 38 = .ok (.putfield 99, 3) := by decide +kernel
theorem d_Model_reads_41 : decode b_Model_reads 41 = .ok (.aload_n 0, 1) := by decide +kernel
theorem d_Model_reads_42 : decode b_Model_reads 42 = .ok (.iconst (0), 1) := by decide +kernel
theorem d_Model_reads_43 : decode b_Model_reads 43 = .ok (.putfield 77, 3) := by decide +kernel
theorem d_Model_reads_46 : decode b_Model_reads 46 = .ok (.aload_n 0, 1) := by decide +kernel
theorem d_Model_reads_47 : decode b_Model_reads 47 = .ok (.iconst (0), 1) := by decide +kernel
theorem d_Model_reads_48 : decode b_Model_reads 48 = .ok (.putfield 157, 3) := by decide +kernel
theorem d_Model_reads_51 : decode b_Model_reads 51 = .ok (.aload_n 0, 1) := by decide +kernel
theorem d_Model_reads_52 : decode b_Model_reads 52 = .ok (.iconst (0), 1) := by decide +kernel
theorem d_Model_reads_53 : decode b_Model_reads 53 = .ok (.putfield 154, 3) := by decide +kernel
theorem d_Model_reads_56 : decode b_Model_reads 56 = .ok (.aload_n 0, 1) := by decide +kernel
theorem d_Model_reads_57 : decode b_Model_reads 57 = .ok (.iconst (0), 1) := by decide +kernel
theorem d_Model_reads_58 : decode b_Model_reads 58 = .ok (.putfield 160, 3) := by decide +kernel
theorem d_Model_reads_61 : decode b_Model_reads 61 = .ok (.aload_n 0, 1) := by decide +kernel
theorem d_Model_reads_62 : decode b_Model_reads 62 = .ok (.bipush (50), 2) := by decide +kernel
theorem d_Model_reads_64 : decode b_Model_reads 64 = .ok (.putfield 151, 3) := by decide +kernel
theorem d_Model_reads_67 : decode b_Model_reads 67 = .ok (.aload_n 0, 1) := by decide +kernel
theorem d_Model_reads_68 : decode b_Model_reads 68 = .ok (.iconst (1), 1) := by decide +kernel
theorem d_Model_reads_69 : decode b_Model_reads 69 = .ok (.putfield 163, 3) := by decide +kernel
theorem d_Model_reads_72 : decode b_Model_reads 72 = .ok (.iload_n 1, 1) := by decide +kernel
theorem d_Model_reads_73 : decode b_Model_reads 73 = .ok (.ifCond .ge (4), 3) := by decide +kernel
theorem d_Model_reads_76 : decode b_Model_reads 76 = .ok (.return_, 1) := by decide +kernel
theorem d_Model_reads_77 : decode b_Model_reads 77 = .ok (.iconst (1), 1) := by decide +kernel
theorem d_Model_reads_78 : decode b_Model_reads 78 = .ok (.istore 4, 2) := by decide +kernel
theorem d_Model_reads_80 : decode b_Model_reads 80 = .ok (.aload_n 0, 1) := by decide +kernel
theorem d_Model_reads_81 : decode b_Model_reads 81 = .ok (.invokevirtual 166, 3) := by decide +kernel
theorem d_Model_reads_84 : decode b_Model_reads 84 = .ok (.aload_n 0, 1) := by decide +kernel
theorem d_Model_reads_85 : decode b_Model_reads 85 = .ok (.getfield 77, 3) := by decide +kernel
theorem d_Model_reads_88 : decode b_Model_reads 88 = .ok (.ifCond .ne (14), 3) := by decide +kernel
theorem d_Model_reads_91 : decode b_Model_reads 91 = .ok (.aload_n 0, 1) := by decide +kernel
theorem d_Model_reads_92 : decode b_Model_reads 92 = .ok (.getfield 68, 3) := by decide +kernel
theorem d_Model_reads_95 : decode b_Model_reads 95 = .ok (.aload_n 0, 1) := by decide +kernel
theorem d_Model_reads_96 : decode b_Model_reads 96 = .ok (.getfield 71, 3) := by decide +kernel
theorem d_Model_reads_99 : decode b_Model_reads 99 = .ok (.if_icmp .ne (4), 3) := by decide +kernel
theorem d_Model_reads_102 : decode b_Model_reads 102 = .ok (.return_, 1) := by decide +kernel
theorem d_Model_reads_103 : decode b_Model_reads 103 = .ok (.iload 4, 2) := by decide +kernel
theorem d_Model_reads_105 : decode b_Model_reads 105 = .ok (.bipush (10), 2) := by decide +kernel
theorem d_Model_reads_107 : decode b_Model_reads 107 = .ok (.if_icmp .eq (12), 3) := by decide +kernel
theorem d_Model_reads_110 : decode b_Model_reads 110 = .ok (.aload_n 0, 1) := by decide +kernel
theorem d_Model_reads_111 : decode b_Model_reads 111 = .ok (.invokevirtual 81, 3) := by decide +kernel
theorem d_Model_reads_114 : decode b_Model_reads 114 = .ok (.bipush (59), 2) := by decide +kernel
theorem d_Model_reads_116 : decode b_Model_reads 116 = .ok (.if_icmp .eq (9), 3) := by decide +kernel
theorem d_Model_reads_119 : decode b_Model_reads 119 = .ok (.aload_n 0, 1) := by decide +kernel
theorem d_Model_reads_120 : decode b_Model_reads 120 = .ok (.iconst (1), 1) := by decide +kernel
theorem d_Model_reads_121 : decode b_Model_reads 121 = .ok (.putfield 77, 3) := by decide +kernel
theorem d_Model_reads_124 : decode b_Model_reads 124 = .ok (.return_, 1) := by decide +kernel
theorem d_Model_reads_125 : decode b_Model_reads 125 = .ok (.aload_n 0, 1) := by decide +kernel
theorem d_Model_reads_126 : decode b_Model_reads 126 = .ok (.dup, 1) := by decide +kernel
theorem d_Model_reads_127 : decode b_Model_reads 127 = .ok (.getfield 68, 3) := by decide +kernel
theorem d_Model_reads_130 : decode b_Model_reads 130 = .ok (.iconst (1), 1) := by decide +kernel
theorem d_Model_reads_131 : decode b_Model_reads 131 = .ok (.iadd, 1) := by decide +kernel
theorem d_Model_reads_132 : decode b_Model_reads 132 = .ok (.putfield 68, 3) := by decide +kernel
theorem d_Model_reads_135 : decode b_Model_reads 135 = .ok (.iinc 4 (1), 3) := by decide +kernel
theorem d_Model_reads_138 : decode b_Model_reads 138 = .ok (.goto (-58), 3) := by decide +kernel
theorem zb_Model_reads_119 {l : Launch} {θ : ZT} {res : Unit × ZM}  {σ : ZM} (h : f_Model_reads_119 σ = some res) : WZ l b_Model_reads 5 none "BakedBeforeModel" 129 14 θ (zrm 33 792) (zQ mkV 129 14 θ res) σ [(0, .ref (za θ 129))] 119 [] := by
  unfold f_Model_reads_119 at h
  refine z_aload_n 0 d_Model_reads_119 rfl rfl ?_
  refine z_iconst (v := 1) d_Model_reads_120 (by decide) ?_
  refine pf_Model_wrong zl_129 (by decide) d_Model_reads_121 q_885 ?_
  exact z_vret d_Model_reads_124 h
theorem zb_Model_reads_80 {l : Launch} {θ : ZT} {res : Unit × ZM} {k80 : Int32 × ZM → Option (Unit × ZM)} (hk80 : ∀ a : Int32 × ZM, k80 a = some res → WZ l b_Model_reads 5 none "BakedBeforeModel" 129 14 θ (zrm 33 792) (zQ mkV 129 14 θ res) a.2 [(0, .ref (za θ 129)), (4, .int a.1)] 80 []) {x4 : Int32} {σ : ZM} (h : f_Model_reads_80 k80 x4 σ = some res) : WZ l b_Model_reads 5 none "BakedBeforeModel" 129 14 θ (zrm 33 792) (zQ mkV 129 14 θ res) σ [(0, .ref (za θ 129)), (4, .int x4)] 80 [] := by
  unfold f_Model_reads_80 at h
  refine z_aload_n 0 d_Model_reads_80 rfl rfl ?_
  obtain ⟨⟨v1, s2⟩, e3, h⟩ := zbd_i h
  refine w_callV (As := []) (kc := 22) (ci := 12) (c_Model_readsClause l θ e3) cf_Model_readsClause q_980 d_Model_reads_81 zl_129 rfl rfl rfl rfl rfl rfl (Nat.le_of_ble_eq_true rfl) rfl rfl ⟨Nat.le_of_ble_eq_true rfl, Nat.le_of_ble_eq_true rfl⟩ ?_
  refine z_aload_n 0 d_Model_reads_84 rfl rfl ?_
  refine gf_Model_wrong zl_129 d_Model_reads_85 q_885 ?_
  refine z_if_ne (tgt := 102) d_Model_reads_88 (by decide) (fun c4 => ?_) (fun c4 => ?_)
  · have h := (if_neg c4).symm.trans h
    exact z_vret d_Model_reads_102 h
  · have h := (if_pos c4).symm.trans h
    refine z_aload_n 0 d_Model_reads_91 rfl rfl ?_
    refine gf_Model_at zl_129 d_Model_reads_92 q_882 ?_
    refine z_aload_n 0 d_Model_reads_95 rfl rfl ?_
    refine gf_Model_end zl_129 d_Model_reads_96 q_881 ?_
    refine z_icmp_ne (tgt := 103) d_Model_reads_99 (by decide) (fun c5 => ?_) (fun c5 => ?_)
    · have h := (if_neg c5).symm.trans h
      refine z_iload 1 d_Model_reads_103 rfl ?_
      refine z_bipush (v := 10) d_Model_reads_105 (by decide) ?_
      refine z_icmp_eq (tgt := 119) d_Model_reads_107 (by decide) (fun c6 => ?_) (fun c6 => ?_)
      · have h := (if_pos c6).symm.trans h
        refine z_sub [0] rfl ?_
        exact zb_Model_reads_119 h
      · have h := (if_neg c6).symm.trans h
        refine z_aload_n 0 d_Model_reads_110 rfl rfl ?_
        obtain ⟨⟨v7, s8⟩, e9, h⟩ := zbd_i h
        refine w_callV (As := []) (kc := 22) (ci := 12) (c_Model_here l θ e9) cf_Model_here q_984 d_Model_reads_111 zl_129 rfl rfl rfl rfl rfl rfl (Nat.le_of_ble_eq_true rfl) rfl rfl ⟨Nat.le_of_ble_eq_true rfl, Nat.le_of_ble_eq_true rfl⟩ ?_
        refine z_bipush (v := 59) d_Model_reads_114 (by decide) ?_
        refine z_icmp_eq (tgt := 125) d_Model_reads_116 (by decide) (fun c10 => ?_) (fun c10 => ?_)
        · have h := (if_pos c10).symm.trans h
          refine z_aload_n 0 d_Model_reads_125 rfl rfl ?_
          refine z_dup d_Model_reads_126 rfl ?_
          refine gf_Model_at zl_129 d_Model_reads_127 q_882 ?_
          refine z_iconst (v := 1) d_Model_reads_130 (by decide) ?_
          refine z_iadd d_Model_reads_131 ?_
          refine pf_Model_at zl_129 d_Model_reads_132 q_882 ?_
          refine z_iinc (v := x4 + (1 : Int32)) 1 d_Model_reads_135 rfl rfl (by decide) rfl ?_
          refine z_goto (tgt := 80) d_Model_reads_138 (by decide) ?_
          refine z_sub [1, 0] rfl ?_
          exact hk80 ((x4 + (1 : Int32)), (zsI s8 129 11 ((zI s8 129 11) + (1 : Int32)))) h
        · have h := (if_neg c10).symm.trans h
          refine z_sub [0] rfl ?_
          exact zb_Model_reads_119 h
    · have h := (if_pos c5).symm.trans h
      exact z_vret d_Model_reads_102 h
theorem zl_Model_reads_80 {l : Launch} {θ : ZT} {res : Unit × ZM} : ∀ (N : Nat) (a : Int32 × ZM), F_Model_reads_80 N a = some res → WZ l b_Model_reads 5 none "BakedBeforeModel" 129 14 θ (zrm 33 792) (zQ mkV 129 14 θ res) a.2 [(0, .ref (za θ 129)), (4, .int a.1)] 80 [] := by
  intro N
  induction N with
  | zero => intro a  h; cases (show (none : Option (Unit × ZM)) = some res from h)
  | succ N ih => intro a  h; exact zb_Model_reads_80 ih (show f_Model_reads_80 (F_Model_reads_80 N) a.1 a.2 = some res from h)
theorem zb_Model_reads_23 {l : Launch} {θ : ZT} {res : Unit × ZM} {x1 : Int32} {x2 : Int32} {x3 : Int32} {y0 : Int32} {σ : ZM} (h : f_Model_reads_23 x1 x2 x3 y0 σ = some res) : WZ l b_Model_reads 5 none "BakedBeforeModel" 129 14 θ (zrm 33 792) (zQ mkV 129 14 θ res) σ [(0, .ref (za θ 129)), (1, .int x1), (2, .int x2), (3, .int x3)] 23 [.int y0, .ref (za θ 129)] := by
  unfold f_Model_reads_23 at h
  refine pf_Model_end zl_129 d_Model_reads_23 q_881 ?_
  refine z_aload_n 0 d_Model_reads_26 rfl rfl ?_
  refine z_iconst (v := 0) d_Model_reads_27 (by decide) ?_
  refine pf_Model_at zl_129 d_Model_reads_28 q_882 ?_
  refine z_aload_n 0 d_Model_reads_31 rfl rfl ?_
  refine z_iload_n 2 d_Model_reads_32 rfl rfl ?_
  refine pf_Model_loaf zl_129 d_Model_reads_33 q_883 ?_
  refine z_aload_n 0 d_Model_reads_36 rfl rfl ?_
  refine z_iload_n 3 d_Model_reads_37 rfl rfl ?_
  refine pf_Model_taste zl_129 d_Model_reads_38 q_884 ?_
  refine z_aload_n 0 d_Model_reads_41 rfl rfl ?_
  refine z_iconst (v := 0) d_Model_reads_42 (by decide) ?_
  refine pf_Model_wrong zl_129 (by decide) d_Model_reads_43 q_885 ?_
  refine z_aload_n 0 d_Model_reads_46 rfl rfl ?_
  refine z_iconst (v := 0) d_Model_reads_47 (by decide) ?_
  refine pf_Model_part zl_129 d_Model_reads_48 q_887 ?_
  refine z_aload_n 0 d_Model_reads_51 rfl rfl ?_
  refine z_iconst (v := 0) d_Model_reads_52 (by decide) ?_
  refine pf_Model_parts zl_129 d_Model_reads_53 q_888 ?_
  refine z_aload_n 0 d_Model_reads_56 rfl rfl ?_
  refine z_iconst (v := 0) d_Model_reads_57 (by decide) ?_
  refine pf_Model_more zl_129 d_Model_reads_58 q_889 ?_
  refine z_aload_n 0 d_Model_reads_61 rfl rfl ?_
  refine z_bipush (v := 50) d_Model_reads_62 (by decide) ?_
  refine pf_Model_cold zl_129 d_Model_reads_64 q_890 ?_
  refine z_aload_n 0 d_Model_reads_67 rfl rfl ?_
  refine z_iconst (v := 1) d_Model_reads_68 (by decide) ?_
  refine pf_Model_fee zl_129 d_Model_reads_69 q_891 ?_
  refine z_iload_n 1 d_Model_reads_72 rfl rfl ?_
  refine z_if_ge (tgt := 77) d_Model_reads_73 (by decide) (fun c1 => ?_) (fun c1 => ?_)
  · have h := (if_pos c1).symm.trans h
    refine z_iconst (v := 1) d_Model_reads_77 (by decide) ?_
    refine z_istore d_Model_reads_78 (by decide) rfl ?_
    refine z_sub [1, 0] rfl ?_
    exact zl_Model_reads_80 2000 ((1 : Int32), (zsI (zsI (zsI (zsI (zsI (zsI (zsI (zsI (zsI (zsI σ 129 10 y0) 129 11 (0 : Int32)) 129 12 x2) 129 13 x3) 129 14 (0 : Int32)) 129 16 (0 : Int32)) 129 17 (0 : Int32)) 129 18 (0 : Int32)) 129 19 (50 : Int32)) 129 20 (1 : Int32))) h
  · have h := (if_neg c1).symm.trans h
    exact z_vret d_Model_reads_76 h
theorem c_Model_reads (l : Launch) (θ : ZT) {x1 : Int32} {x2 : Int32} {x3 : Int32} {σ : ZM} {res : Unit × ZM} (h : f_Model_reads x1 x2 x3 σ = some res) : zMet mkV l 129 14 θ y_Model_reads b_Model_reads 5 none (zrm 33 792) [.ref (za θ 129), .int x1, .int x2, .int x3] σ res := by
  unfold f_Model_reads at h
  refine z_met (lv := [(0, .ref (za θ 129)), (1, .int x1), (2, .int x2), (3, .int x3)]) (by decide +kernel) rfl (Nat.le_of_ble_eq_true rfl) (by decide) ?_
  refine z_aload_n 0 d_Model_reads_0 rfl rfl ?_
  refine z_bipush (v := 100) d_Model_reads_1 (by decide) ?_
  refine z_iload_n 1 d_Model_reads_3 rfl rfl ?_
  refine z_imul d_Model_reads_4 ?_
  refine pf_Model_base zl_129 d_Model_reads_5 q_880 ?_
  refine z_aload_n 0 d_Model_reads_8 rfl rfl ?_
  refine z_iload_n 1 d_Model_reads_9 rfl rfl ?_
  refine z_if_ge (tgt := 17) d_Model_reads_10 (by decide) (fun c1 => ?_) (fun c1 => ?_)
  · have h := (if_pos c1).symm.trans h
    refine z_aload_n 0 d_Model_reads_17 rfl rfl ?_
    refine gf_Model_kilnLong zl_129 d_Model_reads_18 q_877 ?_
    refine z_iload_n 1 d_Model_reads_21 rfl rfl ?_
    obtain ⟨c2, h⟩ := zck_i h
    refine w_iald zl_135 c2 d_Model_reads_22 ?_
    exact zb_Model_reads_23 h
  · have h := (if_neg c1).symm.trans h
    refine z_iconst (v := 0) d_Model_reads_13 (by decide) ?_
    refine z_goto (tgt := 23) d_Model_reads_14 (by decide) ?_
    exact zb_Model_reads_23 h
theorem d_Model_readsNow_0 : decode b_Model_readsNow 0 = .ok (.aload_n 0, 1) := by decide +kernel
theorem d_Model_readsNow_1 : decode b_Model_readsNow 1 = .ok (.aload_n 0, 1) := by decide +kernel
theorem d_Model_readsNow_2 : decode b_Model_readsNow 2 = .ok (.getfield 11, 3) := by decide +kernel
theorem d_Model_readsNow_5 : decode b_Model_readsNow 5 = .ok (.bipush (6), 2) := by decide +kernel
theorem d_Model_readsNow_7 : decode b_Model_readsNow 7 = .ok (.iaload, 1) := by decide +kernel
theorem d_Model_readsNow_8 : decode b_Model_readsNow 8 = .ok (.iconst (1), 1) := by decide +kernel
theorem d_Model_readsNow_9 : decode b_Model_readsNow 9 = .ok (.isub, 1) := by decide +kernel
theorem d_Model_readsNow_10 : decode b_Model_readsNow 10 = .ok (.iload_n 1, 1) := by decide +kernel
theorem d_Model_readsNow_11 : decode b_Model_readsNow 11 = .ok (.iload_n 2, 1) := by decide +kernel
theorem d_Model_readsNow_12 : decode b_Model_readsNow 12 = .ok (.invokevirtual 169, 3) := by decide +kernel
theorem d_Model_readsNow_15 : decode b_Model_readsNow 15 = .ok (.return_, 1) := by decide +kernel
theorem c_Model_readsNow (l : Launch) (θ : ZT) {x1 : Int32} {x2 : Int32} {σ : ZM} {res : Unit × ZM} (h : f_Model_readsNow x1 x2 σ = some res) : zMet mkV l 129 14 θ y_Model_readsNow b_Model_readsNow 3 none (zrm 34 816) [.ref (za θ 129), .int x1, .int x2] σ res := by
  unfold f_Model_readsNow at h
  refine z_met (lv := [(0, .ref (za θ 129)), (1, .int x1), (2, .int x2)]) (by decide +kernel) rfl (Nat.le_of_ble_eq_true rfl) (by decide) ?_
  refine z_aload_n 0 d_Model_readsNow_0 rfl rfl ?_
  refine z_aload_n 0 d_Model_readsNow_1 rfl rfl ?_
  refine gf_Model_s zl_129 d_Model_readsNow_2 q_871 ?_
  refine z_bipush (v := 6) d_Model_readsNow_5 (by decide) ?_
  obtain ⟨c1, h⟩ := zck_i h
  refine w_iald zl_130 c1 d_Model_readsNow_7 ?_
  refine z_iconst (v := 1) d_Model_readsNow_8 (by decide) ?_
  refine z_isub d_Model_readsNow_9 ?_
  refine z_iload_n 1 d_Model_readsNow_10 rfl rfl ?_
  refine z_iload_n 2 d_Model_readsNow_11 rfl rfl ?_
  obtain ⟨⟨v2, s3⟩, e4, h⟩ := zbd_i h
  refine w_callV (As := [.int ((zI σ 130 (6 : Int32).toNatClampNeg) - (1 : Int32)), .int x1, .int x2]) (kc := 22) (ci := 12) (c_Model_reads l θ e4) cf_Model_reads q_976 d_Model_readsNow_12 zl_129 rfl rfl rfl rfl rfl rfl (Nat.le_of_ble_eq_true rfl) rfl rfl ⟨Nat.le_of_ble_eq_true rfl, Nat.le_of_ble_eq_true rfl⟩ ?_
  exact z_vret d_Model_readsNow_15 h
theorem d_Model_kiln_0 : decode b_Model_kiln 0 = .ok (.aload_n 0, 1) := by decide +kernel
theorem d_Model_kiln_1 : decode b_Model_kiln 1 = .ok (.getfield 173, 3) := by decide +kernel
theorem d_Model_kiln_4 : decode b_Model_kiln 4 = .ok (.bipush (6), 2) := by decide +kernel
theorem d_Model_kiln_6 : decode b_Model_kiln 6 = .ok (.if_icmp .ne (6), 3) := by decide +kernel
theorem d_Model_kiln_9 : decode b_Model_kiln 9 = .ok (.bipush (-4), 2) := by decide +kernel
theorem d_Model_kiln_11 : decode b_Model_kiln 11 = .ok (.ireturn, 1) := by decide +kernel
theorem d_Model_kiln_12 : decode b_Model_kiln 12 = .ok (.iconst (0), 1) := by decide +kernel
theorem d_Model_kiln_13 : decode b_Model_kiln 13 = .ok (.istore_n 1, 1) := by decide +kernel
theorem d_Model_kiln_14 : decode b_Model_kiln 14 = .ok (.iload_n 1, 1) := by decide +kernel
theorem d_Model_kiln_15 : decode b_Model_kiln 15 = .ok (.aload_n 0, 1) := by decide +kernel
theorem d_Model_kiln_16 : decode b_Model_kiln 16 = .ok (.getfield 64, 3) := by decide +kernel
theorem d_Model_kiln_19 : decode b_Model_kiln 19 = .ok (.if_icmp .ge (29), 3) := by decide +kernel
theorem d_Model_kiln_22 : decode b_Model_kiln 22 = .ok (.aload_n 0, 1) := by decide +kernel
theorem d_Model_kiln_23 : decode b_Model_kiln 23 = .ok (.getfield 24, 3) := by decide +kernel
theorem d_Model_kiln_26 : decode b_Model_kiln 26 = .ok (.bipush (100), 2) := by decide +kernel
theorem d_Model_kiln_28 : decode b_Model_kiln 28 = .ok (.aload_n 0, 1) := by decide +kernel
theorem d_Model_kiln_29 : decode b_Model_kiln 29 = .ok (.getfield 173, 3) := by decide +kernel
theorem d_Model_kiln_32 : decode b_Model_kiln 32 = .ok (.imul, 1) := by decide +kernel
theorem d_Model_kiln_33 : decode b_Model_kiln 33 = .ok (.iload_n 1, 1) := by decide +kernel
theorem d_Model_kiln_34 : decode b_Model_kiln 34 = .ok (.iadd, 1) := by decide +kernel
theorem d_Model_kiln_35 : decode b_Model_kiln 35 = .ok (.aload_n 0, 1) := by decide +kernel
theorem d_Model_kiln_36 : decode b_Model_kiln 36 = .ok (.getfield 21, 3) := by decide +kernel
theorem d_Model_kiln_39 : decode b_Model_kiln 39 = .ok (.iload_n 1, 1) := by decide +kernel
theorem d_Model_kiln_40 : decode b_Model_kiln 40 = .ok (.iaload, 1) := by decide +kernel
theorem d_Model_kiln_41 : decode b_Model_kiln 41 = .ok (.iastore, 1) := by decide +kernel
theorem d_Model_kiln_42 : decode b_Model_kiln 42 = .ok (.iinc 1 (1), 3) := by decide +kernel
theorem d_Model_kiln_45 : decode b_Model_kiln 45 = .ok (.goto (-31), 3) := by decide +kernel
theorem d_Model_kiln_48 : decode b_Model_kiln 48 = .ok (.aload_n 0, 1) := by decide +kernel
theorem d_Model_kiln_49 : decode b_Model_kiln 49 = .ok (.getfield 27, 3) := by decide +kernel
theorem d_Model_kiln_52 : decode b_Model_kiln 52 = .ok (.aload_n 0, 1) := by decide +kernel
theorem d_Model_kiln_53 : decode b_Model_kiln 53 = .ok (.getfield 173, 3) := by decide +kernel
theorem d_Model_kiln_56 : decode b_Model_kiln 56 = .ok (.aload_n 0, 1) := by decide +kernel
theorem d_Model_kiln_57 : decode b_Model_kiln 57 = .ok (.getfield 64, 3) := by decide +kernel
theorem d_Model_kiln_60 : decode b_Model_kiln 60 = .ok (.iastore, 1) := by decide +kernel
theorem d_Model_kiln_61 : decode b_Model_kiln 61 = .ok (.aload_n 0, 1) := by decide +kernel
theorem d_Model_kiln_62 : decode b_Model_kiln 62 = .ok (.iconst (0), 1) := by decide +kernel
theorem d_Model_kiln_63 : decode b_Model_kiln 63 = .ok (.putfield 64, 3) := by decide +kernel
theorem d_Model_kiln_66 : decode b_Model_kiln 66 = .ok (.aload_n 0, 1) := by decide +kernel
theorem d_Model_kiln_67 : decode b_Model_kiln 67 = .ok (.aload_n 0, 1) := by decide +kernel
theorem d_Model_kiln_68 : decode b_Model_kiln 68 = .ok (.getfield 173, 3) := by decide +kernel
theorem d_Model_kiln_71 : decode b_Model_kiln 71 = .ok (.iconst (0), 1) := by decide +kernel
theorem d_Model_kiln_72 : decode b_Model_kiln 72 = .ok (.iconst (0), 1) := by decide +kernel
theorem d_Model_kiln_73 : decode b_Model_kiln 73 = .ok (.invokevirtual 169, 3) := by decide +kernel
theorem d_Model_kiln_76 : decode b_Model_kiln 76 = .ok (.aload_n 0, 1) := by decide +kernel
theorem d_Model_kiln_77 : decode b_Model_kiln 77 = .ok (.getfield 77, 3) := by decide +kernel
theorem d_Model_kiln_80 : decode b_Model_kiln 80 = .ok (.ifCond .eq (11), 3) := by decide +kernel
theorem d_Model_kiln_83 : decode b_Model_kiln 83 = .ok (.bipush (-10), 2) := by decide +kernel
theorem d_Model_kiln_85 : decode b_Model_kiln 85 = .ok (.aload_n 0, 1) := by decide +kernel
theorem d_Model_kiln_86 : decode b_Model_kiln 86 = .ok (.getfield 68, 3) := by decide +kernel
theorem d_Model_kiln_89 : decode b_Model_kiln 89 = .ok (.isub, 1) := by decide +kernel
theorem d_Model_kiln_90 : decode b_Model_kiln 90 = .ok (.ireturn, 1) := by decide +kernel
theorem d_Model_kiln_91 : decode b_Model_kiln 91 = .ok (.aload_n 0, 1) := by decide +kernel
theorem d_Model_kiln_92 : decode b_Model_kiln 92 = .ok (.dup, 1) := by decide +kernel
theorem d_Model_kiln_93 : decode b_Model_kiln 93 = .ok (.getfield 173, 3) := by decide +kernel
theorem d_Model_kiln_96 : decode b_Model_kiln 96 = .ok (.iconst (1), 1) := by decide +kernel
theorem d_Model_kiln_97 : decode b_Model_kiln 97 = .ok (.iadd, 1) := by decide +kernel
theorem d_Model_kiln_98 : decode b_Model_kiln 98 = .ok (.putfield 173, 3) := by decide +kernel
theorem d_Model_kiln_101 : decode b_Model_kiln 101 = .ok (.aload_n 0, 1) := by decide +kernel
theorem d_Model_kiln_102 : decode b_Model_kiln 102 = .ok (.getfield 11, 3) := by decide +kernel
theorem d_Model_kiln_105 : decode b_Model_kiln 105 = .ok (.bipush (6), 2) := by decide +kernel
theorem d_Model_kiln_107 : decode b_Model_kiln 107 = .ok (.aload_n 0, 1) := by decide +kernel
theorem d_Model_kiln_108 : decode b_Model_kiln 108 = .ok (.getfield 173, 3) := by decide +kernel
theorem d_Model_kiln_111 : decode b_Model_kiln 111 = .ok (.iastore, 1) := by decide +kernel
theorem d_Model_kiln_112 : decode b_Model_kiln 112 = .ok (.aload_n 0, 1) := by decide +kernel
theorem d_Model_kiln_113 : decode b_Model_kiln 113 = .ok (.getfield 173, 3) := by decide +kernel
theorem d_Model_kiln_116 : decode b_Model_kiln 116 = .ok (.iconst (1), 1) := by decide +kernel
theorem d_Model_kiln_117 : decode b_Model_kiln 117 = .ok (.isub, 1) := by decide +kernel
theorem d_Model_kiln_118 : decode b_Model_kiln 118 = .ok (.ireturn, 1) := by decide +kernel
theorem zb_Model_kiln_14 {l : Launch} {θ : ZT} {res : Int32 × ZM} {k14 : Int32 × ZM → Option (Int32 × ZM)} (hk14 : ∀ a : Int32 × ZM, k14 a = some res → WZ l b_Model_kiln 2 (some .int) "BakedBeforeModel" 129 14 θ (zrm 34 816) (zQ mkI 129 14 θ res) a.2 [(0, .ref (za θ 129)), (1, .int a.1)] 14 []) {x1 : Int32} {σ : ZM} (h : f_Model_kiln_14 k14 x1 σ = some res) : WZ l b_Model_kiln 2 (some .int) "BakedBeforeModel" 129 14 θ (zrm 34 816) (zQ mkI 129 14 θ res) σ [(0, .ref (za θ 129)), (1, .int x1)] 14 [] := by
  unfold f_Model_kiln_14 at h
  refine z_iload_n 1 d_Model_kiln_14 rfl rfl ?_
  refine z_aload_n 0 d_Model_kiln_15 rfl rfl ?_
  refine gf_Model_texted zl_129 d_Model_kiln_16 q_878 ?_
  refine z_icmp_ge (tgt := 48) d_Model_kiln_19 (by decide) (fun c1 => ?_) (fun c1 => ?_)
  · have h := (if_pos c1).symm.trans h
    refine z_aload_n 0 d_Model_kiln_48 rfl rfl ?_
    refine gf_Model_kilnLong zl_129 d_Model_kiln_49 q_877 ?_
    refine z_aload_n 0 d_Model_kiln_52 rfl rfl ?_
    refine gf_Model_kilns zl_129 d_Model_kiln_53 q_879 ?_
    refine z_aload_n 0 d_Model_kiln_56 rfl rfl ?_
    refine gf_Model_texted zl_129 d_Model_kiln_57 q_878 ?_
    obtain ⟨c2, h⟩ := zck_i h
    refine w_iast zl_135 c2 d_Model_kiln_60 ?_
    refine z_aload_n 0 d_Model_kiln_61 rfl rfl ?_
    refine z_iconst (v := 0) d_Model_kiln_62 (by decide) ?_
    refine pf_Model_texted zl_129 d_Model_kiln_63 q_878 ?_
    refine z_aload_n 0 d_Model_kiln_66 rfl rfl ?_
    refine z_aload_n 0 d_Model_kiln_67 rfl rfl ?_
    refine gf_Model_kilns zl_129 d_Model_kiln_68 q_879 ?_
    refine z_iconst (v := 0) d_Model_kiln_71 (by decide) ?_
    refine z_iconst (v := 0) d_Model_kiln_72 (by decide) ?_
    obtain ⟨⟨v3, s4⟩, e5, h⟩ := zbd_i h
    refine w_callV (As := [.int (zI (zsI (zsI σ 135 (zI σ 129 8).toNatClampNeg (zI σ 129 7)) 129 7 (0 : Int32)) 129 8), .int (0 : Int32), .int (0 : Int32)]) (kc := 22) (ci := 12) (c_Model_reads l θ e5) cf_Model_reads q_976 d_Model_kiln_73 zl_129 rfl rfl rfl rfl rfl rfl (Nat.le_of_ble_eq_true rfl) rfl rfl ⟨Nat.le_of_ble_eq_true rfl, Nat.le_of_ble_eq_true rfl⟩ ?_
    refine z_aload_n 0 d_Model_kiln_76 rfl rfl ?_
    refine gf_Model_wrong zl_129 d_Model_kiln_77 q_885 ?_
    refine z_if_eq (tgt := 91) d_Model_kiln_80 (by decide) (fun c6 => ?_) (fun c6 => ?_)
    · have h := (if_pos c6).symm.trans h
      refine z_aload_n 0 d_Model_kiln_91 rfl rfl ?_
      refine z_dup d_Model_kiln_92 rfl ?_
      refine gf_Model_kilns zl_129 d_Model_kiln_93 q_879 ?_
      refine z_iconst (v := 1) d_Model_kiln_96 (by decide) ?_
      refine z_iadd d_Model_kiln_97 ?_
      refine pf_Model_kilns zl_129 d_Model_kiln_98 q_879 ?_
      refine z_aload_n 0 d_Model_kiln_101 rfl rfl ?_
      refine gf_Model_s zl_129 d_Model_kiln_102 q_871 ?_
      refine z_bipush (v := 6) d_Model_kiln_105 (by decide) ?_
      refine z_aload_n 0 d_Model_kiln_107 rfl rfl ?_
      refine gf_Model_kilns zl_129 d_Model_kiln_108 q_879 ?_
      obtain ⟨c7, h⟩ := zck_i h
      refine w_iast zl_130 c7 d_Model_kiln_111 ?_
      refine z_aload_n 0 d_Model_kiln_112 rfl rfl ?_
      refine gf_Model_kilns zl_129 d_Model_kiln_113 q_879 ?_
      refine z_iconst (v := 1) d_Model_kiln_116 (by decide) ?_
      refine z_isub d_Model_kiln_117 ?_
      exact z_iret d_Model_kiln_118 h
    · have h := (if_neg c6).symm.trans h
      refine z_bipush (v := -10) d_Model_kiln_83 (by decide) ?_
      refine z_aload_n 0 d_Model_kiln_85 rfl rfl ?_
      refine gf_Model_at zl_129 d_Model_kiln_86 q_882 ?_
      refine z_isub d_Model_kiln_89 ?_
      exact z_iret d_Model_kiln_90 h
  · have h := (if_neg c1).symm.trans h
    refine z_aload_n 0 d_Model_kiln_22 rfl rfl ?_
    refine gf_Model_kilnText zl_129 d_Model_kiln_23 q_876 ?_
    refine z_bipush (v := 100) d_Model_kiln_26 (by decide) ?_
    refine z_aload_n 0 d_Model_kiln_28 rfl rfl ?_
    refine gf_Model_kilns zl_129 d_Model_kiln_29 q_879 ?_
    refine z_imul d_Model_kiln_32 ?_
    refine z_iload_n 1 d_Model_kiln_33 rfl rfl ?_
    refine z_iadd d_Model_kiln_34 ?_
    refine z_aload_n 0 d_Model_kiln_35 rfl rfl ?_
    refine gf_Model_text zl_129 d_Model_kiln_36 q_875 ?_
    refine z_iload_n 1 d_Model_kiln_39 rfl rfl ?_
    obtain ⟨c8, h⟩ := zck_i h
    refine w_iald zl_133 c8 d_Model_kiln_40 ?_
    obtain ⟨c9, h⟩ := zck_i h
    refine w_iast zl_134 c9 d_Model_kiln_41 ?_
    refine z_iinc (v := x1 + (1 : Int32)) 1 d_Model_kiln_42 rfl rfl (by decide) rfl ?_
    refine z_goto (tgt := 14) d_Model_kiln_45 (by decide) ?_
    refine z_sub [1, 0] rfl ?_
    exact hk14 ((x1 + (1 : Int32)), (zsI σ 134 (((100 : Int32) * (zI σ 129 8)) + x1).toNatClampNeg (zI σ 133 x1.toNatClampNeg))) h
theorem zl_Model_kiln_14 {l : Launch} {θ : ZT} {res : Int32 × ZM} : ∀ (N : Nat) (a : Int32 × ZM), F_Model_kiln_14 N a = some res → WZ l b_Model_kiln 2 (some .int) "BakedBeforeModel" 129 14 θ (zrm 34 816) (zQ mkI 129 14 θ res) a.2 [(0, .ref (za θ 129)), (1, .int a.1)] 14 [] := by
  intro N
  induction N with
  | zero => intro a  h; cases (show (none : Option (Int32 × ZM)) = some res from h)
  | succ N ih => intro a  h; exact zb_Model_kiln_14 ih (show f_Model_kiln_14 (F_Model_kiln_14 N) a.1 a.2 = some res from h)
theorem c_Model_kiln (l : Launch) (θ : ZT)  {σ : ZM} {res : Int32 × ZM} (h : f_Model_kiln σ = some res) : zMet mkI l 129 14 θ y_Model_kiln b_Model_kiln 2 (some .int) (zrm 34 816) [.ref (za θ 129)] σ res := by
  unfold f_Model_kiln at h
  refine z_met (lv := [(0, .ref (za θ 129))]) (by decide +kernel) rfl (Nat.le_of_ble_eq_true rfl) (by decide) ?_
  refine z_aload_n 0 d_Model_kiln_0 rfl rfl ?_
  refine gf_Model_kilns zl_129 d_Model_kiln_1 q_879 ?_
  refine z_bipush (v := 6) d_Model_kiln_4 (by decide) ?_
  refine z_icmp_ne (tgt := 12) d_Model_kiln_6 (by decide) (fun c1 => ?_) (fun c1 => ?_)
  · have h := (if_neg c1).symm.trans h
    refine z_iconst (v := 0) d_Model_kiln_12 (by decide) ?_
    refine z_istore_n d_Model_kiln_13 rfl (by decide) rfl ?_
    refine z_sub [1, 0] rfl ?_
    exact zl_Model_kiln_14 2000 ((0 : Int32), σ) h
  · have h := (if_pos c1).symm.trans h
    refine z_bipush (v := -4) d_Model_kiln_9 (by decide) ?_
    exact z_iret d_Model_kiln_11 h
theorem d_Model_partOf_0 : decode b_Model_partOf 0 = .ok (.aload_n 0, 1) := by decide +kernel
theorem d_Model_partOf_1 : decode b_Model_partOf 1 = .ok (.iload_n 1, 1) := by decide +kernel
theorem d_Model_partOf_2 : decode b_Model_partOf 2 = .ok (.iload_n 2, 1) := by decide +kernel
theorem d_Model_partOf_3 : decode b_Model_partOf 3 = .ok (.invokevirtual 176, 3) := by decide +kernel
theorem d_Model_partOf_6 : decode b_Model_partOf 6 = .ok (.aload_n 0, 1) := by decide +kernel
theorem d_Model_partOf_7 : decode b_Model_partOf 7 = .ok (.getfield 154, 3) := by decide +kernel
theorem d_Model_partOf_10 : decode b_Model_partOf 10 = .ok (.ifCond .ne (8), 3) := by decide +kernel
theorem d_Model_partOf_13 : decode b_Model_partOf 13 = .ok (.bipush (50), 2) := by decide +kernel
theorem d_Model_partOf_15 : decode b_Model_partOf 15 = .ok (.goto (7), 3) := by decide +kernel
theorem d_Model_partOf_18 : decode b_Model_partOf 18 = .ok (.aload_n 0, 1) := by decide +kernel
theorem d_Model_partOf_19 : decode b_Model_partOf 19 = .ok (.getfield 157, 3) := by decide +kernel
theorem d_Model_partOf_22 : decode b_Model_partOf 22 = .ok (.ireturn, 1) := by decide +kernel
theorem c_Model_partOf (l : Launch) (θ : ZT) {x1 : Int32} {x2 : Int32} {σ : ZM} {res : Int32 × ZM} (h : f_Model_partOf x1 x2 σ = some res) : zMet mkI l 129 14 θ y_Model_partOf b_Model_partOf 3 (some .int) (zrm 35 838) [.ref (za θ 129), .int x1, .int x2] σ res := by
  unfold f_Model_partOf at h
  refine z_met (lv := [(0, .ref (za θ 129)), (1, .int x1), (2, .int x2)]) (by decide +kernel) rfl (Nat.le_of_ble_eq_true rfl) (by decide) ?_
  refine z_aload_n 0 d_Model_partOf_0 rfl rfl ?_
  refine z_iload_n 1 d_Model_partOf_1 rfl rfl ?_
  refine z_iload_n 2 d_Model_partOf_2 rfl rfl ?_
  obtain ⟨⟨v1, s2⟩, e3, h⟩ := zbd_i h
  refine w_callV (As := [.int x1, .int x2]) (kc := 22) (ci := 12) (c_Model_readsNow l θ e3) cf_Model_readsNow q_1068 d_Model_partOf_3 zl_129 rfl rfl rfl rfl rfl rfl (Nat.le_of_ble_eq_true rfl) rfl rfl ⟨Nat.le_of_ble_eq_true rfl, Nat.le_of_ble_eq_true rfl⟩ ?_
  refine z_aload_n 0 d_Model_partOf_6 rfl rfl ?_
  refine gf_Model_parts zl_129 d_Model_partOf_7 q_888 ?_
  refine z_if_ne (tgt := 18) d_Model_partOf_10 (by decide) (fun c4 => ?_) (fun c4 => ?_)
  · have h := (if_neg c4).symm.trans h
    refine z_aload_n 0 d_Model_partOf_18 rfl rfl ?_
    refine gf_Model_part zl_129 d_Model_partOf_19 q_887 ?_
    exact z_iret d_Model_partOf_22 h
  · have h := (if_pos c4).symm.trans h
    refine z_bipush (v := 50) d_Model_partOf_13 (by decide) ?_
    refine z_goto (tgt := 22) d_Model_partOf_15 (by decide) ?_
    exact z_iret d_Model_partOf_22 h
theorem d_Model_takesBy_0 : decode b_Model_takesBy 0 = .ok (.iload_n 3, 1) := by decide +kernel
theorem d_Model_takesBy_1 : decode b_Model_takesBy 1 = .ok (.iload 4, 2) := by decide +kernel
theorem d_Model_takesBy_3 : decode b_Model_takesBy 3 = .ok (.imul, 1) := by decide +kernel
theorem d_Model_takesBy_4 : decode b_Model_takesBy 4 = .ok (.bipush (100), 2) := by decide +kernel
theorem d_Model_takesBy_6 : decode b_Model_takesBy 6 = .ok (.idiv, 1) := by decide +kernel
theorem d_Model_takesBy_7 : decode b_Model_takesBy 7 = .ok (.istore 5, 2) := by decide +kernel
theorem d_Model_takesBy_9 : decode b_Model_takesBy 9 = .ok (.aload_n 0, 1) := by decide +kernel
theorem d_Model_takesBy_10 : decode b_Model_takesBy 10 = .ok (.iload_n 1, 1) := by decide +kernel
theorem d_Model_takesBy_11 : decode b_Model_takesBy 11 = .ok (.bipush (6), 2) := by decide +kernel
theorem d_Model_takesBy_13 : decode b_Model_takesBy 13 = .ok (.iload_n 2, 1) := by decide +kernel
theorem d_Model_takesBy_14 : decode b_Model_takesBy 14 = .ok (.iadd, 1) := by decide +kernel
theorem d_Model_takesBy_15 : decode b_Model_takesBy 15 = .ok (.invokevirtual 60, 3) := by decide +kernel
theorem d_Model_takesBy_18 : decode b_Model_takesBy 18 = .ok (.istore 6, 2) := by decide +kernel
theorem d_Model_takesBy_20 : decode b_Model_takesBy 20 = .ok (.iload 5, 2) := by decide +kernel
theorem d_Model_takesBy_22 : decode b_Model_takesBy 22 = .ok (.istore 7, 2) := by decide +kernel
theorem d_Model_takesBy_24 : decode b_Model_takesBy 24 = .ok (.aload_n 0, 1) := by decide +kernel
theorem d_Model_takesBy_25 : decode b_Model_takesBy 25 = .ok (.iload_n 1, 1) := by decide +kernel
theorem d_Model_takesBy_26 : decode b_Model_takesBy 26 = .ok (.invokevirtual 92, 3) := by decide +kernel
theorem d_Model_takesBy_29 : decode b_Model_takesBy 29 = .ok (.tableswitch (108) (1) (6) #[39, 46, 55, 95, 46, 74], 39) := by decide +kernel
theorem d_Model_takesBy_68 : decode b_Model_takesBy 68 = .ok (.iload 4, 2) := by decide +kernel
theorem d_Model_takesBy_70 : decode b_Model_takesBy 70 = .ok (.istore 7, 2) := by decide +kernel
theorem d_Model_takesBy_72 : decode b_Model_takesBy 72 = .ok (.goto (65), 3) := by decide +kernel
theorem d_Model_takesBy_75 : decode b_Model_takesBy 75 = .ok (.iconst (2), 1) := by decide +kernel
theorem d_Model_takesBy_76 : decode b_Model_takesBy 76 = .ok (.iload 5, 2) := by decide +kernel
theorem d_Model_takesBy_78 : decode b_Model_takesBy 78 = .ok (.imul, 1) := by decide +kernel
theorem d_Model_takesBy_79 : decode b_Model_takesBy 79 = .ok (.istore 7, 2) := by decide +kernel
theorem d_Model_takesBy_81 : decode b_Model_takesBy 81 = .ok (.goto (56), 3) := by decide +kernel
theorem d_Model_takesBy_84 : decode b_Model_takesBy 84 = .ok (.iload 5, 2) := by decide +kernel
theorem d_Model_takesBy_86 : decode b_Model_takesBy 86 = .ok (.iload 6, 2) := by decide +kernel
theorem d_Model_takesBy_88 : decode b_Model_takesBy 88 = .ok (.if_icmp .ge (8), 3) := by decide +kernel
theorem d_Model_takesBy_91 : decode b_Model_takesBy 91 = .ok (.iload 5, 2) := by decide +kernel
theorem d_Model_takesBy_93 : decode b_Model_takesBy 93 = .ok (.goto (5), 3) := by decide +kernel
theorem d_Model_takesBy_96 : decode b_Model_takesBy 96 = .ok (.iload 6, 2) := by decide +kernel
theorem d_Model_takesBy_98 : decode b_Model_takesBy 98 = .ok (.istore 7, 2) := by decide +kernel
theorem d_Model_takesBy_100 : decode b_Model_takesBy 100 = .ok (.goto (37), 3) := by decide +kernel
theorem d_Model_takesBy_103 : decode b_Model_takesBy 103 = .ok (.iload 5, 2) := by decide +kernel
theorem d_Model_takesBy_105 : decode b_Model_takesBy 105 = .ok (.iload 6, 2) := by decide +kernel
theorem d_Model_takesBy_107 : decode b_Model_takesBy 107 = .ok (.if_icmp .ge (8), 3) := by decide +kernel
theorem d_Model_takesBy_110 : decode b_Model_takesBy 110 = .ok (.iload 5, 2) := by decide +kernel
theorem d_Model_takesBy_112 : decode b_Model_takesBy 112 = .ok (.goto (5), 3) := by decide +kernel
theorem d_Model_takesBy_115 : decode b_Model_takesBy 115 = .ok (.iload 6, 2) := by decide +kernel
theorem d_Model_takesBy_117 : decode b_Model_takesBy 117 = .ok (.iconst (2), 1) := by decide +kernel
theorem d_Model_takesBy_118 : decode b_Model_takesBy 118 = .ok (.idiv, 1) := by decide +kernel
theorem d_Model_takesBy_119 : decode b_Model_takesBy 119 = .ok (.istore 7, 2) := by decide +kernel
theorem d_Model_takesBy_121 : decode b_Model_takesBy 121 = .ok (.goto (16), 3) := by decide +kernel
theorem d_Model_takesBy_124 : decode b_Model_takesBy 124 = .ok (.iload 4, 2) := by decide +kernel
theorem d_Model_takesBy_126 : decode b_Model_takesBy 126 = .ok (.aload_n 0, 1) := by decide +kernel
theorem d_Model_takesBy_127 : decode b_Model_takesBy 127 = .ok (.iload_n 1, 1) := by decide +kernel
theorem d_Model_takesBy_128 : decode b_Model_takesBy 128 = .ok (.invokevirtual 102, 3) := by decide +kernel
theorem d_Model_takesBy_131 : decode b_Model_takesBy 131 = .ok (.isub, 1) := by decide +kernel
theorem d_Model_takesBy_132 : decode b_Model_takesBy 132 = .ok (.istore 7, 2) := by decide +kernel
theorem d_Model_takesBy_134 : decode b_Model_takesBy 134 = .ok (.goto (3), 3) := by decide +kernel
theorem d_Model_takesBy_137 : decode b_Model_takesBy 137 = .ok (.iload 7, 2) := by decide +kernel
theorem d_Model_takesBy_139 : decode b_Model_takesBy 139 = .ok (.iload 4, 2) := by decide +kernel
theorem d_Model_takesBy_141 : decode b_Model_takesBy 141 = .ok (.if_icmp .le (8), 3) := by decide +kernel
theorem d_Model_takesBy_144 : decode b_Model_takesBy 144 = .ok (.iload 4, 2) := by decide +kernel
theorem d_Model_takesBy_146 : decode b_Model_takesBy 146 = .ok (.goto (14), 3) := by decide +kernel
theorem d_Model_takesBy_149 : decode b_Model_takesBy 149 = .ok (.iload 7, 2) := by decide +kernel
theorem d_Model_takesBy_151 : decode b_Model_takesBy 151 = .ok (.ifCond .ge (7), 3) := by decide +kernel
theorem d_Model_takesBy_154 : decode b_Model_takesBy 154 = .ok (.iconst (0), 1) := by decide +kernel
theorem d_Model_takesBy_155 : decode b_Model_takesBy 155 = .ok (.goto (5), 3) := by decide +kernel
theorem d_Model_takesBy_158 : decode b_Model_takesBy 158 = .ok (.iload 7, 2) := by decide +kernel
theorem d_Model_takesBy_160 : decode b_Model_takesBy 160 = .ok (.ireturn, 1) := by decide +kernel
theorem zb_Model_takesBy_137 {l : Launch} {θ : ZT} {res : Int32 × ZM} {x4 : Int32} {x7 : Int32} {σ : ZM} (h : f_Model_takesBy_137 x4 x7 σ = some res) : WZ l b_Model_takesBy 8 (some .int) "BakedBeforeModel" 129 14 θ (zrm 3 103) (zQ mkI 129 14 θ res) σ [(4, .int x4), (7, .int x7)] 137 [] := by
  unfold f_Model_takesBy_137 at h
  refine z_iload 1 d_Model_takesBy_137 rfl ?_
  refine z_iload 0 d_Model_takesBy_139 rfl ?_
  refine z_icmp_le (tgt := 149) d_Model_takesBy_141 (by decide) (fun c1 => ?_) (fun c1 => ?_)
  · have h := (if_pos c1).symm.trans h
    refine z_iload 1 d_Model_takesBy_149 rfl ?_
    refine z_if_ge (tgt := 158) d_Model_takesBy_151 (by decide) (fun c2 => ?_) (fun c2 => ?_)
    · have h := (if_pos c2).symm.trans h
      refine z_iload 1 d_Model_takesBy_158 rfl ?_
      exact z_iret d_Model_takesBy_160 h
    · have h := (if_neg c2).symm.trans h
      refine z_iconst (v := 0) d_Model_takesBy_154 (by decide) ?_
      refine z_goto (tgt := 160) d_Model_takesBy_155 (by decide) ?_
      exact z_iret d_Model_takesBy_160 h
  · have h := (if_neg c1).symm.trans h
    refine z_iload 0 d_Model_takesBy_144 rfl ?_
    refine z_goto (tgt := 160) d_Model_takesBy_146 (by decide) ?_
    exact z_iret d_Model_takesBy_160 h
theorem zb_Model_takesBy_75 {l : Launch} {θ : ZT} {res : Int32 × ZM} {x4 : Int32} {x5 : Int32} {σ : ZM} (h : f_Model_takesBy_75 x4 x5 σ = some res) : WZ l b_Model_takesBy 8 (some .int) "BakedBeforeModel" 129 14 θ (zrm 3 103) (zQ mkI 129 14 θ res) σ [(4, .int x4), (5, .int x5)] 75 [] := by
  unfold f_Model_takesBy_75 at h
  refine z_iconst (v := 2) d_Model_takesBy_75 (by decide) ?_
  refine z_iload 1 d_Model_takesBy_76 rfl ?_
  refine z_imul d_Model_takesBy_78 ?_
  refine z_istore d_Model_takesBy_79 (by decide) rfl ?_
  refine z_goto (tgt := 137) d_Model_takesBy_81 (by decide) ?_
  refine z_sub [1, 0] rfl ?_
  exact zb_Model_takesBy_137 h
theorem zb_Model_takesBy_98 {l : Launch} {θ : ZT} {res : Int32 × ZM} {x4 : Int32} {y0 : Int32} {σ : ZM} (h : f_Model_takesBy_98 x4 y0 σ = some res) : WZ l b_Model_takesBy 8 (some .int) "BakedBeforeModel" 129 14 θ (zrm 3 103) (zQ mkI 129 14 θ res) σ [(4, .int x4)] 98 [.int y0] := by
  unfold f_Model_takesBy_98 at h
  refine z_istore d_Model_takesBy_98 (by decide) rfl ?_
  refine z_goto (tgt := 137) d_Model_takesBy_100 (by decide) ?_
  refine z_sub [1, 0] rfl ?_
  exact zb_Model_takesBy_137 h
theorem zb_Model_takesBy_117 {l : Launch} {θ : ZT} {res : Int32 × ZM} {x4 : Int32} {y0 : Int32} {σ : ZM} (h : f_Model_takesBy_117 x4 y0 σ = some res) : WZ l b_Model_takesBy 8 (some .int) "BakedBeforeModel" 129 14 θ (zrm 3 103) (zQ mkI 129 14 θ res) σ [(4, .int x4)] 117 [.int y0] := by
  unfold f_Model_takesBy_117 at h
  refine z_iconst (v := 2) d_Model_takesBy_117 (by decide) ?_
  refine z_idiv d_Model_takesBy_118 (by decide) ?_
  refine z_istore d_Model_takesBy_119 (by decide) rfl ?_
  refine z_goto (tgt := 137) d_Model_takesBy_121 (by decide) ?_
  refine z_sub [1, 0] rfl ?_
  exact zb_Model_takesBy_137 h
theorem c_Model_takesBy (l : Launch) (θ : ZT) {x1 : Int32} {x2 : Int32} {x3 : Int32} {x4 : Int32} {σ : ZM} {res : Int32 × ZM} (h : f_Model_takesBy x1 x2 x3 x4 σ = some res) : zMet mkI l 129 14 θ y_Model_takesBy b_Model_takesBy 8 (some .int) (zrm 3 103) [.ref (za θ 129), .int x1, .int x2, .int x3, .int x4] σ res := by
  unfold f_Model_takesBy at h
  refine z_met (lv := [(0, .ref (za θ 129)), (1, .int x1), (2, .int x2), (3, .int x3), (4, .int x4)]) (by decide +kernel) rfl (Nat.le_of_ble_eq_true rfl) (by decide) ?_
  refine z_iload_n 3 d_Model_takesBy_0 rfl rfl ?_
  refine z_iload 4 d_Model_takesBy_1 rfl ?_
  refine z_imul d_Model_takesBy_3 ?_
  refine z_bipush (v := 100) d_Model_takesBy_4 (by decide) ?_
  refine z_idiv d_Model_takesBy_6 (by decide) ?_
  refine z_istore d_Model_takesBy_7 (by decide) rfl ?_
  refine z_aload_n 1 d_Model_takesBy_9 rfl rfl ?_
  refine z_iload_n 2 d_Model_takesBy_10 rfl rfl ?_
  refine z_bipush (v := 6) d_Model_takesBy_11 (by decide) ?_
  refine z_iload_n 3 d_Model_takesBy_13 rfl rfl ?_
  refine z_iadd d_Model_takesBy_14 ?_
  obtain ⟨⟨v1, s2⟩, e3, h⟩ := zbd_i h
  refine w_callV (As := [.int x1, .int ((6 : Int32) + x2)]) (kc := 22) (ci := 12) (c_Model_get l θ e3) cf_Model_get q_1037 d_Model_takesBy_15 zl_129 rfl rfl rfl rfl rfl rfl (Nat.le_of_ble_eq_true rfl) rfl rfl ⟨Nat.le_of_ble_eq_true rfl, Nat.le_of_ble_eq_true rfl⟩ ?_
  refine z_istore d_Model_takesBy_18 (by decide) rfl ?_
  refine z_iload 1 d_Model_takesBy_20 rfl ?_
  refine z_istore d_Model_takesBy_22 (by decide) rfl ?_
  refine z_aload_n 3 d_Model_takesBy_24 rfl rfl ?_
  refine z_iload_n 4 d_Model_takesBy_25 rfl rfl ?_
  obtain ⟨⟨v4, s5⟩, e6, h⟩ := zbd_i h
  refine w_callV (As := [.int x1]) (kc := 22) (ci := 12) (c_Model_kind l θ e6) cf_Model_kind q_1033 d_Model_takesBy_26 zl_129 rfl rfl rfl rfl rfl rfl (Nat.le_of_ble_eq_true rfl) rfl rfl ⟨Nat.le_of_ble_eq_true rfl, Nat.le_of_ble_eq_true rfl⟩ ?_
  by_cases c7 : v4 = (1 : Int32)
  · have h := (if_pos c7).symm.trans h
    refine z_tableIn (k := 1) (off := 39) (tgt := 68) d_Model_takesBy_29 c7 (by decide) ?_
    refine z_iload 7 d_Model_takesBy_68 rfl ?_
    refine z_istore d_Model_takesBy_70 (by decide) rfl ?_
    refine z_goto (tgt := 137) d_Model_takesBy_72 (by decide) ?_
    refine z_sub [7, 0] rfl ?_
    exact zb_Model_takesBy_137 h
  have h := (if_neg c7).symm.trans h
  by_cases c8 : v4 = (2 : Int32)
  · have h := (if_pos c8).symm.trans h
    refine z_tableIn (k := 2) (off := 46) (tgt := 75) d_Model_takesBy_29 c8 (by decide) ?_
    refine z_sub [7, 2] rfl ?_
    exact zb_Model_takesBy_75 h
  have h := (if_neg c8).symm.trans h
  by_cases c9 : v4 = (3 : Int32)
  · have h := (if_pos c9).symm.trans h
    refine z_tableIn (k := 3) (off := 55) (tgt := 84) d_Model_takesBy_29 c9 (by decide) ?_
    refine z_iload 2 d_Model_takesBy_84 rfl ?_
    refine z_iload 1 d_Model_takesBy_86 rfl ?_
    refine z_icmp_ge (tgt := 96) d_Model_takesBy_88 (by decide) (fun c10 => ?_) (fun c10 => ?_)
    · have h := (if_pos c10).symm.trans h
      refine z_iload 1 d_Model_takesBy_96 rfl ?_
      refine z_sub [7] rfl ?_
      exact zb_Model_takesBy_98 h
    · have h := (if_neg c10).symm.trans h
      refine z_iload 2 d_Model_takesBy_91 rfl ?_
      refine z_goto (tgt := 98) d_Model_takesBy_93 (by decide) ?_
      refine z_sub [7] rfl ?_
      exact zb_Model_takesBy_98 h
  have h := (if_neg c9).symm.trans h
  by_cases c11 : v4 = (4 : Int32)
  · have h := (if_pos c11).symm.trans h
    refine z_tableIn (k := 4) (off := 95) (tgt := 124) d_Model_takesBy_29 c11 (by decide) ?_
    refine z_iload 7 d_Model_takesBy_124 rfl ?_
    refine z_aload_n 3 d_Model_takesBy_126 rfl rfl ?_
    refine z_iload_n 4 d_Model_takesBy_127 rfl rfl ?_
    obtain ⟨⟨v12, s13⟩, e14, h⟩ := zbd_i h
    refine w_callV (As := [.int x1]) (kc := 22) (ci := 12) (c_Model_number l θ e14) cf_Model_number q_1041 d_Model_takesBy_128 zl_129 rfl rfl rfl rfl rfl rfl (Nat.le_of_ble_eq_true rfl) rfl rfl ⟨Nat.le_of_ble_eq_true rfl, Nat.le_of_ble_eq_true rfl⟩ ?_
    refine z_isub d_Model_takesBy_131 ?_
    refine z_istore d_Model_takesBy_132 (by decide) rfl ?_
    refine z_goto (tgt := 137) d_Model_takesBy_134 (by decide) ?_
    refine z_sub [7, 0] rfl ?_
    exact zb_Model_takesBy_137 h
  have h := (if_neg c11).symm.trans h
  by_cases c15 : v4 = (5 : Int32)
  · have h := (if_pos c15).symm.trans h
    refine z_tableIn (k := 5) (off := 46) (tgt := 75) d_Model_takesBy_29 c15 (by decide) ?_
    refine z_sub [7, 2] rfl ?_
    exact zb_Model_takesBy_75 h
  have h := (if_neg c15).symm.trans h
  by_cases c16 : v4 = (6 : Int32)
  · have h := (if_pos c16).symm.trans h
    refine z_tableIn (k := 6) (off := 74) (tgt := 103) d_Model_takesBy_29 c16 (by decide) ?_
    refine z_iload 2 d_Model_takesBy_103 rfl ?_
    refine z_iload 1 d_Model_takesBy_105 rfl ?_
    refine z_icmp_ge (tgt := 115) d_Model_takesBy_107 (by decide) (fun c17 => ?_) (fun c17 => ?_)
    · have h := (if_pos c17).symm.trans h
      refine z_iload 1 d_Model_takesBy_115 rfl ?_
      refine z_sub [7] rfl ?_
      exact zb_Model_takesBy_117 h
    · have h := (if_neg c17).symm.trans h
      refine z_iload 2 d_Model_takesBy_110 rfl ?_
      refine z_goto (tgt := 117) d_Model_takesBy_112 (by decide) ?_
      refine z_sub [7] rfl ?_
      exact zb_Model_takesBy_117 h
  have h := (if_neg c16).symm.trans h
  have nc7 := lv_neT (a := 1) c7 (by decide)
  have nc8 := lv_neT (a := 2) c8 (by decide)
  have nc9 := lv_neT (a := 3) c9 (by decide)
  have nc11 := lv_neT (a := 4) c11 (by decide)
  have nc15 := lv_neT (a := 5) c15 (by decide)
  have nc16 := lv_neT (a := 6) c16 (by decide)
  refine z_tableOut (tgt := 137) d_Model_takesBy_29 (by omega) (by decide) ?_
  refine z_sub [7, 0] rfl ?_
  exact zb_Model_takesBy_137 h
theorem d_Model_takesOf_0 : decode b_Model_takesOf 0 = .ok (.aload_n 0, 1) := by decide +kernel
theorem d_Model_takesOf_1 : decode b_Model_takesOf 1 = .ok (.iload_n 1, 1) := by decide +kernel
theorem d_Model_takesOf_2 : decode b_Model_takesOf 2 = .ok (.iload_n 2, 1) := by decide +kernel
theorem d_Model_takesOf_3 : decode b_Model_takesOf 3 = .ok (.aload_n 0, 1) := by decide +kernel
theorem d_Model_takesOf_4 : decode b_Model_takesOf 4 = .ok (.iload_n 1, 1) := by decide +kernel
theorem d_Model_takesOf_5 : decode b_Model_takesOf 5 = .ok (.iload_n 2, 1) := by decide +kernel
theorem d_Model_takesOf_6 : decode b_Model_takesOf 6 = .ok (.invokevirtual 180, 3) := by decide +kernel
theorem d_Model_takesOf_9 : decode b_Model_takesOf 9 = .ok (.aload_n 0, 1) := by decide +kernel
theorem d_Model_takesOf_10 : decode b_Model_takesOf 10 = .ok (.getfield 11, 3) := by decide +kernel
theorem d_Model_takesOf_13 : decode b_Model_takesOf 13 = .ok (.iload_n 2, 1) := by decide +kernel
theorem d_Model_takesOf_14 : decode b_Model_takesOf 14 = .ok (.iaload, 1) := by decide +kernel
theorem d_Model_takesOf_15 : decode b_Model_takesOf 15 = .ok (.invokevirtual 183, 3) := by decide +kernel
theorem d_Model_takesOf_18 : decode b_Model_takesOf 18 = .ok (.ireturn, 1) := by decide +kernel
theorem c_Model_takesOf (l : Launch) (θ : ZT) {x1 : Int32} {x2 : Int32} {σ : ZM} {res : Int32 × ZM} (h : f_Model_takesOf x1 x2 σ = some res) : zMet mkI l 129 14 θ y_Model_takesOf b_Model_takesOf 3 (some .int) (zrm 36 860) [.ref (za θ 129), .int x1, .int x2] σ res := by
  unfold f_Model_takesOf at h
  refine z_met (lv := [(0, .ref (za θ 129)), (1, .int x1), (2, .int x2)]) (by decide +kernel) rfl (Nat.le_of_ble_eq_true rfl) (by decide) ?_
  refine z_aload_n 0 d_Model_takesOf_0 rfl rfl ?_
  refine z_iload_n 1 d_Model_takesOf_1 rfl rfl ?_
  refine z_iload_n 2 d_Model_takesOf_2 rfl rfl ?_
  refine z_aload_n 0 d_Model_takesOf_3 rfl rfl ?_
  refine z_iload_n 1 d_Model_takesOf_4 rfl rfl ?_
  refine z_iload_n 2 d_Model_takesOf_5 rfl rfl ?_
  obtain ⟨⟨v1, s2⟩, e3, h⟩ := zbd_i h
  refine w_callV (As := [.int x1, .int x2]) (kc := 22) (ci := 12) (c_Model_partOf l θ e3) cf_Model_partOf q_1080 d_Model_takesOf_6 zl_129 rfl rfl rfl rfl rfl rfl (Nat.le_of_ble_eq_true rfl) rfl rfl ⟨Nat.le_of_ble_eq_true rfl, Nat.le_of_ble_eq_true rfl⟩ ?_
  refine z_aload_n 0 d_Model_takesOf_9 rfl rfl ?_
  refine gf_Model_s zl_129 d_Model_takesOf_10 q_871 ?_
  refine z_iload_n 2 d_Model_takesOf_13 rfl rfl ?_
  obtain ⟨c4, h⟩ := zck_i h
  refine w_iald zl_130 c4 d_Model_takesOf_14 ?_
  obtain ⟨⟨v5, s6⟩, e7, h⟩ := zbd_i h
  refine w_callV (As := [.int x1, .int x2, .int v1, .int (zI s2 130 x2.toNatClampNeg)]) (kc := 22) (ci := 12) (c_Model_takesBy l θ e7) cf_Model_takesBy q_1084 d_Model_takesOf_15 zl_129 rfl rfl rfl rfl rfl rfl (Nat.le_of_ble_eq_true rfl) rfl rfl ⟨Nat.le_of_ble_eq_true rfl, Nat.le_of_ble_eq_true rfl⟩ ?_
  exact z_iret d_Model_takesOf_18 h
theorem d_Model_leavesOf_0 : decode b_Model_leavesOf 0 = .ok (.aload_n 0, 1) := by decide +kernel
theorem d_Model_leavesOf_1 : decode b_Model_leavesOf 1 = .ok (.iload_n 1, 1) := by decide +kernel
theorem d_Model_leavesOf_2 : decode b_Model_leavesOf 2 = .ok (.invokevirtual 92, 3) := by decide +kernel
theorem d_Model_leavesOf_5 : decode b_Model_leavesOf 5 = .ok (.istore_n 3, 1) := by decide +kernel
theorem d_Model_leavesOf_6 : decode b_Model_leavesOf 6 = .ok (.iload_n 3, 1) := by decide +kernel
theorem d_Model_leavesOf_7 : decode b_Model_leavesOf 7 = .ok (.iconst (1), 1) := by decide +kernel
theorem d_Model_leavesOf_8 : decode b_Model_leavesOf 8 = .ok (.if_icmp .eq (8), 3) := by decide +kernel
theorem d_Model_leavesOf_11 : decode b_Model_leavesOf 11 = .ok (.iload_n 3, 1) := by decide +kernel
theorem d_Model_leavesOf_12 : decode b_Model_leavesOf 12 = .ok (.iconst (4), 1) := by decide +kernel
theorem d_Model_leavesOf_13 : decode b_Model_leavesOf 13 = .ok (.if_icmp .ne (5), 3) := by decide +kernel
theorem d_Model_leavesOf_16 : decode b_Model_leavesOf 16 = .ok (.iconst (0), 1) := by decide +kernel
theorem d_Model_leavesOf_17 : decode b_Model_leavesOf 17 = .ok (.ireturn, 1) := by decide +kernel
theorem d_Model_leavesOf_18 : decode b_Model_leavesOf 18 = .ok (.aload_n 0, 1) := by decide +kernel
theorem d_Model_leavesOf_19 : decode b_Model_leavesOf 19 = .ok (.iload_n 1, 1) := by decide +kernel
theorem d_Model_leavesOf_20 : decode b_Model_leavesOf 20 = .ok (.iload_n 2, 1) := by decide +kernel
theorem d_Model_leavesOf_21 : decode b_Model_leavesOf 21 = .ok (.invokevirtual 176, 3) := by decide +kernel
theorem d_Model_leavesOf_24 : decode b_Model_leavesOf 24 = .ok (.aload_n 0, 1) := by decide +kernel
theorem d_Model_leavesOf_25 : decode b_Model_leavesOf 25 = .ok (.iload_n 1, 1) := by decide +kernel
theorem d_Model_leavesOf_26 : decode b_Model_leavesOf 26 = .ok (.iconst (2), 1) := by decide +kernel
theorem d_Model_leavesOf_27 : decode b_Model_leavesOf 27 = .ok (.iload_n 2, 1) := by decide +kernel
theorem d_Model_leavesOf_28 : decode b_Model_leavesOf 28 = .ok (.iadd, 1) := by decide +kernel
theorem d_Model_leavesOf_29 : decode b_Model_leavesOf 29 = .ok (.invokevirtual 60, 3) := by decide +kernel
theorem d_Model_leavesOf_32 : decode b_Model_leavesOf 32 = .ok (.aload_n 0, 1) := by decide +kernel
theorem d_Model_leavesOf_33 : decode b_Model_leavesOf 33 = .ok (.getfield 160, 3) := by decide +kernel
theorem d_Model_leavesOf_36 : decode b_Model_leavesOf 36 = .ok (.iadd, 1) := by decide +kernel
theorem d_Model_leavesOf_37 : decode b_Model_leavesOf 37 = .ok (.istore 4, 2) := by decide +kernel
theorem d_Model_leavesOf_39 : decode b_Model_leavesOf 39 = .ok (.iload_n 3, 1) := by decide +kernel
theorem d_Model_leavesOf_40 : decode b_Model_leavesOf 40 = .ok (.bipush (6), 2) := by decide +kernel
theorem d_Model_leavesOf_42 : decode b_Model_leavesOf 42 = .ok (.if_icmp .ne (10), 3) := by decide +kernel
theorem d_Model_leavesOf_45 : decode b_Model_leavesOf 45 = .ok (.iload 4, 2) := by decide +kernel
theorem d_Model_leavesOf_47 : decode b_Model_leavesOf 47 = .ok (.iconst (2), 1) := by decide +kernel
theorem d_Model_leavesOf_48 : decode b_Model_leavesOf 48 = .ok (.idiv, 1) := by decide +kernel
theorem d_Model_leavesOf_49 : decode b_Model_leavesOf 49 = .ok (.goto (25), 3) := by decide +kernel
theorem d_Model_leavesOf_52 : decode b_Model_leavesOf 52 = .ok (.iload_n 3, 1) := by decide +kernel
theorem d_Model_leavesOf_53 : decode b_Model_leavesOf 53 = .ok (.iconst (5), 1) := by decide +kernel
theorem d_Model_leavesOf_54 : decode b_Model_leavesOf 54 = .ok (.if_icmp .ne (18), 3) := by decide +kernel
theorem d_Model_leavesOf_57 : decode b_Model_leavesOf 57 = .ok (.iload_n 2, 1) := by decide +kernel
theorem d_Model_leavesOf_58 : decode b_Model_leavesOf 58 = .ok (.ifCond .ne (14), 3) := by decide +kernel
theorem d_Model_leavesOf_61 : decode b_Model_leavesOf 61 = .ok (.iload 4, 2) := by decide +kernel
theorem d_Model_leavesOf_63 : decode b_Model_leavesOf 63 = .ok (.aload_n 0, 1) := by decide +kernel
theorem d_Model_leavesOf_64 : decode b_Model_leavesOf 64 = .ok (.iload_n 1, 1) := by decide +kernel
theorem d_Model_leavesOf_65 : decode b_Model_leavesOf 65 = .ok (.invokevirtual 102, 3) := by decide +kernel
theorem d_Model_leavesOf_68 : decode b_Model_leavesOf 68 = .ok (.iadd, 1) := by decide +kernel
theorem d_Model_leavesOf_69 : decode b_Model_leavesOf 69 = .ok (.goto (5), 3) := by decide +kernel
theorem d_Model_leavesOf_72 : decode b_Model_leavesOf 72 = .ok (.iload 4, 2) := by decide +kernel
theorem d_Model_leavesOf_74 : decode b_Model_leavesOf 74 = .ok (.ireturn, 1) := by decide +kernel
theorem c_Model_leavesOf (l : Launch) (θ : ZT) {x1 : Int32} {x2 : Int32} {σ : ZM} {res : Int32 × ZM} (h : f_Model_leavesOf x1 x2 σ = some res) : zMet mkI l 129 14 θ y_Model_leavesOf b_Model_leavesOf 5 (some .int) (zrm 35 838) [.ref (za θ 129), .int x1, .int x2] σ res := by
  unfold f_Model_leavesOf at h
  refine z_met (lv := [(0, .ref (za θ 129)), (1, .int x1), (2, .int x2)]) (by decide +kernel) rfl (Nat.le_of_ble_eq_true rfl) (by decide) ?_
  refine z_aload_n 0 d_Model_leavesOf_0 rfl rfl ?_
  refine z_iload_n 1 d_Model_leavesOf_1 rfl rfl ?_
  obtain ⟨⟨v1, s2⟩, e3, h⟩ := zbd_i h
  refine w_callV (As := [.int x1]) (kc := 22) (ci := 12) (c_Model_kind l θ e3) cf_Model_kind q_1033 d_Model_leavesOf_2 zl_129 rfl rfl rfl rfl rfl rfl (Nat.le_of_ble_eq_true rfl) rfl rfl ⟨Nat.le_of_ble_eq_true rfl, Nat.le_of_ble_eq_true rfl⟩ ?_
  refine z_istore_n d_Model_leavesOf_5 rfl (by decide) rfl ?_
  refine z_iload_n 0 d_Model_leavesOf_6 rfl rfl ?_
  refine z_iconst (v := 1) d_Model_leavesOf_7 (by decide) ?_
  refine z_icmp_eq (tgt := 16) d_Model_leavesOf_8 (by decide) (fun c4 => ?_) (fun c4 => ?_)
  · have h := (if_pos c4).symm.trans h
    refine z_iconst (v := 0) d_Model_leavesOf_16 (by decide) ?_
    exact z_iret d_Model_leavesOf_17 h
  · have h := (if_neg c4).symm.trans h
    refine z_iload_n 0 d_Model_leavesOf_11 rfl rfl ?_
    refine z_iconst (v := 4) d_Model_leavesOf_12 (by decide) ?_
    refine z_icmp_ne (tgt := 18) d_Model_leavesOf_13 (by decide) (fun c5 => ?_) (fun c5 => ?_)
    · have h := (if_neg c5).symm.trans h
      refine z_aload_n 1 d_Model_leavesOf_18 rfl rfl ?_
      refine z_iload_n 2 d_Model_leavesOf_19 rfl rfl ?_
      refine z_iload_n 3 d_Model_leavesOf_20 rfl rfl ?_
      obtain ⟨⟨v6, s7⟩, e8, h⟩ := zbd_i h
      refine w_callV (As := [.int x1, .int x2]) (kc := 22) (ci := 12) (c_Model_readsNow l θ e8) cf_Model_readsNow q_1068 d_Model_leavesOf_21 zl_129 rfl rfl rfl rfl rfl rfl (Nat.le_of_ble_eq_true rfl) rfl rfl ⟨Nat.le_of_ble_eq_true rfl, Nat.le_of_ble_eq_true rfl⟩ ?_
      refine z_aload_n 1 d_Model_leavesOf_24 rfl rfl ?_
      refine z_iload_n 2 d_Model_leavesOf_25 rfl rfl ?_
      refine z_iconst (v := 2) d_Model_leavesOf_26 (by decide) ?_
      refine z_iload_n 3 d_Model_leavesOf_27 rfl rfl ?_
      refine z_iadd d_Model_leavesOf_28 ?_
      obtain ⟨⟨v9, s10⟩, e11, h⟩ := zbd_i h
      refine w_callV (As := [.int x1, .int ((2 : Int32) + x2)]) (kc := 22) (ci := 12) (c_Model_get l θ e11) cf_Model_get q_1037 d_Model_leavesOf_29 zl_129 rfl rfl rfl rfl rfl rfl (Nat.le_of_ble_eq_true rfl) rfl rfl ⟨Nat.le_of_ble_eq_true rfl, Nat.le_of_ble_eq_true rfl⟩ ?_
      refine z_aload_n 1 d_Model_leavesOf_32 rfl rfl ?_
      refine gf_Model_more zl_129 d_Model_leavesOf_33 q_889 ?_
      refine z_iadd d_Model_leavesOf_36 ?_
      refine z_istore d_Model_leavesOf_37 (by decide) rfl ?_
      refine z_iload_n 1 d_Model_leavesOf_39 rfl rfl ?_
      refine z_bipush (v := 6) d_Model_leavesOf_40 (by decide) ?_
      refine z_icmp_ne (tgt := 52) d_Model_leavesOf_42 (by decide) (fun c12 => ?_) (fun c12 => ?_)
      · have h := (if_neg c12).symm.trans h
        refine z_iload_n 1 d_Model_leavesOf_52 rfl rfl ?_
        refine z_iconst (v := 5) d_Model_leavesOf_53 (by decide) ?_
        refine z_icmp_ne (tgt := 72) d_Model_leavesOf_54 (by decide) (fun c13 => ?_) (fun c13 => ?_)
        · have h := (if_neg c13).symm.trans h
          refine z_iload 0 d_Model_leavesOf_72 rfl ?_
          exact z_iret d_Model_leavesOf_74 h
        · have h := (if_pos c13).symm.trans h
          refine z_iload_n 4 d_Model_leavesOf_57 rfl rfl ?_
          refine z_if_ne (tgt := 72) d_Model_leavesOf_58 (by decide) (fun c14 => ?_) (fun c14 => ?_)
          · have h := (if_neg c14).symm.trans h
            refine z_iload 0 d_Model_leavesOf_72 rfl ?_
            exact z_iret d_Model_leavesOf_74 h
          · have h := (if_pos c14).symm.trans h
            refine z_iload 0 d_Model_leavesOf_61 rfl ?_
            refine z_aload_n 2 d_Model_leavesOf_63 rfl rfl ?_
            refine z_iload_n 3 d_Model_leavesOf_64 rfl rfl ?_
            obtain ⟨⟨v15, s16⟩, e17, h⟩ := zbd_i h
            refine w_callV (As := [.int x1]) (kc := 22) (ci := 12) (c_Model_number l θ e17) cf_Model_number q_1041 d_Model_leavesOf_65 zl_129 rfl rfl rfl rfl rfl rfl (Nat.le_of_ble_eq_true rfl) rfl rfl ⟨Nat.le_of_ble_eq_true rfl, Nat.le_of_ble_eq_true rfl⟩ ?_
            refine z_iadd d_Model_leavesOf_68 ?_
            refine z_goto (tgt := 74) d_Model_leavesOf_69 (by decide) ?_
            exact z_iret d_Model_leavesOf_74 h
      · have h := (if_pos c12).symm.trans h
        refine z_iload 0 d_Model_leavesOf_45 rfl ?_
        refine z_iconst (v := 2) d_Model_leavesOf_47 (by decide) ?_
        refine z_idiv d_Model_leavesOf_48 (by decide) ?_
        refine z_goto (tgt := 74) d_Model_leavesOf_49 (by decide) ?_
        exact z_iret d_Model_leavesOf_74 h
    · have h := (if_pos c5).symm.trans h
      refine z_iconst (v := 0) d_Model_leavesOf_16 (by decide) ?_
      exact z_iret d_Model_leavesOf_17 h
theorem d_Model_allTakes_0 : decode b_Model_allTakes 0 = .ok (.iconst (0), 1) := by decide +kernel
theorem d_Model_allTakes_1 : decode b_Model_allTakes 1 = .ok (.istore_n 2, 1) := by decide +kernel
theorem d_Model_allTakes_2 : decode b_Model_allTakes 2 = .ok (.iconst (0), 1) := by decide +kernel
theorem d_Model_allTakes_3 : decode b_Model_allTakes 3 = .ok (.istore_n 3, 1) := by decide +kernel
theorem d_Model_allTakes_4 : decode b_Model_allTakes 4 = .ok (.iload_n 3, 1) := by decide +kernel
theorem d_Model_allTakes_5 : decode b_Model_allTakes 5 = .ok (.iconst (4), 1) := by decide +kernel
theorem d_Model_allTakes_6 : decode b_Model_allTakes 6 = .ok (.if_icmp .ge (18), 3) := by decide +kernel
theorem d_Model_allTakes_9 : decode b_Model_allTakes 9 = .ok (.iload_n 2, 1) := by decide +kernel
theorem d_Model_allTakes_10 : decode b_Model_allTakes 10 = .ok (.aload_n 0, 1) := by decide +kernel
theorem d_Model_allTakes_11 : decode b_Model_allTakes 11 = .ok (.iload_n 1, 1) := by decide +kernel
theorem d_Model_allTakes_12 : decode b_Model_allTakes 12 = .ok (.iload_n 3, 1) := by decide +kernel
theorem d_Model_allTakes_13 : decode b_Model_allTakes 13 = .ok (.invokevirtual 187, 3) := by decide +kernel
theorem d_Model_allTakes_16 : decode b_Model_allTakes 16 = .ok (.iadd, 1) := by decide +kernel
theorem d_Model_allTakes_17 : decode b_Model_allTakes 17 = .ok (.istore_n 2, 1) := by decide +kernel
theorem d_Model_allTakes_18 : decode b_Model_allTakes 18 = .ok (.iinc 3 (1), 3) := by decide +kernel
theorem d_Model_allTakes_21 : decode b_Model_allTakes 21 = .ok (.goto (-17), 3) := by decide +kernel
theorem d_Model_allTakes_24 : decode b_Model_allTakes 24 = .ok (.iload_n 2, 1) := by decide +kernel
theorem d_Model_allTakes_25 : decode b_Model_allTakes 25 = .ok (.ireturn, 1) := by decide +kernel
theorem zb_Model_allTakes_4 {l : Launch} {θ : ZT} {res : Int32 × ZM} {k4 : Int32 × Int32 × Int32 × ZM → Option (Int32 × ZM)} (hk4 : ∀ a : Int32 × Int32 × Int32 × ZM, k4 a = some res → WZ l b_Model_allTakes 4 (some .int) "BakedBeforeModel" 129 14 θ (zrm 37 882) (zQ mkI 129 14 θ res) a.2.2.2 [(0, .ref (za θ 129)), (1, .int a.1), (2, .int a.2.1), (3, .int a.2.2.1)] 4 []) {x1 : Int32} {x2 : Int32} {x3 : Int32} {σ : ZM} (h : f_Model_allTakes_4 k4 x1 x2 x3 σ = some res) : WZ l b_Model_allTakes 4 (some .int) "BakedBeforeModel" 129 14 θ (zrm 37 882) (zQ mkI 129 14 θ res) σ [(0, .ref (za θ 129)), (1, .int x1), (2, .int x2), (3, .int x3)] 4 [] := by
  unfold f_Model_allTakes_4 at h
  refine z_iload_n 3 d_Model_allTakes_4 rfl rfl ?_
  refine z_iconst (v := 4) d_Model_allTakes_5 (by decide) ?_
  refine z_icmp_ge (tgt := 24) d_Model_allTakes_6 (by decide) (fun c1 => ?_) (fun c1 => ?_)
  · have h := (if_pos c1).symm.trans h
    refine z_iload_n 2 d_Model_allTakes_24 rfl rfl ?_
    exact z_iret d_Model_allTakes_25 h
  · have h := (if_neg c1).symm.trans h
    refine z_iload_n 2 d_Model_allTakes_9 rfl rfl ?_
    refine z_aload_n 0 d_Model_allTakes_10 rfl rfl ?_
    refine z_iload_n 1 d_Model_allTakes_11 rfl rfl ?_
    refine z_iload_n 3 d_Model_allTakes_12 rfl rfl ?_
    obtain ⟨⟨v2, s3⟩, e4, h⟩ := zbd_i h
    refine w_callV (As := [.int x1, .int x3]) (kc := 22) (ci := 12) (c_Model_takesOf l θ e4) cf_Model_takesOf q_1076 d_Model_allTakes_13 zl_129 rfl rfl rfl rfl rfl rfl (Nat.le_of_ble_eq_true rfl) rfl rfl ⟨Nat.le_of_ble_eq_true rfl, Nat.le_of_ble_eq_true rfl⟩ ?_
    refine z_iadd d_Model_allTakes_16 ?_
    refine z_istore_n d_Model_allTakes_17 rfl (by decide) rfl ?_
    refine z_iinc (v := x3 + (1 : Int32)) 3 d_Model_allTakes_18 rfl rfl (by decide) rfl ?_
    refine z_goto (tgt := 4) d_Model_allTakes_21 (by decide) ?_
    refine z_sub [2, 3, 1, 0] rfl ?_
    exact hk4 (x1, (x2 + v2), (x3 + (1 : Int32)), s3) h
theorem zl_Model_allTakes_4 {l : Launch} {θ : ZT} {res : Int32 × ZM} : ∀ (N : Nat) (a : Int32 × Int32 × Int32 × ZM), F_Model_allTakes_4 N a = some res → WZ l b_Model_allTakes 4 (some .int) "BakedBeforeModel" 129 14 θ (zrm 37 882) (zQ mkI 129 14 θ res) a.2.2.2 [(0, .ref (za θ 129)), (1, .int a.1), (2, .int a.2.1), (3, .int a.2.2.1)] 4 [] := by
  intro N
  induction N with
  | zero => intro a  h; cases (show (none : Option (Int32 × ZM)) = some res from h)
  | succ N ih => intro a  h; exact zb_Model_allTakes_4 ih (show f_Model_allTakes_4 (F_Model_allTakes_4 N) a.1 a.2.1 a.2.2.1 a.2.2.2 = some res from h)
theorem c_Model_allTakes (l : Launch) (θ : ZT) {x1 : Int32} {σ : ZM} {res : Int32 × ZM} (h : f_Model_allTakes x1 σ = some res) : zMet mkI l 129 14 θ y_Model_allTakes b_Model_allTakes 4 (some .int) (zrm 37 882) [.ref (za θ 129), .int x1] σ res := by
  unfold f_Model_allTakes at h
  refine z_met (lv := [(0, .ref (za θ 129)), (1, .int x1)]) (by decide +kernel) rfl (Nat.le_of_ble_eq_true rfl) (by decide) ?_
  refine z_iconst (v := 0) d_Model_allTakes_0 (by decide) ?_
  refine z_istore_n d_Model_allTakes_1 rfl (by decide) rfl ?_
  refine z_iconst (v := 0) d_Model_allTakes_2 (by decide) ?_
  refine z_istore_n d_Model_allTakes_3 rfl (by decide) rfl ?_
  refine z_sub [2, 3, 1, 0] rfl ?_
  exact zl_Model_allTakes_4 2000 (x1, (0 : Int32), (0 : Int32), σ) h
theorem d_Model_isSpoiled_0 : decode b_Model_isSpoiled 0 = .ok (.iconst (0), 1) := by decide +kernel
theorem d_Model_isSpoiled_1 : decode b_Model_isSpoiled 1 = .ok (.istore_n 2, 1) := by decide +kernel
theorem d_Model_isSpoiled_2 : decode b_Model_isSpoiled 2 = .ok (.iload_n 2, 1) := by decide +kernel
theorem d_Model_isSpoiled_3 : decode b_Model_isSpoiled 3 = .ok (.iconst (4), 1) := by decide +kernel
theorem d_Model_isSpoiled_4 : decode b_Model_isSpoiled 4 = .ok (.if_icmp .ge (29), 3) := by decide +kernel
theorem d_Model_isSpoiled_7 : decode b_Model_isSpoiled 7 = .ok (.aload_n 0, 1) := by decide +kernel
theorem d_Model_isSpoiled_8 : decode b_Model_isSpoiled 8 = .ok (.iload_n 1, 1) := by decide +kernel
theorem d_Model_isSpoiled_9 : decode b_Model_isSpoiled 9 = .ok (.iload_n 2, 1) := by decide +kernel
theorem d_Model_isSpoiled_10 : decode b_Model_isSpoiled 10 = .ok (.invokevirtual 187, 3) := by decide +kernel
theorem d_Model_isSpoiled_13 : decode b_Model_isSpoiled 13 = .ok (.aload_n 0, 1) := by decide +kernel
theorem d_Model_isSpoiled_14 : decode b_Model_isSpoiled 14 = .ok (.iload_n 1, 1) := by decide +kernel
theorem d_Model_isSpoiled_15 : decode b_Model_isSpoiled 15 = .ok (.bipush (6), 2) := by decide +kernel
theorem d_Model_isSpoiled_17 : decode b_Model_isSpoiled 17 = .ok (.iload_n 2, 1) := by decide +kernel
theorem d_Model_isSpoiled_18 : decode b_Model_isSpoiled 18 = .ok (.iadd, 1) := by decide +kernel
theorem d_Model_isSpoiled_19 : decode b_Model_isSpoiled 19 = .ok (.invokevirtual 60, 3) := by decide +kernel
theorem d_Model_isSpoiled_22 : decode b_Model_isSpoiled 22 = .ok (.if_icmp .le (5), 3) := by decide +kernel
theorem d_Model_isSpoiled_25 : decode b_Model_isSpoiled 25 = .ok (.iconst (1), 1) := by decide +kernel
theorem d_Model_isSpoiled_26 : decode b_Model_isSpoiled 26 = .ok (.ireturn, 1) := by decide +kernel
theorem d_Model_isSpoiled_27 : decode b_Model_isSpoiled 27 = .ok (.iinc 2 (1), 3) := by decide +kernel
theorem d_Model_isSpoiled_30 : decode b_Model_isSpoiled 30 = .ok (.goto (-28), 3) := by decide +kernel
theorem d_Model_isSpoiled_33 : decode b_Model_isSpoiled 33 = .ok (.iconst (0), 1) := by decide +kernel
theorem d_Model_isSpoiled_34 : decode b_Model_isSpoiled 34 = .ok (.ireturn, 1) := by decide +kernel
theorem zb_Model_isSpoiled_2 {l : Launch} {θ : ZT} {res : Int32 × ZM} {k2 : Int32 × Int32 × ZM → Option (Int32 × ZM)} (hk2 : ∀ a : Int32 × Int32 × ZM, k2 a = some res → WZ l b_Model_isSpoiled 3 (some .boolean) "BakedBeforeModel" 129 14 θ (zrm 37 882) (zQ mkI 129 14 θ res) a.2.2 [(0, .ref (za θ 129)), (1, .int a.1), (2, .int a.2.1)] 2 []) {x1 : Int32} {x2 : Int32} {σ : ZM} (h : f_Model_isSpoiled_2 k2 x1 x2 σ = some res) : WZ l b_Model_isSpoiled 3 (some .boolean) "BakedBeforeModel" 129 14 θ (zrm 37 882) (zQ mkI 129 14 θ res) σ [(0, .ref (za θ 129)), (1, .int x1), (2, .int x2)] 2 [] := by
  unfold f_Model_isSpoiled_2 at h
  refine z_iload_n 2 d_Model_isSpoiled_2 rfl rfl ?_
  refine z_iconst (v := 4) d_Model_isSpoiled_3 (by decide) ?_
  refine z_icmp_ge (tgt := 33) d_Model_isSpoiled_4 (by decide) (fun c1 => ?_) (fun c1 => ?_)
  · have h := (if_pos c1).symm.trans h
    refine z_iconst (v := 0) d_Model_isSpoiled_33 (by decide) ?_
    exact z_zret d_Model_isSpoiled_34 (by decide) h
  · have h := (if_neg c1).symm.trans h
    refine z_aload_n 0 d_Model_isSpoiled_7 rfl rfl ?_
    refine z_iload_n 1 d_Model_isSpoiled_8 rfl rfl ?_
    refine z_iload_n 2 d_Model_isSpoiled_9 rfl rfl ?_
    obtain ⟨⟨v2, s3⟩, e4, h⟩ := zbd_i h
    refine w_callV (As := [.int x1, .int x2]) (kc := 22) (ci := 12) (c_Model_takesOf l θ e4) cf_Model_takesOf q_1076 d_Model_isSpoiled_10 zl_129 rfl rfl rfl rfl rfl rfl (Nat.le_of_ble_eq_true rfl) rfl rfl ⟨Nat.le_of_ble_eq_true rfl, Nat.le_of_ble_eq_true rfl⟩ ?_
    refine z_aload_n 0 d_Model_isSpoiled_13 rfl rfl ?_
    refine z_iload_n 1 d_Model_isSpoiled_14 rfl rfl ?_
    refine z_bipush (v := 6) d_Model_isSpoiled_15 (by decide) ?_
    refine z_iload_n 2 d_Model_isSpoiled_17 rfl rfl ?_
    refine z_iadd d_Model_isSpoiled_18 ?_
    obtain ⟨⟨v5, s6⟩, e7, h⟩ := zbd_i h
    refine w_callV (As := [.int x1, .int ((6 : Int32) + x2)]) (kc := 22) (ci := 12) (c_Model_get l θ e7) cf_Model_get q_1037 d_Model_isSpoiled_19 zl_129 rfl rfl rfl rfl rfl rfl (Nat.le_of_ble_eq_true rfl) rfl rfl ⟨Nat.le_of_ble_eq_true rfl, Nat.le_of_ble_eq_true rfl⟩ ?_
    refine z_icmp_le (tgt := 27) d_Model_isSpoiled_22 (by decide) (fun c8 => ?_) (fun c8 => ?_)
    · have h := (if_pos c8).symm.trans h
      refine z_iinc (v := x2 + (1 : Int32)) 2 d_Model_isSpoiled_27 rfl rfl (by decide) rfl ?_
      refine z_goto (tgt := 2) d_Model_isSpoiled_30 (by decide) ?_
      refine z_sub [1, 2, 0] rfl ?_
      exact hk2 (x1, (x2 + (1 : Int32)), s6) h
    · have h := (if_neg c8).symm.trans h
      refine z_iconst (v := 1) d_Model_isSpoiled_25 (by decide) ?_
      exact z_zret d_Model_isSpoiled_26 (by decide) h
theorem zl_Model_isSpoiled_2 {l : Launch} {θ : ZT} {res : Int32 × ZM} : ∀ (N : Nat) (a : Int32 × Int32 × ZM), F_Model_isSpoiled_2 N a = some res → WZ l b_Model_isSpoiled 3 (some .boolean) "BakedBeforeModel" 129 14 θ (zrm 37 882) (zQ mkI 129 14 θ res) a.2.2 [(0, .ref (za θ 129)), (1, .int a.1), (2, .int a.2.1)] 2 [] := by
  intro N
  induction N with
  | zero => intro a  h; cases (show (none : Option (Int32 × ZM)) = some res from h)
  | succ N ih => intro a  h; exact zb_Model_isSpoiled_2 ih (show f_Model_isSpoiled_2 (F_Model_isSpoiled_2 N) a.1 a.2.1 a.2.2 = some res from h)
theorem c_Model_isSpoiled (l : Launch) (θ : ZT) {x1 : Int32} {σ : ZM} {res : Int32 × ZM} (h : f_Model_isSpoiled x1 σ = some res) : zMet mkI l 129 14 θ y_Model_isSpoiled b_Model_isSpoiled 3 (some .boolean) (zrm 37 882) [.ref (za θ 129), .int x1] σ res := by
  unfold f_Model_isSpoiled at h
  refine z_met (lv := [(0, .ref (za θ 129)), (1, .int x1)]) (by decide +kernel) rfl (Nat.le_of_ble_eq_true rfl) (by decide) ?_
  refine z_iconst (v := 0) d_Model_isSpoiled_0 (by decide) ?_
  refine z_istore_n d_Model_isSpoiled_1 rfl (by decide) rfl ?_
  refine z_sub [1, 2, 0] rfl ?_
  exact zl_Model_isSpoiled_2 2000 (x1, (0 : Int32), σ) h
theorem d_Model_feeOf_0 : decode b_Model_feeOf 0 = .ok (.aload_n 0, 1) := by decide +kernel
theorem d_Model_feeOf_1 : decode b_Model_feeOf 1 = .ok (.iload_n 1, 1) := by decide +kernel
theorem d_Model_feeOf_2 : decode b_Model_feeOf 2 = .ok (.iconst (0), 1) := by decide +kernel
theorem d_Model_feeOf_3 : decode b_Model_feeOf 3 = .ok (.invokevirtual 176, 3) := by decide +kernel
theorem d_Model_feeOf_6 : decode b_Model_feeOf 6 = .ok (.aload_n 0, 1) := by decide +kernel
theorem d_Model_feeOf_7 : decode b_Model_feeOf 7 = .ok (.getfield 163, 3) := by decide +kernel
theorem d_Model_feeOf_10 : decode b_Model_feeOf 10 = .ok (.ireturn, 1) := by decide +kernel
theorem c_Model_feeOf (l : Launch) (θ : ZT) {x1 : Int32} {σ : ZM} {res : Int32 × ZM} (h : f_Model_feeOf x1 σ = some res) : zMet mkI l 129 14 θ y_Model_feeOf b_Model_feeOf 2 (some .int) (zrm 35 838) [.ref (za θ 129), .int x1] σ res := by
  unfold f_Model_feeOf at h
  refine z_met (lv := [(0, .ref (za θ 129)), (1, .int x1)]) (by decide +kernel) rfl (Nat.le_of_ble_eq_true rfl) (by decide) ?_
  refine z_aload_n 0 d_Model_feeOf_0 rfl rfl ?_
  refine z_iload_n 1 d_Model_feeOf_1 rfl rfl ?_
  refine z_iconst (v := 0) d_Model_feeOf_2 (by decide) ?_
  obtain ⟨⟨v1, s2⟩, e3, h⟩ := zbd_i h
  refine w_callV (As := [.int x1, .int (0 : Int32)]) (kc := 22) (ci := 12) (c_Model_readsNow l θ e3) cf_Model_readsNow q_1068 d_Model_feeOf_3 zl_129 rfl rfl rfl rfl rfl rfl (Nat.le_of_ble_eq_true rfl) rfl rfl ⟨Nat.le_of_ble_eq_true rfl, Nat.le_of_ble_eq_true rfl⟩ ?_
  refine z_aload_n 0 d_Model_feeOf_6 rfl rfl ?_
  refine gf_Model_fee zl_129 d_Model_feeOf_7 q_891 ?_
  exact z_iret d_Model_feeOf_10 h
theorem d_Model_ages_0 : decode b_Model_ages 0 = .ok (.aload_n 0, 1) := by decide +kernel
theorem d_Model_ages_1 : decode b_Model_ages 1 = .ok (.getfield 11, 3) := by decide +kernel
theorem d_Model_ages_4 : decode b_Model_ages 4 = .ok (.iconst (4), 1) := by decide +kernel
theorem d_Model_ages_5 : decode b_Model_ages 5 = .ok (.dup2, 1) := by decide +kernel
theorem d_Model_ages_6 : decode b_Model_ages 6 = .ok (.iaload, 1) := by decide +kernel
theorem d_Model_ages_7 : decode b_Model_ages 7 = .ok (.aload_n 0, 1) := by decide +kernel
theorem d_Model_ages_8 : decode b_Model_ages 8 = .ok (.getfield 11, 3) := by decide +kernel
theorem d_Model_ages_11 : decode b_Model_ages 11 = .ok (.iconst (4), 1) := by decide +kernel
theorem d_Model_ages_12 : decode b_Model_ages 12 = .ok (.iaload, 1) := by decide +kernel
theorem d_Model_ages_13 : decode b_Model_ages 13 = .ok (.sipush (9999), 3) := by decide +kernel
theorem d_Model_ages_16 : decode b_Model_ages 16 = .ok (.if_icmp .ge (7), 3) := by decide +kernel
theorem d_Model_ages_19 : decode b_Model_ages 19 = .ok (.iconst (1), 1) := by decide +kernel
theorem d_Model_ages_20 : decode b_Model_ages 20 = .ok (.goto (4), 3) := by decide +kernel
theorem d_Model_ages_23 : decode b_Model_ages 23 = .ok (.iconst (0), 1) := by decide +kernel
theorem d_Model_ages_24 : decode b_Model_ages 24 = .ok (.iadd, 1) := by decide +kernel
theorem d_Model_ages_25 : decode b_Model_ages 25 = .ok (.iastore, 1) := by decide +kernel
theorem d_Model_ages_26 : decode b_Model_ages 26 = .ok (.return_, 1) := by decide +kernel
theorem zb_Model_ages_24 {l : Launch} {θ : ZT} {res : Unit × ZM} {y0 : Int32} {y1 : Int32} {y2 : Int32} {σ : ZM} (h : f_Model_ages_24 y0 y1 y2 σ = some res) : WZ l b_Model_ages 1 none "BakedBeforeModel" 129 14 θ (zrm 1 60) (zQ mkV 129 14 θ res) σ [] 24 [.int y0, .int y1, .int y2, .ref (za θ 130)] := by
  unfold f_Model_ages_24 at h
  refine z_iadd d_Model_ages_24 ?_
  obtain ⟨c1, h⟩ := zck_i h
  refine w_iast zl_130 c1 d_Model_ages_25 ?_
  exact z_vret d_Model_ages_26 h
theorem c_Model_ages (l : Launch) (θ : ZT)  {σ : ZM} {res : Unit × ZM} (h : f_Model_ages σ = some res) : zMet mkV l 129 14 θ y_Model_ages b_Model_ages 1 none (zrm 1 60) [.ref (za θ 129)] σ res := by
  unfold f_Model_ages at h
  refine z_met (lv := [(0, .ref (za θ 129))]) (by decide +kernel) rfl (Nat.le_of_ble_eq_true rfl) (by decide) ?_
  refine z_aload_n 0 d_Model_ages_0 rfl rfl ?_
  refine gf_Model_s zl_129 d_Model_ages_1 q_871 ?_
  refine z_iconst (v := 4) d_Model_ages_4 (by decide) ?_
  refine z_dup2 d_Model_ages_5 rfl rfl ?_
  obtain ⟨c1, h⟩ := zck_i h
  refine w_iald zl_130 c1 d_Model_ages_6 ?_
  refine z_aload_n 0 d_Model_ages_7 rfl rfl ?_
  refine gf_Model_s zl_129 d_Model_ages_8 q_871 ?_
  refine z_iconst (v := 4) d_Model_ages_11 (by decide) ?_
  obtain ⟨c2, h⟩ := zck_i h
  refine w_iald zl_130 c2 d_Model_ages_12 ?_
  refine z_sipush (v := 9999) d_Model_ages_13 (by decide) ?_
  refine z_icmp_ge (tgt := 23) d_Model_ages_16 (by decide) (fun c3 => ?_) (fun c3 => ?_)
  · have h := (if_pos c3).symm.trans h
    refine z_iconst (v := 0) d_Model_ages_23 (by decide) ?_
    refine z_sub [] rfl ?_
    exact zb_Model_ages_24 h
  · have h := (if_neg c3).symm.trans h
    refine z_iconst (v := 1) d_Model_ages_19 (by decide) ?_
    refine z_goto (tgt := 24) d_Model_ages_20 (by decide) ?_
    refine z_sub [] rfl ?_
    exact zb_Model_ages_24 h
