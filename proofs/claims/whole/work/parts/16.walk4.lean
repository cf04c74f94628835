/-! walks: Asker_firstOtherwise BB_looked Tapes_isTape Tapes_firstUnlike BB_judge Book_become Loaf_become Stand_become BB_image BB_undo Acts_bodyOf Acts_note Acts_run Acts_play BB_act BB_trace Loaf_isUnder BB_taken BB_count Tapes_begin BB_tape Tapes_asItem Tapes_write BB_item Tapes_valueAt BB_read Tapes_move BB_shift Model_isIn Model_isTaste Model_isLoaf Model_areLoaves Model_bits Model_lays Model_begins Model_ends -/
theorem d_Asker_firstOtherwise_0 : decode b_Asker_firstOtherwise 0 = .ok (.aload_n 0, 1) := by decide +kernel
theorem d_Asker_firstOtherwise_1 : decode b_Asker_firstOtherwise 1 = .ok (.getfield 12, 3) := by decide +kernel
theorem d_Asker_firstOtherwise_4 : decode b_Asker_firstOtherwise 4 = .ok (.aload_n 0, 1) := by decide +kernel
theorem d_Asker_firstOtherwise_5 : decode b_Asker_firstOtherwise 5 = .ok (.getfield 22, 3) := by decide +kernel
theorem d_Asker_firstOtherwise_8 : decode b_Asker_firstOtherwise 8 = .ok (.getfield 30, 3) := by decide +kernel
theorem d_Asker_firstOtherwise_11 : decode b_Asker_firstOtherwise 11 = .ok (.invokevirtual 35, 3) := by decide +kernel
theorem d_Asker_firstOtherwise_14 : decode b_Asker_firstOtherwise 14 = .ok (.iconst (0), 1) := by decide +kernel
theorem d_Asker_firstOtherwise_15 : decode b_Asker_firstOtherwise 15 = .ok (.istore_n 1, 1) := by decide +kernel
theorem d_Asker_firstOtherwise_16 : decode b_Asker_firstOtherwise 16 = .ok (.iload_n 1, 1) := by decide +kernel
theorem d_Asker_firstOtherwise_17 : decode b_Asker_firstOtherwise 17 = .ok (.aload_n 0, 1) := by decide +kernel
theorem d_Asker_firstOtherwise_18 : decode b_Asker_firstOtherwise 18 = .ok (.getfield 22, 3) := by decide +kernel
theorem d_Asker_firstOtherwise_21 : decode b_Asker_firstOtherwise 21 = .ok (.getfield 112, 3) := by decide +kernel
theorem d_Asker_firstOtherwise_24 : decode b_Asker_firstOtherwise 24 = .ok (.getfield 116, 3) := by decide +kernel
theorem d_Asker_firstOtherwise_27 : decode b_Asker_firstOtherwise 27 = .ok (.if_icmp .ge (83), 3) := by decide +kernel
theorem d_Asker_firstOtherwise_30 : decode b_Asker_firstOtherwise 30 = .ok (.aload_n 0, 1) := by decide +kernel
theorem d_Asker_firstOtherwise_31 : decode b_Asker_firstOtherwise 31 = .ok (.getfield 22, 3) := by decide +kernel
theorem d_Asker_firstOtherwise_34 : decode b_Asker_firstOtherwise 34 = .ok (.getfield 112, 3) := by decide +kernel
theorem d_Asker_firstOtherwise_37 : decode b_Asker_firstOtherwise 37 = .ok (.getfield 121, 3) := by decide +kernel
theorem d_Asker_firstOtherwise_40 : decode b_Asker_firstOtherwise 40 = .ok (.iload_n 1, 1) := by decide +kernel
theorem d_Asker_firstOtherwise_41 : decode b_Asker_firstOtherwise 41 = .ok (.iaload, 1) := by decide +kernel
theorem d_Asker_firstOtherwise_42 : decode b_Asker_firstOtherwise 42 = .ok (.istore_n 2, 1) := by decide +kernel
theorem d_Asker_firstOtherwise_43 : decode b_Asker_firstOtherwise 43 = .ok (.iconst (0), 1) := by decide +kernel
theorem d_Asker_firstOtherwise_44 : decode b_Asker_firstOtherwise 44 = .ok (.istore_n 3, 1) := by decide +kernel
theorem d_Asker_firstOtherwise_45 : decode b_Asker_firstOtherwise 45 = .ok (.iload_n 2, 1) := by decide +kernel
theorem d_Asker_firstOtherwise_46 : decode b_Asker_firstOtherwise 46 = .ok (.bipush (-2), 2) := by decide +kernel
theorem d_Asker_firstOtherwise_48 : decode b_Asker_firstOtherwise 48 = .ok (.if_icmp .ne (17), 3) := by decide +kernel
theorem d_Asker_firstOtherwise_51 : decode b_Asker_firstOtherwise 51 = .ok (.aload_n 0, 1) := by decide +kernel
theorem d_Asker_firstOtherwise_52 : decode b_Asker_firstOtherwise 52 = .ok (.getfield 26, 3) := by decide +kernel
theorem d_Asker_firstOtherwise_55 : decode b_Asker_firstOtherwise 55 = .ok (.aload_n 0, 1) := by decide +kernel
theorem d_Asker_firstOtherwise_56 : decode b_Asker_firstOtherwise 56 = .ok (.getfield 12, 3) := by decide +kernel
theorem d_Asker_firstOtherwise_59 : decode b_Asker_firstOtherwise 59 = .ok (.invokevirtual 102, 3) := by decide +kernel
theorem d_Asker_firstOtherwise_62 : decode b_Asker_firstOtherwise 62 = .ok (.goto (24), 3) := by decide +kernel
theorem d_Asker_firstOtherwise_65 : decode b_Asker_firstOtherwise 65 = .ok (.aload_n 0, 1) := by decide +kernel
theorem d_Asker_firstOtherwise_66 : decode b_Asker_firstOtherwise 66 = .ok (.getfield 26, 3) := by decide +kernel
theorem d_Asker_firstOtherwise_69 : decode b_Asker_firstOtherwise 69 = .ok (.aload_n 0, 1) := by decide +kernel
theorem d_Asker_firstOtherwise_70 : decode b_Asker_firstOtherwise 70 = .ok (.getfield 12, 3) := by decide +kernel
theorem d_Asker_firstOtherwise_73 : decode b_Asker_firstOtherwise 73 = .ok (.aload_n 0, 1) := by decide +kernel
theorem d_Asker_firstOtherwise_74 : decode b_Asker_firstOtherwise 74 = .ok (.getfield 22, 3) := by decide +kernel
theorem d_Asker_firstOtherwise_77 : decode b_Asker_firstOtherwise 77 = .ok (.getfield 39, 3) := by decide +kernel
theorem d_Asker_firstOtherwise_80 : decode b_Asker_firstOtherwise 80 = .ok (.iload_n 2, 1) := by decide +kernel
theorem d_Asker_firstOtherwise_81 : decode b_Asker_firstOtherwise 81 = .ok (.aaload, 1) := by decide +kernel
theorem d_Asker_firstOtherwise_82 : decode b_Asker_firstOtherwise 82 = .ok (.invokevirtual 43, 3) := by decide +kernel
theorem d_Asker_firstOtherwise_85 : decode b_Asker_firstOtherwise 85 = .ok (.istore_n 3, 1) := by decide +kernel
theorem d_Asker_firstOtherwise_86 : decode b_Asker_firstOtherwise 86 = .ok (.iload_n 3, 1) := by decide +kernel
theorem d_Asker_firstOtherwise_87 : decode b_Asker_firstOtherwise 87 = .ok (.aload_n 0, 1) := by decide +kernel
theorem d_Asker_firstOtherwise_88 : decode b_Asker_firstOtherwise 88 = .ok (.getfield 22, 3) := by decide +kernel
theorem d_Asker_firstOtherwise_91 : decode b_Asker_firstOtherwise 91 = .ok (.getfield 112, 3) := by decide +kernel
theorem d_Asker_firstOtherwise_94 : decode b_Asker_firstOtherwise 94 = .ok (.getfield 123, 3) := by decide +kernel
theorem d_Asker_firstOtherwise_97 : decode b_Asker_firstOtherwise 97 = .ok (.iload_n 1, 1) := by decide +kernel
theorem d_Asker_firstOtherwise_98 : decode b_Asker_firstOtherwise 98 = .ok (.baload, 1) := by decide +kernel
theorem d_Asker_firstOtherwise_99 : decode b_Asker_firstOtherwise 99 = .ok (.if_icmp .eq (5), 3) := by decide +kernel
theorem d_Asker_firstOtherwise_102 : decode b_Asker_firstOtherwise 102 = .ok (.iload_n 1, 1) := by decide +kernel
theorem d_Asker_firstOtherwise_103 : decode b_Asker_firstOtherwise 103 = .ok (.ireturn, 1) := by decide +kernel
theorem d_Asker_firstOtherwise_104 : decode b_Asker_firstOtherwise 104 = .ok (.iinc 1 (1), 3) := by decide +kernel
theorem d_Asker_firstOtherwise_107 : decode b_Asker_firstOtherwise 107 = .ok (.goto (-91), 3) := by decide +kernel
theorem d_Asker_firstOtherwise_110 : decode b_Asker_firstOtherwise 110 = .ok (.bipush (-5), 2) := by decide +kernel
theorem d_Asker_firstOtherwise_112 : decode b_Asker_firstOtherwise 112 = .ok (.ireturn, 1) := by decide +kernel
theorem zb_Asker_firstOtherwise_86 {l : Launch} {θ : ZT} {res : Int32 × ZM} {k16 : Int32 × ZM → Option (Int32 × ZM)} (hk16 : ∀ a : Int32 × ZM, k16 a = some res → WZ l b_Asker_firstOtherwise 4 (some .int) "BakedBefore$Aske\x72" 0 129 θ (zrm 6 190) (zQ mkI 0 129 θ res) a.2 [(0, .ref (za θ 6)), (1, .int a.1)] 16 []) {x1 : Int32} {x3 : Int32} {σ : ZM} (h : f_Asker_firstOtherwise_86 k16 x1 x3 σ = some res) : WZ l b_Asker_firstOtherwise 4 (some .int) "BakedBefore$Aske\x72" 0 129 θ (zrm 6 190) (zQ mkI 0 129 θ res) σ [(0, .ref (za θ 6)), (1, .int x1), (3, .int x3)] 86 [] := by
  unfold f_Asker_firstOtherwise_86 at h
  refine z_iload_n 2 d_Asker_firstOtherwise_86 rfl rfl ?_
  refine z_aload_n 0 d_Asker_firstOtherwise_87 rfl rfl ?_
  refine gf_Asker_now zl_6 d_Asker_firstOtherwise_88 q_222 ?_
  refine gf_Stand_book (o2 := 27) zl_1 rfl d_Asker_firstOtherwise_91 q_123 ?_
  refine gf_Book_spoiled (o2 := 31) zl_27 rfl d_Asker_firstOtherwise_94 q_67 ?_
  refine z_iload_n 1 d_Asker_firstOtherwise_97 rfl rfl ?_
  obtain ⟨c1, h⟩ := zck_i h
  refine w_bald zl_31 c1 d_Asker_firstOtherwise_98 ?_
  refine z_icmp_eq (tgt := 104) d_Asker_firstOtherwise_99 (by decide) (fun c2 => ?_) (fun c2 => ?_)
  · have h := (if_pos c2).symm.trans h
    refine z_iinc (v := x1 + (1 : Int32)) 1 d_Asker_firstOtherwise_104 rfl rfl (by decide) rfl ?_
    refine z_goto (tgt := 16) d_Asker_firstOtherwise_107 (by decide) ?_
    refine z_sub [1, 0] rfl ?_
    exact hk16 ((x1 + (1 : Int32)), σ) h
  · have h := (if_neg c2).symm.trans h
    refine z_iload_n 1 d_Asker_firstOtherwise_102 rfl rfl ?_
    exact z_iret d_Asker_firstOtherwise_103 h
theorem zb_Asker_firstOtherwise_16 {l : Launch} {θ : ZT} {res : Int32 × ZM} {k16 : Int32 × ZM → Option (Int32 × ZM)} (hk16 : ∀ a : Int32 × ZM, k16 a = some res → WZ l b_Asker_firstOtherwise 4 (some .int) "BakedBefore$Aske\x72" 0 129 θ (zrm 6 190) (zQ mkI 0 129 θ res) a.2 [(0, .ref (za θ 6)), (1, .int a.1)] 16 []) {x1 : Int32} {σ : ZM} (h : f_Asker_firstOtherwise_16 k16 x1 σ = some res) : WZ l b_Asker_firstOtherwise 4 (some .int) "BakedBefore$Aske\x72" 0 129 θ (zrm 6 190) (zQ mkI 0 129 θ res) σ [(0, .ref (za θ 6)), (1, .int x1)] 16 [] := by
  unfold f_Asker_firstOtherwise_16 at h
  refine z_iload_n 1 d_Asker_firstOtherwise_16 rfl rfl ?_
  refine z_aload_n 0 d_Asker_firstOtherwise_17 rfl rfl ?_
  refine gf_Asker_now zl_6 d_Asker_firstOtherwise_18 q_222 ?_
  refine gf_Stand_book (o2 := 27) zl_1 rfl d_Asker_firstOtherwise_21 q_123 ?_
  refine gf_Book_rows zl_27 d_Asker_firstOtherwise_24 q_69 ?_
  refine z_icmp_ge (tgt := 110) d_Asker_firstOtherwise_27 (by decide) (fun c1 => ?_) (fun c1 => ?_)
  · have h := (if_pos c1).symm.trans h
    refine z_bipush (v := -5) d_Asker_firstOtherwise_110 (by decide) ?_
    exact z_iret d_Asker_firstOtherwise_112 h
  · have h := (if_neg c1).symm.trans h
    refine z_aload_n 0 d_Asker_firstOtherwise_30 rfl rfl ?_
    refine gf_Asker_now zl_6 d_Asker_firstOtherwise_31 q_222 ?_
    refine gf_Stand_book (o2 := 27) zl_1 rfl d_Asker_firstOtherwise_34 q_123 ?_
    refine gf_Book_loaves (o2 := 29) zl_27 rfl d_Asker_firstOtherwise_37 q_65 ?_
    refine z_iload_n 1 d_Asker_firstOtherwise_40 rfl rfl ?_
    obtain ⟨c2, h⟩ := zck_i h
    refine w_iald zl_29 c2 d_Asker_firstOtherwise_41 ?_
    refine z_istore_n d_Asker_firstOtherwise_42 rfl (by decide) rfl ?_
    refine z_iconst (v := 0) d_Asker_firstOtherwise_43 (by decide) ?_
    refine z_istore_n d_Asker_firstOtherwise_44 rfl (by decide) rfl ?_
    refine z_iload_n 1 d_Asker_firstOtherwise_45 rfl rfl ?_
    refine z_bipush (v := -2) d_Asker_firstOtherwise_46 (by decide) ?_
    refine z_icmp_ne (tgt := 65) d_Asker_firstOtherwise_48 (by decide) (fun c3 => ?_) (fun c3 => ?_)
    · have h := (if_neg c3).symm.trans h
      refine z_aload_n 2 d_Asker_firstOtherwise_65 rfl rfl ?_
      refine gf_Asker_baker zl_6 d_Asker_firstOtherwise_66 q_223 ?_
      refine z_aload_n 2 d_Asker_firstOtherwise_69 rfl rfl ?_
      refine gf_Asker_trial zl_6 d_Asker_firstOtherwise_70 q_224 ?_
      refine z_aload_n 2 d_Asker_firstOtherwise_73 rfl rfl ?_
      refine gf_Asker_now zl_6 d_Asker_firstOtherwise_74 q_222 ?_
      refine gf_Stand_loaves (o2 := 25) zl_1 rfl d_Asker_firstOtherwise_77 q_115 ?_
      refine z_iload_n 1 d_Asker_firstOtherwise_80 rfl rfl ?_
      obtain ⟨c4, h⟩ := zck_i h
      refine w_aald3 zl_25 c4 d_Asker_firstOtherwise_81 ?_
      obtain ⟨c5, h⟩ := zck_i h
      obtain ⟨⟨v6, s7⟩, e8, h⟩ := zbd_i h
      refine w_callV (As := [.ref (za θ 35), .ref (za θ (zel 25 (zI σ 29 x1.toNatClampNeg).toNatClampNeg))]) (kc := 13) (ci := 3) (c_Baker_bakeIn l θ e8) cf_Baker_bakeIn q_584 d_Asker_firstOtherwise_82 zl_5 rfl rfl rfl rfl rfl rfl (Nat.le_of_ble_eq_true rfl) rfl rfl ⟨Nat.le_of_ble_eq_true rfl, Nat.le_of_ble_eq_true rfl⟩ ?_
      refine z_istore_n d_Asker_firstOtherwise_85 rfl (by decide) rfl ?_
      refine z_sub [2, 3, 0] rfl ?_
      exact zb_Asker_firstOtherwise_86 hk16 h
    · have h := (if_pos c3).symm.trans h
      refine z_aload_n 2 d_Asker_firstOtherwise_51 rfl rfl ?_
      refine gf_Asker_baker zl_6 d_Asker_firstOtherwise_52 q_223 ?_
      refine z_aload_n 2 d_Asker_firstOtherwise_55 rfl rfl ?_
      refine gf_Asker_trial zl_6 d_Asker_firstOtherwise_56 q_224 ?_
      obtain ⟨⟨v9, s10⟩, e11, h⟩ := zbd_i h
      refine w_callV (As := [.ref (za θ 35)]) (kc := 13) (ci := 3) (c_Baker_chill l θ e11) cf_Baker_chill q_716 d_Asker_firstOtherwise_59 zl_5 rfl rfl rfl rfl rfl rfl (Nat.le_of_ble_eq_true rfl) rfl rfl ⟨Nat.le_of_ble_eq_true rfl, Nat.le_of_ble_eq_true rfl⟩ ?_
      refine z_goto (tgt := 86) d_Asker_firstOtherwise_62 (by decide) ?_
      refine z_sub [2, 3, 0] rfl ?_
      exact zb_Asker_firstOtherwise_86 hk16 h
theorem zl_Asker_firstOtherwise_16 {l : Launch} {θ : ZT} {res : Int32 × ZM} : ∀ (N : Nat) (a : Int32 × ZM), F_Asker_firstOtherwise_16 N a = some res → WZ l b_Asker_firstOtherwise 4 (some .int) "BakedBefore$Aske\x72" 0 129 θ (zrm 6 190) (zQ mkI 0 129 θ res) a.2 [(0, .ref (za θ 6)), (1, .int a.1)] 16 [] := by
  intro N
  induction N with
  | zero => intro a  h; cases (show (none : Option (Int32 × ZM)) = some res from h)
  | succ N ih => intro a  h; exact zb_Asker_firstOtherwise_16 ih (show f_Asker_firstOtherwise_16 (F_Asker_firstOtherwise_16 N) a.1 a.2 = some res from h)
theorem c_Asker_firstOtherwise (l : Launch) (θ : ZT)  {σ : ZM} {res : Int32 × ZM} (h : f_Asker_firstOtherwise σ = some res) : zMet mkI l 0 129 θ y_Asker_firstOtherwise b_Asker_firstOtherwise 4 (some .int) (zrm 6 190) [.ref (za θ 6)] σ res := by
  unfold f_Asker_firstOtherwise at h
  refine z_met (lv := [(0, .ref (za θ 6))]) (by decide +kernel) rfl (Nat.le_of_ble_eq_true rfl) (by decide) ?_
  refine z_aload_n 0 d_Asker_firstOtherwise_0 rfl rfl ?_
  refine gf_Asker_trial zl_6 d_Asker_firstOtherwise_1 q_224 ?_
  refine z_aload_n 0 d_Asker_firstOtherwise_4 rfl rfl ?_
  refine gf_Asker_now zl_6 d_Asker_firstOtherwise_5 q_222 ?_
  refine gf_Stand_oven (o2 := 33) zl_1 rfl d_Asker_firstOtherwise_8 q_119 ?_
  obtain ⟨⟨v1, s2⟩, e3, h⟩ := zbd_i h
  refine w_callV (As := [.ref (za θ 33)]) (kc := 17) (ci := 7) (c_Oven_become l θ e3) cf_Oven_become q_580 d_Asker_firstOtherwise_11 zl_35 rfl rfl rfl rfl rfl rfl (Nat.le_of_ble_eq_true rfl) rfl rfl ⟨Nat.le_of_ble_eq_true rfl, Nat.le_of_ble_eq_true rfl⟩ ?_
  refine z_iconst (v := 0) d_Asker_firstOtherwise_14 (by decide) ?_
  refine z_istore_n d_Asker_firstOtherwise_15 rfl (by decide) rfl ?_
  refine z_sub [1, 0] rfl ?_
  exact zl_Asker_firstOtherwise_16 2000 ((0 : Int32), s2) h
theorem d_BB_looked_0 : decode b_BB_looked 0 = .ok (.aload_n 0, 1) := by decide +kernel
theorem d_BB_looked_1 : decode b_BB_looked 1 = .ok (.getfield 53, 3) := by decide +kernel
theorem d_BB_looked_4 : decode b_BB_looked 4 = .ok (.invokevirtual 248, 3) := by decide +kernel
theorem d_BB_looked_7 : decode b_BB_looked 7 = .ok (.ireturn, 1) := by decide +kernel
theorem c_BB_looked (l : Launch) (θ : ZT)  {σ : ZM} {res : Int32 × ZM} (h : f_BB_looked σ = some res) : zMet mkI l 0 129 θ y_BB_looked b_BB_looked 1 (some .int) (zrm 7 213) [.ref (za θ 0)] σ res := by
  unfold f_BB_looked at h
  refine z_met (lv := [(0, .ref (za θ 0))]) (by decide +kernel) rfl (Nat.le_of_ble_eq_true rfl) (by decide) ?_
  refine z_aload_n 0 d_BB_looked_0 rfl rfl ?_
  refine gf_BB_asker zl_0 d_BB_looked_1 q_309 ?_
  obtain ⟨⟨v1, s2⟩, e3, h⟩ := zbd_i h
  refine w_callV (As := []) (kc := 12) (ci := 2) (c_Asker_firstOtherwise l θ e3) cf_Asker_firstOtherwise q_750 d_BB_looked_4 zl_6 rfl rfl rfl rfl rfl rfl (Nat.le_of_ble_eq_true rfl) rfl rfl ⟨Nat.le_of_ble_eq_true rfl, Nat.le_of_ble_eq_true rfl⟩ ?_
  exact z_iret d_BB_looked_7 h
theorem d_Tapes_isTape_0 : decode b_Tapes_isTape 0 = .ok (.iload_n 0, 1) := by decide +kernel
theorem d_Tapes_isTape_1 : decode b_Tapes_isTape 1 = .ok (.ifCond .lt (13), 3) := by decide +kernel
theorem d_Tapes_isTape_4 : decode b_Tapes_isTape 4 = .ok (.iload_n 0, 1) := by decide +kernel
theorem d_Tapes_isTape_5 : decode b_Tapes_isTape 5 = .ok (.bipush (6), 2) := by decide +kernel
theorem d_Tapes_isTape_7 : decode b_Tapes_isTape 7 = .ok (.if_icmp .ge (7), 3) := by decide +kernel
theorem d_Tapes_isTape_10 : decode b_Tapes_isTape 10 = .ok (.iconst (1), 1) := by decide +kernel
theorem d_Tapes_isTape_11 : decode b_Tapes_isTape 11 = .ok (.goto (4), 3) := by decide +kernel
theorem d_Tapes_isTape_14 : decode b_Tapes_isTape 14 = .ok (.iconst (0), 1) := by decide +kernel
theorem d_Tapes_isTape_15 : decode b_Tapes_isTape 15 = .ok (.ireturn, 1) := by decide +kernel
theorem c_Tapes_isTape (l : Launch) (θ : ZT) {x0 : Int32} {σ : ZM} {res : Int32 × ZM} (h : f_Tapes_isTape x0 σ = some res) : zMet mkI l 0 129 θ y_Tapes_isTape b_Tapes_isTape 1 (some .boolean) (zrm 1 60) [.int x0] σ res := by
  unfold f_Tapes_isTape at h
  refine z_met (lv := [(0, .int x0)]) (by decide +kernel) rfl (Nat.le_of_ble_eq_true rfl) (by decide) ?_
  refine z_iload_n 0 d_Tapes_isTape_0 rfl rfl ?_
  refine z_if_lt (tgt := 14) d_Tapes_isTape_1 (by decide) (fun c1 => ?_) (fun c1 => ?_)
  · have h := (if_pos c1).symm.trans h
    refine z_iconst (v := 0) d_Tapes_isTape_14 (by decide) ?_
    exact z_zret d_Tapes_isTape_15 (by decide) h
  · have h := (if_neg c1).symm.trans h
    refine z_iload_n 0 d_Tapes_isTape_4 rfl rfl ?_
    refine z_bipush (v := 6) d_Tapes_isTape_5 (by decide) ?_
    refine z_icmp_ge (tgt := 14) d_Tapes_isTape_7 (by decide) (fun c2 => ?_) (fun c2 => ?_)
    · have h := (if_pos c2).symm.trans h
      refine z_iconst (v := 0) d_Tapes_isTape_14 (by decide) ?_
      exact z_zret d_Tapes_isTape_15 (by decide) h
    · have h := (if_neg c2).symm.trans h
      refine z_iconst (v := 1) d_Tapes_isTape_10 (by decide) ?_
      refine z_goto (tgt := 15) d_Tapes_isTape_11 (by decide) ?_
      exact z_zret d_Tapes_isTape_15 (by decide) h
theorem d_Tapes_firstUnlike_0 : decode b_Tapes_firstUnlike 0 = .ok (.aload_n 0, 1) := by decide +kernel
theorem d_Tapes_firstUnlike_1 : decode b_Tapes_firstUnlike 1 = .ok (.getfield 16, 3) := by decide +kernel
theorem d_Tapes_firstUnlike_4 : decode b_Tapes_firstUnlike 4 = .ok (.iload_n 1, 1) := by decide +kernel
theorem d_Tapes_firstUnlike_5 : decode b_Tapes_firstUnlike 5 = .ok (.iaload, 1) := by decide +kernel
theorem d_Tapes_firstUnlike_6 : decode b_Tapes_firstUnlike 6 = .ok (.iconst (-1), 1) := by decide +kernel
theorem d_Tapes_firstUnlike_7 : decode b_Tapes_firstUnlike 7 = .ok (.if_icmp .ne (6), 3) := by decide +kernel
theorem d_Tapes_firstUnlike_10 : decode b_Tapes_firstUnlike 10 = .ok (.bipush (100), 2) := by decide +kernel
theorem d_Tapes_firstUnlike_12 : decode b_Tapes_firstUnlike 12 = .ok (.ireturn, 1) := by decide +kernel
theorem d_Tapes_firstUnlike_13 : decode b_Tapes_firstUnlike 13 = .ok (.aload_n 0, 1) := by decide +kernel
theorem d_Tapes_firstUnlike_14 : decode b_Tapes_firstUnlike 14 = .ok (.getfield 16, 3) := by decide +kernel
theorem d_Tapes_firstUnlike_17 : decode b_Tapes_firstUnlike 17 = .ok (.iload_n 1, 1) := by decide +kernel
theorem d_Tapes_firstUnlike_18 : decode b_Tapes_firstUnlike 18 = .ok (.iaload, 1) := by decide +kernel
theorem d_Tapes_firstUnlike_19 : decode b_Tapes_firstUnlike 19 = .ok (.iconst (1), 1) := by decide +kernel
theorem d_Tapes_firstUnlike_20 : decode b_Tapes_firstUnlike 20 = .ok (.if_icmp .eq (6), 3) := by decide +kernel
theorem d_Tapes_firstUnlike_23 : decode b_Tapes_firstUnlike 23 = .ok (.bipush (-12), 2) := by decide +kernel
theorem d_Tapes_firstUnlike_25 : decode b_Tapes_firstUnlike 25 = .ok (.ireturn, 1) := by decide +kernel
theorem d_Tapes_firstUnlike_26 : decode b_Tapes_firstUnlike 26 = .ok (.iload_n 2, 1) := by decide +kernel
theorem d_Tapes_firstUnlike_27 : decode b_Tapes_firstUnlike 27 = .ok (.ifCond .lt (13), 3) := by decide +kernel
theorem d_Tapes_firstUnlike_30 : decode b_Tapes_firstUnlike 30 = .ok (.iload_n 2, 1) := by decide +kernel
theorem d_Tapes_firstUnlike_31 : decode b_Tapes_firstUnlike 31 = .ok (.aload_n 0, 1) := by decide +kernel
theorem d_Tapes_firstUnlike_32 : decode b_Tapes_firstUnlike 32 = .ok (.getfield 20, 3) := by decide +kernel
theorem d_Tapes_firstUnlike_35 : decode b_Tapes_firstUnlike 35 = .ok (.iload_n 1, 1) := by decide +kernel
theorem d_Tapes_firstUnlike_36 : decode b_Tapes_firstUnlike 36 = .ok (.iaload, 1) := by decide +kernel
theorem d_Tapes_firstUnlike_37 : decode b_Tapes_firstUnlike 37 = .ok (.if_icmp .le (6), 3) := by decide +kernel
theorem d_Tapes_firstUnlike_40 : decode b_Tapes_firstUnlike 40 = .ok (.bipush (100), 2) := by decide +kernel
theorem d_Tapes_firstUnlike_42 : decode b_Tapes_firstUnlike 42 = .ok (.ireturn, 1) := by decide +kernel
theorem d_Tapes_firstUnlike_43 : decode b_Tapes_firstUnlike 43 = .ok (.iconst (0), 1) := by decide +kernel
theorem d_Tapes_firstUnlike_44 : decode b_Tapes_firstUnlike 44 = .ok (.istore 4, 2) := by decide +kernel
theorem d_Tapes_firstUnlike_46 : decode b_Tapes_firstUnlike 46 = .ok (.iload 4, 2) := by decide +kernel
theorem d_Tapes_firstUnlike_48 : decode b_Tapes_firstUnlike 48 = .ok (.iconst (4), 1) := by decide +kernel
theorem d_Tapes_firstUnlike_49 : decode b_Tapes_firstUnlike 49 = .ok (.if_icmp .ge (54), 3) := by decide +kernel
theorem d_Tapes_firstUnlike_52 : decode b_Tapes_firstUnlike 52 = .ok (.iload_n 2, 1) := by decide +kernel
theorem d_Tapes_firstUnlike_53 : decode b_Tapes_firstUnlike 53 = .ok (.iload 4, 2) := by decide +kernel
theorem d_Tapes_firstUnlike_55 : decode b_Tapes_firstUnlike 55 = .ok (.iadd, 1) := by decide +kernel
theorem d_Tapes_firstUnlike_56 : decode b_Tapes_firstUnlike 56 = .ok (.aload_n 0, 1) := by decide +kernel
theorem d_Tapes_firstUnlike_57 : decode b_Tapes_firstUnlike 57 = .ok (.getfield 20, 3) := by decide +kernel
theorem d_Tapes_firstUnlike_60 : decode b_Tapes_firstUnlike 60 = .ok (.iload_n 1, 1) := by decide +kernel
theorem d_Tapes_firstUnlike_61 : decode b_Tapes_firstUnlike 61 = .ok (.iaload, 1) := by decide +kernel
theorem d_Tapes_firstUnlike_62 : decode b_Tapes_firstUnlike 62 = .ok (.if_icmp .lt (9), 3) := by decide +kernel
theorem d_Tapes_firstUnlike_65 : decode b_Tapes_firstUnlike 65 = .ok (.bipush (100), 2) := by decide +kernel
theorem d_Tapes_firstUnlike_67 : decode b_Tapes_firstUnlike 67 = .ok (.iload 4, 2) := by decide +kernel
theorem d_Tapes_firstUnlike_69 : decode b_Tapes_firstUnlike 69 = .ok (.iadd, 1) := by decide +kernel
theorem d_Tapes_firstUnlike_70 : decode b_Tapes_firstUnlike 70 = .ok (.ireturn, 1) := by decide +kernel
theorem d_Tapes_firstUnlike_71 : decode b_Tapes_firstUnlike 71 = .ok (.aload_n 0, 1) := by decide +kernel
theorem d_Tapes_firstUnlike_72 : decode b_Tapes_firstUnlike 72 = .ok (.getfield 13, 3) := by decide +kernel
theorem d_Tapes_firstUnlike_75 : decode b_Tapes_firstUnlike 75 = .ok (.iload_n 1, 1) := by decide +kernel
theorem d_Tapes_firstUnlike_76 : decode b_Tapes_firstUnlike 76 = .ok (.aaload, 1) := by decide +kernel
theorem d_Tapes_firstUnlike_77 : decode b_Tapes_firstUnlike 77 = .ok (.iload_n 2, 1) := by decide +kernel
theorem d_Tapes_firstUnlike_78 : decode b_Tapes_firstUnlike 78 = .ok (.iload 4, 2) := by decide +kernel
theorem d_Tapes_firstUnlike_80 : decode b_Tapes_firstUnlike 80 = .ok (.iadd, 1) := by decide +kernel
theorem d_Tapes_firstUnlike_81 : decode b_Tapes_firstUnlike 81 = .ok (.laload, 1) := by decide +kernel
theorem d_Tapes_firstUnlike_82 : decode b_Tapes_firstUnlike 82 = .ok (.aload_n 3, 1) := by decide +kernel
theorem d_Tapes_firstUnlike_83 : decode b_Tapes_firstUnlike 83 = .ok (.getfield 35, 3) := by decide +kernel
theorem d_Tapes_firstUnlike_86 : decode b_Tapes_firstUnlike 86 = .ok (.iload 4, 2) := by decide +kernel
theorem d_Tapes_firstUnlike_88 : decode b_Tapes_firstUnlike 88 = .ok (.iaload, 1) := by decide +kernel
theorem d_Tapes_firstUnlike_89 : decode b_Tapes_firstUnlike 89 = .ok (.i2l, 1) := by decide +kernel
theorem d_Tapes_firstUnlike_90 : decode b_Tapes_firstUnlike 90 = .ok (.lcmp, 1) := by decide +kernel
theorem d_Tapes_firstUnlike_91 : decode b_Tapes_firstUnlike 91 = .ok (.ifCond .eq (6), 3) := by decide +kernel
theorem d_Tapes_firstUnlike_94 : decode b_Tapes_firstUnlike 94 = .ok (.iload 4, 2) := by decide +kernel
theorem d_Tapes_firstUnlike_96 : decode b_Tapes_firstUnlike 96 = .ok (.ireturn, 1) := by decide +kernel
theorem d_Tapes_firstUnlike_97 : decode b_Tapes_firstUnlike 97 = .ok (.iinc 4 (1), 3) := by decide +kernel
theorem d_Tapes_firstUnlike_100 : decode b_Tapes_firstUnlike 100 = .ok (.goto (-54), 3) := by decide +kernel
theorem d_Tapes_firstUnlike_103 : decode b_Tapes_firstUnlike 103 = .ok (.bipush (-5), 2) := by decide +kernel
theorem d_Tapes_firstUnlike_105 : decode b_Tapes_firstUnlike 105 = .ok (.ireturn, 1) := by decide +kernel
theorem zb_Tapes_firstUnlike_46 {l : Launch} {θ : ZT} {res : Int32 × ZM} {k46 : Int32 × Int32 × Nat × Int32 × ZM → Option (Int32 × ZM)} (hk46 : ∀ a : Int32 × Int32 × Nat × Int32 × ZM, zR 0 129 a.2.2.1 17 0 = true → k46 a = some res → WZ l b_Tapes_firstUnlike 5 (some .int) "BakedBefore$Tapes" 0 129 θ (zrm 1 60) (zQ mkI 0 129 θ res) a.2.2.2.2 [(0, .ref (za θ 10)), (1, .int a.1), (2, .int a.2.1), (3, .ref (za θ a.2.2.1)), (4, .int a.2.2.2.1)] 46 []) {x1 : Int32} {x2 : Int32} {x3 : Nat} {x4 : Int32} {σ : ZM} (hx3 : zR 0 129 x3 17 0 = true) (h : f_Tapes_firstUnlike_46 k46 x1 x2 x3 x4 σ = some res) : WZ l b_Tapes_firstUnlike 5 (some .int) "BakedBefore$Tapes" 0 129 θ (zrm 1 60) (zQ mkI 0 129 θ res) σ [(0, .ref (za θ 10)), (1, .int x1), (2, .int x2), (3, .ref (za θ x3)), (4, .int x4)] 46 [] := by
  unfold f_Tapes_firstUnlike_46 at h
  refine z_iload 4 d_Tapes_firstUnlike_46 rfl ?_
  refine z_iconst (v := 4) d_Tapes_firstUnlike_48 (by decide) ?_
  refine z_icmp_ge (tgt := 103) d_Tapes_firstUnlike_49 (by decide) (fun c1 => ?_) (fun c1 => ?_)
  · have h := (if_pos c1).symm.trans h
    refine z_bipush (v := -5) d_Tapes_firstUnlike_103 (by decide) ?_
    exact z_iret d_Tapes_firstUnlike_105 h
  · have h := (if_neg c1).symm.trans h
    refine z_iload_n 2 d_Tapes_firstUnlike_52 rfl rfl ?_
    refine z_iload 4 d_Tapes_firstUnlike_53 rfl ?_
    refine z_iadd d_Tapes_firstUnlike_55 ?_
    refine z_aload_n 0 d_Tapes_firstUnlike_56 rfl rfl ?_
    refine gf_Tapes_lengths zl_10 d_Tapes_firstUnlike_57 q_294 ?_
    refine z_iload_n 1 d_Tapes_firstUnlike_60 rfl rfl ?_
    obtain ⟨c2, h⟩ := zck_i h
    refine w_iald zl_13 c2 d_Tapes_firstUnlike_61 ?_
    refine z_icmp_lt (tgt := 71) d_Tapes_firstUnlike_62 (by decide) (fun c3 => ?_) (fun c3 => ?_)
    · have h := (if_pos c3).symm.trans h
      refine z_aload_n 0 d_Tapes_firstUnlike_71 rfl rfl ?_
      refine gf_Tapes_rows zl_10 d_Tapes_firstUnlike_72 q_292 ?_
      refine z_iload_n 1 d_Tapes_firstUnlike_75 rfl rfl ?_
      obtain ⟨c4, h⟩ := zck_i h
      refine z_aald6 d_Tapes_firstUnlike_76 (by decide) (by decide) c4 ?_
      obtain ⟨c5, h⟩ := zck_i h
      refine z_iload_n 2 d_Tapes_firstUnlike_77 rfl rfl ?_
      refine z_iload 4 d_Tapes_firstUnlike_78 rfl ?_
      refine z_iadd d_Tapes_firstUnlike_80 ?_
      obtain ⟨c6, h⟩ := zck_i h
      refine w_lald c5 c6 d_Tapes_firstUnlike_81 ?_
      refine z_aload_n 3 d_Tapes_firstUnlike_82 rfl rfl ?_
      refine gf_Oven_held (o2 := x3 + 9) hx3 rfl d_Tapes_firstUnlike_83 q_46 ?_
      refine z_iload 4 d_Tapes_firstUnlike_86 rfl ?_
      obtain ⟨c7, h⟩ := zck_i h
      refine w_iald (zr_Oven_held hx3) c7 d_Tapes_firstUnlike_88 ?_
      refine z_i2l d_Tapes_firstUnlike_89 ?_
      refine z_lcmp d_Tapes_firstUnlike_90 ?_
      refine z_if_eq (tgt := 97) d_Tapes_firstUnlike_91 (by decide) (fun c8 => ?_) (fun c8 => ?_)
      · have h := (if_pos c8).symm.trans h
        refine z_iinc (v := x4 + (1 : Int32)) 4 d_Tapes_firstUnlike_97 rfl rfl (by decide) rfl ?_
        refine z_goto (tgt := 46) d_Tapes_firstUnlike_100 (by decide) ?_
        refine z_sub [1, 2, 3, 4, 0] rfl ?_
        exact hk46 (x1, x2, x3, (x4 + (1 : Int32)), σ) hx3 h
      · have h := (if_neg c8).symm.trans h
        refine z_iload 4 d_Tapes_firstUnlike_94 rfl ?_
        exact z_iret d_Tapes_firstUnlike_96 h
    · have h := (if_neg c3).symm.trans h
      refine z_bipush (v := 100) d_Tapes_firstUnlike_65 (by decide) ?_
      refine z_iload 4 d_Tapes_firstUnlike_67 rfl ?_
      refine z_iadd d_Tapes_firstUnlike_69 ?_
      exact z_iret d_Tapes_firstUnlike_70 h
theorem zl_Tapes_firstUnlike_46 {l : Launch} {θ : ZT} {res : Int32 × ZM} : ∀ (N : Nat) (a : Int32 × Int32 × Nat × Int32 × ZM), zR 0 129 a.2.2.1 17 0 = true → F_Tapes_firstUnlike_46 N a = some res → WZ l b_Tapes_firstUnlike 5 (some .int) "BakedBefore$Tapes" 0 129 θ (zrm 1 60) (zQ mkI 0 129 θ res) a.2.2.2.2 [(0, .ref (za θ 10)), (1, .int a.1), (2, .int a.2.1), (3, .ref (za θ a.2.2.1)), (4, .int a.2.2.2.1)] 46 [] := by
  intro N
  induction N with
  | zero => intro a hx3 h; cases (show (none : Option (Int32 × ZM)) = some res from h)
  | succ N ih => intro a hx3 h; exact zb_Tapes_firstUnlike_46 ih hx3 (show f_Tapes_firstUnlike_46 (F_Tapes_firstUnlike_46 N) a.1 a.2.1 a.2.2.1 a.2.2.2.1 a.2.2.2.2 = some res from h)
theorem c_Tapes_firstUnlike (l : Launch) (θ : ZT) {x1 : Int32} {x2 : Int32} {x3 : Nat} {σ : ZM} {res : Int32 × ZM} (h : f_Tapes_firstUnlike x1 x2 x3 σ = some res) : zMet mkI l 0 129 θ y_Tapes_firstUnlike b_Tapes_firstUnlike 5 (some .int) (zrm 1 60) [.ref (za θ 10), .int x1, .int x2, .ref (za θ x3)] σ res := by
  unfold f_Tapes_firstUnlike at h
  obtain ⟨hx3, h⟩ := zck_i h
  refine z_met (lv := [(0, .ref (za θ 10)), (1, .int x1), (2, .int x2), (3, .ref (za θ x3))]) (by decide +kernel) rfl (Nat.le_of_ble_eq_true rfl) (by decide) ?_
  refine z_aload_n 0 d_Tapes_firstUnlike_0 rfl rfl ?_
  refine gf_Tapes_sorts zl_10 d_Tapes_firstUnlike_1 q_293 ?_
  refine z_iload_n 1 d_Tapes_firstUnlike_4 rfl rfl ?_
  obtain ⟨c1, h⟩ := zck_i h
  refine w_iald zl_12 c1 d_Tapes_firstUnlike_5 ?_
  refine z_iconst (v := -1) d_Tapes_firstUnlike_6 (by decide) ?_
  refine z_icmp_ne (tgt := 13) d_Tapes_firstUnlike_7 (by decide) (fun c2 => ?_) (fun c2 => ?_)
  · have h := (if_neg c2).symm.trans h
    refine z_aload_n 0 d_Tapes_firstUnlike_13 rfl rfl ?_
    refine gf_Tapes_sorts zl_10 d_Tapes_firstUnlike_14 q_293 ?_
    refine z_iload_n 1 d_Tapes_firstUnlike_17 rfl rfl ?_
    obtain ⟨c3, h⟩ := zck_i h
    refine w_iald zl_12 c3 d_Tapes_firstUnlike_18 ?_
    refine z_iconst (v := 1) d_Tapes_firstUnlike_19 (by decide) ?_
    refine z_icmp_eq (tgt := 26) d_Tapes_firstUnlike_20 (by decide) (fun c4 => ?_) (fun c4 => ?_)
    · have h := (if_pos c4).symm.trans h
      refine z_iload_n 2 d_Tapes_firstUnlike_26 rfl rfl ?_
      refine z_if_lt (tgt := 40) d_Tapes_firstUnlike_27 (by decide) (fun c5 => ?_) (fun c5 => ?_)
      · have h := (if_pos c5).symm.trans h
        refine z_bipush (v := 100) d_Tapes_firstUnlike_40 (by decide) ?_
        exact z_iret d_Tapes_firstUnlike_42 h
      · have h := (if_neg c5).symm.trans h
        refine z_iload_n 2 d_Tapes_firstUnlike_30 rfl rfl ?_
        refine z_aload_n 0 d_Tapes_firstUnlike_31 rfl rfl ?_
        refine gf_Tapes_lengths zl_10 d_Tapes_firstUnlike_32 q_294 ?_
        refine z_iload_n 1 d_Tapes_firstUnlike_35 rfl rfl ?_
        obtain ⟨c6, h⟩ := zck_i h
        refine w_iald zl_13 c6 d_Tapes_firstUnlike_36 ?_
        refine z_icmp_le (tgt := 43) d_Tapes_firstUnlike_37 (by decide) (fun c7 => ?_) (fun c7 => ?_)
        · have h := (if_pos c7).symm.trans h
          refine z_iconst (v := 0) d_Tapes_firstUnlike_43 (by decide) ?_
          refine z_istore d_Tapes_firstUnlike_44 (by decide) rfl ?_
          refine z_sub [1, 2, 3, 4, 0] rfl ?_
          exact zl_Tapes_firstUnlike_46 2000 (x1, x2, x3, (0 : Int32), σ) hx3 h
        · have h := (if_neg c7).symm.trans h
          refine z_bipush (v := 100) d_Tapes_firstUnlike_40 (by decide) ?_
          exact z_iret d_Tapes_firstUnlike_42 h
    · have h := (if_neg c4).symm.trans h
      refine z_bipush (v := -12) d_Tapes_firstUnlike_23 (by decide) ?_
      exact z_iret d_Tapes_firstUnlike_25 h
  · have h := (if_pos c2).symm.trans h
    refine z_bipush (v := 100) d_Tapes_firstUnlike_10 (by decide) ?_
    exact z_iret d_Tapes_firstUnlike_12 h
theorem d_BB_judge_0 : decode b_BB_judge 0 = .ok (.iload_n 1, 1) := by decide +kernel
theorem d_BB_judge_1 : decode b_BB_judge 1 = .ok (.invokestatic 252, 3) := by decide +kernel
theorem d_BB_judge_4 : decode b_BB_judge 4 = .ok (.ifCond .ne (5), 3) := by decide +kernel
theorem d_BB_judge_7 : decode b_BB_judge 7 = .ok (.iconst (-1), 1) := by decide +kernel
theorem d_BB_judge_8 : decode b_BB_judge 8 = .ok (.ireturn, 1) := by decide +kernel
theorem d_BB_judge_9 : decode b_BB_judge 9 = .ok (.aload_n 0, 1) := by decide +kernel
theorem d_BB_judge_10 : decode b_BB_judge 10 = .ok (.getfield 74, 3) := by decide +kernel
theorem d_BB_judge_13 : decode b_BB_judge 13 = .ok (.iload_n 1, 1) := by decide +kernel
theorem d_BB_judge_14 : decode b_BB_judge 14 = .ok (.iload_n 2, 1) := by decide +kernel
theorem d_BB_judge_15 : decode b_BB_judge 15 = .ok (.aload_n 0, 1) := by decide +kernel
theorem d_BB_judge_16 : decode b_BB_judge 16 = .ok (.getfield 12, 3) := by decide +kernel
theorem d_BB_judge_19 : decode b_BB_judge 19 = .ok (.getfield 112, 3) := by decide +kernel
theorem d_BB_judge_22 : decode b_BB_judge 22 = .ok (.invokevirtual 255, 3) := by decide +kernel
theorem d_BB_judge_25 : decode b_BB_judge 25 = .ok (.ireturn, 1) := by decide +kernel
theorem c_BB_judge (l : Launch) (θ : ZT) {x1 : Int32} {x2 : Int32} {σ : ZM} {res : Int32 × ZM} (h : f_BB_judge x1 x2 σ = some res) : zMet mkI l 0 129 θ y_BB_judge b_BB_judge 3 (some .int) (zrm 2 84) [.ref (za θ 0), .int x1, .int x2] σ res := by
  unfold f_BB_judge at h
  refine z_met (lv := [(0, .ref (za θ 0)), (1, .int x1), (2, .int x2)]) (by decide +kernel) rfl (Nat.le_of_ble_eq_true rfl) (by decide) ?_
  refine z_iload_n 1 d_BB_judge_0 rfl rfl ?_
  obtain ⟨⟨v1, s2⟩, e3, h⟩ := zbd_i h
  refine w_callS (As := [.int x1]) (c_Tapes_isTape l θ e3) cf_Tapes_isTape q_758 d_BB_judge_1 rfl rfl rfl (Nat.le_of_ble_eq_true rfl) rfl rfl ⟨Nat.le_of_ble_eq_true rfl, Nat.le_of_ble_eq_true rfl⟩ ?_
  refine z_if_ne (tgt := 9) d_BB_judge_4 (by decide) (fun c4 => ?_) (fun c4 => ?_)
  · have h := (if_neg c4).symm.trans h
    refine z_aload_n 0 d_BB_judge_9 rfl rfl ?_
    refine gf_BB_tapes zl_0 d_BB_judge_10 q_312 ?_
    refine z_iload_n 1 d_BB_judge_13 rfl rfl ?_
    refine z_iload_n 2 d_BB_judge_14 rfl rfl ?_
    refine z_aload_n 0 d_BB_judge_15 rfl rfl ?_
    refine gf_BB_now zl_0 d_BB_judge_16 q_303 ?_
    refine gf_Stand_oven (o2 := 33) zl_1 rfl d_BB_judge_19 q_121 ?_
    obtain ⟨⟨v5, s6⟩, e7, h⟩ := zbd_i h
    refine w_callV (As := [.int x1, .int x2, .ref (za θ 33)]) (kc := 21) (ci := 11) (c_Tapes_firstUnlike l θ e7) cf_Tapes_firstUnlike q_761 d_BB_judge_22 zl_10 rfl rfl rfl rfl rfl rfl (Nat.le_of_ble_eq_true rfl) rfl rfl ⟨Nat.le_of_ble_eq_true rfl, Nat.le_of_ble_eq_true rfl⟩ ?_
    exact z_iret d_BB_judge_25 h
  · have h := (if_pos c4).symm.trans h
    refine z_iconst (v := -1) d_BB_judge_7 (by decide) ?_
    exact z_iret d_BB_judge_8 h
theorem d_Book_become_0 : decode b_Book_become 0 = .ok (.iconst (0), 1) := by decide +kernel
theorem d_Book_become_1 : decode b_Book_become 1 = .ok (.istore_n 2, 1) := by decide +kernel
theorem d_Book_become_2 : decode b_Book_become 2 = .ok (.iload_n 2, 1) := by decide +kernel
theorem d_Book_become_3 : decode b_Book_become 3 = .ok (.aload_n 1, 1) := by decide +kernel
theorem d_Book_become_4 : decode b_Book_become 4 = .ok (.getfield 19, 3) := by decide +kernel
theorem d_Book_become_7 : decode b_Book_become 7 = .ok (.if_icmp .ge (33), 3) := by decide +kernel
theorem d_Book_become_10 : decode b_Book_become 10 = .ok (.aload_n 0, 1) := by decide +kernel
theorem d_Book_become_11 : decode b_Book_become 11 = .ok (.getfield 11, 3) := by decide +kernel
theorem d_Book_become_14 : decode b_Book_become 14 = .ok (.iload_n 2, 1) := by decide +kernel
theorem d_Book_become_15 : decode b_Book_become 15 = .ok (.aload_n 1, 1) := by decide +kernel
theorem d_Book_become_16 : decode b_Book_become 16 = .ok (.getfield 11, 3) := by decide +kernel
theorem d_Book_become_19 : decode b_Book_become 19 = .ok (.iload_n 2, 1) := by decide +kernel
theorem d_Book_become_20 : decode b_Book_become 20 = .ok (.iaload, 1) := by decide +kernel
theorem d_Book_become_21 : decode b_Book_become 21 = .ok (.iastore, 1) := by decide +kernel
theorem d_Book_become_22 : decode b_Book_become 22 = .ok (.aload_n 0, 1) := by decide +kernel
theorem d_Book_become_23 : decode b_Book_become 23 = .ok (.getfield 15, 3) := by decide +kernel
theorem d_Book_become_26 : decode b_Book_become 26 = .ok (.iload_n 2, 1) := by decide +kernel
theorem d_Book_become_27 : decode b_Book_become 27 = .ok (.aload_n 1, 1) := by decide +kernel
theorem d_Book_become_28 : decode b_Book_become 28 = .ok (.getfield 15, 3) := by decide +kernel
theorem d_Book_become_31 : decode b_Book_become 31 = .ok (.iload_n 2, 1) := by decide +kernel
theorem d_Book_become_32 : decode b_Book_become 32 = .ok (.baload, 1) := by decide +kernel
theorem d_Book_become_33 : decode b_Book_become 33 = .ok (.bastore, 1) := by decide +kernel
theorem d_Book_become_34 : decode b_Book_become 34 = .ok (.iinc 2 (1), 3) := by decide +kernel
theorem d_Book_become_37 : decode b_Book_become 37 = .ok (.goto (-35), 3) := by decide +kernel
theorem d_Book_become_40 : decode b_Book_become 40 = .ok (.aload_n 0, 1) := by decide +kernel
theorem d_Book_become_41 : decode b_Book_become 41 = .ok (.aload_n 1, 1) := by decide +kernel
theorem d_Book_become_42 : decode b_Book_become 42 = .ok (.getfield 19, 3) := by decide +kernel
theorem d_Book_become_45 : decode b_Book_become 45 = .ok (.putfield 19, 3) := by decide +kernel
theorem d_Book_become_48 : decode b_Book_become 48 = .ok (.return_, 1) := by decide +kernel
theorem zb_Book_become_2 {l : Launch} {θ : ZT} {res : Unit × ZM} {k2 : Nat × Nat × Int32 × ZM → Option (Unit × ZM)} (hk2 : ∀ a : Nat × Nat × Int32 × ZM, zR 0 129 a.1 14 0 = true → zR 0 129 a.2.1 14 0 = true → k2 a = some res → WZ l b_Book_become 3 none "BakedBefore$Book" 0 129 θ (zrm 1 60) (zQ mkV 0 129 θ res) a.2.2.2 [(0, .ref (za θ a.1)), (1, .ref (za θ a.2.1)), (2, .int a.2.2.1)] 2 []) {x0 : Nat} {x1 : Nat} {x2 : Int32} {σ : ZM} (hx0 : zR 0 129 x0 14 0 = true) (hx1 : zR 0 129 x1 14 0 = true) (h : f_Book_become_2 k2 x0 x1 x2 σ = some res) : WZ l b_Book_become 3 none "BakedBefore$Book" 0 129 θ (zrm 1 60) (zQ mkV 0 129 θ res) σ [(0, .ref (za θ x0)), (1, .ref (za θ x1)), (2, .int x2)] 2 [] := by
  unfold f_Book_become_2 at h
  refine z_iload_n 2 d_Book_become_2 rfl rfl ?_
  refine z_aload_n 1 d_Book_become_3 rfl rfl ?_
  refine gf_Book_rows hx1 d_Book_become_4 q_68 ?_
  refine z_icmp_ge (tgt := 40) d_Book_become_7 (by decide) (fun c1 => ?_) (fun c1 => ?_)
  · have h := (if_pos c1).symm.trans h
    refine z_aload_n 0 d_Book_become_40 rfl rfl ?_
    refine z_aload_n 1 d_Book_become_41 rfl rfl ?_
    refine gf_Book_rows hx1 d_Book_become_42 q_68 ?_
    refine pf_Book_rows hx0 d_Book_become_45 q_68 ?_
    exact z_vret d_Book_become_48 h
  · have h := (if_neg c1).symm.trans h
    refine z_aload_n 0 d_Book_become_10 rfl rfl ?_
    refine gf_Book_loaves (o2 := x0 + 2) hx0 rfl d_Book_become_11 q_64 ?_
    refine z_iload_n 2 d_Book_become_14 rfl rfl ?_
    refine z_aload_n 1 d_Book_become_15 rfl rfl ?_
    refine gf_Book_loaves (o2 := x1 + 2) hx1 rfl d_Book_become_16 q_64 ?_
    refine z_iload_n 2 d_Book_become_19 rfl rfl ?_
    obtain ⟨c2, h⟩ := zck_i h
    refine w_iald (zr_Book_loaves hx1) c2 d_Book_become_20 ?_
    obtain ⟨c3, h⟩ := zck_i h
    refine w_iast (zr_Book_loaves hx0) c3 d_Book_become_21 ?_
    refine z_aload_n 0 d_Book_become_22 rfl rfl ?_
    refine gf_Book_spoiled (o2 := x0 + 4) hx0 rfl d_Book_become_23 q_66 ?_
    refine z_iload_n 2 d_Book_become_26 rfl rfl ?_
    refine z_aload_n 1 d_Book_become_27 rfl rfl ?_
    refine gf_Book_spoiled (o2 := x1 + 4) hx1 rfl d_Book_become_28 q_66 ?_
    refine z_iload_n 2 d_Book_become_31 rfl rfl ?_
    obtain ⟨c4, h⟩ := zck_i h
    refine w_bald (zr_Book_spoiled hx1) c4 d_Book_become_32 ?_
    obtain ⟨c5, h⟩ := zck_i h
    obtain ⟨c6, h⟩ := zck_i h
    refine w_bast (zr_Book_spoiled hx0) c5 c6 d_Book_become_33 ?_
    refine z_iinc (v := x2 + (1 : Int32)) 2 d_Book_become_34 rfl rfl (by decide) rfl ?_
    refine z_goto (tgt := 2) d_Book_become_37 (by decide) ?_
    refine z_sub [1, 2, 0] rfl ?_
    exact hk2 (x0, x1, (x2 + (1 : Int32)), (zsI (zsI σ (x0 + 2) x2.toNatClampNeg (zI σ (x1 + 2) x2.toNatClampNeg)) (x0 + 4) x2.toNatClampNeg (zI (zsI σ (x0 + 2) x2.toNatClampNeg (zI σ (x1 + 2) x2.toNatClampNeg)) (x1 + 4) x2.toNatClampNeg))) hx0 hx1 h
theorem zl_Book_become_2 {l : Launch} {θ : ZT} {res : Unit × ZM} : ∀ (N : Nat) (a : Nat × Nat × Int32 × ZM), zR 0 129 a.1 14 0 = true → zR 0 129 a.2.1 14 0 = true → F_Book_become_2 N a = some res → WZ l b_Book_become 3 none "BakedBefore$Book" 0 129 θ (zrm 1 60) (zQ mkV 0 129 θ res) a.2.2.2 [(0, .ref (za θ a.1)), (1, .ref (za θ a.2.1)), (2, .int a.2.2.1)] 2 [] := by
  intro N
  induction N with
  | zero => intro a hx0 hx1 h; cases (show (none : Option (Unit × ZM)) = some res from h)
  | succ N ih => intro a hx0 hx1 h; exact zb_Book_become_2 ih hx0 hx1 (show f_Book_become_2 (F_Book_become_2 N) a.1 a.2.1 a.2.2.1 a.2.2.2 = some res from h)
theorem c_Book_become (l : Launch) (θ : ZT) {x0 : Nat} {x1 : Nat} {σ : ZM} {res : Unit × ZM} (h : f_Book_become x0 x1 σ = some res) : zMet mkV l 0 129 θ y_Book_become b_Book_become 3 none (zrm 1 60) [.ref (za θ x0), .ref (za θ x1)] σ res := by
  unfold f_Book_become at h
  obtain ⟨hx0, h⟩ := zck_i h
  obtain ⟨hx1, h⟩ := zck_i h
  refine z_met (lv := [(0, .ref (za θ x0)), (1, .ref (za θ x1))]) (by decide +kernel) rfl (Nat.le_of_ble_eq_true rfl) (by decide) ?_
  refine z_iconst (v := 0) d_Book_become_0 (by decide) ?_
  refine z_istore_n d_Book_become_1 rfl (by decide) rfl ?_
  refine z_sub [1, 2, 0] rfl ?_
  exact zl_Book_become_2 2000 (x0, x1, (0 : Int32), σ) hx0 hx1 h
theorem d_Loaf_become_0 : decode b_Loaf_become 0 = .ok (.aload_n 0, 1) := by decide +kernel
theorem d_Loaf_become_1 : decode b_Loaf_become 1 = .ok (.aload_n 1, 1) := by decide +kernel
theorem d_Loaf_become_2 : decode b_Loaf_become 2 = .ok (.getfield 22, 3) := by decide +kernel
theorem d_Loaf_become_5 : decode b_Loaf_become 5 = .ok (.putfield 22, 3) := by decide +kernel
theorem d_Loaf_become_8 : decode b_Loaf_become 8 = .ok (.aload_n 0, 1) := by decide +kernel
theorem d_Loaf_become_9 : decode b_Loaf_become 9 = .ok (.aload_n 1, 1) := by decide +kernel
theorem d_Loaf_become_10 : decode b_Loaf_become 10 = .ok (.getfield 25, 3) := by decide +kernel
theorem d_Loaf_become_13 : decode b_Loaf_become 13 = .ok (.putfield 25, 3) := by decide +kernel
theorem d_Loaf_become_16 : decode b_Loaf_become 16 = .ok (.iconst (0), 1) := by decide +kernel
theorem d_Loaf_become_17 : decode b_Loaf_become 17 = .ok (.istore_n 2, 1) := by decide +kernel
theorem d_Loaf_become_18 : decode b_Loaf_become 18 = .ok (.iload_n 2, 1) := by decide +kernel
theorem d_Loaf_become_19 : decode b_Loaf_become 19 = .ok (.iconst (4), 1) := by decide +kernel
theorem d_Loaf_become_20 : decode b_Loaf_become 20 = .ok (.if_icmp .ge (33), 3) := by decide +kernel
theorem d_Loaf_become_23 : decode b_Loaf_become 23 = .ok (.aload_n 0, 1) := by decide +kernel
theorem d_Loaf_become_24 : decode b_Loaf_become 24 = .ok (.getfield 9, 3) := by decide +kernel
theorem d_Loaf_become_27 : decode b_Loaf_become 27 = .ok (.iload_n 2, 1) := by decide +kernel
theorem d_Loaf_become_28 : decode b_Loaf_become 28 = .ok (.aload_n 1, 1) := by decide +kernel
theorem d_Loaf_become_29 : decode b_Loaf_become 29 = .ok (.getfield 9, 3) := by decide +kernel
theorem d_Loaf_become_32 : decode b_Loaf_become 32 = .ok (.iload_n 2, 1) := by decide +kernel
theorem d_Loaf_become_33 : decode b_Loaf_become 33 = .ok (.iaload, 1) := by decide +kernel
theorem d_Loaf_become_34 : decode b_Loaf_become 34 = .ok (.iastore, 1) := by decide +kernel
theorem d_Loaf_become_35 : decode b_Loaf_become 35 = .ok (.aload_n 0, 1) := by decide +kernel
theorem d_Loaf_become_36 : decode b_Loaf_become 36 = .ok (.getfield 15, 3) := by decide +kernel
theorem d_Loaf_become_39 : decode b_Loaf_become 39 = .ok (.iload_n 2, 1) := by decide +kernel
theorem d_Loaf_become_40 : decode b_Loaf_become 40 = .ok (.aload_n 1, 1) := by decide +kernel
theorem d_Loaf_become_41 : decode b_Loaf_become 41 = .ok (.getfield 15, 3) := by decide +kernel
theorem d_Loaf_become_44 : decode b_Loaf_become 44 = .ok (.iload_n 2, 1) := by decide +kernel
theorem d_Loaf_become_45 : decode b_Loaf_become 45 = .ok (.iaload, 1) := by decide +kernel
theorem d_Loaf_become_46 : decode b_Loaf_become 46 = .ok (.iastore, 1) := by decide +kernel
theorem d_Loaf_become_47 : decode b_Loaf_become 47 = .ok (.iinc 2 (1), 3) := by decide +kernel
theorem d_Loaf_become_50 : decode b_Loaf_become 50 = .ok (.goto (-32), 3) := by decide +kernel
theorem d_Loaf_become_53 : decode b_Loaf_become 53 = .ok (.return_, 1) := by decide +kernel
theorem zb_Loaf_become_18 {l : Launch} {θ : ZT} {res : Unit × ZM} {k18 : Nat × Nat × Int32 × ZM → Option (Unit × ZM)} (hk18 : ∀ a : Nat × Nat × Int32 × ZM, zR 0 129 a.1 16 0 = true → zR 0 129 a.2.1 16 0 = true → k18 a = some res → WZ l b_Loaf_become 3 none "BakedBefore$Loaf" 0 129 θ (zrm 1 60) (zQ mkV 0 129 θ res) a.2.2.2 [(0, .ref (za θ a.1)), (1, .ref (za θ a.2.1)), (2, .int a.2.2.1)] 18 []) {x0 : Nat} {x1 : Nat} {x2 : Int32} {σ : ZM} (hx0 : zR 0 129 x0 16 0 = true) (hx1 : zR 0 129 x1 16 0 = true) (h : f_Loaf_become_18 k18 x0 x1 x2 σ = some res) : WZ l b_Loaf_become 3 none "BakedBefore$Loaf" 0 129 θ (zrm 1 60) (zQ mkV 0 129 θ res) σ [(0, .ref (za θ x0)), (1, .ref (za θ x1)), (2, .int x2)] 18 [] := by
  unfold f_Loaf_become_18 at h
  refine z_iload_n 2 d_Loaf_become_18 rfl rfl ?_
  refine z_iconst (v := 4) d_Loaf_become_19 (by decide) ?_
  refine z_icmp_ge (tgt := 53) d_Loaf_become_20 (by decide) (fun c1 => ?_) (fun c1 => ?_)
  · have h := (if_pos c1).symm.trans h
    exact z_vret d_Loaf_become_53 h
  · have h := (if_neg c1).symm.trans h
    refine z_aload_n 0 d_Loaf_become_23 rfl rfl ?_
    refine gf_Loaf_gives (o2 := x0 + 12) hx0 rfl d_Loaf_become_24 q_87 ?_
    refine z_iload_n 2 d_Loaf_become_27 rfl rfl ?_
    refine z_aload_n 1 d_Loaf_become_28 rfl rfl ?_
    refine gf_Loaf_gives (o2 := x1 + 12) hx1 rfl d_Loaf_become_29 q_87 ?_
    refine z_iload_n 2 d_Loaf_become_32 rfl rfl ?_
    obtain ⟨c2, h⟩ := zck_i h
    refine w_iald (zr_Loaf_gives hx1) c2 d_Loaf_become_33 ?_
    obtain ⟨c3, h⟩ := zck_i h
    refine w_iast (zr_Loaf_gives hx0) c3 d_Loaf_become_34 ?_
    refine z_aload_n 0 d_Loaf_become_35 rfl rfl ?_
    refine gf_Loaf_bears (o2 := x0 + 24) hx0 rfl d_Loaf_become_36 q_90 ?_
    refine z_iload_n 2 d_Loaf_become_39 rfl rfl ?_
    refine z_aload_n 1 d_Loaf_become_40 rfl rfl ?_
    refine gf_Loaf_bears (o2 := x1 + 24) hx1 rfl d_Loaf_become_41 q_90 ?_
    refine z_iload_n 2 d_Loaf_become_44 rfl rfl ?_
    obtain ⟨c4, h⟩ := zck_i h
    refine w_iald (zr_Loaf_bears hx1) c4 d_Loaf_become_45 ?_
    obtain ⟨c5, h⟩ := zck_i h
    refine w_iast (zr_Loaf_bears hx0) c5 d_Loaf_become_46 ?_
    refine z_iinc (v := x2 + (1 : Int32)) 2 d_Loaf_become_47 rfl rfl (by decide) rfl ?_
    refine z_goto (tgt := 18) d_Loaf_become_50 (by decide) ?_
    refine z_sub [1, 2, 0] rfl ?_
    exact hk18 (x0, x1, (x2 + (1 : Int32)), (zsI (zsI σ (x0 + 12) x2.toNatClampNeg (zI σ (x1 + 12) x2.toNatClampNeg)) (x0 + 24) x2.toNatClampNeg (zI (zsI σ (x0 + 12) x2.toNatClampNeg (zI σ (x1 + 12) x2.toNatClampNeg)) (x1 + 24) x2.toNatClampNeg))) hx0 hx1 h
theorem zl_Loaf_become_18 {l : Launch} {θ : ZT} {res : Unit × ZM} : ∀ (N : Nat) (a : Nat × Nat × Int32 × ZM), zR 0 129 a.1 16 0 = true → zR 0 129 a.2.1 16 0 = true → F_Loaf_become_18 N a = some res → WZ l b_Loaf_become 3 none "BakedBefore$Loaf" 0 129 θ (zrm 1 60) (zQ mkV 0 129 θ res) a.2.2.2 [(0, .ref (za θ a.1)), (1, .ref (za θ a.2.1)), (2, .int a.2.2.1)] 18 [] := by
  intro N
  induction N with
  | zero => intro a hx0 hx1 h; cases (show (none : Option (Unit × ZM)) = some res from h)
  | succ N ih => intro a hx0 hx1 h; exact zb_Loaf_become_18 ih hx0 hx1 (show f_Loaf_become_18 (F_Loaf_become_18 N) a.1 a.2.1 a.2.2.1 a.2.2.2 = some res from h)
theorem c_Loaf_become (l : Launch) (θ : ZT) {x0 : Nat} {x1 : Nat} {σ : ZM} {res : Unit × ZM} (h : f_Loaf_become x0 x1 σ = some res) : zMet mkV l 0 129 θ y_Loaf_become b_Loaf_become 3 none (zrm 1 60) [.ref (za θ x0), .ref (za θ x1)] σ res := by
  unfold f_Loaf_become at h
  obtain ⟨hx0, h⟩ := zck_i h
  obtain ⟨hx1, h⟩ := zck_i h
  refine z_met (lv := [(0, .ref (za θ x0)), (1, .ref (za θ x1))]) (by decide +kernel) rfl (Nat.le_of_ble_eq_true rfl) (by decide) ?_
  refine z_aload_n 0 d_Loaf_become_0 rfl rfl ?_
  refine z_aload_n 1 d_Loaf_become_1 rfl rfl ?_
  refine gf_Loaf_kind hx1 d_Loaf_become_2 q_93 ?_
  refine pf_Loaf_kind hx0 d_Loaf_become_5 q_93 ?_
  refine z_aload_n 0 d_Loaf_become_8 rfl rfl ?_
  refine z_aload_n 1 d_Loaf_become_9 rfl rfl ?_
  refine gf_Loaf_v hx1 d_Loaf_become_10 q_98 ?_
  refine pf_Loaf_v hx0 d_Loaf_become_13 q_98 ?_
  refine z_iconst (v := 0) d_Loaf_become_16 (by decide) ?_
  refine z_istore_n d_Loaf_become_17 rfl (by decide) rfl ?_
  refine z_sub [1, 2, 0] rfl ?_
  exact zl_Loaf_become_18 2000 (x0, x1, (0 : Int32), (zsI (zsI σ x0 3 (zI σ x1 3)) x0 4 (zI (zsI σ x0 3 (zI σ x1 3)) x1 4))) hx0 hx1 h
theorem d_Stand_become_0 : decode b_Stand_become 0 = .ok (.iconst (0), 1) := by decide +kernel
theorem d_Stand_become_1 : decode b_Stand_become 1 = .ok (.istore_n 2, 1) := by decide +kernel
theorem d_Stand_become_2 : decode b_Stand_become 2 = .ok (.iload_n 2, 1) := by decide +kernel
theorem d_Stand_become_3 : decode b_Stand_become 3 = .ok (.aload_n 1, 1) := by decide +kernel
theorem d_Stand_become_4 : decode b_Stand_become 4 = .ok (.getfield 38, 3) := by decide +kernel
theorem d_Stand_become_7 : decode b_Stand_become 7 = .ok (.if_icmp .ge (24), 3) := by decide +kernel
theorem d_Stand_become_10 : decode b_Stand_become 10 = .ok (.aload_n 0, 1) := by decide +kernel
theorem d_Stand_become_11 : decode b_Stand_become 11 = .ok (.getfield 11, 3) := by decide +kernel
theorem d_Stand_become_14 : decode b_Stand_become 14 = .ok (.iload_n 2, 1) := by decide +kernel
theorem d_Stand_become_15 : decode b_Stand_become 15 = .ok (.aaload, 1) := by decide +kernel
theorem d_Stand_become_16 : decode b_Stand_become 16 = .ok (.aload_n 1, 1) := by decide +kernel
theorem d_Stand_become_17 : decode b_Stand_become 17 = .ok (.getfield 11, 3) := by decide +kernel
theorem d_Stand_become_20 : decode b_Stand_become 20 = .ok (.iload_n 2, 1) := by decide +kernel
theorem d_Stand_become_21 : decode b_Stand_become 21 = .ok (.aaload, 1) := by decide +kernel
theorem d_Stand_become_22 : decode b_Stand_become 22 = .ok (.invokevirtual 41, 3) := by decide +kernel
theorem d_Stand_become_25 : decode b_Stand_become 25 = .ok (.iinc 2 (1), 3) := by decide +kernel
theorem d_Stand_become_28 : decode b_Stand_become 28 = .ok (.goto (-26), 3) := by decide +kernel
theorem d_Stand_become_31 : decode b_Stand_become 31 = .ok (.aload_n 0, 1) := by decide +kernel
theorem d_Stand_become_32 : decode b_Stand_become 32 = .ok (.aload_n 1, 1) := by decide +kernel
theorem d_Stand_become_33 : decode b_Stand_become 33 = .ok (.getfield 38, 3) := by decide +kernel
theorem d_Stand_become_36 : decode b_Stand_become 36 = .ok (.putfield 38, 3) := by decide +kernel
theorem d_Stand_become_39 : decode b_Stand_become 39 = .ok (.aload_n 0, 1) := by decide +kernel
theorem d_Stand_become_40 : decode b_Stand_become 40 = .ok (.getfield 20, 3) := by decide +kernel
theorem d_Stand_become_43 : decode b_Stand_become 43 = .ok (.aload_n 1, 1) := by decide +kernel
theorem d_Stand_become_44 : decode b_Stand_become 44 = .ok (.getfield 20, 3) := by decide +kernel
theorem d_Stand_become_47 : decode b_Stand_become 47 = .ok (.invokevirtual 45, 3) := by decide +kernel
theorem d_Stand_become_50 : decode b_Stand_become 50 = .ok (.aload_n 0, 1) := by decide +kernel
theorem d_Stand_become_51 : decode b_Stand_become 51 = .ok (.getfield 27, 3) := by decide +kernel
theorem d_Stand_become_54 : decode b_Stand_become 54 = .ok (.aload_n 1, 1) := by decide +kernel
theorem d_Stand_become_55 : decode b_Stand_become 55 = .ok (.getfield 27, 3) := by decide +kernel
theorem d_Stand_become_58 : decode b_Stand_become 58 = .ok (.invokevirtual 48, 3) := by decide +kernel
theorem d_Stand_become_61 : decode b_Stand_become 61 = .ok (.aload_n 0, 1) := by decide +kernel
theorem d_Stand_become_62 : decode b_Stand_become 62 = .ok (.aload_n 1, 1) := by decide +kernel
theorem d_Stand_become_63 : decode b_Stand_become 63 = .ok (.getfield 31, 3) := by decide +kernel
theorem d_Stand_become_66 : decode b_Stand_become 66 = .ok (.putfield 31, 3) := by decide +kernel
theorem d_Stand_become_69 : decode b_Stand_become 69 = .ok (.return_, 1) := by decide +kernel
theorem zb_Stand_become_2 {l : Launch} {θ : ZT} {res : Unit × ZM} {k2 : Nat × Nat × Int32 × ZM → Option (Unit × ZM)} (hk2 : ∀ a : Nat × Nat × Int32 × ZM, zR 0 129 a.1 20 0 = true → zR 0 129 a.2.1 20 0 = true → k2 a = some res → WZ l b_Stand_become 3 none "BakedBefore$Stand" 0 129 θ (zrm 2 82) (zQ mkV 0 129 θ res) a.2.2.2 [(0, .ref (za θ a.1)), (1, .ref (za θ a.2.1)), (2, .int a.2.2.1)] 2 []) {x0 : Nat} {x1 : Nat} {x2 : Int32} {σ : ZM} (hx0 : zR 0 129 x0 20 0 = true) (hx1 : zR 0 129 x1 20 0 = true) (h : f_Stand_become_2 k2 x0 x1 x2 σ = some res) : WZ l b_Stand_become 3 none "BakedBefore$Stand" 0 129 θ (zrm 2 82) (zQ mkV 0 129 θ res) σ [(0, .ref (za θ x0)), (1, .ref (za θ x1)), (2, .int x2)] 2 [] := by
  unfold f_Stand_become_2 at h
  refine z_iload_n 2 d_Stand_become_2 rfl rfl ?_
  refine z_aload_n 1 d_Stand_become_3 rfl rfl ?_
  refine gf_Stand_many hx1 d_Stand_become_4 q_125 ?_
  refine z_icmp_ge (tgt := 31) d_Stand_become_7 (by decide) (fun c1 => ?_) (fun c1 => ?_)
  · have h := (if_pos c1).symm.trans h
    refine z_aload_n 0 d_Stand_become_31 rfl rfl ?_
    refine z_aload_n 1 d_Stand_become_32 rfl rfl ?_
    refine gf_Stand_many hx1 d_Stand_become_33 q_125 ?_
    refine pf_Stand_many hx0 d_Stand_become_36 q_125 ?_
    refine z_aload_n 0 d_Stand_become_39 rfl rfl ?_
    refine gf_Stand_oven (o2 := x0 + 32) hx0 rfl d_Stand_become_40 q_118 ?_
    refine z_aload_n 1 d_Stand_become_43 rfl rfl ?_
    refine gf_Stand_oven (o2 := x1 + 32) hx1 rfl d_Stand_become_44 q_118 ?_
    obtain ⟨⟨v2, s3⟩, e4, h⟩ := zbd_i h
    refine w_callV (As := [.ref (za θ (x1 + 32))]) (kc := 17) (ci := 7) (c_Oven_become l θ e4) cf_Oven_become q_777 d_Stand_become_47 (zr_Stand_oven hx0) rfl rfl rfl rfl rfl rfl (Nat.le_of_ble_eq_true rfl) rfl rfl ⟨Nat.le_of_ble_eq_true rfl, Nat.le_of_ble_eq_true rfl⟩ ?_
    refine z_aload_n 0 d_Stand_become_50 rfl rfl ?_
    refine gf_Stand_book (o2 := x0 + 26) hx0 rfl d_Stand_become_51 q_122 ?_
    refine z_aload_n 1 d_Stand_become_54 rfl rfl ?_
    refine gf_Stand_book (o2 := x1 + 26) hx1 rfl d_Stand_become_55 q_122 ?_
    obtain ⟨⟨v5, s6⟩, e7, h⟩ := zbd_i h
    refine w_callV (As := [.ref (za θ (x1 + 26))]) (kc := 14) (ci := 4) (c_Book_become l θ e7) cf_Book_become q_778 d_Stand_become_58 (zr_Stand_book hx0) rfl rfl rfl rfl rfl rfl (Nat.le_of_ble_eq_true rfl) rfl rfl ⟨Nat.le_of_ble_eq_true rfl, Nat.le_of_ble_eq_true rfl⟩ ?_
    refine z_aload_n 0 d_Stand_become_61 rfl rfl ?_
    refine z_aload_n 1 d_Stand_become_62 rfl rfl ?_
    refine gf_Stand_holding hx1 d_Stand_become_63 q_129 ?_
    refine pf_Stand_holding hx0 d_Stand_become_66 q_129 ?_
    exact z_vret d_Stand_become_69 h
  · have h := (if_neg c1).symm.trans h
    refine z_aload_n 0 d_Stand_become_10 rfl rfl ?_
    refine gf_Stand_loaves (o2 := x0 + 24) hx0 rfl d_Stand_become_11 q_114 ?_
    refine z_iload_n 2 d_Stand_become_14 rfl rfl ?_
    obtain ⟨c8, h⟩ := zck_i h
    refine w_aald3 (zr_Stand_loaves hx0) c8 d_Stand_become_15 ?_
    obtain ⟨c9, h⟩ := zck_i h
    refine z_aload_n 1 d_Stand_become_16 rfl rfl ?_
    refine gf_Stand_loaves (o2 := x1 + 24) hx1 rfl d_Stand_become_17 q_114 ?_
    refine z_iload_n 2 d_Stand_become_20 rfl rfl ?_
    obtain ⟨c10, h⟩ := zck_i h
    refine w_aald3 (zr_Stand_loaves hx1) c10 d_Stand_become_21 ?_
    obtain ⟨c11, h⟩ := zck_i h
    obtain ⟨⟨v12, s13⟩, e14, h⟩ := zbd_i h
    refine w_callV (As := [.ref (za θ (zel (x1 + 24) x2.toNatClampNeg))]) (kc := 16) (ci := 6) (c_Loaf_become l θ e14) cf_Loaf_become q_773 d_Stand_become_22 c9 rfl rfl rfl rfl rfl rfl (Nat.le_of_ble_eq_true rfl) rfl rfl ⟨Nat.le_of_ble_eq_true rfl, Nat.le_of_ble_eq_true rfl⟩ ?_
    refine z_iinc (v := x2 + (1 : Int32)) 2 d_Stand_become_25 rfl rfl (by decide) rfl ?_
    refine z_goto (tgt := 2) d_Stand_become_28 (by decide) ?_
    refine z_sub [1, 2, 0] rfl ?_
    exact hk2 (x0, x1, (x2 + (1 : Int32)), s13) hx0 hx1 h
theorem zl_Stand_become_2 {l : Launch} {θ : ZT} {res : Unit × ZM} : ∀ (N : Nat) (a : Nat × Nat × Int32 × ZM), zR 0 129 a.1 20 0 = true → zR 0 129 a.2.1 20 0 = true → F_Stand_become_2 N a = some res → WZ l b_Stand_become 3 none "BakedBefore$Stand" 0 129 θ (zrm 2 82) (zQ mkV 0 129 θ res) a.2.2.2 [(0, .ref (za θ a.1)), (1, .ref (za θ a.2.1)), (2, .int a.2.2.1)] 2 [] := by
  intro N
  induction N with
  | zero => intro a hx0 hx1 h; cases (show (none : Option (Unit × ZM)) = some res from h)
  | succ N ih => intro a hx0 hx1 h; exact zb_Stand_become_2 ih hx0 hx1 (show f_Stand_become_2 (F_Stand_become_2 N) a.1 a.2.1 a.2.2.1 a.2.2.2 = some res from h)
theorem c_Stand_become (l : Launch) (θ : ZT) {x0 : Nat} {x1 : Nat} {σ : ZM} {res : Unit × ZM} (h : f_Stand_become x0 x1 σ = some res) : zMet mkV l 0 129 θ y_Stand_become b_Stand_become 3 none (zrm 2 82) [.ref (za θ x0), .ref (za θ x1)] σ res := by
  unfold f_Stand_become at h
  obtain ⟨hx0, h⟩ := zck_i h
  obtain ⟨hx1, h⟩ := zck_i h
  refine z_met (lv := [(0, .ref (za θ x0)), (1, .ref (za θ x1))]) (by decide +kernel) rfl (Nat.le_of_ble_eq_true rfl) (by decide) ?_
  refine z_iconst (v := 0) d_Stand_become_0 (by decide) ?_
  refine z_istore_n d_Stand_become_1 rfl (by decide) rfl ?_
  refine z_sub [1, 2, 0] rfl ?_
  exact zl_Stand_become_2 2000 (x0, x1, (0 : Int32), σ) hx0 hx1 h
theorem d_BB_image_0 : decode b_BB_image 0 = .ok (.aload_n 0, 1) := by decide +kernel
theorem d_BB_image_1 : decode b_BB_image 1 = .ok (.getfield 18, 3) := by decide +kernel
theorem d_BB_image_4 : decode b_BB_image 4 = .ok (.aload_n 0, 1) := by decide +kernel
theorem d_BB_image_5 : decode b_BB_image 5 = .ok (.getfield 12, 3) := by decide +kernel
theorem d_BB_image_8 : decode b_BB_image 8 = .ok (.invokevirtual 259, 3) := by decide +kernel
theorem d_BB_image_11 : decode b_BB_image 11 = .ok (.aload_n 0, 1) := by decide +kernel
theorem d_BB_image_12 : decode b_BB_image 12 = .ok (.iconst (1), 1) := by decide +kernel
theorem d_BB_image_13 : decode b_BB_image 13 = .ok (.putfield 263, 3) := by decide +kernel
theorem d_BB_image_16 : decode b_BB_image 16 = .ok (.aload_n 0, 1) := by decide +kernel
theorem d_BB_image_17 : decode b_BB_image 17 = .ok (.getfield 18, 3) := by decide +kernel
theorem d_BB_image_20 : decode b_BB_image 20 = .ok (.getfield 78, 3) := by decide +kernel
theorem d_BB_image_23 : decode b_BB_image 23 = .ok (.ireturn, 1) := by decide +kernel
theorem c_BB_image (l : Launch) (θ : ZT)  {σ : ZM} {res : Int32 × ZM} (h : f_BB_image σ = some res) : zMet mkI l 0 129 θ y_BB_image b_BB_image 1 (some .int) (zrm 3 104) [.ref (za θ 0)] σ res := by
  unfold f_BB_image at h
  refine z_met (lv := [(0, .ref (za θ 0))]) (by decide +kernel) rfl (Nat.le_of_ble_eq_true rfl) (by decide) ?_
  refine z_aload_n 0 d_BB_image_0 rfl rfl ?_
  refine gf_BB_kept zl_0 d_BB_image_1 q_304 ?_
  refine z_aload_n 0 d_BB_image_4 rfl rfl ?_
  refine gf_BB_now zl_0 d_BB_image_5 q_303 ?_
  obtain ⟨⟨v1, s2⟩, e3, h⟩ := zbd_i h
  refine w_callV (As := [.ref (za θ 1)]) (kc := 20) (ci := 10) (c_Stand_become l θ e3) cf_Stand_become q_769 d_BB_image_8 zl_2 rfl rfl rfl rfl rfl rfl (Nat.le_of_ble_eq_true rfl) rfl rfl ⟨Nat.le_of_ble_eq_true rfl, Nat.le_of_ble_eq_true rfl⟩ ?_
  refine z_aload_n 0 d_BB_image_11 rfl rfl ?_
  refine z_iconst (v := 1) d_BB_image_12 (by decide) ?_
  refine pf_BB_imaged zl_0 (by decide) d_BB_image_13 q_314 ?_
  refine z_aload_n 0 d_BB_image_16 rfl rfl ?_
  refine gf_BB_kept zl_0 d_BB_image_17 q_304 ?_
  refine gf_Stand_many zl_2 d_BB_image_20 q_126 ?_
  exact z_iret d_BB_image_23 h
theorem d_BB_undo_0 : decode b_BB_undo 0 = .ok (.aload_n 0, 1) := by decide +kernel
theorem d_BB_undo_1 : decode b_BB_undo 1 = .ok (.getfield 263, 3) := by decide +kernel
theorem d_BB_undo_4 : decode b_BB_undo 4 = .ok (.ifCond .ne (6), 3) := by decide +kernel
theorem d_BB_undo_7 : decode b_BB_undo 7 = .ok (.bipush (-3), 2) := by decide +kernel
theorem d_BB_undo_9 : decode b_BB_undo 9 = .ok (.ireturn, 1) := by decide +kernel
theorem d_BB_undo_10 : decode b_BB_undo 10 = .ok (.aload_n 0, 1) := by decide +kernel
theorem d_BB_undo_11 : decode b_BB_undo 11 = .ok (.getfield 12, 3) := by decide +kernel
theorem d_BB_undo_14 : decode b_BB_undo 14 = .ok (.aload_n 0, 1) := by decide +kernel
theorem d_BB_undo_15 : decode b_BB_undo 15 = .ok (.getfield 18, 3) := by decide +kernel
theorem d_BB_undo_18 : decode b_BB_undo 18 = .ok (.invokevirtual 259, 3) := by decide +kernel
theorem d_BB_undo_21 : decode b_BB_undo 21 = .ok (.aload_n 0, 1) := by decide +kernel
theorem d_BB_undo_22 : decode b_BB_undo 22 = .ok (.getfield 44, 3) := by decide +kernel
theorem d_BB_undo_25 : decode b_BB_undo 25 = .ok (.aload_n 0, 1) := by decide +kernel
theorem d_BB_undo_26 : decode b_BB_undo 26 = .ok (.getfield 12, 3) := by decide +kernel
theorem d_BB_undo_29 : decode b_BB_undo 29 = .ok (.getfield 158, 3) := by decide +kernel
theorem d_BB_undo_32 : decode b_BB_undo 32 = .ok (.ifCond .ge (10), 3) := by decide +kernel
theorem d_BB_undo_35 : decode b_BB_undo 35 = .ok (.aload_n 0, 1) := by decide +kernel
theorem d_BB_undo_36 : decode b_BB_undo 36 = .ok (.getfield 35, 3) := by decide +kernel
theorem d_BB_undo_39 : decode b_BB_undo 39 = .ok (.goto (15), 3) := by decide +kernel
theorem d_BB_undo_42 : decode b_BB_undo 42 = .ok (.aload_n 0, 1) := by decide +kernel
theorem d_BB_undo_43 : decode b_BB_undo 43 = .ok (.getfield 30, 3) := by decide +kernel
theorem d_BB_undo_46 : decode b_BB_undo 46 = .ok (.aload_n 0, 1) := by decide +kernel
theorem d_BB_undo_47 : decode b_BB_undo 47 = .ok (.getfield 12, 3) := by decide +kernel
theorem d_BB_undo_50 : decode b_BB_undo 50 = .ok (.getfield 158, 3) := by decide +kernel
theorem d_BB_undo_53 : decode b_BB_undo 53 = .ok (.aaload, 1) := by decide +kernel
theorem d_BB_undo_54 : decode b_BB_undo 54 = .ok (.putfield 161, 3) := by decide +kernel
theorem d_BB_undo_57 : decode b_BB_undo 57 = .ok (.aload_n 0, 1) := by decide +kernel
theorem d_BB_undo_58 : decode b_BB_undo 58 = .ok (.getfield 12, 3) := by decide +kernel
theorem d_BB_undo_61 : decode b_BB_undo 61 = .ok (.getfield 78, 3) := by decide +kernel
theorem d_BB_undo_64 : decode b_BB_undo 64 = .ok (.ireturn, 1) := by decide +kernel
theorem zb_BB_undo_54 {l : Launch} {θ : ZT} {res : Int32 × ZM} {y0 : Nat} {σ : ZM} (hy0 : zR 0 129 y0 15 0 = true) (h : f_BB_undo_54 y0 σ = some res) : WZ l b_BB_undo 1 (some .int) "BakedBefore" 0 129 θ (zrm 3 104) (zQ mkI 0 129 θ res) σ [(0, .ref (za θ 0))] 54 [.ref (za θ y0), .ref (za θ 5)] := by
  unfold f_BB_undo_54 at h
  refine pf_Baker_kiln zl_5 hy0 d_BB_undo_54 q_210 ?_
  refine z_aload_n 0 d_BB_undo_57 rfl rfl ?_
  refine gf_BB_now zl_0 d_BB_undo_58 q_303 ?_
  refine gf_Stand_many zl_1 d_BB_undo_61 q_126 ?_
  exact z_iret d_BB_undo_64 h
theorem c_BB_undo (l : Launch) (θ : ZT)  {σ : ZM} {res : Int32 × ZM} (h : f_BB_undo σ = some res) : zMet mkI l 0 129 θ y_BB_undo b_BB_undo 1 (some .int) (zrm 3 104) [.ref (za θ 0)] σ res := by
  unfold f_BB_undo at h
  refine z_met (lv := [(0, .ref (za θ 0))]) (by decide +kernel) rfl (Nat.le_of_ble_eq_true rfl) (by decide) ?_
  refine z_aload_n 0 d_BB_undo_0 rfl rfl ?_
  refine gf_BB_imaged zl_0 d_BB_undo_1 q_314 ?_
  refine z_if_ne (tgt := 10) d_BB_undo_4 (by decide) (fun c1 => ?_) (fun c1 => ?_)
  · have h := (if_neg c1).symm.trans h
    refine z_aload_n 0 d_BB_undo_10 rfl rfl ?_
    refine gf_BB_now zl_0 d_BB_undo_11 q_303 ?_
    refine z_aload_n 0 d_BB_undo_14 rfl rfl ?_
    refine gf_BB_kept zl_0 d_BB_undo_15 q_304 ?_
    obtain ⟨⟨v2, s3⟩, e4, h⟩ := zbd_i h
    refine w_callV (As := [.ref (za θ 2)]) (kc := 20) (ci := 10) (c_Stand_become l θ e4) cf_Stand_become q_769 d_BB_undo_18 zl_1 rfl rfl rfl rfl rfl rfl (Nat.le_of_ble_eq_true rfl) rfl rfl ⟨Nat.le_of_ble_eq_true rfl, Nat.le_of_ble_eq_true rfl⟩ ?_
    refine z_aload_n 0 d_BB_undo_21 rfl rfl ?_
    refine gf_BB_baker zl_0 d_BB_undo_22 q_308 ?_
    refine z_aload_n 0 d_BB_undo_25 rfl rfl ?_
    refine gf_BB_now zl_0 d_BB_undo_26 q_303 ?_
    refine gf_Stand_holding zl_1 d_BB_undo_29 q_130 ?_
    refine z_if_ge (tgt := 42) d_BB_undo_32 (by decide) (fun c5 => ?_) (fun c5 => ?_)
    · have h := (if_pos c5).symm.trans h
      refine z_aload_n 0 d_BB_undo_42 rfl rfl ?_
      refine gf_BB_kilns zl_0 d_BB_undo_43 q_306 ?_
      refine z_aload_n 0 d_BB_undo_46 rfl rfl ?_
      refine gf_BB_now zl_0 d_BB_undo_47 q_303 ?_
      refine gf_Stand_holding zl_1 d_BB_undo_50 q_130 ?_
      obtain ⟨c6, h⟩ := zck_i h
      refine w_aald5 zl_20 c6 d_BB_undo_53 ?_
      obtain ⟨c7, h⟩ := zck_i h
      exact zb_BB_undo_54 c7 h
    · have h := (if_neg c5).symm.trans h
      refine z_aload_n 0 d_BB_undo_35 rfl rfl ?_
      refine gf_BB_blank zl_0 d_BB_undo_36 q_307 ?_
      refine z_goto (tgt := 54) d_BB_undo_39 (by decide) ?_
      exact zb_BB_undo_54 zl_93 h
  · have h := (if_pos c1).symm.trans h
    refine z_bipush (v := -3) d_BB_undo_7 (by decide) ?_
    exact z_iret d_BB_undo_9 h
theorem d_Acts_bodyOf_0 : decode b_Acts_bodyOf 0 = .ok (.iload_n 1, 1) := by decide +kernel
theorem d_Acts_bodyOf_1 : decode b_Acts_bodyOf 1 = .ok (.istore_n 2, 1) := by decide +kernel
theorem d_Acts_bodyOf_2 : decode b_Acts_bodyOf 2 = .ok (.iconst (0), 1) := by decide +kernel
theorem d_Acts_bodyOf_3 : decode b_Acts_bodyOf 3 = .ok (.istore_n 3, 1) := by decide +kernel
theorem d_Acts_bodyOf_4 : decode b_Acts_bodyOf 4 = .ok (.iload_n 3, 1) := by decide +kernel
theorem d_Acts_bodyOf_5 : decode b_Acts_bodyOf 5 = .ok (.iconst (2), 1) := by decide +kernel
theorem d_Acts_bodyOf_6 : decode b_Acts_bodyOf 6 = .ok (.if_icmp .ge (31), 3) := by decide +kernel
theorem d_Acts_bodyOf_9 : decode b_Acts_bodyOf 9 = .ok (.iload_n 2, 1) := by decide +kernel
theorem d_Acts_bodyOf_10 : decode b_Acts_bodyOf 10 = .ok (.ifCond .le (27), 3) := by decide +kernel
theorem d_Acts_bodyOf_13 : decode b_Acts_bodyOf 13 = .ok (.getstatic 50, 3) := by decide +kernel
theorem d_Acts_bodyOf_16 : decode b_Acts_bodyOf 16 = .ok (.iload_n 2, 1) := by decide +kernel
theorem d_Acts_bodyOf_17 : decode b_Acts_bodyOf 17 = .ok (.iconst (3), 1) := by decide +kernel
theorem d_Acts_bodyOf_18 : decode b_Acts_bodyOf 18 = .ok (.imul, 1) := by decide +kernel
theorem d_Acts_bodyOf_19 : decode b_Acts_bodyOf 19 = .ok (.iload_n 0, 1) := by decide +kernel
theorem d_Acts_bodyOf_20 : decode b_Acts_bodyOf 20 = .ok (.iadd, 1) := by decide +kernel
theorem d_Acts_bodyOf_21 : decode b_Acts_bodyOf 21 = .ok (.iaload, 1) := by decide +kernel
theorem d_Acts_bodyOf_22 : decode b_Acts_bodyOf 22 = .ok (.ifCond .ne (15), 3) := by decide +kernel
theorem d_Acts_bodyOf_25 : decode b_Acts_bodyOf 25 = .ok (.getstatic 36, 3) := by decide +kernel
theorem d_Acts_bodyOf_28 : decode b_Acts_bodyOf 28 = .ok (.iload_n 2, 1) := by decide +kernel
theorem d_Acts_bodyOf_29 : decode b_Acts_bodyOf 29 = .ok (.iaload, 1) := by decide +kernel
theorem d_Acts_bodyOf_30 : decode b_Acts_bodyOf 30 = .ok (.istore_n 2, 1) := by decide +kernel
theorem d_Acts_bodyOf_31 : decode b_Acts_bodyOf 31 = .ok (.iinc 3 (1), 3) := by decide +kernel
theorem d_Acts_bodyOf_34 : decode b_Acts_bodyOf 34 = .ok (.goto (-30), 3) := by decide +kernel
theorem d_Acts_bodyOf_37 : decode b_Acts_bodyOf 37 = .ok (.getstatic 50, 3) := by decide +kernel
theorem d_Acts_bodyOf_40 : decode b_Acts_bodyOf 40 = .ok (.iload_n 2, 1) := by decide +kernel
theorem d_Acts_bodyOf_41 : decode b_Acts_bodyOf 41 = .ok (.iconst (3), 1) := by decide +kernel
theorem d_Acts_bodyOf_42 : decode b_Acts_bodyOf 42 = .ok (.imul, 1) := by decide +kernel
theorem d_Acts_bodyOf_43 : decode b_Acts_bodyOf 43 = .ok (.iload_n 0, 1) := by decide +kernel
theorem d_Acts_bodyOf_44 : decode b_Acts_bodyOf 44 = .ok (.iadd, 1) := by decide +kernel
theorem d_Acts_bodyOf_45 : decode b_Acts_bodyOf 45 = .ok (.iaload, 1) := by decide +kernel
theorem d_Acts_bodyOf_46 : decode b_Acts_bodyOf 46 = .ok (.ireturn, 1) := by decide +kernel
theorem zb_Acts_bodyOf_37 {l : Launch} {θ : ZT} {res : Int32 × ZM} {x0 : Int32} {x2 : Int32} {σ : ZM} (h : f_Acts_bodyOf_37 x0 x2 σ = some res) : WZ l b_Acts_bodyOf 4 (some .int) "BakedBefore$Acts" 0 129 θ (zrm 1 60) (zQ mkI 0 129 θ res) σ [(0, .int x0), (2, .int x2)] 37 [] := by
  unfold f_Acts_bodyOf_37 at h
  refine z_bodies d_Acts_bodyOf_37 q_800 ?_
  refine z_iload_n 1 d_Acts_bodyOf_40 rfl rfl ?_
  refine z_iconst (v := 3) d_Acts_bodyOf_41 (by decide) ?_
  refine z_imul d_Acts_bodyOf_42 ?_
  refine z_iload_n 0 d_Acts_bodyOf_43 rfl rfl ?_
  refine z_iadd d_Acts_bodyOf_44 ?_
  obtain ⟨c1, h⟩ := zck_i h
  refine z_ialdB d_Acts_bodyOf_45 c1 ?_
  exact z_iret d_Acts_bodyOf_46 h
theorem zb_Acts_bodyOf_4 {l : Launch} {θ : ZT} {res : Int32 × ZM} {k4 : Int32 × Int32 × Int32 × ZM → Option (Int32 × ZM)} (hk4 : ∀ a : Int32 × Int32 × Int32 × ZM, k4 a = some res → WZ l b_Acts_bodyOf 4 (some .int) "BakedBefore$Acts" 0 129 θ (zrm 1 60) (zQ mkI 0 129 θ res) a.2.2.2 [(0, .int a.1), (2, .int a.2.1), (3, .int a.2.2.1)] 4 []) {x0 : Int32} {x2 : Int32} {x3 : Int32} {σ : ZM} (h : f_Acts_bodyOf_4 k4 x0 x2 x3 σ = some res) : WZ l b_Acts_bodyOf 4 (some .int) "BakedBefore$Acts" 0 129 θ (zrm 1 60) (zQ mkI 0 129 θ res) σ [(0, .int x0), (2, .int x2), (3, .int x3)] 4 [] := by
  unfold f_Acts_bodyOf_4 at h
  refine z_iload_n 2 d_Acts_bodyOf_4 rfl rfl ?_
  refine z_iconst (v := 2) d_Acts_bodyOf_5 (by decide) ?_
  refine z_icmp_ge (tgt := 37) d_Acts_bodyOf_6 (by decide) (fun c1 => ?_) (fun c1 => ?_)
  · have h := (if_pos c1).symm.trans h
    refine z_sub [0, 1] rfl ?_
    exact zb_Acts_bodyOf_37 h
  · have h := (if_neg c1).symm.trans h
    refine z_iload_n 1 d_Acts_bodyOf_9 rfl rfl ?_
    refine z_if_le (tgt := 37) d_Acts_bodyOf_10 (by decide) (fun c2 => ?_) (fun c2 => ?_)
    · have h := (if_pos c2).symm.trans h
      refine z_sub [0, 1] rfl ?_
      exact zb_Acts_bodyOf_37 h
    · have h := (if_neg c2).symm.trans h
      refine z_bodies d_Acts_bodyOf_13 q_800 ?_
      refine z_iload_n 1 d_Acts_bodyOf_16 rfl rfl ?_
      refine z_iconst (v := 3) d_Acts_bodyOf_17 (by decide) ?_
      refine z_imul d_Acts_bodyOf_18 ?_
      refine z_iload_n 0 d_Acts_bodyOf_19 rfl rfl ?_
      refine z_iadd d_Acts_bodyOf_20 ?_
      obtain ⟨c3, h⟩ := zck_i h
      refine z_ialdB d_Acts_bodyOf_21 c3 ?_
      refine z_if_ne (tgt := 37) d_Acts_bodyOf_22 (by decide) (fun c4 => ?_) (fun c4 => ?_)
      · have h := (if_neg c4).symm.trans h
        refine z_sub [0, 1] rfl ?_
        exact zb_Acts_bodyOf_37 h
      · have h := (if_pos c4).symm.trans h
        refine z_above d_Acts_bodyOf_25 (Or.inl rfl) ?_
        refine z_iload_n 1 d_Acts_bodyOf_28 rfl rfl ?_
        obtain ⟨c5, h⟩ := zck_i h
        refine z_ialdA d_Acts_bodyOf_29 c5 ?_
        refine z_istore_n d_Acts_bodyOf_30 rfl (by decide) rfl ?_
        refine z_iinc (v := x3 + (1 : Int32)) 2 d_Acts_bodyOf_31 rfl rfl (by decide) rfl ?_
        refine z_goto (tgt := 4) d_Acts_bodyOf_34 (by decide) ?_
        refine z_sub [2, 1, 0] rfl ?_
        exact hk4 (x0, (zabove x2.toNatClampNeg), (x3 + (1 : Int32)), σ) h
theorem zl_Acts_bodyOf_4 {l : Launch} {θ : ZT} {res : Int32 × ZM} : ∀ (N : Nat) (a : Int32 × Int32 × Int32 × ZM), F_Acts_bodyOf_4 N a = some res → WZ l b_Acts_bodyOf 4 (some .int) "BakedBefore$Acts" 0 129 θ (zrm 1 60) (zQ mkI 0 129 θ res) a.2.2.2 [(0, .int a.1), (2, .int a.2.1), (3, .int a.2.2.1)] 4 [] := by
  intro N
  induction N with
  | zero => intro a  h; cases (show (none : Option (Int32 × ZM)) = some res from h)
  | succ N ih => intro a  h; exact zb_Acts_bodyOf_4 ih (show f_Acts_bodyOf_4 (F_Acts_bodyOf_4 N) a.1 a.2.1 a.2.2.1 a.2.2.2 = some res from h)
theorem c_Acts_bodyOf (l : Launch) (θ : ZT) {x0 : Int32} {x1 : Int32} {σ : ZM} {res : Int32 × ZM} (h : f_Acts_bodyOf x0 x1 σ = some res) : zMet mkI l 0 129 θ y_Acts_bodyOf b_Acts_bodyOf 4 (some .int) (zrm 1 60) [.int x0, .int x1] σ res := by
  unfold f_Acts_bodyOf at h
  refine z_met (lv := [(0, .int x0), (1, .int x1)]) (by decide +kernel) rfl (Nat.le_of_ble_eq_true rfl) (by decide) ?_
  refine z_iload_n 1 d_Acts_bodyOf_0 rfl rfl ?_
  refine z_istore_n d_Acts_bodyOf_1 rfl (by decide) rfl ?_
  refine z_iconst (v := 0) d_Acts_bodyOf_2 (by decide) ?_
  refine z_istore_n d_Acts_bodyOf_3 rfl (by decide) rfl ?_
  refine z_sub [2, 1, 0] rfl ?_
  exact zl_Acts_bodyOf_4 2000 (x0, x1, (0 : Int32), σ) h
theorem d_Acts_note_0 : decode b_Acts_note 0 = .ok (.aload_n 0, 1) := by decide +kernel
theorem d_Acts_note_1 : decode b_Acts_note 1 = .ok (.getfield 15, 3) := by decide +kernel
theorem d_Acts_note_4 : decode b_Acts_note 4 = .ok (.bipush (20), 2) := by decide +kernel
theorem d_Acts_note_6 : decode b_Acts_note 6 = .ok (.if_icmp .ge (13), 3) := by decide +kernel
theorem d_Acts_note_9 : decode b_Acts_note 9 = .ok (.aload_n 0, 1) := by decide +kernel
theorem d_Acts_note_10 : decode b_Acts_note 10 = .ok (.getfield 11, 3) := by decide +kernel
theorem d_Acts_note_13 : decode b_Acts_note 13 = .ok (.aload_n 0, 1) := by decide +kernel
theorem d_Acts_note_14 : decode b_Acts_note 14 = .ok (.getfield 15, 3) := by decide +kernel
theorem d_Acts_note_17 : decode b_Acts_note 17 = .ok (.iload_n 1, 1) := by decide +kernel
theorem d_Acts_note_18 : decode b_Acts_note 18 = .ok (.iastore, 1) := by decide +kernel
theorem d_Acts_note_19 : decode b_Acts_note 19 = .ok (.aload_n 0, 1) := by decide +kernel
theorem d_Acts_note_20 : decode b_Acts_note 20 = .ok (.dup, 1) := by decide +kernel
theorem d_Acts_note_21 : decode b_Acts_note 21 = .ok (.getfield 15, 3) := by decide +kernel
theorem d_Acts_note_24 : decode b_Acts_note 24 = .ok (.iconst (1), 1) := by decide +kernel
theorem d_Acts_note_25 : decode b_Acts_note 25 = .ok (.iadd, 1) := by decide +kernel
theorem d_Acts_note_26 : decode b_Acts_note 26 = .ok (.putfield 15, 3) := by decide +kernel
theorem d_Acts_note_29 : decode b_Acts_note 29 = .ok (.return_, 1) := by decide +kernel
theorem zb_Acts_note_19 {l : Launch} {θ : ZT} {res : Unit × ZM}  {σ : ZM} (h : f_Acts_note_19 σ = some res) : WZ l b_Acts_note 2 none "BakedBefore$Acts" 0 129 θ (zrm 1 60) (zQ mkV 0 129 θ res) σ [(0, .ref (za θ 8))] 19 [] := by
  unfold f_Acts_note_19 at h
  refine z_aload_n 0 d_Acts_note_19 rfl rfl ?_
  refine z_dup d_Acts_note_20 rfl ?_
  refine gf_Acts_ran zl_8 d_Acts_note_21 q_277 ?_
  refine z_iconst (v := 1) d_Acts_note_24 (by decide) ?_
  refine z_iadd d_Acts_note_25 ?_
  refine pf_Acts_ran zl_8 d_Acts_note_26 q_277 ?_
  exact z_vret d_Acts_note_29 h
theorem c_Acts_note (l : Launch) (θ : ZT) {x1 : Int32} {σ : ZM} {res : Unit × ZM} (h : f_Acts_note x1 σ = some res) : zMet mkV l 0 129 θ y_Acts_note b_Acts_note 2 none (zrm 1 60) [.ref (za θ 8), .int x1] σ res := by
  unfold f_Acts_note at h
  refine z_met (lv := [(0, .ref (za θ 8)), (1, .int x1)]) (by decide +kernel) rfl (Nat.le_of_ble_eq_true rfl) (by decide) ?_
  refine z_aload_n 0 d_Acts_note_0 rfl rfl ?_
  refine gf_Acts_ran zl_8 d_Acts_note_1 q_277 ?_
  refine z_bipush (v := 20) d_Acts_note_4 (by decide) ?_
  refine z_icmp_ge (tgt := 19) d_Acts_note_6 (by decide) (fun c1 => ?_) (fun c1 => ?_)
  · have h := (if_pos c1).symm.trans h
    refine z_sub [0] rfl ?_
    exact zb_Acts_note_19 h
  · have h := (if_neg c1).symm.trans h
    refine z_aload_n 0 d_Acts_note_9 rfl rfl ?_
    refine gf_Acts_bodies zl_8 d_Acts_note_10 q_275 ?_
    refine z_aload_n 0 d_Acts_note_13 rfl rfl ?_
    refine gf_Acts_ran zl_8 d_Acts_note_14 q_277 ?_
    refine z_iload_n 1 d_Acts_note_17 rfl rfl ?_
    obtain ⟨c2, h⟩ := zck_i h
    refine w_iast zl_9 c2 d_Acts_note_18 ?_
    refine z_sub [0] rfl ?_
    exact zb_Acts_note_19 h
theorem d_Acts_run_0 : decode b_Acts_run 0 = .ok (.iload 5, 2) := by decide +kernel
theorem d_Acts_run_2 : decode b_Acts_run 2 = .ok (.bipush (40), 2) := by decide +kernel
theorem d_Acts_run_4 : decode b_Acts_run 4 = .ok (.if_icmp .le (5), 3) := by decide +kernel
theorem d_Acts_run_7 : decode b_Acts_run 7 = .ok (.iconst (0), 1) := by decide +kernel
theorem d_Acts_run_8 : decode b_Acts_run 8 = .ok (.ireturn, 1) := by decide +kernel
theorem d_Acts_run_9 : decode b_Acts_run 9 = .ok (.iload_n 2, 1) := by decide +kernel
theorem d_Acts_run_10 : decode b_Acts_run 10 = .ok (.iload_n 3, 1) := by decide +kernel
theorem d_Acts_run_11 : decode b_Acts_run 11 = .ok (.invokestatic 28, 3) := by decide +kernel
theorem d_Acts_run_14 : decode b_Acts_run 14 = .ok (.istore 6, 2) := by decide +kernel
theorem d_Acts_run_16 : decode b_Acts_run 16 = .ok (.aload_n 0, 1) := by decide +kernel
theorem d_Acts_run_17 : decode b_Acts_run 17 = .ok (.iload 6, 2) := by decide +kernel
theorem d_Acts_run_19 : decode b_Acts_run 19 = .ok (.invokevirtual 32, 3) := by decide +kernel
theorem d_Acts_run_22 : decode b_Acts_run 22 = .ok (.aload_n 1, 1) := by decide +kernel
theorem d_Acts_run_23 : decode b_Acts_run 23 = .ok (.getfield 19, 3) := by decide +kernel
theorem d_Acts_run_26 : decode b_Acts_run 26 = .ok (.istore 7, 2) := by decide +kernel
theorem d_Acts_run_28 : decode b_Acts_run 28 = .ok (.iconst (0), 1) := by decide +kernel
theorem d_Acts_run_29 : decode b_Acts_run 29 = .ok (.getstatic 36, 3) := by decide +kernel
theorem d_Acts_run_32 : decode b_Acts_run 32 = .ok (.iload 6, 2) := by decide +kernel
theorem d_Acts_run_34 : decode b_Acts_run 34 = .ok (.bipush (10), 2) := by decide +kernel
theorem d_Acts_run_36 : decode b_Acts_run 36 = .ok (.idiv, 1) := by decide +kernel
theorem d_Acts_run_37 : decode b_Acts_run 37 = .ok (.iconst (1), 1) := by decide +kernel
theorem d_Acts_run_38 : decode b_Acts_run 38 = .ok (.isub, 1) := by decide +kernel
theorem d_Acts_run_39 : decode b_Acts_run 39 = .ok (.iaload, 1) := by decide +kernel
theorem d_Acts_run_40 : decode b_Acts_run 40 = .ok (.invokestatic 39, 3) := by decide +kernel
theorem d_Acts_run_43 : decode b_Acts_run 43 = .ok (.istore 8, 2) := by decide +kernel
theorem d_Acts_run_45 : decode b_Acts_run 45 = .ok (.iload 5, 2) := by decide +kernel
theorem d_Acts_run_47 : decode b_Acts_run 47 = .ok (.iconst (1), 1) := by decide +kernel
theorem d_Acts_run_48 : decode b_Acts_run 48 = .ok (.iadd, 1) := by decide +kernel
theorem d_Acts_run_49 : decode b_Acts_run 49 = .ok (.istore 9, 2) := by decide +kernel
theorem d_Acts_run_51 : decode b_Acts_run 51 = .ok (.iload 6, 2) := by decide +kernel
theorem d_Acts_run_53 : decode b_Acts_run 53 = .ok (.lookupswitch (286) #[(10, 99), (11, 107), (12, 125), (20, 140), (30, 156), (40, 171), (50, 196), (51, 210), (60, 225), (70, 243), (71, 268)], 99) := by decide +kernel
theorem d_Acts_run_152 : decode b_Acts_run 152 = .ok (.iload 4, 2) := by decide +kernel
theorem d_Acts_run_154 : decode b_Acts_run 154 = .ok (.aload_n 1, 1) := by decide +kernel
theorem d_Acts_run_155 : decode b_Acts_run 155 = .ok (.getfield 44, 3) := by decide +kernel
theorem d_Acts_run_158 : decode b_Acts_run 158 = .ok (.iadd, 1) := by decide +kernel
theorem d_Acts_run_159 : decode b_Acts_run 159 = .ok (.ireturn, 1) := by decide +kernel
theorem d_Acts_run_160 : decode b_Acts_run 160 = .ok (.aload_n 0, 1) := by decide +kernel
theorem d_Acts_run_161 : decode b_Acts_run 161 = .ok (.aload_n 1, 1) := by decide +kernel
theorem d_Acts_run_162 : decode b_Acts_run 162 = .ok (.iconst (0), 1) := by decide +kernel
theorem d_Acts_run_163 : decode b_Acts_run 163 = .ok (.iload 7, 2) := by decide +kernel
theorem d_Acts_run_165 : decode b_Acts_run 165 = .ok (.iload 4, 2) := by decide +kernel
theorem d_Acts_run_167 : decode b_Acts_run 167 = .ok (.iload 9, 2) := by decide +kernel
theorem d_Acts_run_169 : decode b_Acts_run 169 = .ok (.invokestatic 24, 3) := by decide +kernel
theorem d_Acts_run_172 : decode b_Acts_run 172 = .ok (.aload_n 1, 1) := by decide +kernel
theorem d_Acts_run_173 : decode b_Acts_run 173 = .ok (.getfield 47, 3) := by decide +kernel
theorem d_Acts_run_176 : decode b_Acts_run 176 = .ok (.isub, 1) := by decide +kernel
theorem d_Acts_run_177 : decode b_Acts_run 177 = .ok (.ireturn, 1) := by decide +kernel
theorem d_Acts_run_178 : decode b_Acts_run 178 = .ok (.aload_n 0, 1) := by decide +kernel
theorem d_Acts_run_179 : decode b_Acts_run 179 = .ok (.aload_n 1, 1) := by decide +kernel
theorem d_Acts_run_180 : decode b_Acts_run 180 = .ok (.iconst (1), 1) := by decide +kernel
theorem d_Acts_run_181 : decode b_Acts_run 181 = .ok (.iload 7, 2) := by decide +kernel
theorem d_Acts_run_183 : decode b_Acts_run 183 = .ok (.iload 4, 2) := by decide +kernel
theorem d_Acts_run_185 : decode b_Acts_run 185 = .ok (.iload 9, 2) := by decide +kernel
theorem d_Acts_run_187 : decode b_Acts_run 187 = .ok (.invokestatic 24, 3) := by decide +kernel
theorem d_Acts_run_190 : decode b_Acts_run 190 = .ok (.iconst (2), 1) := by decide +kernel
theorem d_Acts_run_191 : decode b_Acts_run 191 = .ok (.imul, 1) := by decide +kernel
theorem d_Acts_run_192 : decode b_Acts_run 192 = .ok (.ireturn, 1) := by decide +kernel
theorem d_Acts_run_193 : decode b_Acts_run 193 = .ok (.aload_n 0, 1) := by decide +kernel
theorem d_Acts_run_194 : decode b_Acts_run 194 = .ok (.aload_n 1, 1) := by decide +kernel
theorem d_Acts_run_195 : decode b_Acts_run 195 = .ok (.iconst (1), 1) := by decide +kernel
theorem d_Acts_run_196 : decode b_Acts_run 196 = .ok (.iload 8, 2) := by decide +kernel
theorem d_Acts_run_198 : decode b_Acts_run 198 = .ok (.iload 4, 2) := by decide +kernel
theorem d_Acts_run_200 : decode b_Acts_run 200 = .ok (.iload 9, 2) := by decide +kernel
theorem d_Acts_run_202 : decode b_Acts_run 202 = .ok (.invokestatic 24, 3) := by decide +kernel
theorem d_Acts_run_205 : decode b_Acts_run 205 = .ok (.bipush (6), 2) := by decide +kernel
theorem d_Acts_run_207 : decode b_Acts_run 207 = .ok (.ixor, 1) := by decide +kernel
theorem d_Acts_run_208 : decode b_Acts_run 208 = .ok (.ireturn, 1) := by decide +kernel
theorem d_Acts_run_209 : decode b_Acts_run 209 = .ok (.aload_n 0, 1) := by decide +kernel
theorem d_Acts_run_210 : decode b_Acts_run 210 = .ok (.aload_n 1, 1) := by decide +kernel
theorem d_Acts_run_211 : decode b_Acts_run 211 = .ok (.iconst (0), 1) := by decide +kernel
theorem d_Acts_run_212 : decode b_Acts_run 212 = .ok (.iload 8, 2) := by decide +kernel
theorem d_Acts_run_214 : decode b_Acts_run 214 = .ok (.iload 4, 2) := by decide +kernel
theorem d_Acts_run_216 : decode b_Acts_run 216 = .ok (.iconst (3), 1) := by decide +kernel
theorem d_Acts_run_217 : decode b_Acts_run 217 = .ok (.imul, 1) := by decide +kernel
theorem d_Acts_run_218 : decode b_Acts_run 218 = .ok (.iload 9, 2) := by decide +kernel
theorem d_Acts_run_220 : decode b_Acts_run 220 = .ok (.invokestatic 24, 3) := by decide +kernel
theorem d_Acts_run_223 : decode b_Acts_run 223 = .ok (.ireturn, 1) := by decide +kernel
theorem d_Acts_run_224 : decode b_Acts_run 224 = .ok (.aload_n 0, 1) := by decide +kernel
theorem d_Acts_run_225 : decode b_Acts_run 225 = .ok (.aload_n 1, 1) := by decide +kernel
theorem d_Acts_run_226 : decode b_Acts_run 226 = .ok (.iconst (2), 1) := by decide +kernel
theorem d_Acts_run_227 : decode b_Acts_run 227 = .ok (.iload 8, 2) := by decide +kernel
theorem d_Acts_run_229 : decode b_Acts_run 229 = .ok (.iload 4, 2) := by decide +kernel
theorem d_Acts_run_231 : decode b_Acts_run 231 = .ok (.iload 9, 2) := by decide +kernel
theorem d_Acts_run_233 : decode b_Acts_run 233 = .ok (.invokestatic 24, 3) := by decide +kernel
theorem d_Acts_run_236 : decode b_Acts_run 236 = .ok (.aload_n 0, 1) := by decide +kernel
theorem d_Acts_run_237 : decode b_Acts_run 237 = .ok (.aload_n 1, 1) := by decide +kernel
theorem d_Acts_run_238 : decode b_Acts_run 238 = .ok (.iconst (1), 1) := by decide +kernel
theorem d_Acts_run_239 : decode b_Acts_run 239 = .ok (.iload 7, 2) := by decide +kernel
theorem d_Acts_run_241 : decode b_Acts_run 241 = .ok (.iconst (1), 1) := by decide +kernel
theorem d_Acts_run_242 : decode b_Acts_run 242 = .ok (.iload 9, 2) := by decide +kernel
theorem d_Acts_run_244 : decode b_Acts_run 244 = .ok (.invokestatic 24, 3) := by decide +kernel
theorem d_Acts_run_247 : decode b_Acts_run 247 = .ok (.iadd, 1) := by decide +kernel
theorem d_Acts_run_248 : decode b_Acts_run 248 = .ok (.ireturn, 1) := by decide +kernel
theorem d_Acts_run_249 : decode b_Acts_run 249 = .ok (.aload_n 0, 1) := by decide +kernel
theorem d_Acts_run_250 : decode b_Acts_run 250 = .ok (.aload_n 1, 1) := by decide +kernel
theorem d_Acts_run_251 : decode b_Acts_run 251 = .ok (.iconst (0), 1) := by decide +kernel
theorem d_Acts_run_252 : decode b_Acts_run 252 = .ok (.iload 8, 2) := by decide +kernel
theorem d_Acts_run_254 : decode b_Acts_run 254 = .ok (.iload 4, 2) := by decide +kernel
theorem d_Acts_run_256 : decode b_Acts_run 256 = .ok (.iload 9, 2) := by decide +kernel
theorem d_Acts_run_258 : decode b_Acts_run 258 = .ok (.invokestatic 24, 3) := by decide +kernel
theorem d_Acts_run_261 : decode b_Acts_run 261 = .ok (.ineg, 1) := by decide +kernel
theorem d_Acts_run_262 : decode b_Acts_run 262 = .ok (.ireturn, 1) := by decide +kernel
theorem d_Acts_run_263 : decode b_Acts_run 263 = .ok (.aload_n 0, 1) := by decide +kernel
theorem d_Acts_run_264 : decode b_Acts_run 264 = .ok (.aload_n 1, 1) := by decide +kernel
theorem d_Acts_run_265 : decode b_Acts_run 265 = .ok (.iconst (1), 1) := by decide +kernel
theorem d_Acts_run_266 : decode b_Acts_run 266 = .ok (.iload 8, 2) := by decide +kernel
theorem d_Acts_run_268 : decode b_Acts_run 268 = .ok (.iload 4, 2) := by decide +kernel
theorem d_Acts_run_270 : decode b_Acts_run 270 = .ok (.iconst (1), 1) := by decide +kernel
theorem d_Acts_run_271 : decode b_Acts_run 271 = .ok (.iadd, 1) := by decide +kernel
theorem d_Acts_run_272 : decode b_Acts_run 272 = .ok (.iload 9, 2) := by decide +kernel
theorem d_Acts_run_274 : decode b_Acts_run 274 = .ok (.invokestatic 24, 3) := by decide +kernel
theorem d_Acts_run_277 : decode b_Acts_run 277 = .ok (.ireturn, 1) := by decide +kernel
theorem d_Acts_run_278 : decode b_Acts_run 278 = .ok (.aload_n 0, 1) := by decide +kernel
theorem d_Acts_run_279 : decode b_Acts_run 279 = .ok (.aload_n 1, 1) := by decide +kernel
theorem d_Acts_run_280 : decode b_Acts_run 280 = .ok (.iconst (2), 1) := by decide +kernel
theorem d_Acts_run_281 : decode b_Acts_run 281 = .ok (.iload 8, 2) := by decide +kernel
theorem d_Acts_run_283 : decode b_Acts_run 283 = .ok (.iload 4, 2) := by decide +kernel
theorem d_Acts_run_285 : decode b_Acts_run 285 = .ok (.aload_n 1, 1) := by decide +kernel
theorem d_Acts_run_286 : decode b_Acts_run 286 = .ok (.getfield 44, 3) := by decide +kernel
theorem d_Acts_run_289 : decode b_Acts_run 289 = .ok (.isub, 1) := by decide +kernel
theorem d_Acts_run_290 : decode b_Acts_run 290 = .ok (.iload 9, 2) := by decide +kernel
theorem d_Acts_run_292 : decode b_Acts_run 292 = .ok (.invokestatic 24, 3) := by decide +kernel
theorem d_Acts_run_295 : decode b_Acts_run 295 = .ok (.ireturn, 1) := by decide +kernel
theorem d_Acts_run_296 : decode b_Acts_run 296 = .ok (.aload_n 0, 1) := by decide +kernel
theorem d_Acts_run_297 : decode b_Acts_run 297 = .ok (.aload_n 1, 1) := by decide +kernel
theorem d_Acts_run_298 : decode b_Acts_run 298 = .ok (.iconst (1), 1) := by decide +kernel
theorem d_Acts_run_299 : decode b_Acts_run 299 = .ok (.iload 8, 2) := by decide +kernel
theorem d_Acts_run_301 : decode b_Acts_run 301 = .ok (.iload 4, 2) := by decide +kernel
theorem d_Acts_run_303 : decode b_Acts_run 303 = .ok (.iload 9, 2) := by decide +kernel
theorem d_Acts_run_305 : decode b_Acts_run 305 = .ok (.invokestatic 24, 3) := by decide +kernel
theorem d_Acts_run_308 : decode b_Acts_run 308 = .ok (.aload_n 0, 1) := by decide +kernel
theorem d_Acts_run_309 : decode b_Acts_run 309 = .ok (.aload_n 1, 1) := by decide +kernel
theorem d_Acts_run_310 : decode b_Acts_run 310 = .ok (.iconst (0), 1) := by decide +kernel
theorem d_Acts_run_311 : decode b_Acts_run 311 = .ok (.iload 8, 2) := by decide +kernel
theorem d_Acts_run_313 : decode b_Acts_run 313 = .ok (.iconst (2), 1) := by decide +kernel
theorem d_Acts_run_314 : decode b_Acts_run 314 = .ok (.iload 9, 2) := by decide +kernel
theorem d_Acts_run_316 : decode b_Acts_run 316 = .ok (.invokestatic 24, 3) := by decide +kernel
theorem d_Acts_run_319 : decode b_Acts_run 319 = .ok (.iadd, 1) := by decide +kernel
theorem d_Acts_run_320 : decode b_Acts_run 320 = .ok (.ireturn, 1) := by decide +kernel
theorem d_Acts_run_321 : decode b_Acts_run 321 = .ok (.aload_n 0, 1) := by decide +kernel
theorem d_Acts_run_322 : decode b_Acts_run 322 = .ok (.aload_n 1, 1) := by decide +kernel
theorem d_Acts_run_323 : decode b_Acts_run 323 = .ok (.iconst (0), 1) := by decide +kernel
theorem d_Acts_run_324 : decode b_Acts_run 324 = .ok (.iload 8, 2) := by decide +kernel
theorem d_Acts_run_326 : decode b_Acts_run 326 = .ok (.iload 4, 2) := by decide +kernel
theorem d_Acts_run_328 : decode b_Acts_run 328 = .ok (.iload 9, 2) := by decide +kernel
theorem d_Acts_run_330 : decode b_Acts_run 330 = .ok (.invokestatic 24, 3) := by decide +kernel
theorem d_Acts_run_333 : decode b_Acts_run 333 = .ok (.aload_n 1, 1) := by decide +kernel
theorem d_Acts_run_334 : decode b_Acts_run 334 = .ok (.getfield 47, 3) := by decide +kernel
theorem d_Acts_run_337 : decode b_Acts_run 337 = .ok (.ixor, 1) := by decide +kernel
theorem d_Acts_run_338 : decode b_Acts_run 338 = .ok (.ireturn, 1) := by decide +kernel
theorem d_Acts_run_339 : decode b_Acts_run 339 = .ok (.iconst (0), 1) := by decide +kernel
theorem d_Acts_run_340 : decode b_Acts_run 340 = .ok (.ireturn, 1) := by decide +kernel
set_option maxRecDepth 20000 in
theorem c_Acts_run (l : Launch) (θ : ZT) {rec : Nat × Int32 × Int32 × Int32 × Int32 × ZM → Option (Int32 × ZM)} (n : Nat) (hrec : ∀ (a : Nat × Int32 × Int32 × Int32 × Int32 × ZM) (r : Int32 × ZM), rec a = some r → zMet mkI l 0 129 θ y_Acts_run b_Acts_run 10 (some .int) (zrm (2 + 1 * n) (100 + 29 * n)) [.ref (za θ 8), .ref (za θ a.1), .int a.2.1, .int a.2.2.1, .int a.2.2.2.1, .int a.2.2.2.2.1] a.2.2.2.2.2 r) {x1 : Nat} {x2 : Int32} {x3 : Int32} {x4 : Int32} {x5 : Int32} {σ : ZM} {res : Int32 × ZM} (h : f_Acts_run rec x1 x2 x3 x4 x5 σ = some res) : zMet mkI l 0 129 θ y_Acts_run b_Acts_run 10 (some .int) (zrm (2 + 1 * (n + 1)) (100 + 29 * (n + 1))) [.ref (za θ 8), .ref (za θ x1), .int x2, .int x3, .int x4, .int x5] σ res := by
  unfold f_Acts_run at h
  obtain ⟨hx1, h⟩ := zck_i h
  refine z_met (lv := [(0, .ref (za θ 8)), (1, .ref (za θ x1)), (2, .int x2), (3, .int x3), (4, .int x4), (5, .int x5)]) (by decide +kernel) rfl (Nat.le_of_ble_eq_true rfl) (by decide) ?_
  refine z_iload 5 d_Acts_run_0 rfl ?_
  refine z_bipush (v := 40) d_Acts_run_2 (by decide) ?_
  refine z_icmp_le (tgt := 9) d_Acts_run_4 (by decide) (fun c1 => ?_) (fun c1 => ?_)
  · have h := (if_pos c1).symm.trans h
    refine z_iload_n 2 d_Acts_run_9 rfl rfl ?_
    refine z_iload_n 3 d_Acts_run_10 rfl rfl ?_
    obtain ⟨⟨v2, s3⟩, e4, h⟩ := zbd_i h
    refine w_callS (As := [.int x2, .int x3]) (c_Acts_bodyOf l θ e4) cf_Acts_bodyOf q_797 d_Acts_run_11 rfl rfl rfl (Nat.le_of_ble_eq_true rfl) rfl rfl ⟨by simp only [zrm]; omega, by simp only [zrm]; omega⟩ ?_
    refine z_istore d_Acts_run_14 (by decide) rfl ?_
    refine z_aload_n 1 d_Acts_run_16 rfl rfl ?_
    refine z_iload 0 d_Acts_run_17 rfl ?_
    obtain ⟨⟨v5, s6⟩, e7, h⟩ := zbd_i h
    refine w_callV (As := [.int v2]) (kc := 11) (ci := 1) (c_Acts_note l θ e7) cf_Acts_note q_804 d_Acts_run_19 zl_8 rfl rfl rfl rfl rfl rfl (Nat.le_of_ble_eq_true rfl) rfl rfl ⟨by simp only [zrm]; omega, by simp only [zrm]; omega⟩ ?_
    refine z_aload_n 2 d_Acts_run_22 rfl rfl ?_
    refine gf_Loaf_kind hx1 d_Acts_run_23 q_94 ?_
    refine z_istore d_Acts_run_26 (by decide) rfl ?_
    refine z_iconst (v := 0) d_Acts_run_28 (by decide) ?_
    refine z_above d_Acts_run_29 (Or.inl rfl) ?_
    refine z_iload 1 d_Acts_run_32 rfl ?_
    refine z_bipush (v := 10) d_Acts_run_34 (by decide) ?_
    refine z_idiv d_Acts_run_36 (by decide) ?_
    refine z_iconst (v := 1) d_Acts_run_37 (by decide) ?_
    refine z_isub d_Acts_run_38 ?_
    obtain ⟨c8, h⟩ := zck_i h
    refine z_ialdA d_Acts_run_39 c8 ?_
    refine z_mmax d_Acts_run_40 q_808 q_399 q_14 q_400 (by simp only [zrm]; omega) (Nat.le_trans (m := 40) (Nat.le_of_ble_eq_true rfl) (by simp only [zrm]; omega)) ?_
    refine z_istore d_Acts_run_43 (by decide) rfl ?_
    refine z_iload 8 d_Acts_run_45 rfl ?_
    refine z_iconst (v := 1) d_Acts_run_47 (by decide) ?_
    refine z_iadd d_Acts_run_48 ?_
    refine z_istore d_Acts_run_49 (by decide) rfl ?_
    refine z_iload 3 d_Acts_run_51 rfl ?_
    by_cases c9 : v2 = (10 : Int32)
    · have h := (if_pos c9).symm.trans h
      refine z_lookup (off := 99) (tgt := 152) d_Acts_run_53 (by decide) (by rw [c9]; decide) (by decide) ?_
      refine z_iload 8 d_Acts_run_152 rfl ?_
      refine z_aload_n 5 d_Acts_run_154 rfl rfl ?_
      refine gf_Loaf_number hx1 d_Acts_run_155 q_85 ?_
      refine z_iadd d_Acts_run_158 ?_
      exact z_iret d_Acts_run_159 h
    have h := (if_neg c9).symm.trans h
    by_cases c10 : v2 = (11 : Int32)
    · have h := (if_pos c10).symm.trans h
      refine z_lookup (off := 107) (tgt := 160) d_Acts_run_53 (by decide) (by rw [c10]; decide) (by decide) ?_
      refine z_aload_n 4 d_Acts_run_160 rfl rfl ?_
      refine z_aload_n 5 d_Acts_run_161 rfl rfl ?_
      refine z_iconst (v := 0) d_Acts_run_162 (by decide) ?_
      refine z_iload 2 d_Acts_run_163 rfl ?_
      refine z_iload 8 d_Acts_run_165 rfl ?_
      refine z_iload 0 d_Acts_run_167 rfl ?_
      obtain ⟨⟨v11, s12⟩, e13, h⟩ := zbd_i h
      refine w_callS (As := [.ref (za θ 8), .ref (za θ x1), .int (0 : Int32), .int (zI s6 x1 3), .int x4, .int (x5 + (1 : Int32))]) (hrec (x1, (0 : Int32), (zI s6 x1 3), x4, (x5 + (1 : Int32)), s6) _ e13) cf_Acts_run q_794 d_Acts_run_169 rfl rfl rfl (Nat.le_of_ble_eq_true rfl) rfl rfl ⟨by simp only [zrm]; omega, by simp only [zrm]; omega⟩ ?_
      refine z_aload_n 5 d_Acts_run_172 rfl rfl ?_
      refine gf_Loaf_v hx1 d_Acts_run_173 q_100 ?_
      refine z_isub d_Acts_run_176 ?_
      exact z_iret d_Acts_run_177 h
    have h := (if_neg c10).symm.trans h
    by_cases c14 : v2 = (12 : Int32)
    · have h := (if_pos c14).symm.trans h
      refine z_lookup (off := 125) (tgt := 178) d_Acts_run_53 (by decide) (by rw [c14]; decide) (by decide) ?_
      refine z_aload_n 4 d_Acts_run_178 rfl rfl ?_
      refine z_aload_n 5 d_Acts_run_179 rfl rfl ?_
      refine z_iconst (v := 1) d_Acts_run_180 (by decide) ?_
      refine z_iload 2 d_Acts_run_181 rfl ?_
      refine z_iload 8 d_Acts_run_183 rfl ?_
      refine z_iload 0 d_Acts_run_185 rfl ?_
      obtain ⟨⟨v15, s16⟩, e17, h⟩ := zbd_i h
      refine w_callS (As := [.ref (za θ 8), .ref (za θ x1), .int (1 : Int32), .int (zI s6 x1 3), .int x4, .int (x5 + (1 : Int32))]) (hrec (x1, (1 : Int32), (zI s6 x1 3), x4, (x5 + (1 : Int32)), s6) _ e17) cf_Acts_run q_794 d_Acts_run_187 rfl rfl rfl (Nat.le_of_ble_eq_true rfl) rfl rfl ⟨by simp only [zrm]; omega, by simp only [zrm]; omega⟩ ?_
      refine z_iconst (v := 2) d_Acts_run_190 (by decide) ?_
      refine z_imul d_Acts_run_191 ?_
      exact z_iret d_Acts_run_192 h
    have h := (if_neg c14).symm.trans h
    by_cases c18 : v2 = (20 : Int32)
    · have h := (if_pos c18).symm.trans h
      refine z_lookup (off := 140) (tgt := 193) d_Acts_run_53 (by decide) (by rw [c18]; decide) (by decide) ?_
      refine z_aload_n 4 d_Acts_run_193 rfl rfl ?_
      refine z_aload_n 5 d_Acts_run_194 rfl rfl ?_
      refine z_iconst (v := 1) d_Acts_run_195 (by decide) ?_
      refine z_iload 1 d_Acts_run_196 rfl ?_
      refine z_iload 8 d_Acts_run_198 rfl ?_
      refine z_iload 0 d_Acts_run_200 rfl ?_
      obtain ⟨⟨v19, s20⟩, e21, h⟩ := zbd_i h
      refine w_callS (As := [.ref (za θ 8), .ref (za θ x1), .int (1 : Int32), .int (if (0 : Int32) < (zabove ((v2 / (10 : Int32)) - (1 : Int32)).toNatClampNeg) then (zabove ((v2 / (10 : Int32)) - (1 : Int32)).toNatClampNeg) else (0 : Int32)), .int x4, .int (x5 + (1 : Int32))]) (hrec (x1, (1 : Int32), (if (0 : Int32) < (zabove ((v2 / (10 : Int32)) - (1 : Int32)).toNatClampNeg) then (zabove ((v2 / (10 : Int32)) - (1 : Int32)).toNatClampNeg) else (0 : Int32)), x4, (x5 + (1 : Int32)), s6) _ e21) cf_Acts_run q_794 d_Acts_run_202 rfl rfl rfl (Nat.le_of_ble_eq_true rfl) rfl rfl ⟨by simp only [zrm]; omega, by simp only [zrm]; omega⟩ ?_
      refine z_bipush (v := 6) d_Acts_run_205 (by decide) ?_
      refine z_ixor d_Acts_run_207 ?_
      exact z_iret d_Acts_run_208 h
    have h := (if_neg c18).symm.trans h
    by_cases c22 : v2 = (30 : Int32)
    · have h := (if_pos c22).symm.trans h
      refine z_lookup (off := 156) (tgt := 209) d_Acts_run_53 (by decide) (by rw [c22]; decide) (by decide) ?_
      refine z_aload_n 4 d_Acts_run_209 rfl rfl ?_
      refine z_aload_n 5 d_Acts_run_210 rfl rfl ?_
      refine z_iconst (v := 0) d_Acts_run_211 (by decide) ?_
      refine z_iload 1 d_Acts_run_212 rfl ?_
      refine z_iload 8 d_Acts_run_214 rfl ?_
      refine z_iconst (v := 3) d_Acts_run_216 (by decide) ?_
      refine z_imul d_Acts_run_217 ?_
      refine z_iload 0 d_Acts_run_218 rfl ?_
      obtain ⟨⟨v23, s24⟩, e25, h⟩ := zbd_i h
      refine w_callS (As := [.ref (za θ 8), .ref (za θ x1), .int (0 : Int32), .int (if (0 : Int32) < (zabove ((v2 / (10 : Int32)) - (1 : Int32)).toNatClampNeg) then (zabove ((v2 / (10 : Int32)) - (1 : Int32)).toNatClampNeg) else (0 : Int32)), .int (x4 * (3 : Int32)), .int (x5 + (1 : Int32))]) (hrec (x1, (0 : Int32), (if (0 : Int32) < (zabove ((v2 / (10 : Int32)) - (1 : Int32)).toNatClampNeg) then (zabove ((v2 / (10 : Int32)) - (1 : Int32)).toNatClampNeg) else (0 : Int32)), (x4 * (3 : Int32)), (x5 + (1 : Int32)), s6) _ e25) cf_Acts_run q_794 d_Acts_run_220 rfl rfl rfl (Nat.le_of_ble_eq_true rfl) rfl rfl ⟨by simp only [zrm]; omega, by simp only [zrm]; omega⟩ ?_
      exact z_iret d_Acts_run_223 h
    have h := (if_neg c22).symm.trans h
    by_cases c26 : v2 = (40 : Int32)
    · have h := (if_pos c26).symm.trans h
      refine z_lookup (off := 171) (tgt := 224) d_Acts_run_53 (by decide) (by rw [c26]; decide) (by decide) ?_
      refine z_aload_n 4 d_Acts_run_224 rfl rfl ?_
      refine z_aload_n 5 d_Acts_run_225 rfl rfl ?_
      refine z_iconst (v := 2) d_Acts_run_226 (by decide) ?_
      refine z_iload 1 d_Acts_run_227 rfl ?_
      refine z_iload 8 d_Acts_run_229 rfl ?_
      refine z_iload 0 d_Acts_run_231 rfl ?_
      obtain ⟨⟨v27, s28⟩, e29, h⟩ := zbd_i h
      refine w_callS (As := [.ref (za θ 8), .ref (za θ x1), .int (2 : Int32), .int (if (0 : Int32) < (zabove ((v2 / (10 : Int32)) - (1 : Int32)).toNatClampNeg) then (zabove ((v2 / (10 : Int32)) - (1 : Int32)).toNatClampNeg) else (0 : Int32)), .int x4, .int (x5 + (1 : Int32))]) (hrec (x1, (2 : Int32), (if (0 : Int32) < (zabove ((v2 / (10 : Int32)) - (1 : Int32)).toNatClampNeg) then (zabove ((v2 / (10 : Int32)) - (1 : Int32)).toNatClampNeg) else (0 : Int32)), x4, (x5 + (1 : Int32)), s6) _ e29) cf_Acts_run q_794 d_Acts_run_233 rfl rfl rfl (Nat.le_of_ble_eq_true rfl) rfl rfl ⟨by simp only [zrm]; omega, by simp only [zrm]; omega⟩ ?_
      refine z_aload_n 4 d_Acts_run_236 rfl rfl ?_
      refine z_aload_n 5 d_Acts_run_237 rfl rfl ?_
      refine z_iconst (v := 1) d_Acts_run_238 (by decide) ?_
      refine z_iload 2 d_Acts_run_239 rfl ?_
      refine z_iconst (v := 1) d_Acts_run_241 (by decide) ?_
      refine z_iload 0 d_Acts_run_242 rfl ?_
      obtain ⟨⟨v30, s31⟩, e32, h⟩ := zbd_i h
      refine w_callS (As := [.ref (za θ 8), .ref (za θ x1), .int (1 : Int32), .int (zI s6 x1 3), .int (1 : Int32), .int (x5 + (1 : Int32))]) (hrec (x1, (1 : Int32), (zI s6 x1 3), (1 : Int32), (x5 + (1 : Int32)), s28) _ e32) cf_Acts_run q_794 d_Acts_run_244 rfl rfl rfl (Nat.le_of_ble_eq_true rfl) rfl rfl ⟨by simp only [zrm]; omega, by simp only [zrm]; omega⟩ ?_
      refine z_iadd d_Acts_run_247 ?_
      exact z_iret d_Acts_run_248 h
    have h := (if_neg c26).symm.trans h
    by_cases c33 : v2 = (50 : Int32)
    · have h := (if_pos c33).symm.trans h
      refine z_lookup (off := 196) (tgt := 249) d_Acts_run_53 (by decide) (by rw [c33]; decide) (by decide) ?_
      refine z_aload_n 4 d_Acts_run_249 rfl rfl ?_
      refine z_aload_n 5 d_Acts_run_250 rfl rfl ?_
      refine z_iconst (v := 0) d_Acts_run_251 (by decide) ?_
      refine z_iload 1 d_Acts_run_252 rfl ?_
      refine z_iload 8 d_Acts_run_254 rfl ?_
      refine z_iload 0 d_Acts_run_256 rfl ?_
      obtain ⟨⟨v34, s35⟩, e36, h⟩ := zbd_i h
      refine w_callS (As := [.ref (za θ 8), .ref (za θ x1), .int (0 : Int32), .int (if (0 : Int32) < (zabove ((v2 / (10 : Int32)) - (1 : Int32)).toNatClampNeg) then (zabove ((v2 / (10 : Int32)) - (1 : Int32)).toNatClampNeg) else (0 : Int32)), .int x4, .int (x5 + (1 : Int32))]) (hrec (x1, (0 : Int32), (if (0 : Int32) < (zabove ((v2 / (10 : Int32)) - (1 : Int32)).toNatClampNeg) then (zabove ((v2 / (10 : Int32)) - (1 : Int32)).toNatClampNeg) else (0 : Int32)), x4, (x5 + (1 : Int32)), s6) _ e36) cf_Acts_run q_794 d_Acts_run_258 rfl rfl rfl (Nat.le_of_ble_eq_true rfl) rfl rfl ⟨by simp only [zrm]; omega, by simp only [zrm]; omega⟩ ?_
      refine z_ineg d_Acts_run_261 ?_
      exact z_iret d_Acts_run_262 h
    have h := (if_neg c33).symm.trans h
    by_cases c37 : v2 = (51 : Int32)
    · have h := (if_pos c37).symm.trans h
      refine z_lookup (off := 210) (tgt := 263) d_Acts_run_53 (by decide) (by rw [c37]; decide) (by decide) ?_
      refine z_aload_n 4 d_Acts_run_263 rfl rfl ?_
      refine z_aload_n 5 d_Acts_run_264 rfl rfl ?_
      refine z_iconst (v := 1) d_Acts_run_265 (by decide) ?_
      refine z_iload 1 d_Acts_run_266 rfl ?_
      refine z_iload 8 d_Acts_run_268 rfl ?_
      refine z_iconst (v := 1) d_Acts_run_270 (by decide) ?_
      refine z_iadd d_Acts_run_271 ?_
      refine z_iload 0 d_Acts_run_272 rfl ?_
      obtain ⟨⟨v38, s39⟩, e40, h⟩ := zbd_i h
      refine w_callS (As := [.ref (za θ 8), .ref (za θ x1), .int (1 : Int32), .int (if (0 : Int32) < (zabove ((v2 / (10 : Int32)) - (1 : Int32)).toNatClampNeg) then (zabove ((v2 / (10 : Int32)) - (1 : Int32)).toNatClampNeg) else (0 : Int32)), .int (x4 + (1 : Int32)), .int (x5 + (1 : Int32))]) (hrec (x1, (1 : Int32), (if (0 : Int32) < (zabove ((v2 / (10 : Int32)) - (1 : Int32)).toNatClampNeg) then (zabove ((v2 / (10 : Int32)) - (1 : Int32)).toNatClampNeg) else (0 : Int32)), (x4 + (1 : Int32)), (x5 + (1 : Int32)), s6) _ e40) cf_Acts_run q_794 d_Acts_run_274 rfl rfl rfl (Nat.le_of_ble_eq_true rfl) rfl rfl ⟨by simp only [zrm]; omega, by simp only [zrm]; omega⟩ ?_
      exact z_iret d_Acts_run_277 h
    have h := (if_neg c37).symm.trans h
    by_cases c41 : v2 = (60 : Int32)
    · have h := (if_pos c41).symm.trans h
      refine z_lookup (off := 225) (tgt := 278) d_Acts_run_53 (by decide) (by rw [c41]; decide) (by decide) ?_
      refine z_aload_n 4 d_Acts_run_278 rfl rfl ?_
      refine z_aload_n 5 d_Acts_run_279 rfl rfl ?_
      refine z_iconst (v := 2) d_Acts_run_280 (by decide) ?_
      refine z_iload 1 d_Acts_run_281 rfl ?_
      refine z_iload 8 d_Acts_run_283 rfl ?_
      refine z_aload_n 5 d_Acts_run_285 rfl rfl ?_
      refine gf_Loaf_number hx1 d_Acts_run_286 q_85 ?_
      refine z_isub d_Acts_run_289 ?_
      refine z_iload 0 d_Acts_run_290 rfl ?_
      obtain ⟨⟨v42, s43⟩, e44, h⟩ := zbd_i h
      refine w_callS (As := [.ref (za θ 8), .ref (za θ x1), .int (2 : Int32), .int (if (0 : Int32) < (zabove ((v2 / (10 : Int32)) - (1 : Int32)).toNatClampNeg) then (zabove ((v2 / (10 : Int32)) - (1 : Int32)).toNatClampNeg) else (0 : Int32)), .int (x4 - (zI s6 x1 0)), .int (x5 + (1 : Int32))]) (hrec (x1, (2 : Int32), (if (0 : Int32) < (zabove ((v2 / (10 : Int32)) - (1 : Int32)).toNatClampNeg) then (zabove ((v2 / (10 : Int32)) - (1 : Int32)).toNatClampNeg) else (0 : Int32)), (x4 - (zI s6 x1 0)), (x5 + (1 : Int32)), s6) _ e44) cf_Acts_run q_794 d_Acts_run_292 rfl rfl rfl (Nat.le_of_ble_eq_true rfl) rfl rfl ⟨by simp only [zrm]; omega, by simp only [zrm]; omega⟩ ?_
      exact z_iret d_Acts_run_295 h
    have h := (if_neg c41).symm.trans h
    by_cases c45 : v2 = (70 : Int32)
    · have h := (if_pos c45).symm.trans h
      refine z_lookup (off := 243) (tgt := 296) d_Acts_run_53 (by decide) (by rw [c45]; decide) (by decide) ?_
      refine z_aload_n 4 d_Acts_run_296 rfl rfl ?_
      refine z_aload_n 5 d_Acts_run_297 rfl rfl ?_
      refine z_iconst (v := 1) d_Acts_run_298 (by decide) ?_
      refine z_iload 1 d_Acts_run_299 rfl ?_
      refine z_iload 8 d_Acts_run_301 rfl ?_
      refine z_iload 0 d_Acts_run_303 rfl ?_
      obtain ⟨⟨v46, s47⟩, e48, h⟩ := zbd_i h
      refine w_callS (As := [.ref (za θ 8), .ref (za θ x1), .int (1 : Int32), .int (if (0 : Int32) < (zabove ((v2 / (10 : Int32)) - (1 : Int32)).toNatClampNeg) then (zabove ((v2 / (10 : Int32)) - (1 : Int32)).toNatClampNeg) else (0 : Int32)), .int x4, .int (x5 + (1 : Int32))]) (hrec (x1, (1 : Int32), (if (0 : Int32) < (zabove ((v2 / (10 : Int32)) - (1 : Int32)).toNatClampNeg) then (zabove ((v2 / (10 : Int32)) - (1 : Int32)).toNatClampNeg) else (0 : Int32)), x4, (x5 + (1 : Int32)), s6) _ e48) cf_Acts_run q_794 d_Acts_run_305 rfl rfl rfl (Nat.le_of_ble_eq_true rfl) rfl rfl ⟨by simp only [zrm]; omega, by simp only [zrm]; omega⟩ ?_
      refine z_aload_n 4 d_Acts_run_308 rfl rfl ?_
      refine z_aload_n 5 d_Acts_run_309 rfl rfl ?_
      refine z_iconst (v := 0) d_Acts_run_310 (by decide) ?_
      refine z_iload 1 d_Acts_run_311 rfl ?_
      refine z_iconst (v := 2) d_Acts_run_313 (by decide) ?_
      refine z_iload 0 d_Acts_run_314 rfl ?_
      obtain ⟨⟨v49, s50⟩, e51, h⟩ := zbd_i h
      refine w_callS (As := [.ref (za θ 8), .ref (za θ x1), .int (0 : Int32), .int (if (0 : Int32) < (zabove ((v2 / (10 : Int32)) - (1 : Int32)).toNatClampNeg) then (zabove ((v2 / (10 : Int32)) - (1 : Int32)).toNatClampNeg) else (0 : Int32)), .int (2 : Int32), .int (x5 + (1 : Int32))]) (hrec (x1, (0 : Int32), (if (0 : Int32) < (zabove ((v2 / (10 : Int32)) - (1 : Int32)).toNatClampNeg) then (zabove ((v2 / (10 : Int32)) - (1 : Int32)).toNatClampNeg) else (0 : Int32)), (2 : Int32), (x5 + (1 : Int32)), s47) _ e51) cf_Acts_run q_794 d_Acts_run_316 rfl rfl rfl (Nat.le_of_ble_eq_true rfl) rfl rfl ⟨by simp only [zrm]; omega, by simp only [zrm]; omega⟩ ?_
      refine z_iadd d_Acts_run_319 ?_
      exact z_iret d_Acts_run_320 h
    have h := (if_neg c45).symm.trans h
    by_cases c52 : v2 = (71 : Int32)
    · have h := (if_pos c52).symm.trans h
      refine z_lookup (off := 268) (tgt := 321) d_Acts_run_53 (by decide) (by rw [c52]; decide) (by decide) ?_
      refine z_aload_n 4 d_Acts_run_321 rfl rfl ?_
      refine z_aload_n 5 d_Acts_run_322 rfl rfl ?_
      refine z_iconst (v := 0) d_Acts_run_323 (by decide) ?_
      refine z_iload 1 d_Acts_run_324 rfl ?_
      refine z_iload 8 d_Acts_run_326 rfl ?_
      refine z_iload 0 d_Acts_run_328 rfl ?_
      obtain ⟨⟨v53, s54⟩, e55, h⟩ := zbd_i h
      refine w_callS (As := [.ref (za θ 8), .ref (za θ x1), .int (0 : Int32), .int (if (0 : Int32) < (zabove ((v2 / (10 : Int32)) - (1 : Int32)).toNatClampNeg) then (zabove ((v2 / (10 : Int32)) - (1 : Int32)).toNatClampNeg) else (0 : Int32)), .int x4, .int (x5 + (1 : Int32))]) (hrec (x1, (0 : Int32), (if (0 : Int32) < (zabove ((v2 / (10 : Int32)) - (1 : Int32)).toNatClampNeg) then (zabove ((v2 / (10 : Int32)) - (1 : Int32)).toNatClampNeg) else (0 : Int32)), x4, (x5 + (1 : Int32)), s6) _ e55) cf_Acts_run q_794 d_Acts_run_330 rfl rfl rfl (Nat.le_of_ble_eq_true rfl) rfl rfl ⟨by simp only [zrm]; omega, by simp only [zrm]; omega⟩ ?_
      refine z_aload_n 5 d_Acts_run_333 rfl rfl ?_
      refine gf_Loaf_v hx1 d_Acts_run_334 q_100 ?_
      refine z_ixor d_Acts_run_337 ?_
      exact z_iret d_Acts_run_338 h
    have h := (if_neg c52).symm.trans h
    refine z_lookup (off := 286) (tgt := 339) d_Acts_run_53 (by decide) ((lv_osw c9 (by decide)).trans ((lv_osw c10 (by decide)).trans ((lv_osw c14 (by decide)).trans ((lv_osw c18 (by decide)).trans ((lv_osw c22 (by decide)).trans ((lv_osw c26 (by decide)).trans ((lv_osw c33 (by decide)).trans ((lv_osw c37 (by decide)).trans ((lv_osw c41 (by decide)).trans ((lv_osw c45 (by decide)).trans ((lv_osw c52 (by decide)).trans (rfl)))))))))))) (by decide) ?_
    refine z_iconst (v := 0) d_Acts_run_339 (by decide) ?_
    exact z_iret d_Acts_run_340 h
  · have h := (if_neg c1).symm.trans h
    refine z_iconst (v := 0) d_Acts_run_7 (by decide) ?_
    exact z_iret d_Acts_run_8 h
theorem cn_Acts_run (l : Launch) (θ : ZT) : ∀ (n : Nat) (a : Nat × Int32 × Int32 × Int32 × Int32 × ZM) (r : Int32 × ZM), F_Acts_run n a = some r → zMet mkI l 0 129 θ y_Acts_run b_Acts_run 10 (some .int) (zrm (2 + 1 * n) (100 + 29 * n)) [.ref (za θ 8), .ref (za θ a.1), .int a.2.1, .int a.2.2.1, .int a.2.2.2.1, .int a.2.2.2.2.1] a.2.2.2.2.2 r := by
  intro n
  induction n with
  | zero => intro a r h; cases (show (none : Option (Int32 × ZM)) = some r from h)
  | succ n ih => intro a r h; exact c_Acts_run l θ n ih (show f_Acts_run (F_Acts_run n) a.1 a.2.1 a.2.2.1 a.2.2.2.1 a.2.2.2.2.1 a.2.2.2.2.2 = some r from h)
theorem d_Acts_play_0 : decode b_Acts_play 0 = .ok (.aload_n 0, 1) := by decide +kernel
theorem d_Acts_play_1 : decode b_Acts_play 1 = .ok (.iconst (0), 1) := by decide +kernel
theorem d_Acts_play_2 : decode b_Acts_play 2 = .ok (.putfield 15, 3) := by decide +kernel
theorem d_Acts_play_5 : decode b_Acts_play 5 = .ok (.aload_n 0, 1) := by decide +kernel
theorem d_Acts_play_6 : decode b_Acts_play 6 = .ok (.aload_n 1, 1) := by decide +kernel
theorem d_Acts_play_7 : decode b_Acts_play 7 = .ok (.iload_n 2, 1) := by decide +kernel
theorem d_Acts_play_8 : decode b_Acts_play 8 = .ok (.aload_n 1, 1) := by decide +kernel
theorem d_Acts_play_9 : decode b_Acts_play 9 = .ok (.getfield 19, 3) := by decide +kernel
theorem d_Acts_play_12 : decode b_Acts_play 12 = .ok (.iload_n 3, 1) := by decide +kernel
theorem d_Acts_play_13 : decode b_Acts_play 13 = .ok (.iconst (0), 1) := by decide +kernel
theorem d_Acts_play_14 : decode b_Acts_play 14 = .ok (.invokestatic 24, 3) := by decide +kernel
theorem d_Acts_play_17 : decode b_Acts_play 17 = .ok (.ireturn, 1) := by decide +kernel
theorem c_Acts_play (l : Launch) (θ : ZT) {x1 : Nat} {x2 : Int32} {x3 : Int32} {σ : ZM} {res : Int32 × ZM} (h : f_Acts_play x1 x2 x3 σ = some res) : zMet mkI l 0 129 θ y_Acts_play b_Acts_play 4 (some .int) (zrm 19 593) [.ref (za θ 8), .ref (za θ x1), .int x2, .int x3] σ res := by
  unfold f_Acts_play at h
  obtain ⟨hx1, h⟩ := zck_i h
  refine z_met (lv := [(0, .ref (za θ 8)), (1, .ref (za θ x1)), (2, .int x2), (3, .int x3)]) (by decide +kernel) rfl (Nat.le_of_ble_eq_true rfl) (by decide) ?_
  refine z_aload_n 0 d_Acts_play_0 rfl rfl ?_
  refine z_iconst (v := 0) d_Acts_play_1 (by decide) ?_
  refine pf_Acts_ran zl_8 d_Acts_play_2 q_277 ?_
  refine z_aload_n 0 d_Acts_play_5 rfl rfl ?_
  refine z_aload_n 1 d_Acts_play_6 rfl rfl ?_
  refine z_iload_n 2 d_Acts_play_7 rfl rfl ?_
  refine z_aload_n 1 d_Acts_play_8 rfl rfl ?_
  refine gf_Loaf_kind hx1 d_Acts_play_9 q_94 ?_
  refine z_iload_n 3 d_Acts_play_12 rfl rfl ?_
  refine z_iconst (v := 0) d_Acts_play_13 (by decide) ?_
  obtain ⟨⟨v1, s2⟩, e3, h⟩ := zbd_i h
  refine w_callS (As := [.ref (za θ 8), .ref (za θ x1), .int x2, .int (zI (zsI σ 8 1 (0 : Int32)) x1 3), .int x3, .int (0 : Int32)]) (cn_Acts_run l θ 16 (x1, x2, (zI (zsI σ 8 1 (0 : Int32)) x1 3), x3, (0 : Int32), (zsI σ 8 1 (0 : Int32))) _ e3) cf_Acts_run q_794 d_Acts_play_14 rfl rfl rfl (Nat.le_of_ble_eq_true rfl) rfl rfl ⟨Nat.le_of_ble_eq_true rfl, Nat.le_of_ble_eq_true rfl⟩ ?_
  exact z_iret d_Acts_play_17 h
theorem d_BB_act_0 : decode b_BB_act 0 = .ok (.aload_n 0, 1) := by decide +kernel
theorem d_BB_act_1 : decode b_BB_act 1 = .ok (.getfield 67, 3) := by decide +kernel
theorem d_BB_act_4 : decode b_BB_act 4 = .ok (.iconst (0), 1) := by decide +kernel
theorem d_BB_act_5 : decode b_BB_act 5 = .ok (.putfield 267, 3) := by decide +kernel
theorem d_BB_act_8 : decode b_BB_act 8 = .ok (.aload_n 0, 1) := by decide +kernel
theorem d_BB_act_9 : decode b_BB_act 9 = .ok (.iload_n 1, 1) := by decide +kernel
theorem d_BB_act_10 : decode b_BB_act 10 = .ok (.invokevirtual 92, 3) := by decide +kernel
theorem d_BB_act_13 : decode b_BB_act 13 = .ok (.ifCond .eq (12), 3) := by decide +kernel
theorem d_BB_act_16 : decode b_BB_act 16 = .ok (.iload_n 2, 1) := by decide +kernel
theorem d_BB_act_17 : decode b_BB_act 17 = .ok (.ifCond .lt (8), 3) := by decide +kernel
theorem d_BB_act_20 : decode b_BB_act 20 = .ok (.iload_n 2, 1) := by decide +kernel
theorem d_BB_act_21 : decode b_BB_act 21 = .ok (.iconst (2), 1) := by decide +kernel
theorem d_BB_act_22 : decode b_BB_act 22 = .ok (.if_icmp .le (5), 3) := by decide +kernel
theorem d_BB_act_25 : decode b_BB_act 25 = .ok (.iconst (0), 1) := by decide +kernel
theorem d_BB_act_26 : decode b_BB_act 26 = .ok (.ireturn, 1) := by decide +kernel
theorem d_BB_act_27 : decode b_BB_act 27 = .ok (.aload_n 0, 1) := by decide +kernel
theorem d_BB_act_28 : decode b_BB_act 28 = .ok (.getfield 67, 3) := by decide +kernel
theorem d_BB_act_31 : decode b_BB_act 31 = .ok (.aload_n 0, 1) := by decide +kernel
theorem d_BB_act_32 : decode b_BB_act 32 = .ok (.getfield 12, 3) := by decide +kernel
theorem d_BB_act_35 : decode b_BB_act 35 = .ok (.getfield 82, 3) := by decide +kernel
theorem d_BB_act_38 : decode b_BB_act 38 = .ok (.iload_n 1, 1) := by decide +kernel
theorem d_BB_act_39 : decode b_BB_act 39 = .ok (.aaload, 1) := by decide +kernel
theorem d_BB_act_40 : decode b_BB_act 40 = .ok (.iload_n 2, 1) := by decide +kernel
theorem d_BB_act_41 : decode b_BB_act 41 = .ok (.iload_n 3, 1) := by decide +kernel
theorem d_BB_act_42 : decode b_BB_act 42 = .ok (.invokevirtual 270, 3) := by decide +kernel
theorem d_BB_act_45 : decode b_BB_act 45 = .ok (.ireturn, 1) := by decide +kernel
theorem c_BB_act (l : Launch) (θ : ZT) {x1 : Int32} {x2 : Int32} {x3 : Int32} {σ : ZM} {res : Int32 × ZM} (h : f_BB_act x1 x2 x3 σ = some res) : zMet mkI l 0 129 θ y_BB_act b_BB_act 4 (some .int) (zrm 20 616) [.ref (za θ 0), .int x1, .int x2, .int x3] σ res := by
  unfold f_BB_act at h
  refine z_met (lv := [(0, .ref (za θ 0)), (1, .int x1), (2, .int x2), (3, .int x3)]) (by decide +kernel) rfl (Nat.le_of_ble_eq_true rfl) (by decide) ?_
  refine z_aload_n 0 d_BB_act_0 rfl rfl ?_
  refine gf_BB_acts zl_0 d_BB_act_1 q_311 ?_
  refine z_iconst (v := 0) d_BB_act_4 (by decide) ?_
  refine pf_Acts_ran zl_8 d_BB_act_5 q_278 ?_
  refine z_aload_n 0 d_BB_act_8 rfl rfl ?_
  refine z_iload_n 1 d_BB_act_9 rfl rfl ?_
  obtain ⟨⟨v1, s2⟩, e3, h⟩ := zbd_i h
  refine w_callV (As := [.int x1]) (kc := 10) (ci := 0) (c_BB_isLoaf l θ e3) cf_BB_isLoaf q_352 d_BB_act_10 zl_0 rfl rfl rfl rfl rfl rfl (Nat.le_of_ble_eq_true rfl) rfl rfl ⟨Nat.le_of_ble_eq_true rfl, Nat.le_of_ble_eq_true rfl⟩ ?_
  refine z_if_eq (tgt := 25) d_BB_act_13 (by decide) (fun c4 => ?_) (fun c4 => ?_)
  · have h := (if_pos c4).symm.trans h
    refine z_iconst (v := 0) d_BB_act_25 (by decide) ?_
    exact z_iret d_BB_act_26 h
  · have h := (if_neg c4).symm.trans h
    refine z_iload_n 2 d_BB_act_16 rfl rfl ?_
    refine z_if_lt (tgt := 25) d_BB_act_17 (by decide) (fun c5 => ?_) (fun c5 => ?_)
    · have h := (if_pos c5).symm.trans h
      refine z_iconst (v := 0) d_BB_act_25 (by decide) ?_
      exact z_iret d_BB_act_26 h
    · have h := (if_neg c5).symm.trans h
      refine z_iload_n 2 d_BB_act_20 rfl rfl ?_
      refine z_iconst (v := 2) d_BB_act_21 (by decide) ?_
      refine z_icmp_le (tgt := 27) d_BB_act_22 (by decide) (fun c6 => ?_) (fun c6 => ?_)
      · have h := (if_pos c6).symm.trans h
        refine z_aload_n 0 d_BB_act_27 rfl rfl ?_
        refine gf_BB_acts zl_0 d_BB_act_28 q_311 ?_
        refine z_aload_n 0 d_BB_act_31 rfl rfl ?_
        refine gf_BB_now zl_0 d_BB_act_32 q_303 ?_
        refine gf_Stand_loaves (o2 := 25) zl_1 rfl d_BB_act_35 q_116 ?_
        refine z_iload_n 1 d_BB_act_38 rfl rfl ?_
        obtain ⟨c7, h⟩ := zck_i h
        refine w_aald3 zl_25 c7 d_BB_act_39 ?_
        obtain ⟨c8, h⟩ := zck_i h
        refine z_iload_n 2 d_BB_act_40 rfl rfl ?_
        refine z_iload_n 3 d_BB_act_41 rfl rfl ?_
        obtain ⟨⟨v9, s10⟩, e11, h⟩ := zbd_i h
        refine w_callV (As := [.ref (za θ (zel 25 x1.toNatClampNeg)), .int x2, .int x3]) (kc := 11) (ci := 1) (c_Acts_play l θ e11) cf_Acts_play q_790 d_BB_act_42 zl_8 rfl rfl rfl rfl rfl rfl (Nat.le_of_ble_eq_true rfl) rfl rfl ⟨Nat.le_of_ble_eq_true rfl, Nat.le_of_ble_eq_true rfl⟩ ?_
        exact z_iret d_BB_act_45 h
      · have h := (if_neg c6).symm.trans h
        refine z_iconst (v := 0) d_BB_act_25 (by decide) ?_
        exact z_iret d_BB_act_26 h
theorem d_BB_trace_0 : decode b_BB_trace 0 = .ok (.iload_n 1, 1) := by decide +kernel
theorem d_BB_trace_1 : decode b_BB_trace 1 = .ok (.ifCond .lt (20), 3) := by decide +kernel
theorem d_BB_trace_4 : decode b_BB_trace 4 = .ok (.iload_n 1, 1) := by decide +kernel
theorem d_BB_trace_5 : decode b_BB_trace 5 = .ok (.aload_n 0, 1) := by decide +kernel
theorem d_BB_trace_6 : decode b_BB_trace 6 = .ok (.getfield 67, 3) := by decide +kernel
theorem d_BB_trace_9 : decode b_BB_trace 9 = .ok (.getfield 267, 3) := by decide +kernel
theorem d_BB_trace_12 : decode b_BB_trace 12 = .ok (.if_icmp .ge (9), 3) := by decide +kernel
theorem d_BB_trace_15 : decode b_BB_trace 15 = .ok (.iload_n 1, 1) := by decide +kernel
theorem d_BB_trace_16 : decode b_BB_trace 16 = .ok (.bipush (20), 2) := by decide +kernel
theorem d_BB_trace_18 : decode b_BB_trace 18 = .ok (.if_icmp .lt (5), 3) := by decide +kernel
theorem d_BB_trace_21 : decode b_BB_trace 21 = .ok (.iconst (-1), 1) := by decide +kernel
theorem d_BB_trace_22 : decode b_BB_trace 22 = .ok (.ireturn, 1) := by decide +kernel
theorem d_BB_trace_23 : decode b_BB_trace 23 = .ok (.aload_n 0, 1) := by decide +kernel
theorem d_BB_trace_24 : decode b_BB_trace 24 = .ok (.getfield 67, 3) := by decide +kernel
theorem d_BB_trace_27 : decode b_BB_trace 27 = .ok (.getfield 273, 3) := by decide +kernel
theorem d_BB_trace_30 : decode b_BB_trace 30 = .ok (.iload_n 1, 1) := by decide +kernel
theorem d_BB_trace_31 : decode b_BB_trace 31 = .ok (.iaload, 1) := by decide +kernel
theorem d_BB_trace_32 : decode b_BB_trace 32 = .ok (.ireturn, 1) := by decide +kernel
theorem c_BB_trace (l : Launch) (θ : ZT) {x1 : Int32} {σ : ZM} {res : Int32 × ZM} (h : f_BB_trace x1 σ = some res) : zMet mkI l 0 129 θ y_BB_trace b_BB_trace 2 (some .int) (zrm 1 60) [.ref (za θ 0), .int x1] σ res := by
  unfold f_BB_trace at h
  refine z_met (lv := [(0, .ref (za θ 0)), (1, .int x1)]) (by decide +kernel) rfl (Nat.le_of_ble_eq_true rfl) (by decide) ?_
  refine z_iload_n 1 d_BB_trace_0 rfl rfl ?_
  refine z_if_lt (tgt := 21) d_BB_trace_1 (by decide) (fun c1 => ?_) (fun c1 => ?_)
  · have h := (if_pos c1).symm.trans h
    refine z_iconst (v := -1) d_BB_trace_21 (by decide) ?_
    exact z_iret d_BB_trace_22 h
  · have h := (if_neg c1).symm.trans h
    refine z_iload_n 1 d_BB_trace_4 rfl rfl ?_
    refine z_aload_n 0 d_BB_trace_5 rfl rfl ?_
    refine gf_BB_acts zl_0 d_BB_trace_6 q_311 ?_
    refine gf_Acts_ran zl_8 d_BB_trace_9 q_278 ?_
    refine z_icmp_ge (tgt := 21) d_BB_trace_12 (by decide) (fun c2 => ?_) (fun c2 => ?_)
    · have h := (if_pos c2).symm.trans h
      refine z_iconst (v := -1) d_BB_trace_21 (by decide) ?_
      exact z_iret d_BB_trace_22 h
    · have h := (if_neg c2).symm.trans h
      refine z_iload_n 1 d_BB_trace_15 rfl rfl ?_
      refine z_bipush (v := 20) d_BB_trace_16 (by decide) ?_
      refine z_icmp_lt (tgt := 23) d_BB_trace_18 (by decide) (fun c3 => ?_) (fun c3 => ?_)
      · have h := (if_pos c3).symm.trans h
        refine z_aload_n 0 d_BB_trace_23 rfl rfl ?_
        refine gf_BB_acts zl_0 d_BB_trace_24 q_311 ?_
        refine gf_Acts_bodies zl_8 d_BB_trace_27 q_276 ?_
        refine z_iload_n 1 d_BB_trace_30 rfl rfl ?_
        obtain ⟨c4, h⟩ := zck_i h
        refine w_iald zl_9 c4 d_BB_trace_31 ?_
        exact z_iret d_BB_trace_32 h
      · have h := (if_neg c3).symm.trans h
        refine z_iconst (v := -1) d_BB_trace_21 (by decide) ?_
        exact z_iret d_BB_trace_22 h
theorem d_Loaf_isUnder_0 : decode b_Loaf_isUnder 0 = .ok (.aload_n 0, 1) := by decide +kernel
theorem d_Loaf_isUnder_1 : decode b_Loaf_isUnder 1 = .ok (.getfield 22, 3) := by decide +kernel
theorem d_Loaf_isUnder_4 : decode b_Loaf_isUnder 4 = .ok (.istore_n 2, 1) := by decide +kernel
theorem d_Loaf_isUnder_5 : decode b_Loaf_isUnder 5 = .ok (.iconst (0), 1) := by decide +kernel
theorem d_Loaf_isUnder_6 : decode b_Loaf_isUnder 6 = .ok (.istore_n 3, 1) := by decide +kernel
theorem d_Loaf_isUnder_7 : decode b_Loaf_isUnder 7 = .ok (.iload_n 3, 1) := by decide +kernel
theorem d_Loaf_isUnder_8 : decode b_Loaf_isUnder 8 = .ok (.iconst (2), 1) := by decide +kernel
theorem d_Loaf_isUnder_9 : decode b_Loaf_isUnder 9 = .ok (.if_icmp .ge (24), 3) := by decide +kernel
theorem d_Loaf_isUnder_12 : decode b_Loaf_isUnder 12 = .ok (.iload_n 2, 1) := by decide +kernel
theorem d_Loaf_isUnder_13 : decode b_Loaf_isUnder 13 = .ok (.iload_n 1, 1) := by decide +kernel
theorem d_Loaf_isUnder_14 : decode b_Loaf_isUnder 14 = .ok (.if_icmp .eq (19), 3) := by decide +kernel
theorem d_Loaf_isUnder_17 : decode b_Loaf_isUnder 17 = .ok (.iload_n 2, 1) := by decide +kernel
theorem d_Loaf_isUnder_18 : decode b_Loaf_isUnder 18 = .ok (.ifCond .eq (15), 3) := by decide +kernel
theorem d_Loaf_isUnder_21 : decode b_Loaf_isUnder 21 = .ok (.getstatic 28, 3) := by decide +kernel
theorem d_Loaf_isUnder_24 : decode b_Loaf_isUnder 24 = .ok (.iload_n 2, 1) := by decide +kernel
theorem d_Loaf_isUnder_25 : decode b_Loaf_isUnder 25 = .ok (.iaload, 1) := by decide +kernel
theorem d_Loaf_isUnder_26 : decode b_Loaf_isUnder 26 = .ok (.istore_n 2, 1) := by decide +kernel
theorem d_Loaf_isUnder_27 : decode b_Loaf_isUnder 27 = .ok (.iinc 3 (1), 3) := by decide +kernel
theorem d_Loaf_isUnder_30 : decode b_Loaf_isUnder 30 = .ok (.goto (-23), 3) := by decide +kernel
theorem d_Loaf_isUnder_33 : decode b_Loaf_isUnder 33 = .ok (.iload_n 2, 1) := by decide +kernel
theorem d_Loaf_isUnder_34 : decode b_Loaf_isUnder 34 = .ok (.iload_n 1, 1) := by decide +kernel
theorem d_Loaf_isUnder_35 : decode b_Loaf_isUnder 35 = .ok (.if_icmp .ne (7), 3) := by decide +kernel
theorem d_Loaf_isUnder_38 : decode b_Loaf_isUnder 38 = .ok (.iconst (1), 1) := by decide +kernel
theorem d_Loaf_isUnder_39 : decode b_Loaf_isUnder 39 = .ok (.goto (4), 3) := by decide +kernel
theorem d_Loaf_isUnder_42 : decode b_Loaf_isUnder 42 = .ok (.iconst (0), 1) := by decide +kernel
theorem d_Loaf_isUnder_43 : decode b_Loaf_isUnder 43 = .ok (.ireturn, 1) := by decide +kernel
theorem zb_Loaf_isUnder_33 {l : Launch} {θ : ZT} {res : Int32 × ZM} {x1 : Int32} {x2 : Int32} {σ : ZM} (h : f_Loaf_isUnder_33 x1 x2 σ = some res) : WZ l b_Loaf_isUnder 4 (some .boolean) "BakedBefore$Loaf" 0 129 θ (zrm 1 60) (zQ mkI 0 129 θ res) σ [(1, .int x1), (2, .int x2)] 33 [] := by
  unfold f_Loaf_isUnder_33 at h
  refine z_iload_n 1 d_Loaf_isUnder_33 rfl rfl ?_
  refine z_iload_n 0 d_Loaf_isUnder_34 rfl rfl ?_
  refine z_icmp_ne (tgt := 42) d_Loaf_isUnder_35 (by decide) (fun c1 => ?_) (fun c1 => ?_)
  · have h := (if_neg c1).symm.trans h
    refine z_iconst (v := 0) d_Loaf_isUnder_42 (by decide) ?_
    exact z_zret d_Loaf_isUnder_43 (by decide) h
  · have h := (if_pos c1).symm.trans h
    refine z_iconst (v := 1) d_Loaf_isUnder_38 (by decide) ?_
    refine z_goto (tgt := 43) d_Loaf_isUnder_39 (by decide) ?_
    exact z_zret d_Loaf_isUnder_43 (by decide) h
theorem zb_Loaf_isUnder_7 {l : Launch} {θ : ZT} {res : Int32 × ZM} {k7 : Int32 × Int32 × Int32 × ZM → Option (Int32 × ZM)} (hk7 : ∀ a : Int32 × Int32 × Int32 × ZM, k7 a = some res → WZ l b_Loaf_isUnder 4 (some .boolean) "BakedBefore$Loaf" 0 129 θ (zrm 1 60) (zQ mkI 0 129 θ res) a.2.2.2 [(1, .int a.1), (2, .int a.2.1), (3, .int a.2.2.1)] 7 []) {x1 : Int32} {x2 : Int32} {x3 : Int32} {σ : ZM} (h : f_Loaf_isUnder_7 k7 x1 x2 x3 σ = some res) : WZ l b_Loaf_isUnder 4 (some .boolean) "BakedBefore$Loaf" 0 129 θ (zrm 1 60) (zQ mkI 0 129 θ res) σ [(1, .int x1), (2, .int x2), (3, .int x3)] 7 [] := by
  unfold f_Loaf_isUnder_7 at h
  refine z_iload_n 2 d_Loaf_isUnder_7 rfl rfl ?_
  refine z_iconst (v := 2) d_Loaf_isUnder_8 (by decide) ?_
  refine z_icmp_ge (tgt := 33) d_Loaf_isUnder_9 (by decide) (fun c1 => ?_) (fun c1 => ?_)
  · have h := (if_pos c1).symm.trans h
    refine z_sub [0, 1] rfl ?_
    exact zb_Loaf_isUnder_33 h
  · have h := (if_neg c1).symm.trans h
    refine z_iload_n 1 d_Loaf_isUnder_12 rfl rfl ?_
    refine z_iload_n 0 d_Loaf_isUnder_13 rfl rfl ?_
    refine z_icmp_eq (tgt := 33) d_Loaf_isUnder_14 (by decide) (fun c2 => ?_) (fun c2 => ?_)
    · have h := (if_pos c2).symm.trans h
      refine z_sub [0, 1] rfl ?_
      exact zb_Loaf_isUnder_33 h
    · have h := (if_neg c2).symm.trans h
      refine z_iload_n 1 d_Loaf_isUnder_17 rfl rfl ?_
      refine z_if_eq (tgt := 33) d_Loaf_isUnder_18 (by decide) (fun c3 => ?_) (fun c3 => ?_)
      · have h := (if_pos c3).symm.trans h
        refine z_sub [0, 1] rfl ?_
        exact zb_Loaf_isUnder_33 h
      · have h := (if_neg c3).symm.trans h
        refine z_above d_Loaf_isUnder_21 (Or.inr rfl) ?_
        refine z_iload_n 1 d_Loaf_isUnder_24 rfl rfl ?_
        obtain ⟨c4, h⟩ := zck_i h
        refine z_ialdA d_Loaf_isUnder_25 c4 ?_
        refine z_istore_n d_Loaf_isUnder_26 rfl (by decide) rfl ?_
        refine z_iinc (v := x3 + (1 : Int32)) 2 d_Loaf_isUnder_27 rfl rfl (by decide) rfl ?_
        refine z_goto (tgt := 7) d_Loaf_isUnder_30 (by decide) ?_
        refine z_sub [2, 1, 0] rfl ?_
        exact hk7 (x1, (zabove x2.toNatClampNeg), (x3 + (1 : Int32)), σ) h
theorem zl_Loaf_isUnder_7 {l : Launch} {θ : ZT} {res : Int32 × ZM} : ∀ (N : Nat) (a : Int32 × Int32 × Int32 × ZM), F_Loaf_isUnder_7 N a = some res → WZ l b_Loaf_isUnder 4 (some .boolean) "BakedBefore$Loaf" 0 129 θ (zrm 1 60) (zQ mkI 0 129 θ res) a.2.2.2 [(1, .int a.1), (2, .int a.2.1), (3, .int a.2.2.1)] 7 [] := by
  intro N
  induction N with
  | zero => intro a  h; cases (show (none : Option (Int32 × ZM)) = some res from h)
  | succ N ih => intro a  h; exact zb_Loaf_isUnder_7 ih (show f_Loaf_isUnder_7 (F_Loaf_isUnder_7 N) a.1 a.2.1 a.2.2.1 a.2.2.2 = some res from h)
theorem c_Loaf_isUnder (l : Launch) (θ : ZT) {x0 : Nat} {x1 : Int32} {σ : ZM} {res : Int32 × ZM} (h : f_Loaf_isUnder x0 x1 σ = some res) : zMet mkI l 0 129 θ y_Loaf_isUnder b_Loaf_isUnder 4 (some .boolean) (zrm 1 60) [.ref (za θ x0), .int x1] σ res := by
  unfold f_Loaf_isUnder at h
  obtain ⟨hx0, h⟩ := zck_i h
  refine z_met (lv := [(0, .ref (za θ x0)), (1, .int x1)]) (by decide +kernel) rfl (Nat.le_of_ble_eq_true rfl) (by decide) ?_
  refine z_aload_n 0 d_Loaf_isUnder_0 rfl rfl ?_
  refine gf_Loaf_kind hx0 d_Loaf_isUnder_1 q_93 ?_
  refine z_istore_n d_Loaf_isUnder_4 rfl (by decide) rfl ?_
  refine z_iconst (v := 0) d_Loaf_isUnder_5 (by decide) ?_
  refine z_istore_n d_Loaf_isUnder_6 rfl (by decide) rfl ?_
  refine z_sub [3, 1, 0] rfl ?_
  exact zl_Loaf_isUnder_7 2000 (x1, (zI σ x0 3), (0 : Int32), σ) h
theorem d_BB_taken_0 : decode b_BB_taken 0 = .ok (.iload_n 2, 1) := by decide +kernel
theorem d_BB_taken_1 : decode b_BB_taken 1 = .ok (.ifCond .lt (9), 3) := by decide +kernel
theorem d_BB_taken_4 : decode b_BB_taken 4 = .ok (.iload_n 2, 1) := by decide +kernel
theorem d_BB_taken_5 : decode b_BB_taken 5 = .ok (.bipush (6), 2) := by decide +kernel
theorem d_BB_taken_7 : decode b_BB_taken 7 = .ok (.if_icmp .le (6), 3) := by decide +kernel
theorem d_BB_taken_10 : decode b_BB_taken 10 = .ok (.bipush (-2), 2) := by decide +kernel
theorem d_BB_taken_12 : decode b_BB_taken 12 = .ok (.ireturn, 1) := by decide +kernel
theorem d_BB_taken_13 : decode b_BB_taken 13 = .ok (.aload_n 0, 1) := by decide +kernel
theorem d_BB_taken_14 : decode b_BB_taken 14 = .ok (.iload_n 1, 1) := by decide +kernel
theorem d_BB_taken_15 : decode b_BB_taken 15 = .ok (.invokevirtual 92, 3) := by decide +kernel
theorem d_BB_taken_18 : decode b_BB_taken 18 = .ok (.ifCond .ne (6), 3) := by decide +kernel
theorem d_BB_taken_21 : decode b_BB_taken 21 = .ok (.bipush (-11), 2) := by decide +kernel
theorem d_BB_taken_23 : decode b_BB_taken 23 = .ok (.ireturn, 1) := by decide +kernel
theorem d_BB_taken_24 : decode b_BB_taken 24 = .ok (.aload_n 0, 1) := by decide +kernel
theorem d_BB_taken_25 : decode b_BB_taken 25 = .ok (.getfield 12, 3) := by decide +kernel
theorem d_BB_taken_28 : decode b_BB_taken 28 = .ok (.getfield 82, 3) := by decide +kernel
theorem d_BB_taken_31 : decode b_BB_taken 31 = .ok (.iload_n 1, 1) := by decide +kernel
theorem d_BB_taken_32 : decode b_BB_taken 32 = .ok (.aaload, 1) := by decide +kernel
theorem d_BB_taken_33 : decode b_BB_taken 33 = .ok (.iload_n 2, 1) := by decide +kernel
theorem d_BB_taken_34 : decode b_BB_taken 34 = .ok (.invokevirtual 276, 3) := by decide +kernel
theorem d_BB_taken_37 : decode b_BB_taken 37 = .ok (.ifCond .eq (18), 3) := by decide +kernel
theorem d_BB_taken_40 : decode b_BB_taken 40 = .ok (.aload_n 0, 1) := by decide +kernel
theorem d_BB_taken_41 : decode b_BB_taken 41 = .ok (.getfield 12, 3) := by decide +kernel
theorem d_BB_taken_44 : decode b_BB_taken 44 = .ok (.getfield 82, 3) := by decide +kernel
theorem d_BB_taken_47 : decode b_BB_taken 47 = .ok (.iload_n 1, 1) := by decide +kernel
theorem d_BB_taken_48 : decode b_BB_taken 48 = .ok (.aaload, 1) := by decide +kernel
theorem d_BB_taken_49 : decode b_BB_taken 49 = .ok (.getfield 106, 3) := by decide +kernel
theorem d_BB_taken_52 : decode b_BB_taken 52 = .ok (.goto (5), 3) := by decide +kernel
theorem d_BB_taken_55 : decode b_BB_taken 55 = .ok (.bipush (-12), 2) := by decide +kernel
theorem d_BB_taken_57 : decode b_BB_taken 57 = .ok (.ireturn, 1) := by decide +kernel
theorem c_BB_taken (l : Launch) (θ : ZT) {x1 : Int32} {x2 : Int32} {σ : ZM} {res : Int32 × ZM} (h : f_BB_taken x1 x2 σ = some res) : zMet mkI l 0 129 θ y_BB_taken b_BB_taken 3 (some .int) (zrm 2 83) [.ref (za θ 0), .int x1, .int x2] σ res := by
  unfold f_BB_taken at h
  refine z_met (lv := [(0, .ref (za θ 0)), (1, .int x1), (2, .int x2)]) (by decide +kernel) rfl (Nat.le_of_ble_eq_true rfl) (by decide) ?_
  refine z_iload_n 2 d_BB_taken_0 rfl rfl ?_
  refine z_if_lt (tgt := 10) d_BB_taken_1 (by decide) (fun c1 => ?_) (fun c1 => ?_)
  · have h := (if_pos c1).symm.trans h
    refine z_bipush (v := -2) d_BB_taken_10 (by decide) ?_
    exact z_iret d_BB_taken_12 h
  · have h := (if_neg c1).symm.trans h
    refine z_iload_n 2 d_BB_taken_4 rfl rfl ?_
    refine z_bipush (v := 6) d_BB_taken_5 (by decide) ?_
    refine z_icmp_le (tgt := 13) d_BB_taken_7 (by decide) (fun c2 => ?_) (fun c2 => ?_)
    · have h := (if_pos c2).symm.trans h
      refine z_aload_n 0 d_BB_taken_13 rfl rfl ?_
      refine z_iload_n 1 d_BB_taken_14 rfl rfl ?_
      obtain ⟨⟨v3, s4⟩, e5, h⟩ := zbd_i h
      refine w_callV (As := [.int x1]) (kc := 10) (ci := 0) (c_BB_isLoaf l θ e5) cf_BB_isLoaf q_352 d_BB_taken_15 zl_0 rfl rfl rfl rfl rfl rfl (Nat.le_of_ble_eq_true rfl) rfl rfl ⟨Nat.le_of_ble_eq_true rfl, Nat.le_of_ble_eq_true rfl⟩ ?_
      refine z_if_ne (tgt := 24) d_BB_taken_18 (by decide) (fun c6 => ?_) (fun c6 => ?_)
      · have h := (if_neg c6).symm.trans h
        refine z_aload_n 0 d_BB_taken_24 rfl rfl ?_
        refine gf_BB_now zl_0 d_BB_taken_25 q_303 ?_
        refine gf_Stand_loaves (o2 := 25) zl_1 rfl d_BB_taken_28 q_116 ?_
        refine z_iload_n 1 d_BB_taken_31 rfl rfl ?_
        obtain ⟨c7, h⟩ := zck_i h
        refine w_aald3 zl_25 c7 d_BB_taken_32 ?_
        obtain ⟨c8, h⟩ := zck_i h
        refine z_iload_n 2 d_BB_taken_33 rfl rfl ?_
        obtain ⟨⟨v9, s10⟩, e11, h⟩ := zbd_i h
        refine w_callV (As := [.int x2]) (kc := 16) (ci := 6) (c_Loaf_isUnder l θ e11) cf_Loaf_isUnder q_817 d_BB_taken_34 c8 rfl rfl rfl rfl rfl rfl (Nat.le_of_ble_eq_true rfl) rfl rfl ⟨Nat.le_of_ble_eq_true rfl, Nat.le_of_ble_eq_true rfl⟩ ?_
        refine z_if_eq (tgt := 55) d_BB_taken_37 (by decide) (fun c12 => ?_) (fun c12 => ?_)
        · have h := (if_pos c12).symm.trans h
          refine z_bipush (v := -12) d_BB_taken_55 (by decide) ?_
          exact z_iret d_BB_taken_57 h
        · have h := (if_neg c12).symm.trans h
          refine z_aload_n 0 d_BB_taken_40 rfl rfl ?_
          refine gf_BB_now zl_0 d_BB_taken_41 q_303 ?_
          refine gf_Stand_loaves (o2 := 25) zl_1 rfl d_BB_taken_44 q_116 ?_
          refine z_iload_n 1 d_BB_taken_47 rfl rfl ?_
          obtain ⟨c13, h⟩ := zck_i h
          refine w_aald3 zl_25 c13 d_BB_taken_48 ?_
          obtain ⟨c14, h⟩ := zck_i h
          refine gf_Loaf_kind c14 d_BB_taken_49 q_96 ?_
          refine z_goto (tgt := 57) d_BB_taken_52 (by decide) ?_
          exact z_iret d_BB_taken_57 h
      · have h := (if_pos c6).symm.trans h
        refine z_bipush (v := -11) d_BB_taken_21 (by decide) ?_
        exact z_iret d_BB_taken_23 h
    · have h := (if_neg c2).symm.trans h
      refine z_bipush (v := -2) d_BB_taken_10 (by decide) ?_
      exact z_iret d_BB_taken_12 h
theorem d_BB_count_0 : decode b_BB_count 0 = .ok (.iload_n 1, 1) := by decide +kernel
theorem d_BB_count_1 : decode b_BB_count 1 = .ok (.tableswitch (75) (0) (4) #[35, 43, 48, 59, 67], 35) := by decide +kernel
theorem d_BB_count_36 : decode b_BB_count 36 = .ok (.aload_n 0, 1) := by decide +kernel
theorem d_BB_count_37 : decode b_BB_count 37 = .ok (.getfield 12, 3) := by decide +kernel
theorem d_BB_count_40 : decode b_BB_count 40 = .ok (.getfield 78, 3) := by decide +kernel
theorem d_BB_count_43 : decode b_BB_count 43 = .ok (.ireturn, 1) := by decide +kernel
theorem d_BB_count_44 : decode b_BB_count 44 = .ok (.aload_n 0, 1) := by decide +kernel
theorem d_BB_count_45 : decode b_BB_count 45 = .ok (.getfield 151, 3) := by decide +kernel
theorem d_BB_count_48 : decode b_BB_count 48 = .ok (.ireturn, 1) := by decide +kernel
theorem d_BB_count_49 : decode b_BB_count 49 = .ok (.aload_n 0, 1) := by decide +kernel
theorem d_BB_count_50 : decode b_BB_count 50 = .ok (.getfield 12, 3) := by decide +kernel
theorem d_BB_count_53 : decode b_BB_count 53 = .ok (.getfield 237, 3) := by decide +kernel
theorem d_BB_count_56 : decode b_BB_count 56 = .ok (.getfield 241, 3) := by decide +kernel
theorem d_BB_count_59 : decode b_BB_count 59 = .ok (.ireturn, 1) := by decide +kernel
theorem d_BB_count_60 : decode b_BB_count 60 = .ok (.aload_n 0, 1) := by decide +kernel
theorem d_BB_count_61 : decode b_BB_count 61 = .ok (.getfield 24, 3) := by decide +kernel
theorem d_BB_count_64 : decode b_BB_count 64 = .ok (.getfield 279, 3) := by decide +kernel
theorem d_BB_count_67 : decode b_BB_count 67 = .ok (.ireturn, 1) := by decide +kernel
theorem d_BB_count_68 : decode b_BB_count 68 = .ok (.aload_n 0, 1) := by decide +kernel
theorem d_BB_count_69 : decode b_BB_count 69 = .ok (.getfield 67, 3) := by decide +kernel
theorem d_BB_count_72 : decode b_BB_count 72 = .ok (.getfield 267, 3) := by decide +kernel
theorem d_BB_count_75 : decode b_BB_count 75 = .ok (.ireturn, 1) := by decide +kernel
theorem d_BB_count_76 : decode b_BB_count 76 = .ok (.bipush (-2), 2) := by decide +kernel
theorem d_BB_count_78 : decode b_BB_count 78 = .ok (.ireturn, 1) := by decide +kernel
theorem c_BB_count (l : Launch) (θ : ZT) {x1 : Int32} {σ : ZM} {res : Int32 × ZM} (h : f_BB_count x1 σ = some res) : zMet mkI l 0 129 θ y_BB_count b_BB_count 2 (some .int) (zrm 1 60) [.ref (za θ 0), .int x1] σ res := by
  unfold f_BB_count at h
  refine z_met (lv := [(0, .ref (za θ 0)), (1, .int x1)]) (by decide +kernel) rfl (Nat.le_of_ble_eq_true rfl) (by decide) ?_
  refine z_iload_n 1 d_BB_count_0 rfl rfl ?_
  by_cases c1 : x1 = (0 : Int32)
  · have h := (if_pos c1).symm.trans h
    refine z_tableIn (k := 0) (off := 35) (tgt := 36) d_BB_count_1 c1 (by decide) ?_
    refine z_aload_n 0 d_BB_count_36 rfl rfl ?_
    refine gf_BB_now zl_0 d_BB_count_37 q_303 ?_
    refine gf_Stand_many zl_1 d_BB_count_40 q_126 ?_
    exact z_iret d_BB_count_43 h
  have h := (if_neg c1).symm.trans h
  by_cases c2 : x1 = (1 : Int32)
  · have h := (if_pos c2).symm.trans h
    refine z_tableIn (k := 1) (off := 43) (tgt := 44) d_BB_count_1 c2 (by decide) ?_
    refine z_aload_n 0 d_BB_count_44 rfl rfl ?_
    refine gf_BB_kilnCount zl_0 d_BB_count_45 q_313 ?_
    exact z_iret d_BB_count_48 h
  have h := (if_neg c2).symm.trans h
  by_cases c3 : x1 = (2 : Int32)
  · have h := (if_pos c3).symm.trans h
    refine z_tableIn (k := 2) (off := 48) (tgt := 49) d_BB_count_1 c3 (by decide) ?_
    refine z_aload_n 0 d_BB_count_49 rfl rfl ?_
    refine gf_BB_now zl_0 d_BB_count_50 q_303 ?_
    refine gf_Stand_book (o2 := 27) zl_1 rfl d_BB_count_53 q_124 ?_
    refine gf_Book_rows zl_27 d_BB_count_56 q_70 ?_
    exact z_iret d_BB_count_59 h
  have h := (if_neg c3).symm.trans h
  by_cases c4 : x1 = (3 : Int32)
  · have h := (if_pos c4).symm.trans h
    refine z_tableIn (k := 3) (off := 59) (tgt := 60) d_BB_count_1 c4 (by decide) ?_
    refine z_aload_n 0 d_BB_count_60 rfl rfl ?_
    refine gf_BB_reader zl_0 d_BB_count_61 q_305 ?_
    refine gf_Reader_length zl_3 d_BB_count_64 q_150 ?_
    exact z_iret d_BB_count_67 h
  have h := (if_neg c4).symm.trans h
  by_cases c5 : x1 = (4 : Int32)
  · have h := (if_pos c5).symm.trans h
    refine z_tableIn (k := 4) (off := 67) (tgt := 68) d_BB_count_1 c5 (by decide) ?_
    refine z_aload_n 0 d_BB_count_68 rfl rfl ?_
    refine gf_BB_acts zl_0 d_BB_count_69 q_311 ?_
    refine gf_Acts_ran zl_8 d_BB_count_72 q_278 ?_
    exact z_iret d_BB_count_75 h
  have h := (if_neg c5).symm.trans h
  have nc1 := lv_neT (a := 0) c1 (by decide)
  have nc2 := lv_neT (a := 1) c2 (by decide)
  have nc3 := lv_neT (a := 2) c3 (by decide)
  have nc4 := lv_neT (a := 3) c4 (by decide)
  have nc5 := lv_neT (a := 4) c5 (by decide)
  refine z_tableOut (tgt := 76) d_BB_count_1 (by omega) (by decide) ?_
  refine z_bipush (v := -2) d_BB_count_76 (by decide) ?_
  exact z_iret d_BB_count_78 h
theorem d_Tapes_begin_0 : decode b_Tapes_begin 0 = .ok (.iload_n 2, 1) := by decide +kernel
theorem d_Tapes_begin_1 : decode b_Tapes_begin 1 = .ok (.iconst (-1), 1) := by decide +kernel
theorem d_Tapes_begin_2 : decode b_Tapes_begin 2 = .ok (.if_icmp .lt (19), 3) := by decide +kernel
theorem d_Tapes_begin_5 : decode b_Tapes_begin 5 = .ok (.iload_n 2, 1) := by decide +kernel
theorem d_Tapes_begin_6 : decode b_Tapes_begin 6 = .ok (.iconst (4), 1) := by decide +kernel
theorem d_Tapes_begin_7 : decode b_Tapes_begin 7 = .ok (.if_icmp .gt (14), 3) := by decide +kernel
theorem d_Tapes_begin_10 : decode b_Tapes_begin 10 = .ok (.iload_n 2, 1) := by decide +kernel
theorem d_Tapes_begin_11 : decode b_Tapes_begin 11 = .ok (.iconst (-1), 1) := by decide +kernel
theorem d_Tapes_begin_12 : decode b_Tapes_begin 12 = .ok (.if_icmp .eq (12), 3) := by decide +kernel
theorem d_Tapes_begin_15 : decode b_Tapes_begin 15 = .ok (.iload_n 3, 1) := by decide +kernel
theorem d_Tapes_begin_16 : decode b_Tapes_begin 16 = .ok (.bipush (60), 2) := by decide +kernel
theorem d_Tapes_begin_18 : decode b_Tapes_begin 18 = .ok (.if_icmp .le (6), 3) := by decide +kernel
theorem d_Tapes_begin_21 : decode b_Tapes_begin 21 = .ok (.bipush (-2), 2) := by decide +kernel
theorem d_Tapes_begin_23 : decode b_Tapes_begin 23 = .ok (.ireturn, 1) := by decide +kernel
theorem d_Tapes_begin_24 : decode b_Tapes_begin 24 = .ok (.iload_n 2, 1) := by decide +kernel
theorem d_Tapes_begin_25 : decode b_Tapes_begin 25 = .ok (.iconst (-1), 1) := by decide +kernel
theorem d_Tapes_begin_26 : decode b_Tapes_begin 26 = .ok (.if_icmp .eq (10), 3) := by decide +kernel
theorem d_Tapes_begin_29 : decode b_Tapes_begin 29 = .ok (.iload_n 3, 1) := by decide +kernel
theorem d_Tapes_begin_30 : decode b_Tapes_begin 30 = .ok (.ifCond .ge (6), 3) := by decide +kernel
theorem d_Tapes_begin_33 : decode b_Tapes_begin 33 = .ok (.bipush (-14), 2) := by decide +kernel
theorem d_Tapes_begin_35 : decode b_Tapes_begin 35 = .ok (.ireturn, 1) := by decide +kernel
theorem d_Tapes_begin_36 : decode b_Tapes_begin 36 = .ok (.aload_n 0, 1) := by decide +kernel
theorem d_Tapes_begin_37 : decode b_Tapes_begin 37 = .ok (.getfield 16, 3) := by decide +kernel
theorem d_Tapes_begin_40 : decode b_Tapes_begin 40 = .ok (.iload_n 1, 1) := by decide +kernel
theorem d_Tapes_begin_41 : decode b_Tapes_begin 41 = .ok (.iload_n 2, 1) := by decide +kernel
theorem d_Tapes_begin_42 : decode b_Tapes_begin 42 = .ok (.iastore, 1) := by decide +kernel
theorem d_Tapes_begin_43 : decode b_Tapes_begin 43 = .ok (.aload_n 0, 1) := by decide +kernel
theorem d_Tapes_begin_44 : decode b_Tapes_begin 44 = .ok (.getfield 20, 3) := by decide +kernel
theorem d_Tapes_begin_47 : decode b_Tapes_begin 47 = .ok (.iload_n 1, 1) := by decide +kernel
theorem d_Tapes_begin_48 : decode b_Tapes_begin 48 = .ok (.iload_n 2, 1) := by decide +kernel
theorem d_Tapes_begin_49 : decode b_Tapes_begin 49 = .ok (.iconst (-1), 1) := by decide +kernel
theorem d_Tapes_begin_50 : decode b_Tapes_begin 50 = .ok (.if_icmp .ne (7), 3) := by decide +kernel
theorem d_Tapes_begin_53 : decode b_Tapes_begin 53 = .ok (.iconst (0), 1) := by decide +kernel
theorem d_Tapes_begin_54 : decode b_Tapes_begin 54 = .ok (.goto (4), 3) := by decide +kernel
theorem d_Tapes_begin_57 : decode b_Tapes_begin 57 = .ok (.iload_n 3, 1) := by decide +kernel
theorem d_Tapes_begin_58 : decode b_Tapes_begin 58 = .ok (.iastore, 1) := by decide +kernel
theorem d_Tapes_begin_59 : decode b_Tapes_begin 59 = .ok (.iconst (0), 1) := by decide +kernel
theorem d_Tapes_begin_60 : decode b_Tapes_begin 60 = .ok (.istore 4, 2) := by decide +kernel
theorem d_Tapes_begin_62 : decode b_Tapes_begin 62 = .ok (.iload 4, 2) := by decide +kernel
theorem d_Tapes_begin_64 : decode b_Tapes_begin 64 = .ok (.bipush (60), 2) := by decide +kernel
theorem d_Tapes_begin_66 : decode b_Tapes_begin 66 = .ok (.if_icmp .ge (19), 3) := by decide +kernel
theorem d_Tapes_begin_69 : decode b_Tapes_begin 69 = .ok (.aload_n 0, 1) := by decide +kernel
theorem d_Tapes_begin_70 : decode b_Tapes_begin 70 = .ok (.getfield 13, 3) := by decide +kernel
theorem d_Tapes_begin_73 : decode b_Tapes_begin 73 = .ok (.iload_n 1, 1) := by decide +kernel
theorem d_Tapes_begin_74 : decode b_Tapes_begin 74 = .ok (.aaload, 1) := by decide +kernel
theorem d_Tapes_begin_75 : decode b_Tapes_begin 75 = .ok (.iload 4, 2) := by decide +kernel
theorem d_Tapes_begin_77 : decode b_Tapes_begin 77 = .ok (.lconst 0, 1) := by decide +kernel
theorem d_Tapes_begin_78 : decode b_Tapes_begin 78 = .ok (.lastore, 1) := by decide +kernel
theorem d_Tapes_begin_79 : decode b_Tapes_begin 79 = .ok (.iinc 4 (1), 3) := by decide +kernel
theorem d_Tapes_begin_82 : decode b_Tapes_begin 82 = .ok (.goto (-20), 3) := by decide +kernel
theorem d_Tapes_begin_85 : decode b_Tapes_begin 85 = .ok (.iconst (1), 1) := by decide +kernel
theorem d_Tapes_begin_86 : decode b_Tapes_begin 86 = .ok (.ireturn, 1) := by decide +kernel
theorem zb_Tapes_begin_62 {l : Launch} {θ : ZT} {res : Int32 × ZM} {k62 : Int32 × Int32 × ZM → Option (Int32 × ZM)} (hk62 : ∀ a : Int32 × Int32 × ZM, k62 a = some res → WZ l b_Tapes_begin 5 (some .int) "BakedBefore$Tapes" 0 129 θ (zrm 1 60) (zQ mkI 0 129 θ res) a.2.2 [(0, .ref (za θ 10)), (1, .int a.1), (4, .int a.2.1)] 62 []) {x1 : Int32} {x4 : Int32} {σ : ZM} (h : f_Tapes_begin_62 k62 x1 x4 σ = some res) : WZ l b_Tapes_begin 5 (some .int) "BakedBefore$Tapes" 0 129 θ (zrm 1 60) (zQ mkI 0 129 θ res) σ [(0, .ref (za θ 10)), (1, .int x1), (4, .int x4)] 62 [] := by
  unfold f_Tapes_begin_62 at h
  refine z_iload 2 d_Tapes_begin_62 rfl ?_
  refine z_bipush (v := 60) d_Tapes_begin_64 (by decide) ?_
  refine z_icmp_ge (tgt := 85) d_Tapes_begin_66 (by decide) (fun c1 => ?_) (fun c1 => ?_)
  · have h := (if_pos c1).symm.trans h
    refine z_iconst (v := 1) d_Tapes_begin_85 (by decide) ?_
    exact z_iret d_Tapes_begin_86 h
  · have h := (if_neg c1).symm.trans h
    refine z_aload_n 0 d_Tapes_begin_69 rfl rfl ?_
    refine gf_Tapes_rows zl_10 d_Tapes_begin_70 q_292 ?_
    refine z_iload_n 1 d_Tapes_begin_73 rfl rfl ?_
    obtain ⟨c2, h⟩ := zck_i h
    refine z_aald6 d_Tapes_begin_74 (by decide) (by decide) c2 ?_
    obtain ⟨c3, h⟩ := zck_i h
    refine z_iload 2 d_Tapes_begin_75 rfl ?_
    refine z_lconst (v := 0) d_Tapes_begin_77 (by decide) ?_
    obtain ⟨c4, h⟩ := zck_i h
    refine w_last c3 c4 d_Tapes_begin_78 ?_
    refine z_iinc (v := x4 + (1 : Int32)) 2 d_Tapes_begin_79 rfl rfl (by decide) rfl ?_
    refine z_goto (tgt := 62) d_Tapes_begin_82 (by decide) ?_
    refine z_sub [1, 2, 0] rfl ?_
    exact hk62 (x1, (x4 + (1 : Int32)), (zsL σ (zel 11 x1.toNatClampNeg) x4.toNatClampNeg (0 : Int64))) h
theorem zl_Tapes_begin_62 {l : Launch} {θ : ZT} {res : Int32 × ZM} : ∀ (N : Nat) (a : Int32 × Int32 × ZM), F_Tapes_begin_62 N a = some res → WZ l b_Tapes_begin 5 (some .int) "BakedBefore$Tapes" 0 129 θ (zrm 1 60) (zQ mkI 0 129 θ res) a.2.2 [(0, .ref (za θ 10)), (1, .int a.1), (4, .int a.2.1)] 62 [] := by
  intro N
  induction N with
  | zero => intro a  h; cases (show (none : Option (Int32 × ZM)) = some res from h)
  | succ N ih => intro a  h; exact zb_Tapes_begin_62 ih (show f_Tapes_begin_62 (F_Tapes_begin_62 N) a.1 a.2.1 a.2.2 = some res from h)
theorem zb_Tapes_begin_58 {l : Launch} {θ : ZT} {res : Int32 × ZM} {x1 : Int32} {y0 : Int32} {y1 : Int32} {σ : ZM} (h : f_Tapes_begin_58 x1 y0 y1 σ = some res) : WZ l b_Tapes_begin 5 (some .int) "BakedBefore$Tapes" 0 129 θ (zrm 1 60) (zQ mkI 0 129 θ res) σ [(0, .ref (za θ 10)), (1, .int x1)] 58 [.int y0, .int y1, .ref (za θ 13)] := by
  unfold f_Tapes_begin_58 at h
  obtain ⟨c1, h⟩ := zck_i h
  refine w_iast zl_13 c1 d_Tapes_begin_58 ?_
  refine z_iconst (v := 0) d_Tapes_begin_59 (by decide) ?_
  refine z_istore d_Tapes_begin_60 (by decide) rfl ?_
  refine z_sub [1, 2, 0] rfl ?_
  exact zl_Tapes_begin_62 2000 (x1, (0 : Int32), (zsI σ 13 y1.toNatClampNeg y0)) h
theorem zb_Tapes_begin_36 {l : Launch} {θ : ZT} {res : Int32 × ZM} {x1 : Int32} {x2 : Int32} {x3 : Int32} {σ : ZM} (h : f_Tapes_begin_36 x1 x2 x3 σ = some res) : WZ l b_Tapes_begin 5 (some .int) "BakedBefore$Tapes" 0 129 θ (zrm 1 60) (zQ mkI 0 129 θ res) σ [(0, .ref (za θ 10)), (1, .int x1), (2, .int x2), (3, .int x3)] 36 [] := by
  unfold f_Tapes_begin_36 at h
  refine z_aload_n 0 d_Tapes_begin_36 rfl rfl ?_
  refine gf_Tapes_sorts zl_10 d_Tapes_begin_37 q_293 ?_
  refine z_iload_n 1 d_Tapes_begin_40 rfl rfl ?_
  refine z_iload_n 2 d_Tapes_begin_41 rfl rfl ?_
  obtain ⟨c1, h⟩ := zck_i h
  refine w_iast zl_12 c1 d_Tapes_begin_42 ?_
  refine z_aload_n 0 d_Tapes_begin_43 rfl rfl ?_
  refine gf_Tapes_lengths zl_10 d_Tapes_begin_44 q_294 ?_
  refine z_iload_n 1 d_Tapes_begin_47 rfl rfl ?_
  refine z_iload_n 2 d_Tapes_begin_48 rfl rfl ?_
  refine z_iconst (v := -1) d_Tapes_begin_49 (by decide) ?_
  refine z_icmp_ne (tgt := 57) d_Tapes_begin_50 (by decide) (fun c2 => ?_) (fun c2 => ?_)
  · have h := (if_neg c2).symm.trans h
    refine z_iload_n 3 d_Tapes_begin_57 rfl rfl ?_
    refine z_sub [0, 1] rfl ?_
    exact zb_Tapes_begin_58 h
  · have h := (if_pos c2).symm.trans h
    refine z_iconst (v := 0) d_Tapes_begin_53 (by decide) ?_
    refine z_goto (tgt := 58) d_Tapes_begin_54 (by decide) ?_
    refine z_sub [0, 1] rfl ?_
    exact zb_Tapes_begin_58 h
theorem zb_Tapes_begin_24 {l : Launch} {θ : ZT} {res : Int32 × ZM} {x1 : Int32} {x2 : Int32} {x3 : Int32} {σ : ZM} (h : f_Tapes_begin_24 x1 x2 x3 σ = some res) : WZ l b_Tapes_begin 5 (some .int) "BakedBefore$Tapes" 0 129 θ (zrm 1 60) (zQ mkI 0 129 θ res) σ [(0, .ref (za θ 10)), (1, .int x1), (2, .int x2), (3, .int x3)] 24 [] := by
  unfold f_Tapes_begin_24 at h
  refine z_iload_n 2 d_Tapes_begin_24 rfl rfl ?_
  refine z_iconst (v := -1) d_Tapes_begin_25 (by decide) ?_
  refine z_icmp_eq (tgt := 36) d_Tapes_begin_26 (by decide) (fun c1 => ?_) (fun c1 => ?_)
  · have h := (if_pos c1).symm.trans h
    exact zb_Tapes_begin_36 h
  · have h := (if_neg c1).symm.trans h
    refine z_iload_n 3 d_Tapes_begin_29 rfl rfl ?_
    refine z_if_ge (tgt := 36) d_Tapes_begin_30 (by decide) (fun c2 => ?_) (fun c2 => ?_)
    · have h := (if_pos c2).symm.trans h
      exact zb_Tapes_begin_36 h
    · have h := (if_neg c2).symm.trans h
      refine z_bipush (v := -14) d_Tapes_begin_33 (by decide) ?_
      exact z_iret d_Tapes_begin_35 h
theorem c_Tapes_begin (l : Launch) (θ : ZT) {x1 : Int32} {x2 : Int32} {x3 : Int32} {σ : ZM} {res : Int32 × ZM} (h : f_Tapes_begin x1 x2 x3 σ = some res) : zMet mkI l 0 129 θ y_Tapes_begin b_Tapes_begin 5 (some .int) (zrm 1 60) [.ref (za θ 10), .int x1, .int x2, .int x3] σ res := by
  unfold f_Tapes_begin at h
  refine z_met (lv := [(0, .ref (za θ 10)), (1, .int x1), (2, .int x2), (3, .int x3)]) (by decide +kernel) rfl (Nat.le_of_ble_eq_true rfl) (by decide) ?_
  refine z_iload_n 2 d_Tapes_begin_0 rfl rfl ?_
  refine z_iconst (v := -1) d_Tapes_begin_1 (by decide) ?_
  refine z_icmp_lt (tgt := 21) d_Tapes_begin_2 (by decide) (fun c1 => ?_) (fun c1 => ?_)
  · have h := (if_pos c1).symm.trans h
    refine z_bipush (v := -2) d_Tapes_begin_21 (by decide) ?_
    exact z_iret d_Tapes_begin_23 h
  · have h := (if_neg c1).symm.trans h
    refine z_iload_n 2 d_Tapes_begin_5 rfl rfl ?_
    refine z_iconst (v := 4) d_Tapes_begin_6 (by decide) ?_
    refine z_icmp_gt (tgt := 21) d_Tapes_begin_7 (by decide) (fun c2 => ?_) (fun c2 => ?_)
    · have h := (if_pos c2).symm.trans h
      refine z_bipush (v := -2) d_Tapes_begin_21 (by decide) ?_
      exact z_iret d_Tapes_begin_23 h
    · have h := (if_neg c2).symm.trans h
      refine z_iload_n 2 d_Tapes_begin_10 rfl rfl ?_
      refine z_iconst (v := -1) d_Tapes_begin_11 (by decide) ?_
      refine z_icmp_eq (tgt := 24) d_Tapes_begin_12 (by decide) (fun c3 => ?_) (fun c3 => ?_)
      · have h := (if_pos c3).symm.trans h
        exact zb_Tapes_begin_24 h
      · have h := (if_neg c3).symm.trans h
        refine z_iload_n 3 d_Tapes_begin_15 rfl rfl ?_
        refine z_bipush (v := 60) d_Tapes_begin_16 (by decide) ?_
        refine z_icmp_le (tgt := 24) d_Tapes_begin_18 (by decide) (fun c4 => ?_) (fun c4 => ?_)
        · have h := (if_pos c4).symm.trans h
          exact zb_Tapes_begin_24 h
        · have h := (if_neg c4).symm.trans h
          refine z_bipush (v := -2) d_Tapes_begin_21 (by decide) ?_
          exact z_iret d_Tapes_begin_23 h
theorem d_BB_tape_0 : decode b_BB_tape 0 = .ok (.iload_n 1, 1) := by decide +kernel
theorem d_BB_tape_1 : decode b_BB_tape 1 = .ok (.invokestatic 252, 3) := by decide +kernel
theorem d_BB_tape_4 : decode b_BB_tape 4 = .ok (.ifCond .ne (5), 3) := by decide +kernel
theorem d_BB_tape_7 : decode b_BB_tape 7 = .ok (.iconst (-1), 1) := by decide +kernel
theorem d_BB_tape_8 : decode b_BB_tape 8 = .ok (.ireturn, 1) := by decide +kernel
theorem d_BB_tape_9 : decode b_BB_tape 9 = .ok (.aload_n 0, 1) := by decide +kernel
theorem d_BB_tape_10 : decode b_BB_tape 10 = .ok (.getfield 74, 3) := by decide +kernel
theorem d_BB_tape_13 : decode b_BB_tape 13 = .ok (.iload_n 1, 1) := by decide +kernel
theorem d_BB_tape_14 : decode b_BB_tape 14 = .ok (.iload_n 2, 1) := by decide +kernel
theorem d_BB_tape_15 : decode b_BB_tape 15 = .ok (.iload_n 3, 1) := by decide +kernel
theorem d_BB_tape_16 : decode b_BB_tape 16 = .ok (.invokevirtual 280, 3) := by decide +kernel
theorem d_BB_tape_19 : decode b_BB_tape 19 = .ok (.ireturn, 1) := by decide +kernel
theorem c_BB_tape (l : Launch) (θ : ZT) {x1 : Int32} {x2 : Int32} {x3 : Int32} {σ : ZM} {res : Int32 × ZM} (h : f_BB_tape x1 x2 x3 σ = some res) : zMet mkI l 0 129 θ y_BB_tape b_BB_tape 4 (some .int) (zrm 2 84) [.ref (za θ 0), .int x1, .int x2, .int x3] σ res := by
  unfold f_BB_tape at h
  refine z_met (lv := [(0, .ref (za θ 0)), (1, .int x1), (2, .int x2), (3, .int x3)]) (by decide +kernel) rfl (Nat.le_of_ble_eq_true rfl) (by decide) ?_
  refine z_iload_n 1 d_BB_tape_0 rfl rfl ?_
  obtain ⟨⟨v1, s2⟩, e3, h⟩ := zbd_i h
  refine w_callS (As := [.int x1]) (c_Tapes_isTape l θ e3) cf_Tapes_isTape q_758 d_BB_tape_1 rfl rfl rfl (Nat.le_of_ble_eq_true rfl) rfl rfl ⟨Nat.le_of_ble_eq_true rfl, Nat.le_of_ble_eq_true rfl⟩ ?_
  refine z_if_ne (tgt := 9) d_BB_tape_4 (by decide) (fun c4 => ?_) (fun c4 => ?_)
  · have h := (if_neg c4).symm.trans h
    refine z_aload_n 0 d_BB_tape_9 rfl rfl ?_
    refine gf_BB_tapes zl_0 d_BB_tape_10 q_312 ?_
    refine z_iload_n 1 d_BB_tape_13 rfl rfl ?_
    refine z_iload_n 2 d_BB_tape_14 rfl rfl ?_
    refine z_iload_n 3 d_BB_tape_15 rfl rfl ?_
    obtain ⟨⟨v5, s6⟩, e7, h⟩ := zbd_i h
    refine w_callV (As := [.int x1, .int x2, .int x3]) (kc := 21) (ci := 11) (c_Tapes_begin l θ e7) cf_Tapes_begin q_830 d_BB_tape_16 zl_10 rfl rfl rfl rfl rfl rfl (Nat.le_of_ble_eq_true rfl) rfl rfl ⟨Nat.le_of_ble_eq_true rfl, Nat.le_of_ble_eq_true rfl⟩ ?_
    exact z_iret d_BB_tape_19 h
  · have h := (if_pos c4).symm.trans h
    refine z_iconst (v := -1) d_BB_tape_7 (by decide) ?_
    exact z_iret d_BB_tape_8 h
theorem d_Tapes_asItem_0 : decode b_Tapes_asItem 0 = .ok (.iload_n 0, 1) := by decide +kernel
theorem d_Tapes_asItem_1 : decode b_Tapes_asItem 1 = .ok (.tableswitch (47) (0) (3) #[31, 36, 41, 45], 31) := by decide +kernel
theorem d_Tapes_asItem_32 : decode b_Tapes_asItem 32 = .ok (.lload_n 1, 1) := by decide +kernel
theorem d_Tapes_asItem_33 : decode b_Tapes_asItem 33 = .ok (.l2i, 1) := by decide +kernel
theorem d_Tapes_asItem_34 : decode b_Tapes_asItem 34 = .ok (.i2b, 1) := by decide +kernel
theorem d_Tapes_asItem_35 : decode b_Tapes_asItem 35 = .ok (.i2l, 1) := by decide +kernel
theorem d_Tapes_asItem_36 : decode b_Tapes_asItem 36 = .ok (.lreturn, 1) := by decide +kernel
theorem d_Tapes_asItem_37 : decode b_Tapes_asItem 37 = .ok (.lload_n 1, 1) := by decide +kernel
theorem d_Tapes_asItem_38 : decode b_Tapes_asItem 38 = .ok (.l2i, 1) := by decide +kernel
theorem d_Tapes_asItem_39 : decode b_Tapes_asItem 39 = .ok (.i2s, 1) := by decide +kernel
theorem d_Tapes_asItem_40 : decode b_Tapes_asItem 40 = .ok (.i2l, 1) := by decide +kernel
theorem d_Tapes_asItem_41 : decode b_Tapes_asItem 41 = .ok (.lreturn, 1) := by decide +kernel
theorem d_Tapes_asItem_42 : decode b_Tapes_asItem 42 = .ok (.lload_n 1, 1) := by decide +kernel
theorem d_Tapes_asItem_43 : decode b_Tapes_asItem 43 = .ok (.l2i, 1) := by decide +kernel
theorem d_Tapes_asItem_44 : decode b_Tapes_asItem 44 = .ok (.i2l, 1) := by decide +kernel
theorem d_Tapes_asItem_45 : decode b_Tapes_asItem 45 = .ok (.lreturn, 1) := by decide +kernel
theorem d_Tapes_asItem_46 : decode b_Tapes_asItem 46 = .ok (.lload_n 1, 1) := by decide +kernel
theorem d_Tapes_asItem_47 : decode b_Tapes_asItem 47 = .ok (.lreturn, 1) := by decide +kernel
theorem d_Tapes_asItem_48 : decode b_Tapes_asItem 48 = .ok (.lload_n 1, 1) := by decide +kernel
theorem d_Tapes_asItem_49 : decode b_Tapes_asItem 49 = .ok (.lconst 0, 1) := by decide +kernel
theorem d_Tapes_asItem_50 : decode b_Tapes_asItem 50 = .ok (.lcmp, 1) := by decide +kernel
theorem d_Tapes_asItem_51 : decode b_Tapes_asItem 51 = .ok (.ifCond .eq (7), 3) := by decide +kernel
theorem d_Tapes_asItem_54 : decode b_Tapes_asItem 54 = .ok (.lconst 1, 1) := by decide +kernel
theorem d_Tapes_asItem_55 : decode b_Tapes_asItem 55 = .ok (.goto (4), 3) := by decide +kernel
theorem d_Tapes_asItem_58 : decode b_Tapes_asItem 58 = .ok (.lconst 0, 1) := by decide +kernel
theorem d_Tapes_asItem_59 : decode b_Tapes_asItem 59 = .ok (.lreturn, 1) := by decide +kernel
theorem c_Tapes_asItem (l : Launch) (θ : ZT) {x0 : Int32} {x1 : Int64} {σ : ZM} {res : Int64 × ZM} (h : f_Tapes_asItem x0 x1 σ = some res) : zMet mkL l 0 129 θ y_Tapes_asItem b_Tapes_asItem 3 (some .long) (zrm 1 60) [.int x0, .long x1] σ res := by
  unfold f_Tapes_asItem at h
  refine z_met (lv := [(0, .int x0), (1, .long x1)]) (by decide +kernel) rfl (Nat.le_of_ble_eq_true rfl) (by decide) ?_
  refine z_iload_n 0 d_Tapes_asItem_0 rfl rfl ?_
  by_cases c1 : x0 = (0 : Int32)
  · have h := (if_pos c1).symm.trans h
    refine z_tableIn (k := 0) (off := 31) (tgt := 32) d_Tapes_asItem_1 c1 (by decide) ?_
    refine z_lload_n 1 d_Tapes_asItem_32 rfl rfl ?_
    refine z_l2i d_Tapes_asItem_33 ?_
    refine z_i2b d_Tapes_asItem_34 ?_
    refine z_i2l d_Tapes_asItem_35 ?_
    exact z_lret d_Tapes_asItem_36 h
  have h := (if_neg c1).symm.trans h
  by_cases c2 : x0 = (1 : Int32)
  · have h := (if_pos c2).symm.trans h
    refine z_tableIn (k := 1) (off := 36) (tgt := 37) d_Tapes_asItem_1 c2 (by decide) ?_
    refine z_lload_n 1 d_Tapes_asItem_37 rfl rfl ?_
    refine z_l2i d_Tapes_asItem_38 ?_
    refine z_i2s d_Tapes_asItem_39 ?_
    refine z_i2l d_Tapes_asItem_40 ?_
    exact z_lret d_Tapes_asItem_41 h
  have h := (if_neg c2).symm.trans h
  by_cases c3 : x0 = (2 : Int32)
  · have h := (if_pos c3).symm.trans h
    refine z_tableIn (k := 2) (off := 41) (tgt := 42) d_Tapes_asItem_1 c3 (by decide) ?_
    refine z_lload_n 1 d_Tapes_asItem_42 rfl rfl ?_
    refine z_l2i d_Tapes_asItem_43 ?_
    refine z_i2l d_Tapes_asItem_44 ?_
    exact z_lret d_Tapes_asItem_45 h
  have h := (if_neg c3).symm.trans h
  by_cases c4 : x0 = (3 : Int32)
  · have h := (if_pos c4).symm.trans h
    refine z_tableIn (k := 3) (off := 45) (tgt := 46) d_Tapes_asItem_1 c4 (by decide) ?_
    refine z_lload_n 1 d_Tapes_asItem_46 rfl rfl ?_
    exact z_lret d_Tapes_asItem_47 h
  have h := (if_neg c4).symm.trans h
  have nc1 := lv_neT (a := 0) c1 (by decide)
  have nc2 := lv_neT (a := 1) c2 (by decide)
  have nc3 := lv_neT (a := 2) c3 (by decide)
  have nc4 := lv_neT (a := 3) c4 (by decide)
  refine z_tableOut (tgt := 48) d_Tapes_asItem_1 (by omega) (by decide) ?_
  refine z_lload_n 1 d_Tapes_asItem_48 rfl rfl ?_
  refine z_lconst (v := 0) d_Tapes_asItem_49 (by decide) ?_
  refine z_lcmp d_Tapes_asItem_50 ?_
  refine z_if_eq (tgt := 58) d_Tapes_asItem_51 (by decide) (fun c5 => ?_) (fun c5 => ?_)
  · have h := (if_pos c5).symm.trans h
    refine z_lconst (v := 0) d_Tapes_asItem_58 (by decide) ?_
    exact z_lret d_Tapes_asItem_59 h
  · have h := (if_neg c5).symm.trans h
    refine z_lconst (v := 1) d_Tapes_asItem_54 (by decide) ?_
    refine z_goto (tgt := 59) d_Tapes_asItem_55 (by decide) ?_
    exact z_lret d_Tapes_asItem_59 h
theorem d_Tapes_write_0 : decode b_Tapes_write 0 = .ok (.aload_n 0, 1) := by decide +kernel
theorem d_Tapes_write_1 : decode b_Tapes_write 1 = .ok (.getfield 16, 3) := by decide +kernel
theorem d_Tapes_write_4 : decode b_Tapes_write 4 = .ok (.iload_n 1, 1) := by decide +kernel
theorem d_Tapes_write_5 : decode b_Tapes_write 5 = .ok (.iaload, 1) := by decide +kernel
theorem d_Tapes_write_6 : decode b_Tapes_write 6 = .ok (.iconst (-1), 1) := by decide +kernel
theorem d_Tapes_write_7 : decode b_Tapes_write 7 = .ok (.if_icmp .ne (6), 3) := by decide +kernel
theorem d_Tapes_write_10 : decode b_Tapes_write 10 = .ok (.bipush (-11), 2) := by decide +kernel
theorem d_Tapes_write_12 : decode b_Tapes_write 12 = .ok (.ireturn, 1) := by decide +kernel
theorem d_Tapes_write_13 : decode b_Tapes_write 13 = .ok (.iload_n 2, 1) := by decide +kernel
theorem d_Tapes_write_14 : decode b_Tapes_write 14 = .ok (.ifCond .lt (13), 3) := by decide +kernel
theorem d_Tapes_write_17 : decode b_Tapes_write 17 = .ok (.iload_n 2, 1) := by decide +kernel
theorem d_Tapes_write_18 : decode b_Tapes_write 18 = .ok (.aload_n 0, 1) := by decide +kernel
theorem d_Tapes_write_19 : decode b_Tapes_write 19 = .ok (.getfield 20, 3) := by decide +kernel
theorem d_Tapes_write_22 : decode b_Tapes_write 22 = .ok (.iload_n 1, 1) := by decide +kernel
theorem d_Tapes_write_23 : decode b_Tapes_write 23 = .ok (.iaload, 1) := by decide +kernel
theorem d_Tapes_write_24 : decode b_Tapes_write 24 = .ok (.if_icmp .lt (6), 3) := by decide +kernel
theorem d_Tapes_write_27 : decode b_Tapes_write 27 = .ok (.bipush (-13), 2) := by decide +kernel
theorem d_Tapes_write_29 : decode b_Tapes_write 29 = .ok (.ireturn, 1) := by decide +kernel
theorem d_Tapes_write_30 : decode b_Tapes_write 30 = .ok (.aload_n 0, 1) := by decide +kernel
theorem d_Tapes_write_31 : decode b_Tapes_write 31 = .ok (.getfield 13, 3) := by decide +kernel
theorem d_Tapes_write_34 : decode b_Tapes_write 34 = .ok (.iload_n 1, 1) := by decide +kernel
theorem d_Tapes_write_35 : decode b_Tapes_write 35 = .ok (.aaload, 1) := by decide +kernel
theorem d_Tapes_write_36 : decode b_Tapes_write 36 = .ok (.iload_n 2, 1) := by decide +kernel
theorem d_Tapes_write_37 : decode b_Tapes_write 37 = .ok (.aload_n 0, 1) := by decide +kernel
theorem d_Tapes_write_38 : decode b_Tapes_write 38 = .ok (.getfield 16, 3) := by decide +kernel
theorem d_Tapes_write_41 : decode b_Tapes_write 41 = .ok (.iload_n 1, 1) := by decide +kernel
theorem d_Tapes_write_42 : decode b_Tapes_write 42 = .ok (.iaload, 1) := by decide +kernel
theorem d_Tapes_write_43 : decode b_Tapes_write 43 = .ok (.lload_n 3, 1) := by decide +kernel
theorem d_Tapes_write_44 : decode b_Tapes_write 44 = .ok (.invokestatic 23, 3) := by decide +kernel
theorem d_Tapes_write_47 : decode b_Tapes_write 47 = .ok (.lastore, 1) := by decide +kernel
theorem d_Tapes_write_48 : decode b_Tapes_write 48 = .ok (.iconst (1), 1) := by decide +kernel
theorem d_Tapes_write_49 : decode b_Tapes_write 49 = .ok (.ireturn, 1) := by decide +kernel
theorem c_Tapes_write (l : Launch) (θ : ZT) {x1 : Int32} {x2 : Int32} {x3 : Int64} {σ : ZM} {res : Int32 × ZM} (h : f_Tapes_write x1 x2 x3 σ = some res) : zMet mkI l 0 129 θ y_Tapes_write b_Tapes_write 5 (some .int) (zrm 2 82) [.ref (za θ 10), .int x1, .int x2, .long x3] σ res := by
  unfold f_Tapes_write at h
  refine z_met (lv := [(0, .ref (za θ 10)), (1, .int x1), (2, .int x2), (3, .long x3)]) (by decide +kernel) rfl (Nat.le_of_ble_eq_true rfl) (by decide) ?_
  refine z_aload_n 0 d_Tapes_write_0 rfl rfl ?_
  refine gf_Tapes_sorts zl_10 d_Tapes_write_1 q_293 ?_
  refine z_iload_n 1 d_Tapes_write_4 rfl rfl ?_
  obtain ⟨c1, h⟩ := zck_i h
  refine w_iald zl_12 c1 d_Tapes_write_5 ?_
  refine z_iconst (v := -1) d_Tapes_write_6 (by decide) ?_
  refine z_icmp_ne (tgt := 13) d_Tapes_write_7 (by decide) (fun c2 => ?_) (fun c2 => ?_)
  · have h := (if_neg c2).symm.trans h
    refine z_iload_n 2 d_Tapes_write_13 rfl rfl ?_
    refine z_if_lt (tgt := 27) d_Tapes_write_14 (by decide) (fun c3 => ?_) (fun c3 => ?_)
    · have h := (if_pos c3).symm.trans h
      refine z_bipush (v := -13) d_Tapes_write_27 (by decide) ?_
      exact z_iret d_Tapes_write_29 h
    · have h := (if_neg c3).symm.trans h
      refine z_iload_n 2 d_Tapes_write_17 rfl rfl ?_
      refine z_aload_n 0 d_Tapes_write_18 rfl rfl ?_
      refine gf_Tapes_lengths zl_10 d_Tapes_write_19 q_294 ?_
      refine z_iload_n 1 d_Tapes_write_22 rfl rfl ?_
      obtain ⟨c4, h⟩ := zck_i h
      refine w_iald zl_13 c4 d_Tapes_write_23 ?_
      refine z_icmp_lt (tgt := 30) d_Tapes_write_24 (by decide) (fun c5 => ?_) (fun c5 => ?_)
      · have h := (if_pos c5).symm.trans h
        refine z_aload_n 0 d_Tapes_write_30 rfl rfl ?_
        refine gf_Tapes_rows zl_10 d_Tapes_write_31 q_292 ?_
        refine z_iload_n 1 d_Tapes_write_34 rfl rfl ?_
        obtain ⟨c6, h⟩ := zck_i h
        refine z_aald6 d_Tapes_write_35 (by decide) (by decide) c6 ?_
        obtain ⟨c7, h⟩ := zck_i h
        refine z_iload_n 2 d_Tapes_write_36 rfl rfl ?_
        refine z_aload_n 0 d_Tapes_write_37 rfl rfl ?_
        refine gf_Tapes_sorts zl_10 d_Tapes_write_38 q_293 ?_
        refine z_iload_n 1 d_Tapes_write_41 rfl rfl ?_
        obtain ⟨c8, h⟩ := zck_i h
        refine w_iald zl_12 c8 d_Tapes_write_42 ?_
        refine z_lload_n 3 d_Tapes_write_43 rfl rfl ?_
        obtain ⟨⟨v9, s10⟩, e11, h⟩ := zbd_i h
        refine w_callS (As := [.int (zI σ 12 x1.toNatClampNeg), .long x3]) (c_Tapes_asItem l θ e11) cf_Tapes_asItem q_842 d_Tapes_write_44 rfl rfl rfl (Nat.le_of_ble_eq_true rfl) rfl rfl ⟨Nat.le_of_ble_eq_true rfl, Nat.le_of_ble_eq_true rfl⟩ ?_
        obtain ⟨c12, h⟩ := zck_i h
        refine w_last c7 c12 d_Tapes_write_47 ?_
        refine z_iconst (v := 1) d_Tapes_write_48 (by decide) ?_
        exact z_iret d_Tapes_write_49 h
      · have h := (if_neg c5).symm.trans h
        refine z_bipush (v := -13) d_Tapes_write_27 (by decide) ?_
        exact z_iret d_Tapes_write_29 h
  · have h := (if_pos c2).symm.trans h
    refine z_bipush (v := -11) d_Tapes_write_10 (by decide) ?_
    exact z_iret d_Tapes_write_12 h
theorem d_BB_item_0 : decode b_BB_item 0 = .ok (.iload_n 1, 1) := by decide +kernel
theorem d_BB_item_1 : decode b_BB_item 1 = .ok (.invokestatic 252, 3) := by decide +kernel
theorem d_BB_item_4 : decode b_BB_item 4 = .ok (.ifCond .ne (5), 3) := by decide +kernel
theorem d_BB_item_7 : decode b_BB_item 7 = .ok (.iconst (-1), 1) := by decide +kernel
theorem d_BB_item_8 : decode b_BB_item 8 = .ok (.ireturn, 1) := by decide +kernel
theorem d_BB_item_9 : decode b_BB_item 9 = .ok (.aload_n 0, 1) := by decide +kernel
theorem d_BB_item_10 : decode b_BB_item 10 = .ok (.getfield 74, 3) := by decide +kernel
theorem d_BB_item_13 : decode b_BB_item 13 = .ok (.iload_n 1, 1) := by decide +kernel
theorem d_BB_item_14 : decode b_BB_item 14 = .ok (.iload_n 2, 1) := by decide +kernel
theorem d_BB_item_15 : decode b_BB_item 15 = .ok (.lload_n 3, 1) := by decide +kernel
theorem d_BB_item_16 : decode b_BB_item 16 = .ok (.invokevirtual 282, 3) := by decide +kernel
theorem d_BB_item_19 : decode b_BB_item 19 = .ok (.ireturn, 1) := by decide +kernel
theorem c_BB_item (l : Launch) (θ : ZT) {x1 : Int32} {x2 : Int32} {x3 : Int64} {σ : ZM} {res : Int32 × ZM} (h : f_BB_item x1 x2 x3 σ = some res) : zMet mkI l 0 129 θ y_BB_item b_BB_item 5 (some .int) (zrm 3 106) [.ref (za θ 0), .int x1, .int x2, .long x3] σ res := by
  unfold f_BB_item at h
  refine z_met (lv := [(0, .ref (za θ 0)), (1, .int x1), (2, .int x2), (3, .long x3)]) (by decide +kernel) rfl (Nat.le_of_ble_eq_true rfl) (by decide) ?_
  refine z_iload_n 1 d_BB_item_0 rfl rfl ?_
  obtain ⟨⟨v1, s2⟩, e3, h⟩ := zbd_i h
  refine w_callS (As := [.int x1]) (c_Tapes_isTape l θ e3) cf_Tapes_isTape q_758 d_BB_item_1 rfl rfl rfl (Nat.le_of_ble_eq_true rfl) rfl rfl ⟨Nat.le_of_ble_eq_true rfl, Nat.le_of_ble_eq_true rfl⟩ ?_
  refine z_if_ne (tgt := 9) d_BB_item_4 (by decide) (fun c4 => ?_) (fun c4 => ?_)
  · have h := (if_neg c4).symm.trans h
    refine z_aload_n 0 d_BB_item_9 rfl rfl ?_
    refine gf_BB_tapes zl_0 d_BB_item_10 q_312 ?_
    refine z_iload_n 1 d_BB_item_13 rfl rfl ?_
    refine z_iload_n 2 d_BB_item_14 rfl rfl ?_
    refine z_lload_n 3 d_BB_item_15 rfl rfl ?_
    obtain ⟨⟨v5, s6⟩, e7, h⟩ := zbd_i h
    refine w_callV (As := [.int x1, .int x2, .long x3]) (kc := 21) (ci := 11) (c_Tapes_write l θ e7) cf_Tapes_write q_838 d_BB_item_16 zl_10 rfl rfl rfl rfl rfl rfl (Nat.le_of_ble_eq_true rfl) rfl rfl ⟨Nat.le_of_ble_eq_true rfl, Nat.le_of_ble_eq_true rfl⟩ ?_
    exact z_iret d_BB_item_19 h
  · have h := (if_pos c4).symm.trans h
    refine z_iconst (v := -1) d_BB_item_7 (by decide) ?_
    exact z_iret d_BB_item_8 h
theorem d_Tapes_valueAt_0 : decode b_Tapes_valueAt 0 = .ok (.aload_n 0, 1) := by decide +kernel
theorem d_Tapes_valueAt_1 : decode b_Tapes_valueAt 1 = .ok (.getfield 16, 3) := by decide +kernel
theorem d_Tapes_valueAt_4 : decode b_Tapes_valueAt 4 = .ok (.iload_n 1, 1) := by decide +kernel
theorem d_Tapes_valueAt_5 : decode b_Tapes_valueAt 5 = .ok (.iaload, 1) := by decide +kernel
theorem d_Tapes_valueAt_6 : decode b_Tapes_valueAt 6 = .ok (.iconst (-1), 1) := by decide +kernel
theorem d_Tapes_valueAt_7 : decode b_Tapes_valueAt 7 = .ok (.if_icmp .eq (17), 3) := by decide +kernel
theorem d_Tapes_valueAt_10 : decode b_Tapes_valueAt 10 = .ok (.iload_n 2, 1) := by decide +kernel
theorem d_Tapes_valueAt_11 : decode b_Tapes_valueAt 11 = .ok (.ifCond .lt (13), 3) := by decide +kernel
theorem d_Tapes_valueAt_14 : decode b_Tapes_valueAt 14 = .ok (.iload_n 2, 1) := by decide +kernel
theorem d_Tapes_valueAt_15 : decode b_Tapes_valueAt 15 = .ok (.aload_n 0, 1) := by decide +kernel
theorem d_Tapes_valueAt_16 : decode b_Tapes_valueAt 16 = .ok (.getfield 20, 3) := by decide +kernel
theorem d_Tapes_valueAt_19 : decode b_Tapes_valueAt 19 = .ok (.iload_n 1, 1) := by decide +kernel
theorem d_Tapes_valueAt_20 : decode b_Tapes_valueAt 20 = .ok (.iaload, 1) := by decide +kernel
theorem d_Tapes_valueAt_21 : decode b_Tapes_valueAt 21 = .ok (.if_icmp .lt (7), 3) := by decide +kernel
theorem d_Tapes_valueAt_24 : decode b_Tapes_valueAt 24 = .ok (.ldc2_w 27, 3) := by decide +kernel
theorem d_Tapes_valueAt_27 : decode b_Tapes_valueAt 27 = .ok (.lreturn, 1) := by decide +kernel
theorem d_Tapes_valueAt_28 : decode b_Tapes_valueAt 28 = .ok (.aload_n 0, 1) := by decide +kernel
theorem d_Tapes_valueAt_29 : decode b_Tapes_valueAt 29 = .ok (.getfield 13, 3) := by decide +kernel
theorem d_Tapes_valueAt_32 : decode b_Tapes_valueAt 32 = .ok (.iload_n 1, 1) := by decide +kernel
theorem d_Tapes_valueAt_33 : decode b_Tapes_valueAt 33 = .ok (.aaload, 1) := by decide +kernel
theorem d_Tapes_valueAt_34 : decode b_Tapes_valueAt 34 = .ok (.iload_n 2, 1) := by decide +kernel
theorem d_Tapes_valueAt_35 : decode b_Tapes_valueAt 35 = .ok (.laload, 1) := by decide +kernel
theorem d_Tapes_valueAt_36 : decode b_Tapes_valueAt 36 = .ok (.lreturn, 1) := by decide +kernel
theorem zb_Tapes_valueAt_24 {l : Launch} {θ : ZT} {res : Int64 × ZM}  {σ : ZM} (h : f_Tapes_valueAt_24 σ = some res) : WZ l b_Tapes_valueAt 3 (some .long) "BakedBefore$Tapes" 0 129 θ (zrm 1 60) (zQ mkL 0 129 θ res) σ [] 24 [] := by
  unfold f_Tapes_valueAt_24 at h
  refine z_ldc2 (v := -9223372036854775808) d_Tapes_valueAt_24 q_853 ?_
  exact z_lret d_Tapes_valueAt_27 h
theorem c_Tapes_valueAt (l : Launch) (θ : ZT) {x1 : Int32} {x2 : Int32} {σ : ZM} {res : Int64 × ZM} (h : f_Tapes_valueAt x1 x2 σ = some res) : zMet mkL l 0 129 θ y_Tapes_valueAt b_Tapes_valueAt 3 (some .long) (zrm 1 60) [.ref (za θ 10), .int x1, .int x2] σ res := by
  unfold f_Tapes_valueAt at h
  refine z_met (lv := [(0, .ref (za θ 10)), (1, .int x1), (2, .int x2)]) (by decide +kernel) rfl (Nat.le_of_ble_eq_true rfl) (by decide) ?_
  refine z_aload_n 0 d_Tapes_valueAt_0 rfl rfl ?_
  refine gf_Tapes_sorts zl_10 d_Tapes_valueAt_1 q_293 ?_
  refine z_iload_n 1 d_Tapes_valueAt_4 rfl rfl ?_
  obtain ⟨c1, h⟩ := zck_i h
  refine w_iald zl_12 c1 d_Tapes_valueAt_5 ?_
  refine z_iconst (v := -1) d_Tapes_valueAt_6 (by decide) ?_
  refine z_icmp_eq (tgt := 24) d_Tapes_valueAt_7 (by decide) (fun c2 => ?_) (fun c2 => ?_)
  · have h := (if_pos c2).symm.trans h
    refine z_sub [] rfl ?_
    exact zb_Tapes_valueAt_24 h
  · have h := (if_neg c2).symm.trans h
    refine z_iload_n 2 d_Tapes_valueAt_10 rfl rfl ?_
    refine z_if_lt (tgt := 24) d_Tapes_valueAt_11 (by decide) (fun c3 => ?_) (fun c3 => ?_)
    · have h := (if_pos c3).symm.trans h
      refine z_sub [] rfl ?_
      exact zb_Tapes_valueAt_24 h
    · have h := (if_neg c3).symm.trans h
      refine z_iload_n 2 d_Tapes_valueAt_14 rfl rfl ?_
      refine z_aload_n 0 d_Tapes_valueAt_15 rfl rfl ?_
      refine gf_Tapes_lengths zl_10 d_Tapes_valueAt_16 q_294 ?_
      refine z_iload_n 1 d_Tapes_valueAt_19 rfl rfl ?_
      obtain ⟨c4, h⟩ := zck_i h
      refine w_iald zl_13 c4 d_Tapes_valueAt_20 ?_
      refine z_icmp_lt (tgt := 28) d_Tapes_valueAt_21 (by decide) (fun c5 => ?_) (fun c5 => ?_)
      · have h := (if_pos c5).symm.trans h
        refine z_aload_n 0 d_Tapes_valueAt_28 rfl rfl ?_
        refine gf_Tapes_rows zl_10 d_Tapes_valueAt_29 q_292 ?_
        refine z_iload_n 1 d_Tapes_valueAt_32 rfl rfl ?_
        obtain ⟨c6, h⟩ := zck_i h
        refine z_aald6 d_Tapes_valueAt_33 (by decide) (by decide) c6 ?_
        obtain ⟨c7, h⟩ := zck_i h
        refine z_iload_n 2 d_Tapes_valueAt_34 rfl rfl ?_
        obtain ⟨c8, h⟩ := zck_i h
        refine w_lald c7 c8 d_Tapes_valueAt_35 ?_
        exact z_lret d_Tapes_valueAt_36 h
      · have h := (if_neg c5).symm.trans h
        refine z_sub [] rfl ?_
        exact zb_Tapes_valueAt_24 h
theorem d_BB_read_0 : decode b_BB_read 0 = .ok (.iload_n 1, 1) := by decide +kernel
theorem d_BB_read_1 : decode b_BB_read 1 = .ok (.invokestatic 252, 3) := by decide +kernel
theorem d_BB_read_4 : decode b_BB_read 4 = .ok (.ifCond .ne (7), 3) := by decide +kernel
theorem d_BB_read_7 : decode b_BB_read 7 = .ok (.ldc2_w 225, 3) := by decide +kernel
theorem d_BB_read_10 : decode b_BB_read 10 = .ok (.lreturn, 1) := by decide +kernel
theorem d_BB_read_11 : decode b_BB_read 11 = .ok (.aload_n 0, 1) := by decide +kernel
theorem d_BB_read_12 : decode b_BB_read 12 = .ok (.getfield 74, 3) := by decide +kernel
theorem d_BB_read_15 : decode b_BB_read 15 = .ok (.iload_n 1, 1) := by decide +kernel
theorem d_BB_read_16 : decode b_BB_read 16 = .ok (.iload_n 2, 1) := by decide +kernel
theorem d_BB_read_17 : decode b_BB_read 17 = .ok (.invokevirtual 286, 3) := by decide +kernel
theorem d_BB_read_20 : decode b_BB_read 20 = .ok (.lreturn, 1) := by decide +kernel
theorem c_BB_read (l : Launch) (θ : ZT) {x1 : Int32} {x2 : Int32} {σ : ZM} {res : Int64 × ZM} (h : f_BB_read x1 x2 σ = some res) : zMet mkL l 0 129 θ y_BB_read b_BB_read 3 (some .long) (zrm 2 82) [.ref (za θ 0), .int x1, .int x2] σ res := by
  unfold f_BB_read at h
  refine z_met (lv := [(0, .ref (za θ 0)), (1, .int x1), (2, .int x2)]) (by decide +kernel) rfl (Nat.le_of_ble_eq_true rfl) (by decide) ?_
  refine z_iload_n 1 d_BB_read_0 rfl rfl ?_
  obtain ⟨⟨v1, s2⟩, e3, h⟩ := zbd_i h
  refine w_callS (As := [.int x1]) (c_Tapes_isTape l θ e3) cf_Tapes_isTape q_758 d_BB_read_1 rfl rfl rfl (Nat.le_of_ble_eq_true rfl) rfl rfl ⟨Nat.le_of_ble_eq_true rfl, Nat.le_of_ble_eq_true rfl⟩ ?_
  refine z_if_ne (tgt := 11) d_BB_read_4 (by decide) (fun c4 => ?_) (fun c4 => ?_)
  · have h := (if_neg c4).symm.trans h
    refine z_aload_n 0 d_BB_read_11 rfl rfl ?_
    refine gf_BB_tapes zl_0 d_BB_read_12 q_312 ?_
    refine z_iload_n 1 d_BB_read_15 rfl rfl ?_
    refine z_iload_n 2 d_BB_read_16 rfl rfl ?_
    obtain ⟨⟨v5, s6⟩, e7, h⟩ := zbd_i h
    refine w_callV (As := [.int x1, .int x2]) (kc := 21) (ci := 11) (c_Tapes_valueAt l θ e7) cf_Tapes_valueAt q_849 d_BB_read_17 zl_10 rfl rfl rfl rfl rfl rfl (Nat.le_of_ble_eq_true rfl) rfl rfl ⟨Nat.le_of_ble_eq_true rfl, Nat.le_of_ble_eq_true rfl⟩ ?_
    exact z_lret d_BB_read_20 h
  · have h := (if_pos c4).symm.trans h
    refine z_ldc2 (v := -9223372036854775808) d_BB_read_7 q_721 ?_
    exact z_lret d_BB_read_10 h
theorem d_Tapes_move_0 : decode b_Tapes_move 0 = .ok (.aload_n 0, 1) := by decide +kernel
theorem d_Tapes_move_1 : decode b_Tapes_move 1 = .ok (.getfield 16, 3) := by decide +kernel
theorem d_Tapes_move_4 : decode b_Tapes_move 4 = .ok (.iload_n 1, 1) := by decide +kernel
theorem d_Tapes_move_5 : decode b_Tapes_move 5 = .ok (.iaload, 1) := by decide +kernel
theorem d_Tapes_move_6 : decode b_Tapes_move 6 = .ok (.iconst (-1), 1) := by decide +kernel
theorem d_Tapes_move_7 : decode b_Tapes_move 7 = .ok (.if_icmp .eq (13), 3) := by decide +kernel
theorem d_Tapes_move_10 : decode b_Tapes_move 10 = .ok (.aload_n 0, 1) := by decide +kernel
theorem d_Tapes_move_11 : decode b_Tapes_move 11 = .ok (.getfield 16, 3) := by decide +kernel
theorem d_Tapes_move_14 : decode b_Tapes_move 14 = .ok (.iload_n 3, 1) := by decide +kernel
theorem d_Tapes_move_15 : decode b_Tapes_move 15 = .ok (.iaload, 1) := by decide +kernel
theorem d_Tapes_move_16 : decode b_Tapes_move 16 = .ok (.iconst (-1), 1) := by decide +kernel
theorem d_Tapes_move_17 : decode b_Tapes_move 17 = .ok (.if_icmp .ne (6), 3) := by decide +kernel
theorem d_Tapes_move_20 : decode b_Tapes_move 20 = .ok (.bipush (-11), 2) := by decide +kernel
theorem d_Tapes_move_22 : decode b_Tapes_move 22 = .ok (.ireturn, 1) := by decide +kernel
theorem d_Tapes_move_23 : decode b_Tapes_move 23 = .ok (.aload_n 0, 1) := by decide +kernel
theorem d_Tapes_move_24 : decode b_Tapes_move 24 = .ok (.getfield 16, 3) := by decide +kernel
theorem d_Tapes_move_27 : decode b_Tapes_move 27 = .ok (.iload_n 1, 1) := by decide +kernel
theorem d_Tapes_move_28 : decode b_Tapes_move 28 = .ok (.iaload, 1) := by decide +kernel
theorem d_Tapes_move_29 : decode b_Tapes_move 29 = .ok (.aload_n 0, 1) := by decide +kernel
theorem d_Tapes_move_30 : decode b_Tapes_move 30 = .ok (.getfield 16, 3) := by decide +kernel
theorem d_Tapes_move_33 : decode b_Tapes_move 33 = .ok (.iload_n 3, 1) := by decide +kernel
theorem d_Tapes_move_34 : decode b_Tapes_move 34 = .ok (.iaload, 1) := by decide +kernel
theorem d_Tapes_move_35 : decode b_Tapes_move 35 = .ok (.if_icmp .eq (6), 3) := by decide +kernel
theorem d_Tapes_move_38 : decode b_Tapes_move 38 = .ok (.bipush (-12), 2) := by decide +kernel
theorem d_Tapes_move_40 : decode b_Tapes_move 40 = .ok (.ireturn, 1) := by decide +kernel
theorem d_Tapes_move_41 : decode b_Tapes_move 41 = .ok (.iload 5, 2) := by decide +kernel
theorem d_Tapes_move_43 : decode b_Tapes_move 43 = .ok (.ifCond .lt (39), 3) := by decide +kernel
theorem d_Tapes_move_46 : decode b_Tapes_move 46 = .ok (.iload_n 2, 1) := by decide +kernel
theorem d_Tapes_move_47 : decode b_Tapes_move 47 = .ok (.ifCond .lt (35), 3) := by decide +kernel
theorem d_Tapes_move_50 : decode b_Tapes_move 50 = .ok (.iload 4, 2) := by decide +kernel
theorem d_Tapes_move_52 : decode b_Tapes_move 52 = .ok (.ifCond .lt (30), 3) := by decide +kernel
theorem d_Tapes_move_55 : decode b_Tapes_move 55 = .ok (.iload_n 2, 1) := by decide +kernel
theorem d_Tapes_move_56 : decode b_Tapes_move 56 = .ok (.aload_n 0, 1) := by decide +kernel
theorem d_Tapes_move_57 : decode b_Tapes_move 57 = .ok (.getfield 20, 3) := by decide +kernel
theorem d_Tapes_move_60 : decode b_Tapes_move 60 = .ok (.iload_n 1, 1) := by decide +kernel
theorem d_Tapes_move_61 : decode b_Tapes_move 61 = .ok (.iaload, 1) := by decide +kernel
theorem d_Tapes_move_62 : decode b_Tapes_move 62 = .ok (.iload 5, 2) := by decide +kernel
theorem d_Tapes_move_64 : decode b_Tapes_move 64 = .ok (.isub, 1) := by decide +kernel
theorem d_Tapes_move_65 : decode b_Tapes_move 65 = .ok (.if_icmp .gt (17), 3) := by decide +kernel
theorem d_Tapes_move_68 : decode b_Tapes_move 68 = .ok (.iload 4, 2) := by decide +kernel
theorem d_Tapes_move_70 : decode b_Tapes_move 70 = .ok (.aload_n 0, 1) := by decide +kernel
theorem d_Tapes_move_71 : decode b_Tapes_move 71 = .ok (.getfield 20, 3) := by decide +kernel
theorem d_Tapes_move_74 : decode b_Tapes_move 74 = .ok (.iload_n 3, 1) := by decide +kernel
theorem d_Tapes_move_75 : decode b_Tapes_move 75 = .ok (.iaload, 1) := by decide +kernel
theorem d_Tapes_move_76 : decode b_Tapes_move 76 = .ok (.iload 5, 2) := by decide +kernel
theorem d_Tapes_move_78 : decode b_Tapes_move 78 = .ok (.isub, 1) := by decide +kernel
theorem d_Tapes_move_79 : decode b_Tapes_move 79 = .ok (.if_icmp .le (6), 3) := by decide +kernel
theorem d_Tapes_move_82 : decode b_Tapes_move 82 = .ok (.bipush (-13), 2) := by decide +kernel
theorem d_Tapes_move_84 : decode b_Tapes_move 84 = .ok (.ireturn, 1) := by decide +kernel
theorem d_Tapes_move_85 : decode b_Tapes_move 85 = .ok (.aload_n 0, 1) := by decide +kernel
theorem d_Tapes_move_86 : decode b_Tapes_move 86 = .ok (.getfield 13, 3) := by decide +kernel
theorem d_Tapes_move_89 : decode b_Tapes_move 89 = .ok (.iload_n 1, 1) := by decide +kernel
theorem d_Tapes_move_90 : decode b_Tapes_move 90 = .ok (.aaload, 1) := by decide +kernel
theorem d_Tapes_move_91 : decode b_Tapes_move 91 = .ok (.iload_n 2, 1) := by decide +kernel
theorem d_Tapes_move_92 : decode b_Tapes_move 92 = .ok (.aload_n 0, 1) := by decide +kernel
theorem d_Tapes_move_93 : decode b_Tapes_move 93 = .ok (.getfield 13, 3) := by decide +kernel
theorem d_Tapes_move_96 : decode b_Tapes_move 96 = .ok (.iload_n 3, 1) := by decide +kernel
theorem d_Tapes_move_97 : decode b_Tapes_move 97 = .ok (.aaload, 1) := by decide +kernel
theorem d_Tapes_move_98 : decode b_Tapes_move 98 = .ok (.iload 4, 2) := by decide +kernel
theorem d_Tapes_move_100 : decode b_Tapes_move 100 = .ok (.iload 5, 2) := by decide +kernel
theorem d_Tapes_move_102 : decode b_Tapes_move 102 = .ok (.invokestatic 29, 3) := by decide +kernel
theorem d_Tapes_move_105 : decode b_Tapes_move 105 = .ok (.iload 5, 2) := by decide +kernel
theorem d_Tapes_move_107 : decode b_Tapes_move 107 = .ok (.ireturn, 1) := by decide +kernel
theorem c_Tapes_move (l : Launch) (θ : ZT) {x1 : Int32} {x2 : Int32} {x3 : Int32} {x4 : Int32} {x5 : Int32} {σ : ZM} {res : Int32 × ZM} (h : f_Tapes_move x1 x2 x3 x4 x5 σ = some res) : zMet mkI l 0 129 θ y_Tapes_move b_Tapes_move 6 (some .int) (zrm 2 120) [.ref (za θ 10), .int x1, .int x2, .int x3, .int x4, .int x5] σ res := by
  unfold f_Tapes_move at h
  refine z_met (lv := [(0, .ref (za θ 10)), (1, .int x1), (2, .int x2), (3, .int x3), (4, .int x4), (5, .int x5)]) (by decide +kernel) rfl (Nat.le_of_ble_eq_true rfl) (by decide) ?_
  refine z_aload_n 0 d_Tapes_move_0 rfl rfl ?_
  refine gf_Tapes_sorts zl_10 d_Tapes_move_1 q_293 ?_
  refine z_iload_n 1 d_Tapes_move_4 rfl rfl ?_
  obtain ⟨c1, h⟩ := zck_i h
  refine w_iald zl_12 c1 d_Tapes_move_5 ?_
  refine z_iconst (v := -1) d_Tapes_move_6 (by decide) ?_
  refine z_icmp_eq (tgt := 20) d_Tapes_move_7 (by decide) (fun c2 => ?_) (fun c2 => ?_)
  · have h := (if_pos c2).symm.trans h
    refine z_bipush (v := -11) d_Tapes_move_20 (by decide) ?_
    exact z_iret d_Tapes_move_22 h
  · have h := (if_neg c2).symm.trans h
    refine z_aload_n 0 d_Tapes_move_10 rfl rfl ?_
    refine gf_Tapes_sorts zl_10 d_Tapes_move_11 q_293 ?_
    refine z_iload_n 3 d_Tapes_move_14 rfl rfl ?_
    obtain ⟨c3, h⟩ := zck_i h
    refine w_iald zl_12 c3 d_Tapes_move_15 ?_
    refine z_iconst (v := -1) d_Tapes_move_16 (by decide) ?_
    refine z_icmp_ne (tgt := 23) d_Tapes_move_17 (by decide) (fun c4 => ?_) (fun c4 => ?_)
    · have h := (if_neg c4).symm.trans h
      refine z_aload_n 0 d_Tapes_move_23 rfl rfl ?_
      refine gf_Tapes_sorts zl_10 d_Tapes_move_24 q_293 ?_
      refine z_iload_n 1 d_Tapes_move_27 rfl rfl ?_
      obtain ⟨c5, h⟩ := zck_i h
      refine w_iald zl_12 c5 d_Tapes_move_28 ?_
      refine z_aload_n 0 d_Tapes_move_29 rfl rfl ?_
      refine gf_Tapes_sorts zl_10 d_Tapes_move_30 q_293 ?_
      refine z_iload_n 3 d_Tapes_move_33 rfl rfl ?_
      obtain ⟨c6, h⟩ := zck_i h
      refine w_iald zl_12 c6 d_Tapes_move_34 ?_
      refine z_icmp_eq (tgt := 41) d_Tapes_move_35 (by decide) (fun c7 => ?_) (fun c7 => ?_)
      · have h := (if_pos c7).symm.trans h
        refine z_iload 5 d_Tapes_move_41 rfl ?_
        refine z_if_lt (tgt := 82) d_Tapes_move_43 (by decide) (fun c8 => ?_) (fun c8 => ?_)
        · have h := (if_pos c8).symm.trans h
          refine z_bipush (v := -13) d_Tapes_move_82 (by decide) ?_
          exact z_iret d_Tapes_move_84 h
        · have h := (if_neg c8).symm.trans h
          refine z_iload_n 2 d_Tapes_move_46 rfl rfl ?_
          refine z_if_lt (tgt := 82) d_Tapes_move_47 (by decide) (fun c9 => ?_) (fun c9 => ?_)
          · have h := (if_pos c9).symm.trans h
            refine z_bipush (v := -13) d_Tapes_move_82 (by decide) ?_
            exact z_iret d_Tapes_move_84 h
          · have h := (if_neg c9).symm.trans h
            refine z_iload 4 d_Tapes_move_50 rfl ?_
            refine z_if_lt (tgt := 82) d_Tapes_move_52 (by decide) (fun c10 => ?_) (fun c10 => ?_)
            · have h := (if_pos c10).symm.trans h
              refine z_bipush (v := -13) d_Tapes_move_82 (by decide) ?_
              exact z_iret d_Tapes_move_84 h
            · have h := (if_neg c10).symm.trans h
              refine z_iload_n 2 d_Tapes_move_55 rfl rfl ?_
              refine z_aload_n 0 d_Tapes_move_56 rfl rfl ?_
              refine gf_Tapes_lengths zl_10 d_Tapes_move_57 q_294 ?_
              refine z_iload_n 1 d_Tapes_move_60 rfl rfl ?_
              obtain ⟨c11, h⟩ := zck_i h
              refine w_iald zl_13 c11 d_Tapes_move_61 ?_
              refine z_iload 5 d_Tapes_move_62 rfl ?_
              refine z_isub d_Tapes_move_64 ?_
              refine z_icmp_gt (tgt := 82) d_Tapes_move_65 (by decide) (fun c12 => ?_) (fun c12 => ?_)
              · have h := (if_pos c12).symm.trans h
                refine z_bipush (v := -13) d_Tapes_move_82 (by decide) ?_
                exact z_iret d_Tapes_move_84 h
              · have h := (if_neg c12).symm.trans h
                refine z_iload 4 d_Tapes_move_68 rfl ?_
                refine z_aload_n 0 d_Tapes_move_70 rfl rfl ?_
                refine gf_Tapes_lengths zl_10 d_Tapes_move_71 q_294 ?_
                refine z_iload_n 3 d_Tapes_move_74 rfl rfl ?_
                obtain ⟨c13, h⟩ := zck_i h
                refine w_iald zl_13 c13 d_Tapes_move_75 ?_
                refine z_iload 5 d_Tapes_move_76 rfl ?_
                refine z_isub d_Tapes_move_78 ?_
                refine z_icmp_le (tgt := 85) d_Tapes_move_79 (by decide) (fun c14 => ?_) (fun c14 => ?_)
                · have h := (if_pos c14).symm.trans h
                  refine z_aload_n 0 d_Tapes_move_85 rfl rfl ?_
                  refine gf_Tapes_rows zl_10 d_Tapes_move_86 q_292 ?_
                  refine z_iload_n 1 d_Tapes_move_89 rfl rfl ?_
                  obtain ⟨c15, h⟩ := zck_i h
                  refine z_aald6 d_Tapes_move_90 (by decide) (by decide) c15 ?_
                  obtain ⟨c16, h⟩ := zck_i h
                  refine z_iload_n 2 d_Tapes_move_91 rfl rfl ?_
                  refine z_aload_n 0 d_Tapes_move_92 rfl rfl ?_
                  refine gf_Tapes_rows zl_10 d_Tapes_move_93 q_292 ?_
                  refine z_iload_n 3 d_Tapes_move_96 rfl rfl ?_
                  obtain ⟨c17, h⟩ := zck_i h
                  refine z_aald6 d_Tapes_move_97 (by decide) (by decide) c17 ?_
                  obtain ⟨c18, h⟩ := zck_i h
                  refine z_iload 4 d_Tapes_move_98 rfl ?_
                  refine z_iload 5 d_Tapes_move_100 rfl ?_
                  obtain ⟨c19, h⟩ := zck_i h
                  refine w_copyl c16 c18 c19 d_Tapes_move_102 q_862 (by decide) (Nat.le_of_ble_eq_true rfl) ?_
                  refine z_iload 5 d_Tapes_move_105 rfl ?_
                  exact z_iret d_Tapes_move_107 h
                · have h := (if_neg c14).symm.trans h
                  refine z_bipush (v := -13) d_Tapes_move_82 (by decide) ?_
                  exact z_iret d_Tapes_move_84 h
      · have h := (if_neg c7).symm.trans h
        refine z_bipush (v := -12) d_Tapes_move_38 (by decide) ?_
        exact z_iret d_Tapes_move_40 h
    · have h := (if_pos c4).symm.trans h
      refine z_bipush (v := -11) d_Tapes_move_20 (by decide) ?_
      exact z_iret d_Tapes_move_22 h
theorem d_BB_shift_0 : decode b_BB_shift 0 = .ok (.iload_n 1, 1) := by decide +kernel
theorem d_BB_shift_1 : decode b_BB_shift 1 = .ok (.invokestatic 252, 3) := by decide +kernel
theorem d_BB_shift_4 : decode b_BB_shift 4 = .ok (.ifCond .eq (10), 3) := by decide +kernel
theorem d_BB_shift_7 : decode b_BB_shift 7 = .ok (.iload_n 3, 1) := by decide +kernel
theorem d_BB_shift_8 : decode b_BB_shift 8 = .ok (.invokestatic 252, 3) := by decide +kernel
theorem d_BB_shift_11 : decode b_BB_shift 11 = .ok (.ifCond .ne (5), 3) := by decide +kernel
theorem d_BB_shift_14 : decode b_BB_shift 14 = .ok (.iconst (-1), 1) := by decide +kernel
theorem d_BB_shift_15 : decode b_BB_shift 15 = .ok (.ireturn, 1) := by decide +kernel
theorem d_BB_shift_16 : decode b_BB_shift 16 = .ok (.aload_n 0, 1) := by decide +kernel
theorem d_BB_shift_17 : decode b_BB_shift 17 = .ok (.getfield 74, 3) := by decide +kernel
theorem d_BB_shift_20 : decode b_BB_shift 20 = .ok (.iload_n 1, 1) := by decide +kernel
theorem d_BB_shift_21 : decode b_BB_shift 21 = .ok (.iload_n 2, 1) := by decide +kernel
theorem d_BB_shift_22 : decode b_BB_shift 22 = .ok (.iload_n 3, 1) := by decide +kernel
theorem d_BB_shift_23 : decode b_BB_shift 23 = .ok (.iload 4, 2) := by decide +kernel
theorem d_BB_shift_25 : decode b_BB_shift 25 = .ok (.iload 5, 2) := by decide +kernel
theorem d_BB_shift_27 : decode b_BB_shift 27 = .ok (.invokevirtual 290, 3) := by decide +kernel
theorem d_BB_shift_30 : decode b_BB_shift 30 = .ok (.ireturn, 1) := by decide +kernel
theorem c_BB_shift (l : Launch) (θ : ZT) {x1 : Int32} {x2 : Int32} {x3 : Int32} {x4 : Int32} {x5 : Int32} {σ : ZM} {res : Int32 × ZM} (h : f_BB_shift x1 x2 x3 x4 x5 σ = some res) : zMet mkI l 0 129 θ y_BB_shift b_BB_shift 6 (some .int) (zrm 3 145) [.ref (za θ 0), .int x1, .int x2, .int x3, .int x4, .int x5] σ res := by
  unfold f_BB_shift at h
  refine z_met (lv := [(0, .ref (za θ 0)), (1, .int x1), (2, .int x2), (3, .int x3), (4, .int x4), (5, .int x5)]) (by decide +kernel) rfl (Nat.le_of_ble_eq_true rfl) (by decide) ?_
  refine z_iload_n 1 d_BB_shift_0 rfl rfl ?_
  obtain ⟨⟨v1, s2⟩, e3, h⟩ := zbd_i h
  refine w_callS (As := [.int x1]) (c_Tapes_isTape l θ e3) cf_Tapes_isTape q_758 d_BB_shift_1 rfl rfl rfl (Nat.le_of_ble_eq_true rfl) rfl rfl ⟨Nat.le_of_ble_eq_true rfl, Nat.le_of_ble_eq_true rfl⟩ ?_
  refine z_if_eq (tgt := 14) d_BB_shift_4 (by decide) (fun c4 => ?_) (fun c4 => ?_)
  · have h := (if_pos c4).symm.trans h
    refine z_iconst (v := -1) d_BB_shift_14 (by decide) ?_
    exact z_iret d_BB_shift_15 h
  · have h := (if_neg c4).symm.trans h
    refine z_iload_n 3 d_BB_shift_7 rfl rfl ?_
    obtain ⟨⟨v5, s6⟩, e7, h⟩ := zbd_i h
    refine w_callS (As := [.int x3]) (c_Tapes_isTape l θ e7) cf_Tapes_isTape q_758 d_BB_shift_8 rfl rfl rfl (Nat.le_of_ble_eq_true rfl) rfl rfl ⟨Nat.le_of_ble_eq_true rfl, Nat.le_of_ble_eq_true rfl⟩ ?_
    refine z_if_ne (tgt := 16) d_BB_shift_11 (by decide) (fun c8 => ?_) (fun c8 => ?_)
    · have h := (if_neg c8).symm.trans h
      refine z_aload_n 0 d_BB_shift_16 rfl rfl ?_
      refine gf_BB_tapes zl_0 d_BB_shift_17 q_312 ?_
      refine z_iload_n 1 d_BB_shift_20 rfl rfl ?_
      refine z_iload_n 2 d_BB_shift_21 rfl rfl ?_
      refine z_iload_n 3 d_BB_shift_22 rfl rfl ?_
      refine z_iload 4 d_BB_shift_23 rfl ?_
      refine z_iload 5 d_BB_shift_25 rfl ?_
      obtain ⟨⟨v9, s10⟩, e11, h⟩ := zbd_i h
      refine w_callV (As := [.int x1, .int x2, .int x3, .int x4, .int x5]) (kc := 21) (ci := 11) (c_Tapes_move l θ e11) cf_Tapes_move q_858 d_BB_shift_27 zl_10 rfl rfl rfl rfl rfl rfl (Nat.le_of_ble_eq_true rfl) rfl rfl ⟨Nat.le_of_ble_eq_true rfl, Nat.le_of_ble_eq_true rfl⟩ ?_
      exact z_iret d_BB_shift_30 h
    · have h := (if_pos c8).symm.trans h
      refine z_iconst (v := -1) d_BB_shift_14 (by decide) ?_
      exact z_iret d_BB_shift_15 h
theorem d_Model_isIn_0 : decode b_Model_isIn 0 = .ok (.iload_n 0, 1) := by decide +kernel
theorem d_Model_isIn_1 : decode b_Model_isIn 1 = .ok (.iload_n 1, 1) := by decide +kernel
theorem d_Model_isIn_2 : decode b_Model_isIn 2 = .ok (.if_icmp .lt (12), 3) := by decide +kernel
theorem d_Model_isIn_5 : decode b_Model_isIn 5 = .ok (.iload_n 0, 1) := by decide +kernel
theorem d_Model_isIn_6 : decode b_Model_isIn 6 = .ok (.iload_n 2, 1) := by decide +kernel
theorem d_Model_isIn_7 : decode b_Model_isIn 7 = .ok (.if_icmp .gt (7), 3) := by decide +kernel
theorem d_Model_isIn_10 : decode b_Model_isIn 10 = .ok (.iconst (1), 1) := by decide +kernel
theorem d_Model_isIn_11 : decode b_Model_isIn 11 = .ok (.goto (4), 3) := by decide +kernel
theorem d_Model_isIn_14 : decode b_Model_isIn 14 = .ok (.iconst (0), 1) := by decide +kernel
theorem d_Model_isIn_15 : decode b_Model_isIn 15 = .ok (.ireturn, 1) := by decide +kernel
theorem c_Model_isIn (l : Launch) (θ : ZT) {x0 : Int32} {x1 : Int32} {x2 : Int32} {σ : ZM} {res : Int32 × ZM} (h : f_Model_isIn x0 x1 x2 σ = some res) : zMet mkI l 129 14 θ y_Model_isIn b_Model_isIn 3 (some .boolean) (zrm 1 60) [.int x0, .int x1, .int x2] σ res := by
  unfold f_Model_isIn at h
  refine z_met (lv := [(0, .int x0), (1, .int x1), (2, .int x2)]) (by decide +kernel) rfl (Nat.le_of_ble_eq_true rfl) (by decide) ?_
  refine z_iload_n 0 d_Model_isIn_0 rfl rfl ?_
  refine z_iload_n 1 d_Model_isIn_1 rfl rfl ?_
  refine z_icmp_lt (tgt := 14) d_Model_isIn_2 (by decide) (fun c1 => ?_) (fun c1 => ?_)
  · have h := (if_pos c1).symm.trans h
    refine z_iconst (v := 0) d_Model_isIn_14 (by decide) ?_
    exact z_zret d_Model_isIn_15 (by decide) h
  · have h := (if_neg c1).symm.trans h
    refine z_iload_n 0 d_Model_isIn_5 rfl rfl ?_
    refine z_iload_n 2 d_Model_isIn_6 rfl rfl ?_
    refine z_icmp_gt (tgt := 14) d_Model_isIn_7 (by decide) (fun c2 => ?_) (fun c2 => ?_)
    · have h := (if_pos c2).symm.trans h
      refine z_iconst (v := 0) d_Model_isIn_14 (by decide) ?_
      exact z_zret d_Model_isIn_15 (by decide) h
    · have h := (if_neg c2).symm.trans h
      refine z_iconst (v := 1) d_Model_isIn_10 (by decide) ?_
      refine z_goto (tgt := 15) d_Model_isIn_11 (by decide) ?_
      exact z_zret d_Model_isIn_15 (by decide) h
theorem d_Model_isTaste_0 : decode b_Model_isTaste 0 = .ok (.iload_n 0, 1) := by decide +kernel
theorem d_Model_isTaste_1 : decode b_Model_isTaste 1 = .ok (.iconst (0), 1) := by decide +kernel
theorem d_Model_isTaste_2 : decode b_Model_isTaste 2 = .ok (.iconst (3), 1) := by decide +kernel
theorem d_Model_isTaste_3 : decode b_Model_isTaste 3 = .ok (.invokestatic 52, 3) := by decide +kernel
theorem d_Model_isTaste_6 : decode b_Model_isTaste 6 = .ok (.ireturn, 1) := by decide +kernel
theorem c_Model_isTaste (l : Launch) (θ : ZT) {x0 : Int32} {σ : ZM} {res : Int32 × ZM} (h : f_Model_isTaste x0 σ = some res) : zMet mkI l 129 14 θ y_Model_isTaste b_Model_isTaste 1 (some .boolean) (zrm 2 82) [.int x0] σ res := by
  unfold f_Model_isTaste at h
  refine z_met (lv := [(0, .int x0)]) (by decide +kernel) rfl (Nat.le_of_ble_eq_true rfl) (by decide) ?_
  refine z_iload_n 0 d_Model_isTaste_0 rfl rfl ?_
  refine z_iconst (v := 0) d_Model_isTaste_1 (by decide) ?_
  refine z_iconst (v := 3) d_Model_isTaste_2 (by decide) ?_
  obtain ⟨⟨v1, s2⟩, e3, h⟩ := zbd_i h
  refine w_callS (As := [.int x0, .int (0 : Int32), .int (3 : Int32)]) (c_Model_isIn l θ e3) cf_Model_isIn q_969 d_Model_isTaste_3 rfl rfl rfl (Nat.le_of_ble_eq_true rfl) rfl rfl ⟨Nat.le_of_ble_eq_true rfl, Nat.le_of_ble_eq_true rfl⟩ ?_
  obtain ⟨c4, h⟩ := zck_i h
  exact z_zret d_Model_isTaste_6 c4 h
theorem d_Model_isLoaf_0 : decode b_Model_isLoaf 0 = .ok (.iload_n 1, 1) := by decide +kernel
theorem d_Model_isLoaf_1 : decode b_Model_isLoaf 1 = .ok (.iconst (0), 1) := by decide +kernel
theorem d_Model_isLoaf_2 : decode b_Model_isLoaf 2 = .ok (.aload_n 0, 1) := by decide +kernel
theorem d_Model_isLoaf_3 : decode b_Model_isLoaf 3 = .ok (.getfield 11, 3) := by decide +kernel
theorem d_Model_isLoaf_6 : decode b_Model_isLoaf 6 = .ok (.iconst (5), 1) := by decide +kernel
theorem d_Model_isLoaf_7 : decode b_Model_isLoaf 7 = .ok (.iaload, 1) := by decide +kernel
theorem d_Model_isLoaf_8 : decode b_Model_isLoaf 8 = .ok (.iconst (1), 1) := by decide +kernel
theorem d_Model_isLoaf_9 : decode b_Model_isLoaf 9 = .ok (.isub, 1) := by decide +kernel
theorem d_Model_isLoaf_10 : decode b_Model_isLoaf 10 = .ok (.invokestatic 52, 3) := by decide +kernel
theorem d_Model_isLoaf_13 : decode b_Model_isLoaf 13 = .ok (.ireturn, 1) := by decide +kernel
theorem c_Model_isLoaf (l : Launch) (θ : ZT) {x1 : Int32} {σ : ZM} {res : Int32 × ZM} (h : f_Model_isLoaf x1 σ = some res) : zMet mkI l 129 14 θ y_Model_isLoaf b_Model_isLoaf 2 (some .boolean) (zrm 2 82) [.ref (za θ 129), .int x1] σ res := by
  unfold f_Model_isLoaf at h
  refine z_met (lv := [(0, .ref (za θ 129)), (1, .int x1)]) (by decide +kernel) rfl (Nat.le_of_ble_eq_true rfl) (by decide) ?_
  refine z_iload_n 1 d_Model_isLoaf_0 rfl rfl ?_
  refine z_iconst (v := 0) d_Model_isLoaf_1 (by decide) ?_
  refine z_aload_n 0 d_Model_isLoaf_2 rfl rfl ?_
  refine gf_Model_s zl_129 d_Model_isLoaf_3 q_871 ?_
  refine z_iconst (v := 5) d_Model_isLoaf_6 (by decide) ?_
  obtain ⟨c1, h⟩ := zck_i h
  refine w_iald zl_130 c1 d_Model_isLoaf_7 ?_
  refine z_iconst (v := 1) d_Model_isLoaf_8 (by decide) ?_
  refine z_isub d_Model_isLoaf_9 ?_
  obtain ⟨⟨v2, s3⟩, e4, h⟩ := zbd_i h
  refine w_callS (As := [.int x1, .int (0 : Int32), .int ((zI σ 130 (5 : Int32).toNatClampNeg) - (1 : Int32))]) (c_Model_isIn l θ e4) cf_Model_isIn q_969 d_Model_isLoaf_10 rfl rfl rfl (Nat.le_of_ble_eq_true rfl) rfl rfl ⟨Nat.le_of_ble_eq_true rfl, Nat.le_of_ble_eq_true rfl⟩ ?_
  obtain ⟨c5, h⟩ := zck_i h
  exact z_zret d_Model_isLoaf_13 c5 h
theorem d_Model_areLoaves_0 : decode b_Model_areLoaves 0 = .ok (.iload_n 1, 1) := by decide +kernel
theorem d_Model_areLoaves_1 : decode b_Model_areLoaves 1 = .ok (.iconst (0), 1) := by decide +kernel
theorem d_Model_areLoaves_2 : decode b_Model_areLoaves 2 = .ok (.iconst (1), 1) := by decide +kernel
theorem d_Model_areLoaves_3 : decode b_Model_areLoaves 3 = .ok (.aload_n 0, 1) := by decide +kernel
theorem d_Model_areLoaves_4 : decode b_Model_areLoaves 4 = .ok (.getfield 11, 3) := by decide +kernel
theorem d_Model_areLoaves_7 : decode b_Model_areLoaves 7 = .ok (.iconst (5), 1) := by decide +kernel
theorem d_Model_areLoaves_8 : decode b_Model_areLoaves 8 = .ok (.iaload, 1) := by decide +kernel
theorem d_Model_areLoaves_9 : decode b_Model_areLoaves 9 = .ok (.ishl, 1) := by decide +kernel
theorem d_Model_areLoaves_10 : decode b_Model_areLoaves 10 = .ok (.iconst (1), 1) := by decide +kernel
theorem d_Model_areLoaves_11 : decode b_Model_areLoaves 11 = .ok (.isub, 1) := by decide +kernel
theorem d_Model_areLoaves_12 : decode b_Model_areLoaves 12 = .ok (.invokestatic 52, 3) := by decide +kernel
theorem d_Model_areLoaves_15 : decode b_Model_areLoaves 15 = .ok (.ireturn, 1) := by decide +kernel
theorem c_Model_areLoaves (l : Launch) (θ : ZT) {x1 : Int32} {σ : ZM} {res : Int32 × ZM} (h : f_Model_areLoaves x1 σ = some res) : zMet mkI l 129 14 θ y_Model_areLoaves b_Model_areLoaves 2 (some .boolean) (zrm 2 82) [.ref (za θ 129), .int x1] σ res := by
  unfold f_Model_areLoaves at h
  refine z_met (lv := [(0, .ref (za θ 129)), (1, .int x1)]) (by decide +kernel) rfl (Nat.le_of_ble_eq_true rfl) (by decide) ?_
  refine z_iload_n 1 d_Model_areLoaves_0 rfl rfl ?_
  refine z_iconst (v := 0) d_Model_areLoaves_1 (by decide) ?_
  refine z_iconst (v := 1) d_Model_areLoaves_2 (by decide) ?_
  refine z_aload_n 0 d_Model_areLoaves_3 rfl rfl ?_
  refine gf_Model_s zl_129 d_Model_areLoaves_4 q_871 ?_
  refine z_iconst (v := 5) d_Model_areLoaves_7 (by decide) ?_
  obtain ⟨c1, h⟩ := zck_i h
  refine w_iald zl_130 c1 d_Model_areLoaves_8 ?_
  refine z_ishl d_Model_areLoaves_9 ?_
  refine z_iconst (v := 1) d_Model_areLoaves_10 (by decide) ?_
  refine z_isub d_Model_areLoaves_11 ?_
  obtain ⟨⟨v2, s3⟩, e4, h⟩ := zbd_i h
  refine w_callS (As := [.int x1, .int (0 : Int32), .int (((1 : Int32) <<< ((zI σ 130 (5 : Int32).toNatClampNeg) &&& 31)) - (1 : Int32))]) (c_Model_isIn l θ e4) cf_Model_isIn q_969 d_Model_areLoaves_12 rfl rfl rfl (Nat.le_of_ble_eq_true rfl) rfl rfl ⟨Nat.le_of_ble_eq_true rfl, Nat.le_of_ble_eq_true rfl⟩ ?_
  obtain ⟨c5, h⟩ := zck_i h
  exact z_zret d_Model_areLoaves_15 c5 h
theorem d_Model_bits_0 : decode b_Model_bits 0 = .ok (.iconst (0), 1) := by decide +kernel
theorem d_Model_bits_1 : decode b_Model_bits 1 = .ok (.istore_n 1, 1) := by decide +kernel
theorem d_Model_bits_2 : decode b_Model_bits 2 = .ok (.iload_n 0, 1) := by decide +kernel
theorem d_Model_bits_3 : decode b_Model_bits 3 = .ok (.istore_n 2, 1) := by decide +kernel
theorem d_Model_bits_4 : decode b_Model_bits 4 = .ok (.iload_n 2, 1) := by decide +kernel
theorem d_Model_bits_5 : decode b_Model_bits 5 = .ok (.ifCond .le (16), 3) := by decide +kernel
theorem d_Model_bits_8 : decode b_Model_bits 8 = .ok (.iload_n 1, 1) := by decide +kernel
theorem d_Model_bits_9 : decode b_Model_bits 9 = .ok (.iload_n 2, 1) := by decide +kernel
theorem d_Model_bits_10 : decode b_Model_bits 10 = .ok (.iconst (1), 1) := by decide +kernel
theorem d_Model_bits_11 : decode b_Model_bits 11 = .ok (.iand, 1) := by decide +kernel
theorem d_Model_bits_12 : decode b_Model_bits 12 = .ok (.iadd, 1) := by decide +kernel
theorem d_Model_bits_13 : decode b_Model_bits 13 = .ok (.istore_n 1, 1) := by decide +kernel
theorem d_Model_bits_14 : decode b_Model_bits 14 = .ok (.iload_n 2, 1) := by decide +kernel
theorem d_Model_bits_15 : decode b_Model_bits 15 = .ok (.iconst (1), 1) := by decide +kernel
theorem d_Model_bits_16 : decode b_Model_bits 16 = .ok (.ishr, 1) := by decide +kernel
theorem d_Model_bits_17 : decode b_Model_bits 17 = .ok (.istore_n 2, 1) := by decide +kernel
theorem d_Model_bits_18 : decode b_Model_bits 18 = .ok (.goto (-14), 3) := by decide +kernel
theorem d_Model_bits_21 : decode b_Model_bits 21 = .ok (.iload_n 1, 1) := by decide +kernel
theorem d_Model_bits_22 : decode b_Model_bits 22 = .ok (.ireturn, 1) := by decide +kernel
theorem zb_Model_bits_4 {l : Launch} {θ : ZT} {res : Int32 × ZM} {k4 : Int32 × Int32 × ZM → Option (Int32 × ZM)} (hk4 : ∀ a : Int32 × Int32 × ZM, k4 a = some res → WZ l b_Model_bits 3 (some .int) "BakedBeforeModel" 129 14 θ (zrm 1 60) (zQ mkI 129 14 θ res) a.2.2 [(1, .int a.1), (2, .int a.2.1)] 4 []) {x1 : Int32} {x2 : Int32} {σ : ZM} (h : f_Model_bits_4 k4 x1 x2 σ = some res) : WZ l b_Model_bits 3 (some .int) "BakedBeforeModel" 129 14 θ (zrm 1 60) (zQ mkI 129 14 θ res) σ [(1, .int x1), (2, .int x2)] 4 [] := by
  unfold f_Model_bits_4 at h
  refine z_iload_n 1 d_Model_bits_4 rfl rfl ?_
  refine z_if_le (tgt := 21) d_Model_bits_5 (by decide) (fun c1 => ?_) (fun c1 => ?_)
  · have h := (if_pos c1).symm.trans h
    refine z_iload_n 0 d_Model_bits_21 rfl rfl ?_
    exact z_iret d_Model_bits_22 h
  · have h := (if_neg c1).symm.trans h
    refine z_iload_n 0 d_Model_bits_8 rfl rfl ?_
    refine z_iload_n 1 d_Model_bits_9 rfl rfl ?_
    refine z_iconst (v := 1) d_Model_bits_10 (by decide) ?_
    refine z_iand d_Model_bits_11 ?_
    refine z_iadd d_Model_bits_12 ?_
    refine z_istore_n d_Model_bits_13 rfl (by decide) rfl ?_
    refine z_iload_n 1 d_Model_bits_14 rfl rfl ?_
    refine z_iconst (v := 1) d_Model_bits_15 (by decide) ?_
    refine z_ishr d_Model_bits_16 ?_
    refine z_istore_n d_Model_bits_17 rfl (by decide) rfl ?_
    refine z_goto (tgt := 4) d_Model_bits_18 (by decide) ?_
    refine z_sub [1, 0] rfl ?_
    exact hk4 ((x1 + (x2 &&& (1 : Int32))), (x2 >>> ((1 : Int32) &&& 31)), σ) h
theorem zl_Model_bits_4 {l : Launch} {θ : ZT} {res : Int32 × ZM} : ∀ (N : Nat) (a : Int32 × Int32 × ZM), F_Model_bits_4 N a = some res → WZ l b_Model_bits 3 (some .int) "BakedBeforeModel" 129 14 θ (zrm 1 60) (zQ mkI 129 14 θ res) a.2.2 [(1, .int a.1), (2, .int a.2.1)] 4 [] := by
  intro N
  induction N with
  | zero => intro a  h; cases (show (none : Option (Int32 × ZM)) = some res from h)
  | succ N ih => intro a  h; exact zb_Model_bits_4 ih (show f_Model_bits_4 (F_Model_bits_4 N) a.1 a.2.1 a.2.2 = some res from h)
theorem c_Model_bits (l : Launch) (θ : ZT) {x0 : Int32} {σ : ZM} {res : Int32 × ZM} (h : f_Model_bits x0 σ = some res) : zMet mkI l 129 14 θ y_Model_bits b_Model_bits 3 (some .int) (zrm 1 60) [.int x0] σ res := by
  unfold f_Model_bits at h
  refine z_met (lv := [(0, .int x0)]) (by decide +kernel) rfl (Nat.le_of_ble_eq_true rfl) (by decide) ?_
  refine z_iconst (v := 0) d_Model_bits_0 (by decide) ?_
  refine z_istore_n d_Model_bits_1 rfl (by decide) rfl ?_
  refine z_iload_n 1 d_Model_bits_2 rfl rfl ?_
  refine z_istore_n d_Model_bits_3 rfl (by decide) rfl ?_
  refine z_sub [1, 0] rfl ?_
  exact zl_Model_bits_4 2000 ((0 : Int32), x0, σ) h
theorem d_Model_lays_0 : decode b_Model_lays 0 = .ok (.iconst (0), 1) := by decide +kernel
theorem d_Model_lays_1 : decode b_Model_lays 1 = .ok (.istore_n 2, 1) := by decide +kernel
theorem d_Model_lays_2 : decode b_Model_lays 2 = .ok (.iload_n 2, 1) := by decide +kernel
theorem d_Model_lays_3 : decode b_Model_lays 3 = .ok (.bipush (92), 2) := by decide +kernel
theorem d_Model_lays_5 : decode b_Model_lays 5 = .ok (.if_icmp .ge (15), 3) := by decide +kernel
theorem d_Model_lays_8 : decode b_Model_lays 8 = .ok (.aload_n 1, 1) := by decide +kernel
theorem d_Model_lays_9 : decode b_Model_lays 9 = .ok (.iload_n 2, 1) := by decide +kernel
theorem d_Model_lays_10 : decode b_Model_lays 10 = .ok (.aload_n 0, 1) := by decide +kernel
theorem d_Model_lays_11 : decode b_Model_lays 11 = .ok (.iload_n 2, 1) := by decide +kernel
theorem d_Model_lays_12 : decode b_Model_lays 12 = .ok (.iaload, 1) := by decide +kernel
theorem d_Model_lays_13 : decode b_Model_lays 13 = .ok (.iastore, 1) := by decide +kernel
theorem d_Model_lays_14 : decode b_Model_lays 14 = .ok (.iinc 2 (1), 3) := by decide +kernel
theorem d_Model_lays_17 : decode b_Model_lays 17 = .ok (.goto (-15), 3) := by decide +kernel
theorem d_Model_lays_20 : decode b_Model_lays 20 = .ok (.return_, 1) := by decide +kernel
theorem zb_Model_lays_2 {l : Launch} {θ : ZT} {res : Unit × ZM} {k2 : Nat × Nat × Int32 × ZM → Option (Unit × ZM)} (hk2 : ∀ a : Nat × Nat × Int32 × ZM, zR 129 14 a.1 0 92 = true → zR 129 14 a.2.1 0 92 = true → k2 a = some res → WZ l b_Model_lays 3 none "BakedBeforeModel" 129 14 θ (zrm 1 60) (zQ mkV 129 14 θ res) a.2.2.2 [(0, .ref (za θ a.1)), (1, .ref (za θ a.2.1)), (2, .int a.2.2.1)] 2 []) {x0 : Nat} {x1 : Nat} {x2 : Int32} {σ : ZM} (hx0 : zR 129 14 x0 0 92 = true) (hx1 : zR 129 14 x1 0 92 = true) (h : f_Model_lays_2 k2 x0 x1 x2 σ = some res) : WZ l b_Model_lays 3 none "BakedBeforeModel" 129 14 θ (zrm 1 60) (zQ mkV 129 14 θ res) σ [(0, .ref (za θ x0)), (1, .ref (za θ x1)), (2, .int x2)] 2 [] := by
  unfold f_Model_lays_2 at h
  refine z_iload_n 2 d_Model_lays_2 rfl rfl ?_
  refine z_bipush (v := 92) d_Model_lays_3 (by decide) ?_
  refine z_icmp_ge (tgt := 20) d_Model_lays_5 (by decide) (fun c1 => ?_) (fun c1 => ?_)
  · have h := (if_pos c1).symm.trans h
    exact z_vret d_Model_lays_20 h
  · have h := (if_neg c1).symm.trans h
    refine z_aload_n 1 d_Model_lays_8 rfl rfl ?_
    refine z_iload_n 2 d_Model_lays_9 rfl rfl ?_
    refine z_aload_n 0 d_Model_lays_10 rfl rfl ?_
    refine z_iload_n 2 d_Model_lays_11 rfl rfl ?_
    obtain ⟨c2, h⟩ := zck_i h
    refine w_iald hx0 c2 d_Model_lays_12 ?_
    obtain ⟨c3, h⟩ := zck_i h
    refine w_iast hx1 c3 d_Model_lays_13 ?_
    refine z_iinc (v := x2 + (1 : Int32)) 2 d_Model_lays_14 rfl rfl (by decide) rfl ?_
    refine z_goto (tgt := 2) d_Model_lays_17 (by decide) ?_
    refine z_sub [1, 2, 0] rfl ?_
    exact hk2 (x0, x1, (x2 + (1 : Int32)), (zsI σ x1 x2.toNatClampNeg (zI σ x0 x2.toNatClampNeg))) hx0 hx1 h
theorem zl_Model_lays_2 {l : Launch} {θ : ZT} {res : Unit × ZM} : ∀ (N : Nat) (a : Nat × Nat × Int32 × ZM), zR 129 14 a.1 0 92 = true → zR 129 14 a.2.1 0 92 = true → F_Model_lays_2 N a = some res → WZ l b_Model_lays 3 none "BakedBeforeModel" 129 14 θ (zrm 1 60) (zQ mkV 129 14 θ res) a.2.2.2 [(0, .ref (za θ a.1)), (1, .ref (za θ a.2.1)), (2, .int a.2.2.1)] 2 [] := by
  intro N
  induction N with
  | zero => intro a hx0 hx1 h; cases (show (none : Option (Unit × ZM)) = some res from h)
  | succ N ih => intro a hx0 hx1 h; exact zb_Model_lays_2 ih hx0 hx1 (show f_Model_lays_2 (F_Model_lays_2 N) a.1 a.2.1 a.2.2.1 a.2.2.2 = some res from h)
theorem c_Model_lays (l : Launch) (θ : ZT) {x0 : Nat} {x1 : Nat} {σ : ZM} {res : Unit × ZM} (h : f_Model_lays x0 x1 σ = some res) : zMet mkV l 129 14 θ y_Model_lays b_Model_lays 3 none (zrm 1 60) [.ref (za θ x0), .ref (za θ x1)] σ res := by
  unfold f_Model_lays at h
  obtain ⟨hx0, h⟩ := zck_i h
  obtain ⟨hx1, h⟩ := zck_i h
  refine z_met (lv := [(0, .ref (za θ x0)), (1, .ref (za θ x1))]) (by decide +kernel) rfl (Nat.le_of_ble_eq_true rfl) (by decide) ?_
  refine z_iconst (v := 0) d_Model_lays_0 (by decide) ?_
  refine z_istore_n d_Model_lays_1 rfl (by decide) rfl ?_
  refine z_sub [1, 2, 0] rfl ?_
  exact zl_Model_lays_2 2000 (x0, x1, (0 : Int32), σ) hx0 hx1 h
theorem d_Model_begins_0 : decode b_Model_begins 0 = .ok (.aload_n 0, 1) := by decide +kernel
theorem d_Model_begins_1 : decode b_Model_begins 1 = .ok (.getfield 11, 3) := by decide +kernel
theorem d_Model_begins_4 : decode b_Model_begins 4 = .ok (.aload_n 0, 1) := by decide +kernel
theorem d_Model_begins_5 : decode b_Model_begins 5 = .ok (.getfield 18, 3) := by decide +kernel
theorem d_Model_begins_8 : decode b_Model_begins 8 = .ok (.invokestatic 56, 3) := by decide +kernel
theorem d_Model_begins_11 : decode b_Model_begins 11 = .ok (.return_, 1) := by decide +kernel
theorem c_Model_begins (l : Launch) (θ : ZT)  {σ : ZM} {res : Unit × ZM} (h : f_Model_begins σ = some res) : zMet mkV l 129 14 θ y_Model_begins b_Model_begins 1 none (zrm 2 82) [.ref (za θ 129)] σ res := by
  unfold f_Model_begins at h
  refine z_met (lv := [(0, .ref (za θ 129))]) (by decide +kernel) rfl (Nat.le_of_ble_eq_true rfl) (by decide) ?_
  refine z_aload_n 0 d_Model_begins_0 rfl rfl ?_
  refine gf_Model_s zl_129 d_Model_begins_1 q_871 ?_
  refine z_aload_n 0 d_Model_begins_4 rfl rfl ?_
  refine gf_Model_mind zl_129 d_Model_begins_5 q_873 ?_
  obtain ⟨⟨v1, s2⟩, e3, h⟩ := zbd_i h
  refine w_callS (As := [.ref (za θ 130), .ref (za θ 132)]) (c_Model_lays l θ e3) cf_Model_lays q_1128 d_Model_begins_8 rfl rfl rfl (Nat.le_of_ble_eq_true rfl) rfl rfl ⟨Nat.le_of_ble_eq_true rfl, Nat.le_of_ble_eq_true rfl⟩ ?_
  exact z_vret d_Model_begins_11 h
theorem d_Model_ends_0 : decode b_Model_ends 0 = .ok (.aload_n 0, 1) := by decide +kernel
theorem d_Model_ends_1 : decode b_Model_ends 1 = .ok (.getfield 18, 3) := by decide +kernel
theorem d_Model_ends_4 : decode b_Model_ends 4 = .ok (.aload_n 0, 1) := by decide +kernel
theorem d_Model_ends_5 : decode b_Model_ends 5 = .ok (.getfield 11, 3) := by decide +kernel
theorem d_Model_ends_8 : decode b_Model_ends 8 = .ok (.invokestatic 56, 3) := by decide +kernel
theorem d_Model_ends_11 : decode b_Model_ends 11 = .ok (.return_, 1) := by decide +kernel
theorem c_Model_ends (l : Launch) (θ : ZT)  {σ : ZM} {res : Unit × ZM} (h : f_Model_ends σ = some res) : zMet mkV l 129 14 θ y_Model_ends b_Model_ends 1 none (zrm 2 82) [.ref (za θ 129)] σ res := by
  unfold f_Model_ends at h
  refine z_met (lv := [(0, .ref (za θ 129))]) (by decide +kernel) rfl (Nat.le_of_ble_eq_true rfl) (by decide) ?_
  refine z_aload_n 0 d_Model_ends_0 rfl rfl ?_
  refine gf_Model_mind zl_129 d_Model_ends_1 q_873 ?_
  refine z_aload_n 0 d_Model_ends_4 rfl rfl ?_
  refine gf_Model_s zl_129 d_Model_ends_5 q_871 ?_
  obtain ⟨⟨v1, s2⟩, e3, h⟩ := zbd_i h
  refine w_callS (As := [.ref (za θ 132), .ref (za θ 130)]) (c_Model_lays l θ e3) cf_Model_lays q_1128 d_Model_ends_8 rfl rfl rfl (Nat.le_of_ble_eq_true rfl) rfl rfl ⟨Nat.le_of_ble_eq_true rfl, Nat.le_of_ble_eq_true rfl⟩ ?_
  exact z_vret d_Model_ends_11 h
