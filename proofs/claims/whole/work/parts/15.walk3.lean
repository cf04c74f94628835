/-! walks: Asker_bestPlace BB_place Asker_spoilsWithout Asker_guiltyOf BB_guilty Asker_spoiledIn Asker_bestParting BB_two Asker_gainOfFirst Asker_purse BB_has Asker_bakeAhead Asker_bothAgree BB_swaps Asker_reaching Asker_heldBy BB_span Asker_afterYear BB_year Asker_spoilers BB_lowest BB_odds Asker_takenByAll BB_mean Book_append BB_book -/
theorem d_Asker_bestPlace_0 : decode b_Asker_bestPlace 0 = .ok (.aload_n 0, 1) := by decide +kernel
theorem d_Asker_bestPlace_1 : decode b_Asker_bestPlace 1 = .ok (.getfield 12, 3) := by decide +kernel
theorem d_Asker_bestPlace_4 : decode b_Asker_bestPlace 4 = .ok (.aload_n 0, 1) := by decide +kernel
theorem d_Asker_bestPlace_5 : decode b_Asker_bestPlace 5 = .ok (.getfield 22, 3) := by decide +kernel
theorem d_Asker_bestPlace_8 : decode b_Asker_bestPlace 8 = .ok (.getfield 30, 3) := by decide +kernel
theorem d_Asker_bestPlace_11 : decode b_Asker_bestPlace 11 = .ok (.invokevirtual 35, 3) := by decide +kernel
theorem d_Asker_bestPlace_14 : decode b_Asker_bestPlace 14 = .ok (.aload_n 0, 1) := by decide +kernel
theorem d_Asker_bestPlace_15 : decode b_Asker_bestPlace 15 = .ok (.getfield 26, 3) := by decide +kernel
theorem d_Asker_bestPlace_18 : decode b_Asker_bestPlace 18 = .ok (.aload_n 0, 1) := by decide +kernel
theorem d_Asker_bestPlace_19 : decode b_Asker_bestPlace 19 = .ok (.getfield 22, 3) := by decide +kernel
theorem d_Asker_bestPlace_22 : decode b_Asker_bestPlace 22 = .ok (.getfield 39, 3) := by decide +kernel
theorem d_Asker_bestPlace_25 : decode b_Asker_bestPlace 25 = .ok (.iload_n 1, 1) := by decide +kernel
theorem d_Asker_bestPlace_26 : decode b_Asker_bestPlace 26 = .ok (.aaload, 1) := by decide +kernel
theorem d_Asker_bestPlace_27 : decode b_Asker_bestPlace 27 = .ok (.aload_n 0, 1) := by decide +kernel
theorem d_Asker_bestPlace_28 : decode b_Asker_bestPlace 28 = .ok (.getfield 12, 3) := by decide +kernel
theorem d_Asker_bestPlace_31 : decode b_Asker_bestPlace 31 = .ok (.invokevirtual 61, 3) := by decide +kernel
theorem d_Asker_bestPlace_34 : decode b_Asker_bestPlace 34 = .ok (.istore_n 3, 1) := by decide +kernel
theorem d_Asker_bestPlace_35 : decode b_Asker_bestPlace 35 = .ok (.iconst (0), 1) := by decide +kernel
theorem d_Asker_bestPlace_36 : decode b_Asker_bestPlace 36 = .ok (.istore 4, 2) := by decide +kernel
theorem d_Asker_bestPlace_38 : decode b_Asker_bestPlace 38 = .ok (.iconst (0), 1) := by decide +kernel
theorem d_Asker_bestPlace_39 : decode b_Asker_bestPlace 39 = .ok (.istore 5, 2) := by decide +kernel
theorem d_Asker_bestPlace_41 : decode b_Asker_bestPlace 41 = .ok (.iconst (0), 1) := by decide +kernel
theorem d_Asker_bestPlace_42 : decode b_Asker_bestPlace 42 = .ok (.istore 6, 2) := by decide +kernel
theorem d_Asker_bestPlace_44 : decode b_Asker_bestPlace 44 = .ok (.iload 6, 2) := by decide +kernel
theorem d_Asker_bestPlace_46 : decode b_Asker_bestPlace 46 = .ok (.aload_n 0, 1) := by decide +kernel
theorem d_Asker_bestPlace_47 : decode b_Asker_bestPlace 47 = .ok (.getfield 22, 3) := by decide +kernel
theorem d_Asker_bestPlace_50 : decode b_Asker_bestPlace 50 = .ok (.getfield 65, 3) := by decide +kernel
theorem d_Asker_bestPlace_53 : decode b_Asker_bestPlace 53 = .ok (.if_icmp .ge (75), 3) := by decide +kernel
theorem d_Asker_bestPlace_56 : decode b_Asker_bestPlace 56 = .ok (.iload 6, 2) := by decide +kernel
theorem d_Asker_bestPlace_58 : decode b_Asker_bestPlace 58 = .ok (.iload_n 1, 1) := by decide +kernel
theorem d_Asker_bestPlace_59 : decode b_Asker_bestPlace 59 = .ok (.if_icmp .eq (63), 3) := by decide +kernel
theorem d_Asker_bestPlace_62 : decode b_Asker_bestPlace 62 = .ok (.aload_n 0, 1) := by decide +kernel
theorem d_Asker_bestPlace_63 : decode b_Asker_bestPlace 63 = .ok (.getfield 26, 3) := by decide +kernel
theorem d_Asker_bestPlace_66 : decode b_Asker_bestPlace 66 = .ok (.aload_n 0, 1) := by decide +kernel
theorem d_Asker_bestPlace_67 : decode b_Asker_bestPlace 67 = .ok (.getfield 12, 3) := by decide +kernel
theorem d_Asker_bestPlace_70 : decode b_Asker_bestPlace 70 = .ok (.aload_n 0, 1) := by decide +kernel
theorem d_Asker_bestPlace_71 : decode b_Asker_bestPlace 71 = .ok (.getfield 22, 3) := by decide +kernel
theorem d_Asker_bestPlace_74 : decode b_Asker_bestPlace 74 = .ok (.getfield 39, 3) := by decide +kernel
theorem d_Asker_bestPlace_77 : decode b_Asker_bestPlace 77 = .ok (.iload 6, 2) := by decide +kernel
theorem d_Asker_bestPlace_79 : decode b_Asker_bestPlace 79 = .ok (.aaload, 1) := by decide +kernel
theorem d_Asker_bestPlace_80 : decode b_Asker_bestPlace 80 = .ok (.invokevirtual 43, 3) := by decide +kernel
theorem d_Asker_bestPlace_83 : decode b_Asker_bestPlace 83 = .ok (.pop, 1) := by decide +kernel
theorem d_Asker_bestPlace_84 : decode b_Asker_bestPlace 84 = .ok (.iinc 5 (1), 3) := by decide +kernel
theorem d_Asker_bestPlace_87 : decode b_Asker_bestPlace 87 = .ok (.aload_n 0, 1) := by decide +kernel
theorem d_Asker_bestPlace_88 : decode b_Asker_bestPlace 88 = .ok (.getfield 26, 3) := by decide +kernel
theorem d_Asker_bestPlace_91 : decode b_Asker_bestPlace 91 = .ok (.aload_n 0, 1) := by decide +kernel
theorem d_Asker_bestPlace_92 : decode b_Asker_bestPlace 92 = .ok (.getfield 22, 3) := by decide +kernel
theorem d_Asker_bestPlace_95 : decode b_Asker_bestPlace 95 = .ok (.getfield 39, 3) := by decide +kernel
theorem d_Asker_bestPlace_98 : decode b_Asker_bestPlace 98 = .ok (.iload_n 1, 1) := by decide +kernel
theorem d_Asker_bestPlace_99 : decode b_Asker_bestPlace 99 = .ok (.aaload, 1) := by decide +kernel
theorem d_Asker_bestPlace_100 : decode b_Asker_bestPlace 100 = .ok (.aload_n 0, 1) := by decide +kernel
theorem d_Asker_bestPlace_101 : decode b_Asker_bestPlace 101 = .ok (.getfield 12, 3) := by decide +kernel
theorem d_Asker_bestPlace_104 : decode b_Asker_bestPlace 104 = .ok (.invokevirtual 61, 3) := by decide +kernel
theorem d_Asker_bestPlace_107 : decode b_Asker_bestPlace 107 = .ok (.istore 7, 2) := by decide +kernel
theorem d_Asker_bestPlace_109 : decode b_Asker_bestPlace 109 = .ok (.iload 7, 2) := by decide +kernel
theorem d_Asker_bestPlace_111 : decode b_Asker_bestPlace 111 = .ok (.iload_n 3, 1) := by decide +kernel
theorem d_Asker_bestPlace_112 : decode b_Asker_bestPlace 112 = .ok (.if_icmp .ge (10), 3) := by decide +kernel
theorem d_Asker_bestPlace_115 : decode b_Asker_bestPlace 115 = .ok (.iload 7, 2) := by decide +kernel
theorem d_Asker_bestPlace_117 : decode b_Asker_bestPlace 117 = .ok (.istore_n 3, 1) := by decide +kernel
theorem d_Asker_bestPlace_118 : decode b_Asker_bestPlace 118 = .ok (.iload 5, 2) := by decide +kernel
theorem d_Asker_bestPlace_120 : decode b_Asker_bestPlace 120 = .ok (.istore 4, 2) := by decide +kernel
theorem d_Asker_bestPlace_122 : decode b_Asker_bestPlace 122 = .ok (.iinc 6 (1), 3) := by decide +kernel
theorem d_Asker_bestPlace_125 : decode b_Asker_bestPlace 125 = .ok (.goto (-81), 3) := by decide +kernel
theorem d_Asker_bestPlace_128 : decode b_Asker_bestPlace 128 = .ok (.iload_n 2, 1) := by decide +kernel
theorem d_Asker_bestPlace_129 : decode b_Asker_bestPlace 129 = .ok (.ifCond .eq (7), 3) := by decide +kernel
theorem d_Asker_bestPlace_132 : decode b_Asker_bestPlace 132 = .ok (.iload_n 3, 1) := by decide +kernel
theorem d_Asker_bestPlace_133 : decode b_Asker_bestPlace 133 = .ok (.goto (5), 3) := by decide +kernel
theorem d_Asker_bestPlace_136 : decode b_Asker_bestPlace 136 = .ok (.iload 4, 2) := by decide +kernel
theorem d_Asker_bestPlace_138 : decode b_Asker_bestPlace 138 = .ok (.ireturn, 1) := by decide +kernel
theorem zb_Asker_bestPlace_122 {l : Launch} {θ : ZT} {res : Int32 × ZM} {k44 : Int32 × Int32 × Int32 × Int32 × Int32 × Int32 × ZM → Option (Int32 × ZM)} (hk44 : ∀ a : Int32 × Int32 × Int32 × Int32 × Int32 × Int32 × ZM, k44 a = some res → WZ l b_Asker_bestPlace 8 (some .int) "BakedBefore$Aske\x72" 0 129 θ (zrm 6 190) (zQ mkI 0 129 θ res) a.2.2.2.2.2.2 [(0, .ref (za θ 6)), (1, .int a.1), (2, .int a.2.1), (3, .int a.2.2.1), (4, .int a.2.2.2.1), (5, .int a.2.2.2.2.1), (6, .int a.2.2.2.2.2.1)] 44 []) {x1 : Int32} {x2 : Int32} {x3 : Int32} {x4 : Int32} {x5 : Int32} {x6 : Int32} {σ : ZM} (h : f_Asker_bestPlace_122 k44 x1 x2 x3 x4 x5 x6 σ = some res) : WZ l b_Asker_bestPlace 8 (some .int) "BakedBefore$Aske\x72" 0 129 θ (zrm 6 190) (zQ mkI 0 129 θ res) σ [(0, .ref (za θ 6)), (1, .int x1), (2, .int x2), (3, .int x3), (4, .int x4), (5, .int x5), (6, .int x6)] 122 [] := by
  unfold f_Asker_bestPlace_122 at h
  refine z_iinc (v := x6 + (1 : Int32)) 6 d_Asker_bestPlace_122 rfl rfl (by decide) rfl ?_
  refine z_goto (tgt := 44) d_Asker_bestPlace_125 (by decide) ?_
  refine z_sub [1, 2, 3, 4, 5, 6, 0] rfl ?_
  exact hk44 (x1, x2, x3, x4, x5, (x6 + (1 : Int32)), σ) h
theorem zb_Asker_bestPlace_44 {l : Launch} {θ : ZT} {res : Int32 × ZM} {k44 : Int32 × Int32 × Int32 × Int32 × Int32 × Int32 × ZM → Option (Int32 × ZM)} (hk44 : ∀ a : Int32 × Int32 × Int32 × Int32 × Int32 × Int32 × ZM, k44 a = some res → WZ l b_Asker_bestPlace 8 (some .int) "BakedBefore$Aske\x72" 0 129 θ (zrm 6 190) (zQ mkI 0 129 θ res) a.2.2.2.2.2.2 [(0, .ref (za θ 6)), (1, .int a.1), (2, .int a.2.1), (3, .int a.2.2.1), (4, .int a.2.2.2.1), (5, .int a.2.2.2.2.1), (6, .int a.2.2.2.2.2.1)] 44 []) {x1 : Int32} {x2 : Int32} {x3 : Int32} {x4 : Int32} {x5 : Int32} {x6 : Int32} {σ : ZM} (h : f_Asker_bestPlace_44 k44 x1 x2 x3 x4 x5 x6 σ = some res) : WZ l b_Asker_bestPlace 8 (some .int) "BakedBefore$Aske\x72" 0 129 θ (zrm 6 190) (zQ mkI 0 129 θ res) σ [(0, .ref (za θ 6)), (1, .int x1), (2, .int x2), (3, .int x3), (4, .int x4), (5, .int x5), (6, .int x6)] 44 [] := by
  unfold f_Asker_bestPlace_44 at h
  refine z_iload 6 d_Asker_bestPlace_44 rfl ?_
  refine z_aload_n 0 d_Asker_bestPlace_46 rfl rfl ?_
  refine gf_Asker_now zl_6 d_Asker_bestPlace_47 q_222 ?_
  refine gf_Stand_many zl_1 d_Asker_bestPlace_50 q_128 ?_
  refine z_icmp_ge (tgt := 128) d_Asker_bestPlace_53 (by decide) (fun c1 => ?_) (fun c1 => ?_)
  · have h := (if_pos c1).symm.trans h
    refine z_iload_n 2 d_Asker_bestPlace_128 rfl rfl ?_
    refine z_if_eq (tgt := 136) d_Asker_bestPlace_129 (by decide) (fun c2 => ?_) (fun c2 => ?_)
    · have h := (if_pos c2).symm.trans h
      refine z_iload 4 d_Asker_bestPlace_136 rfl ?_
      exact z_iret d_Asker_bestPlace_138 h
    · have h := (if_neg c2).symm.trans h
      refine z_iload_n 3 d_Asker_bestPlace_132 rfl rfl ?_
      refine z_goto (tgt := 138) d_Asker_bestPlace_133 (by decide) ?_
      exact z_iret d_Asker_bestPlace_138 h
  · have h := (if_neg c1).symm.trans h
    refine z_iload 6 d_Asker_bestPlace_56 rfl ?_
    refine z_iload_n 1 d_Asker_bestPlace_58 rfl rfl ?_
    refine z_icmp_eq (tgt := 122) d_Asker_bestPlace_59 (by decide) (fun c3 => ?_) (fun c3 => ?_)
    · have h := (if_pos c3).symm.trans h
      exact zb_Asker_bestPlace_122 hk44 h
    · have h := (if_neg c3).symm.trans h
      refine z_aload_n 0 d_Asker_bestPlace_62 rfl rfl ?_
      refine gf_Asker_baker zl_6 d_Asker_bestPlace_63 q_223 ?_
      refine z_aload_n 0 d_Asker_bestPlace_66 rfl rfl ?_
      refine gf_Asker_trial zl_6 d_Asker_bestPlace_67 q_224 ?_
      refine z_aload_n 0 d_Asker_bestPlace_70 rfl rfl ?_
      refine gf_Asker_now zl_6 d_Asker_bestPlace_71 q_222 ?_
      refine gf_Stand_loaves (o2 := 25) zl_1 rfl d_Asker_bestPlace_74 q_115 ?_
      refine z_iload 6 d_Asker_bestPlace_77 rfl ?_
      obtain ⟨c4, h⟩ := zck_i h
      refine w_aald3 zl_25 c4 d_Asker_bestPlace_79 ?_
      obtain ⟨c5, h⟩ := zck_i h
      obtain ⟨⟨v6, s7⟩, e8, h⟩ := zbd_i h
      refine w_callV (As := [.ref (za θ 35), .ref (za θ (zel 25 x6.toNatClampNeg))]) (kc := 13) (ci := 3) (c_Baker_bakeIn l θ e8) cf_Baker_bakeIn q_584 d_Asker_bestPlace_80 zl_5 rfl rfl rfl rfl rfl rfl (Nat.le_of_ble_eq_true rfl) rfl rfl ⟨Nat.le_of_ble_eq_true rfl, Nat.le_of_ble_eq_true rfl⟩ ?_
      refine z_pop d_Asker_bestPlace_83 rfl ?_
      refine z_iinc (v := x5 + (1 : Int32)) 5 d_Asker_bestPlace_84 rfl rfl (by decide) rfl ?_
      refine z_aload_n 1 d_Asker_bestPlace_87 rfl rfl ?_
      refine gf_Asker_baker zl_6 d_Asker_bestPlace_88 q_223 ?_
      refine z_aload_n 1 d_Asker_bestPlace_91 rfl rfl ?_
      refine gf_Asker_now zl_6 d_Asker_bestPlace_92 q_222 ?_
      refine gf_Stand_loaves (o2 := 25) zl_1 rfl d_Asker_bestPlace_95 q_115 ?_
      refine z_iload_n 2 d_Asker_bestPlace_98 rfl rfl ?_
      obtain ⟨c9, h⟩ := zck_i h
      refine w_aald3 zl_25 c9 d_Asker_bestPlace_99 ?_
      obtain ⟨c10, h⟩ := zck_i h
      refine z_aload_n 1 d_Asker_bestPlace_100 rfl rfl ?_
      refine gf_Asker_trial zl_6 d_Asker_bestPlace_101 q_224 ?_
      obtain ⟨⟨v11, s12⟩, e13, h⟩ := zbd_i h
      refine w_callV (As := [.ref (za θ (zel 25 x1.toNatClampNeg)), .ref (za θ 35)]) (kc := 13) (ci := 3) (c_Baker_takesOfAll l θ e13) cf_Baker_takesOfAll q_639 d_Asker_bestPlace_104 zl_5 rfl rfl rfl rfl rfl rfl (Nat.le_of_ble_eq_true rfl) rfl rfl ⟨Nat.le_of_ble_eq_true rfl, Nat.le_of_ble_eq_true rfl⟩ ?_
      refine z_istore d_Asker_bestPlace_107 (by decide) rfl ?_
      refine z_iload 0 d_Asker_bestPlace_109 rfl ?_
      refine z_iload_n 5 d_Asker_bestPlace_111 rfl rfl ?_
      refine z_icmp_ge (tgt := 122) d_Asker_bestPlace_112 (by decide) (fun c14 => ?_) (fun c14 => ?_)
      · have h := (if_pos c14).symm.trans h
        refine z_sub [2, 3, 4, 5, 6, 1, 7] rfl ?_
        exact zb_Asker_bestPlace_122 hk44 h
      · have h := (if_neg c14).symm.trans h
        refine z_iload 0 d_Asker_bestPlace_115 rfl ?_
        refine z_istore_n d_Asker_bestPlace_117 rfl (by decide) rfl ?_
        refine z_iload 2 d_Asker_bestPlace_118 rfl ?_
        refine z_istore d_Asker_bestPlace_120 (by decide) rfl ?_
        refine z_sub [4, 5, 6, 1, 0, 3, 7] rfl ?_
        exact zb_Asker_bestPlace_122 hk44 h
theorem zl_Asker_bestPlace_44 {l : Launch} {θ : ZT} {res : Int32 × ZM} : ∀ (N : Nat) (a : Int32 × Int32 × Int32 × Int32 × Int32 × Int32 × ZM), F_Asker_bestPlace_44 N a = some res → WZ l b_Asker_bestPlace 8 (some .int) "BakedBefore$Aske\x72" 0 129 θ (zrm 6 190) (zQ mkI 0 129 θ res) a.2.2.2.2.2.2 [(0, .ref (za θ 6)), (1, .int a.1), (2, .int a.2.1), (3, .int a.2.2.1), (4, .int a.2.2.2.1), (5, .int a.2.2.2.2.1), (6, .int a.2.2.2.2.2.1)] 44 [] := by
  intro N
  induction N with
  | zero => intro a  h; cases (show (none : Option (Int32 × ZM)) = some res from h)
  | succ N ih => intro a  h; exact zb_Asker_bestPlace_44 ih (show f_Asker_bestPlace_44 (F_Asker_bestPlace_44 N) a.1 a.2.1 a.2.2.1 a.2.2.2.1 a.2.2.2.2.1 a.2.2.2.2.2.1 a.2.2.2.2.2.2 = some res from h)
theorem c_Asker_bestPlace (l : Launch) (θ : ZT) {x1 : Int32} {x2 : Int32} {σ : ZM} {res : Int32 × ZM} (h : f_Asker_bestPlace x1 x2 σ = some res) : zMet mkI l 0 129 θ y_Asker_bestPlace b_Asker_bestPlace 8 (some .int) (zrm 6 190) [.ref (za θ 6), .int x1, .int x2] σ res := by
  unfold f_Asker_bestPlace at h
  refine z_met (lv := [(0, .ref (za θ 6)), (1, .int x1), (2, .int x2)]) (by decide +kernel) rfl (Nat.le_of_ble_eq_true rfl) (by decide) ?_
  refine z_aload_n 0 d_Asker_bestPlace_0 rfl rfl ?_
  refine gf_Asker_trial zl_6 d_Asker_bestPlace_1 q_224 ?_
  refine z_aload_n 0 d_Asker_bestPlace_4 rfl rfl ?_
  refine gf_Asker_now zl_6 d_Asker_bestPlace_5 q_222 ?_
  refine gf_Stand_oven (o2 := 33) zl_1 rfl d_Asker_bestPlace_8 q_119 ?_
  obtain ⟨⟨v1, s2⟩, e3, h⟩ := zbd_i h
  refine w_callV (As := [.ref (za θ 33)]) (kc := 17) (ci := 7) (c_Oven_become l θ e3) cf_Oven_become q_580 d_Asker_bestPlace_11 zl_35 rfl rfl rfl rfl rfl rfl (Nat.le_of_ble_eq_true rfl) rfl rfl ⟨Nat.le_of_ble_eq_true rfl, Nat.le_of_ble_eq_true rfl⟩ ?_
  refine z_aload_n 0 d_Asker_bestPlace_14 rfl rfl ?_
  refine gf_Asker_baker zl_6 d_Asker_bestPlace_15 q_223 ?_
  refine z_aload_n 0 d_Asker_bestPlace_18 rfl rfl ?_
  refine gf_Asker_now zl_6 d_Asker_bestPlace_19 q_222 ?_
  refine gf_Stand_loaves (o2 := 25) zl_1 rfl d_Asker_bestPlace_22 q_115 ?_
  refine z_iload_n 1 d_Asker_bestPlace_25 rfl rfl ?_
  obtain ⟨c4, h⟩ := zck_i h
  refine w_aald3 zl_25 c4 d_Asker_bestPlace_26 ?_
  obtain ⟨c5, h⟩ := zck_i h
  refine z_aload_n 0 d_Asker_bestPlace_27 rfl rfl ?_
  refine gf_Asker_trial zl_6 d_Asker_bestPlace_28 q_224 ?_
  obtain ⟨⟨v6, s7⟩, e8, h⟩ := zbd_i h
  refine w_callV (As := [.ref (za θ (zel 25 x1.toNatClampNeg)), .ref (za θ 35)]) (kc := 13) (ci := 3) (c_Baker_takesOfAll l θ e8) cf_Baker_takesOfAll q_639 d_Asker_bestPlace_31 zl_5 rfl rfl rfl rfl rfl rfl (Nat.le_of_ble_eq_true rfl) rfl rfl ⟨Nat.le_of_ble_eq_true rfl, Nat.le_of_ble_eq_true rfl⟩ ?_
  refine z_istore_n d_Asker_bestPlace_34 rfl (by decide) rfl ?_
  refine z_iconst (v := 0) d_Asker_bestPlace_35 (by decide) ?_
  refine z_istore d_Asker_bestPlace_36 (by decide) rfl ?_
  refine z_iconst (v := 0) d_Asker_bestPlace_38 (by decide) ?_
  refine z_istore d_Asker_bestPlace_39 (by decide) rfl ?_
  refine z_iconst (v := 0) d_Asker_bestPlace_41 (by decide) ?_
  refine z_istore d_Asker_bestPlace_42 (by decide) rfl ?_
  refine z_sub [4, 5, 6, 3, 2, 1, 0] rfl ?_
  exact zl_Asker_bestPlace_44 2000 (x1, x2, v6, (0 : Int32), (0 : Int32), (0 : Int32), s7) h
theorem d_BB_place_0 : decode b_BB_place 0 = .ok (.aload_n 0, 1) := by decide +kernel
theorem d_BB_place_1 : decode b_BB_place 1 = .ok (.iload_n 1, 1) := by decide +kernel
theorem d_BB_place_2 : decode b_BB_place 2 = .ok (.invokevirtual 92, 3) := by decide +kernel
theorem d_BB_place_5 : decode b_BB_place 5 = .ok (.ifCond .eq (12), 3) := by decide +kernel
theorem d_BB_place_8 : decode b_BB_place 8 = .ok (.iload_n 2, 1) := by decide +kernel
theorem d_BB_place_9 : decode b_BB_place 9 = .ok (.ifCond .lt (8), 3) := by decide +kernel
theorem d_BB_place_12 : decode b_BB_place 12 = .ok (.iload_n 2, 1) := by decide +kernel
theorem d_BB_place_13 : decode b_BB_place 13 = .ok (.iconst (1), 1) := by decide +kernel
theorem d_BB_place_14 : decode b_BB_place 14 = .ok (.if_icmp .le (5), 3) := by decide +kernel
theorem d_BB_place_17 : decode b_BB_place 17 = .ok (.iconst (-1), 1) := by decide +kernel
theorem d_BB_place_18 : decode b_BB_place 18 = .ok (.ireturn, 1) := by decide +kernel
theorem d_BB_place_19 : decode b_BB_place 19 = .ok (.aload_n 0, 1) := by decide +kernel
theorem d_BB_place_20 : decode b_BB_place 20 = .ok (.getfield 53, 3) := by decide +kernel
theorem d_BB_place_23 : decode b_BB_place 23 = .ok (.iload_n 1, 1) := by decide +kernel
theorem d_BB_place_24 : decode b_BB_place 24 = .ok (.iload_n 2, 1) := by decide +kernel
theorem d_BB_place_25 : decode b_BB_place 25 = .ok (.iconst (1), 1) := by decide +kernel
theorem d_BB_place_26 : decode b_BB_place 26 = .ok (.if_icmp .ne (7), 3) := by decide +kernel
theorem d_BB_place_29 : decode b_BB_place 29 = .ok (.iconst (1), 1) := by decide +kernel
theorem d_BB_place_30 : decode b_BB_place 30 = .ok (.goto (4), 3) := by decide +kernel
theorem d_BB_place_33 : decode b_BB_place 33 = .ok (.iconst (0), 1) := by decide +kernel
theorem d_BB_place_34 : decode b_BB_place 34 = .ok (.invokevirtual 199, 3) := by decide +kernel
theorem d_BB_place_37 : decode b_BB_place 37 = .ok (.ireturn, 1) := by decide +kernel
theorem zb_BB_place_34 {l : Launch} {θ : ZT} {res : Int32 × ZM} {y0 : Int32} {y1 : Int32} {σ : ZM} (h : f_BB_place_34 y0 y1 σ = some res) : WZ l b_BB_place 3 (some .int) "BakedBefore" 0 129 θ (zrm 7 217) (zQ mkI 0 129 θ res) σ [] 34 [.int y0, .int y1, .ref (za θ 6)] := by
  unfold f_BB_place_34 at h
  obtain ⟨⟨v1, s2⟩, e3, h⟩ := zbd_i h
  refine w_callV (As := [.int y1, .int y0]) (kc := 12) (ci := 2) (c_Asker_bestPlace l θ e3) cf_Asker_bestPlace q_635 d_BB_place_34 zl_6 rfl rfl rfl rfl rfl rfl (Nat.le_of_ble_eq_true rfl) rfl rfl ⟨Nat.le_of_ble_eq_true rfl, Nat.le_of_ble_eq_true rfl⟩ ?_
  exact z_iret d_BB_place_37 h
theorem c_BB_place (l : Launch) (θ : ZT) {x1 : Int32} {x2 : Int32} {σ : ZM} {res : Int32 × ZM} (h : f_BB_place x1 x2 σ = some res) : zMet mkI l 0 129 θ y_BB_place b_BB_place 3 (some .int) (zrm 7 217) [.ref (za θ 0), .int x1, .int x2] σ res := by
  unfold f_BB_place at h
  refine z_met (lv := [(0, .ref (za θ 0)), (1, .int x1), (2, .int x2)]) (by decide +kernel) rfl (Nat.le_of_ble_eq_true rfl) (by decide) ?_
  refine z_aload_n 0 d_BB_place_0 rfl rfl ?_
  refine z_iload_n 1 d_BB_place_1 rfl rfl ?_
  obtain ⟨⟨v1, s2⟩, e3, h⟩ := zbd_i h
  refine w_callV (As := [.int x1]) (kc := 10) (ci := 0) (c_BB_isLoaf l θ e3) cf_BB_isLoaf q_352 d_BB_place_2 zl_0 rfl rfl rfl rfl rfl rfl (Nat.le_of_ble_eq_true rfl) rfl rfl ⟨Nat.le_of_ble_eq_true rfl, Nat.le_of_ble_eq_true rfl⟩ ?_
  refine z_if_eq (tgt := 17) d_BB_place_5 (by decide) (fun c4 => ?_) (fun c4 => ?_)
  · have h := (if_pos c4).symm.trans h
    refine z_iconst (v := -1) d_BB_place_17 (by decide) ?_
    exact z_iret d_BB_place_18 h
  · have h := (if_neg c4).symm.trans h
    refine z_iload_n 2 d_BB_place_8 rfl rfl ?_
    refine z_if_lt (tgt := 17) d_BB_place_9 (by decide) (fun c5 => ?_) (fun c5 => ?_)
    · have h := (if_pos c5).symm.trans h
      refine z_iconst (v := -1) d_BB_place_17 (by decide) ?_
      exact z_iret d_BB_place_18 h
    · have h := (if_neg c5).symm.trans h
      refine z_iload_n 2 d_BB_place_12 rfl rfl ?_
      refine z_iconst (v := 1) d_BB_place_13 (by decide) ?_
      refine z_icmp_le (tgt := 19) d_BB_place_14 (by decide) (fun c6 => ?_) (fun c6 => ?_)
      · have h := (if_pos c6).symm.trans h
        refine z_aload_n 0 d_BB_place_19 rfl rfl ?_
        refine gf_BB_asker zl_0 d_BB_place_20 q_309 ?_
        refine z_iload_n 1 d_BB_place_23 rfl rfl ?_
        refine z_iload_n 2 d_BB_place_24 rfl rfl ?_
        refine z_iconst (v := 1) d_BB_place_25 (by decide) ?_
        refine z_icmp_ne (tgt := 33) d_BB_place_26 (by decide) (fun c7 => ?_) (fun c7 => ?_)
        · have h := (if_neg c7).symm.trans h
          refine z_iconst (v := 0) d_BB_place_33 (by decide) ?_
          refine z_sub [] rfl ?_
          exact zb_BB_place_34 h
        · have h := (if_pos c7).symm.trans h
          refine z_iconst (v := 1) d_BB_place_29 (by decide) ?_
          refine z_goto (tgt := 34) d_BB_place_30 (by decide) ?_
          refine z_sub [] rfl ?_
          exact zb_BB_place_34 h
      · have h := (if_neg c6).symm.trans h
        refine z_iconst (v := -1) d_BB_place_17 (by decide) ?_
        exact z_iret d_BB_place_18 h
theorem d_Asker_spoilsWithout_0 : decode b_Asker_spoilsWithout 0 = .ok (.aload_n 0, 1) := by decide +kernel
theorem d_Asker_spoilsWithout_1 : decode b_Asker_spoilsWithout 1 = .ok (.getfield 12, 3) := by decide +kernel
theorem d_Asker_spoilsWithout_4 : decode b_Asker_spoilsWithout 4 = .ok (.aload_n 0, 1) := by decide +kernel
theorem d_Asker_spoilsWithout_5 : decode b_Asker_spoilsWithout 5 = .ok (.getfield 22, 3) := by decide +kernel
theorem d_Asker_spoilsWithout_8 : decode b_Asker_spoilsWithout 8 = .ok (.getfield 30, 3) := by decide +kernel
theorem d_Asker_spoilsWithout_11 : decode b_Asker_spoilsWithout 11 = .ok (.invokevirtual 35, 3) := by decide +kernel
theorem d_Asker_spoilsWithout_14 : decode b_Asker_spoilsWithout 14 = .ok (.iconst (0), 1) := by decide +kernel
theorem d_Asker_spoilsWithout_15 : decode b_Asker_spoilsWithout 15 = .ok (.istore_n 3, 1) := by decide +kernel
theorem d_Asker_spoilsWithout_16 : decode b_Asker_spoilsWithout 16 = .ok (.iload_n 3, 1) := by decide +kernel
theorem d_Asker_spoilsWithout_17 : decode b_Asker_spoilsWithout 17 = .ok (.iload_n 1, 1) := by decide +kernel
theorem d_Asker_spoilsWithout_18 : decode b_Asker_spoilsWithout 18 = .ok (.if_icmp .ge (35), 3) := by decide +kernel
theorem d_Asker_spoilsWithout_21 : decode b_Asker_spoilsWithout 21 = .ok (.iload_n 3, 1) := by decide +kernel
theorem d_Asker_spoilsWithout_22 : decode b_Asker_spoilsWithout 22 = .ok (.iload_n 2, 1) := by decide +kernel
theorem d_Asker_spoilsWithout_23 : decode b_Asker_spoilsWithout 23 = .ok (.if_icmp .eq (24), 3) := by decide +kernel
theorem d_Asker_spoilsWithout_26 : decode b_Asker_spoilsWithout 26 = .ok (.aload_n 0, 1) := by decide +kernel
theorem d_Asker_spoilsWithout_27 : decode b_Asker_spoilsWithout 27 = .ok (.getfield 26, 3) := by decide +kernel
theorem d_Asker_spoilsWithout_30 : decode b_Asker_spoilsWithout 30 = .ok (.aload_n 0, 1) := by decide +kernel
theorem d_Asker_spoilsWithout_31 : decode b_Asker_spoilsWithout 31 = .ok (.getfield 12, 3) := by decide +kernel
theorem d_Asker_spoilsWithout_34 : decode b_Asker_spoilsWithout 34 = .ok (.aload_n 0, 1) := by decide +kernel
theorem d_Asker_spoilsWithout_35 : decode b_Asker_spoilsWithout 35 = .ok (.getfield 22, 3) := by decide +kernel
theorem d_Asker_spoilsWithout_38 : decode b_Asker_spoilsWithout 38 = .ok (.getfield 39, 3) := by decide +kernel
theorem d_Asker_spoilsWithout_41 : decode b_Asker_spoilsWithout 41 = .ok (.iload_n 3, 1) := by decide +kernel
theorem d_Asker_spoilsWithout_42 : decode b_Asker_spoilsWithout 42 = .ok (.aaload, 1) := by decide +kernel
theorem d_Asker_spoilsWithout_43 : decode b_Asker_spoilsWithout 43 = .ok (.invokevirtual 43, 3) := by decide +kernel
theorem d_Asker_spoilsWithout_46 : decode b_Asker_spoilsWithout 46 = .ok (.pop, 1) := by decide +kernel
theorem d_Asker_spoilsWithout_47 : decode b_Asker_spoilsWithout 47 = .ok (.iinc 3 (1), 3) := by decide +kernel
theorem d_Asker_spoilsWithout_50 : decode b_Asker_spoilsWithout 50 = .ok (.goto (-34), 3) := by decide +kernel
theorem d_Asker_spoilsWithout_53 : decode b_Asker_spoilsWithout 53 = .ok (.aload_n 0, 1) := by decide +kernel
theorem d_Asker_spoilsWithout_54 : decode b_Asker_spoilsWithout 54 = .ok (.getfield 26, 3) := by decide +kernel
theorem d_Asker_spoilsWithout_57 : decode b_Asker_spoilsWithout 57 = .ok (.aload_n 0, 1) := by decide +kernel
theorem d_Asker_spoilsWithout_58 : decode b_Asker_spoilsWithout 58 = .ok (.getfield 22, 3) := by decide +kernel
theorem d_Asker_spoilsWithout_61 : decode b_Asker_spoilsWithout 61 = .ok (.getfield 39, 3) := by decide +kernel
theorem d_Asker_spoilsWithout_64 : decode b_Asker_spoilsWithout 64 = .ok (.iload_n 1, 1) := by decide +kernel
theorem d_Asker_spoilsWithout_65 : decode b_Asker_spoilsWithout 65 = .ok (.aaload, 1) := by decide +kernel
theorem d_Asker_spoilsWithout_66 : decode b_Asker_spoilsWithout 66 = .ok (.aload_n 0, 1) := by decide +kernel
theorem d_Asker_spoilsWithout_67 : decode b_Asker_spoilsWithout 67 = .ok (.getfield 12, 3) := by decide +kernel
theorem d_Asker_spoilsWithout_70 : decode b_Asker_spoilsWithout 70 = .ok (.invokevirtual 53, 3) := by decide +kernel
theorem d_Asker_spoilsWithout_73 : decode b_Asker_spoilsWithout 73 = .ok (.ireturn, 1) := by decide +kernel
theorem zb_Asker_spoilsWithout_47 {l : Launch} {θ : ZT} {res : Int32 × ZM} {k16 : Int32 × Int32 × Int32 × ZM → Option (Int32 × ZM)} (hk16 : ∀ a : Int32 × Int32 × Int32 × ZM, k16 a = some res → WZ l b_Asker_spoilsWithout 4 (some .boolean) "BakedBefore$Aske\x72" 0 129 θ (zrm 6 190) (zQ mkI 0 129 θ res) a.2.2.2 [(0, .ref (za θ 6)), (1, .int a.1), (2, .int a.2.1), (3, .int a.2.2.1)] 16 []) {x1 : Int32} {x2 : Int32} {x3 : Int32} {σ : ZM} (h : f_Asker_spoilsWithout_47 k16 x1 x2 x3 σ = some res) : WZ l b_Asker_spoilsWithout 4 (some .boolean) "BakedBefore$Aske\x72" 0 129 θ (zrm 6 190) (zQ mkI 0 129 θ res) σ [(0, .ref (za θ 6)), (1, .int x1), (2, .int x2), (3, .int x3)] 47 [] := by
  unfold f_Asker_spoilsWithout_47 at h
  refine z_iinc (v := x3 + (1 : Int32)) 3 d_Asker_spoilsWithout_47 rfl rfl (by decide) rfl ?_
  refine z_goto (tgt := 16) d_Asker_spoilsWithout_50 (by decide) ?_
  refine z_sub [1, 2, 3, 0] rfl ?_
  exact hk16 (x1, x2, (x3 + (1 : Int32)), σ) h
theorem zb_Asker_spoilsWithout_16 {l : Launch} {θ : ZT} {res : Int32 × ZM} {k16 : Int32 × Int32 × Int32 × ZM → Option (Int32 × ZM)} (hk16 : ∀ a : Int32 × Int32 × Int32 × ZM, k16 a = some res → WZ l b_Asker_spoilsWithout 4 (some .boolean) "BakedBefore$Aske\x72" 0 129 θ (zrm 6 190) (zQ mkI 0 129 θ res) a.2.2.2 [(0, .ref (za θ 6)), (1, .int a.1), (2, .int a.2.1), (3, .int a.2.2.1)] 16 []) {x1 : Int32} {x2 : Int32} {x3 : Int32} {σ : ZM} (h : f_Asker_spoilsWithout_16 k16 x1 x2 x3 σ = some res) : WZ l b_Asker_spoilsWithout 4 (some .boolean) "BakedBefore$Aske\x72" 0 129 θ (zrm 6 190) (zQ mkI 0 129 θ res) σ [(0, .ref (za θ 6)), (1, .int x1), (2, .int x2), (3, .int x3)] 16 [] := by
  unfold f_Asker_spoilsWithout_16 at h
  refine z_iload_n 3 d_Asker_spoilsWithout_16 rfl rfl ?_
  refine z_iload_n 1 d_Asker_spoilsWithout_17 rfl rfl ?_
  refine z_icmp_ge (tgt := 53) d_Asker_spoilsWithout_18 (by decide) (fun c1 => ?_) (fun c1 => ?_)
  · have h := (if_pos c1).symm.trans h
    refine z_aload_n 0 d_Asker_spoilsWithout_53 rfl rfl ?_
    refine gf_Asker_baker zl_6 d_Asker_spoilsWithout_54 q_223 ?_
    refine z_aload_n 0 d_Asker_spoilsWithout_57 rfl rfl ?_
    refine gf_Asker_now zl_6 d_Asker_spoilsWithout_58 q_222 ?_
    refine gf_Stand_loaves (o2 := 25) zl_1 rfl d_Asker_spoilsWithout_61 q_115 ?_
    refine z_iload_n 1 d_Asker_spoilsWithout_64 rfl rfl ?_
    obtain ⟨c2, h⟩ := zck_i h
    refine w_aald3 zl_25 c2 d_Asker_spoilsWithout_65 ?_
    obtain ⟨c3, h⟩ := zck_i h
    refine z_aload_n 0 d_Asker_spoilsWithout_66 rfl rfl ?_
    refine gf_Asker_trial zl_6 d_Asker_spoilsWithout_67 q_224 ?_
    obtain ⟨⟨v4, s5⟩, e6, h⟩ := zbd_i h
    refine w_callV (As := [.ref (za θ (zel 25 x1.toNatClampNeg)), .ref (za θ 35)]) (kc := 13) (ci := 3) (c_Baker_spoils l θ e6) cf_Baker_spoils q_586 d_Asker_spoilsWithout_70 zl_5 rfl rfl rfl rfl rfl rfl (Nat.le_of_ble_eq_true rfl) rfl rfl ⟨Nat.le_of_ble_eq_true rfl, Nat.le_of_ble_eq_true rfl⟩ ?_
    obtain ⟨c7, h⟩ := zck_i h
    exact z_zret d_Asker_spoilsWithout_73 c7 h
  · have h := (if_neg c1).symm.trans h
    refine z_iload_n 3 d_Asker_spoilsWithout_21 rfl rfl ?_
    refine z_iload_n 2 d_Asker_spoilsWithout_22 rfl rfl ?_
    refine z_icmp_eq (tgt := 47) d_Asker_spoilsWithout_23 (by decide) (fun c8 => ?_) (fun c8 => ?_)
    · have h := (if_pos c8).symm.trans h
      exact zb_Asker_spoilsWithout_47 hk16 h
    · have h := (if_neg c8).symm.trans h
      refine z_aload_n 0 d_Asker_spoilsWithout_26 rfl rfl ?_
      refine gf_Asker_baker zl_6 d_Asker_spoilsWithout_27 q_223 ?_
      refine z_aload_n 0 d_Asker_spoilsWithout_30 rfl rfl ?_
      refine gf_Asker_trial zl_6 d_Asker_spoilsWithout_31 q_224 ?_
      refine z_aload_n 0 d_Asker_spoilsWithout_34 rfl rfl ?_
      refine gf_Asker_now zl_6 d_Asker_spoilsWithout_35 q_222 ?_
      refine gf_Stand_loaves (o2 := 25) zl_1 rfl d_Asker_spoilsWithout_38 q_115 ?_
      refine z_iload_n 3 d_Asker_spoilsWithout_41 rfl rfl ?_
      obtain ⟨c9, h⟩ := zck_i h
      refine w_aald3 zl_25 c9 d_Asker_spoilsWithout_42 ?_
      obtain ⟨c10, h⟩ := zck_i h
      obtain ⟨⟨v11, s12⟩, e13, h⟩ := zbd_i h
      refine w_callV (As := [.ref (za θ 35), .ref (za θ (zel 25 x3.toNatClampNeg))]) (kc := 13) (ci := 3) (c_Baker_bakeIn l θ e13) cf_Baker_bakeIn q_584 d_Asker_spoilsWithout_43 zl_5 rfl rfl rfl rfl rfl rfl (Nat.le_of_ble_eq_true rfl) rfl rfl ⟨Nat.le_of_ble_eq_true rfl, Nat.le_of_ble_eq_true rfl⟩ ?_
      refine z_pop d_Asker_spoilsWithout_46 rfl ?_
      exact zb_Asker_spoilsWithout_47 hk16 h
theorem zl_Asker_spoilsWithout_16 {l : Launch} {θ : ZT} {res : Int32 × ZM} : ∀ (N : Nat) (a : Int32 × Int32 × Int32 × ZM), F_Asker_spoilsWithout_16 N a = some res → WZ l b_Asker_spoilsWithout 4 (some .boolean) "BakedBefore$Aske\x72" 0 129 θ (zrm 6 190) (zQ mkI 0 129 θ res) a.2.2.2 [(0, .ref (za θ 6)), (1, .int a.1), (2, .int a.2.1), (3, .int a.2.2.1)] 16 [] := by
  intro N
  induction N with
  | zero => intro a  h; cases (show (none : Option (Int32 × ZM)) = some res from h)
  | succ N ih => intro a  h; exact zb_Asker_spoilsWithout_16 ih (show f_Asker_spoilsWithout_16 (F_Asker_spoilsWithout_16 N) a.1 a.2.1 a.2.2.1 a.2.2.2 = some res from h)
theorem c_Asker_spoilsWithout (l : Launch) (θ : ZT) {x1 : Int32} {x2 : Int32} {σ : ZM} {res : Int32 × ZM} (h : f_Asker_spoilsWithout x1 x2 σ = some res) : zMet mkI l 0 129 θ y_Asker_spoilsWithout b_Asker_spoilsWithout 4 (some .boolean) (zrm 6 190) [.ref (za θ 6), .int x1, .int x2] σ res := by
  unfold f_Asker_spoilsWithout at h
  refine z_met (lv := [(0, .ref (za θ 6)), (1, .int x1), (2, .int x2)]) (by decide +kernel) rfl (Nat.le_of_ble_eq_true rfl) (by decide) ?_
  refine z_aload_n 0 d_Asker_spoilsWithout_0 rfl rfl ?_
  refine gf_Asker_trial zl_6 d_Asker_spoilsWithout_1 q_224 ?_
  refine z_aload_n 0 d_Asker_spoilsWithout_4 rfl rfl ?_
  refine gf_Asker_now zl_6 d_Asker_spoilsWithout_5 q_222 ?_
  refine gf_Stand_oven (o2 := 33) zl_1 rfl d_Asker_spoilsWithout_8 q_119 ?_
  obtain ⟨⟨v1, s2⟩, e3, h⟩ := zbd_i h
  refine w_callV (As := [.ref (za θ 33)]) (kc := 17) (ci := 7) (c_Oven_become l θ e3) cf_Oven_become q_580 d_Asker_spoilsWithout_11 zl_35 rfl rfl rfl rfl rfl rfl (Nat.le_of_ble_eq_true rfl) rfl rfl ⟨Nat.le_of_ble_eq_true rfl, Nat.le_of_ble_eq_true rfl⟩ ?_
  refine z_iconst (v := 0) d_Asker_spoilsWithout_14 (by decide) ?_
  refine z_istore_n d_Asker_spoilsWithout_15 rfl (by decide) rfl ?_
  refine z_sub [1, 2, 3, 0] rfl ?_
  exact zl_Asker_spoilsWithout_16 2000 (x1, x2, (0 : Int32), s2) h
theorem d_Asker_guiltyOf_0 : decode b_Asker_guiltyOf 0 = .ok (.aload_n 0, 1) := by decide +kernel
theorem d_Asker_guiltyOf_1 : decode b_Asker_guiltyOf 1 = .ok (.iload_n 1, 1) := by decide +kernel
theorem d_Asker_guiltyOf_2 : decode b_Asker_guiltyOf 2 = .ok (.iconst (-1), 1) := by decide +kernel
theorem d_Asker_guiltyOf_3 : decode b_Asker_guiltyOf 3 = .ok (.invokevirtual 69, 3) := by decide +kernel
theorem d_Asker_guiltyOf_6 : decode b_Asker_guiltyOf 6 = .ok (.ifCond .ne (5), 3) := by decide +kernel
theorem d_Asker_guiltyOf_9 : decode b_Asker_guiltyOf 9 = .ok (.iconst (0), 1) := by decide +kernel
theorem d_Asker_guiltyOf_10 : decode b_Asker_guiltyOf 10 = .ok (.ireturn, 1) := by decide +kernel
theorem d_Asker_guiltyOf_11 : decode b_Asker_guiltyOf 11 = .ok (.iconst (0), 1) := by decide +kernel
theorem d_Asker_guiltyOf_12 : decode b_Asker_guiltyOf 12 = .ok (.istore_n 2, 1) := by decide +kernel
theorem d_Asker_guiltyOf_13 : decode b_Asker_guiltyOf 13 = .ok (.iconst (0), 1) := by decide +kernel
theorem d_Asker_guiltyOf_14 : decode b_Asker_guiltyOf 14 = .ok (.istore_n 3, 1) := by decide +kernel
theorem d_Asker_guiltyOf_15 : decode b_Asker_guiltyOf 15 = .ok (.iload_n 3, 1) := by decide +kernel
theorem d_Asker_guiltyOf_16 : decode b_Asker_guiltyOf 16 = .ok (.iload_n 1, 1) := by decide +kernel
theorem d_Asker_guiltyOf_17 : decode b_Asker_guiltyOf 17 = .ok (.if_icmp .ge (24), 3) := by decide +kernel
theorem d_Asker_guiltyOf_20 : decode b_Asker_guiltyOf 20 = .ok (.aload_n 0, 1) := by decide +kernel
theorem d_Asker_guiltyOf_21 : decode b_Asker_guiltyOf 21 = .ok (.iload_n 1, 1) := by decide +kernel
theorem d_Asker_guiltyOf_22 : decode b_Asker_guiltyOf 22 = .ok (.iload_n 3, 1) := by decide +kernel
theorem d_Asker_guiltyOf_23 : decode b_Asker_guiltyOf 23 = .ok (.invokevirtual 69, 3) := by decide +kernel
theorem d_Asker_guiltyOf_26 : decode b_Asker_guiltyOf 26 = .ok (.ifCond .ne (9), 3) := by decide +kernel
theorem d_Asker_guiltyOf_29 : decode b_Asker_guiltyOf 29 = .ok (.iload_n 2, 1) := by decide +kernel
theorem d_Asker_guiltyOf_30 : decode b_Asker_guiltyOf 30 = .ok (.iconst (1), 1) := by decide +kernel
theorem d_Asker_guiltyOf_31 : decode b_Asker_guiltyOf 31 = .ok (.iload_n 3, 1) := by decide +kernel
theorem d_Asker_guiltyOf_32 : decode b_Asker_guiltyOf 32 = .ok (.ishl, 1) := by decide +kernel
theorem d_Asker_guiltyOf_33 : decode b_Asker_guiltyOf 33 = .ok (.ior, 1) := by decide +kernel
theorem d_Asker_guiltyOf_34 : decode b_Asker_guiltyOf 34 = .ok (.istore_n 2, 1) := by decide +kernel
theorem d_Asker_guiltyOf_35 : decode b_Asker_guiltyOf 35 = .ok (.iinc 3 (1), 3) := by decide +kernel
theorem d_Asker_guiltyOf_38 : decode b_Asker_guiltyOf 38 = .ok (.goto (-23), 3) := by decide +kernel
theorem d_Asker_guiltyOf_41 : decode b_Asker_guiltyOf 41 = .ok (.iload_n 2, 1) := by decide +kernel
theorem d_Asker_guiltyOf_42 : decode b_Asker_guiltyOf 42 = .ok (.ireturn, 1) := by decide +kernel
theorem zb_Asker_guiltyOf_35 {l : Launch} {θ : ZT} {res : Int32 × ZM} {k15 : Int32 × Int32 × Int32 × ZM → Option (Int32 × ZM)} (hk15 : ∀ a : Int32 × Int32 × Int32 × ZM, k15 a = some res → WZ l b_Asker_guiltyOf 4 (some .int) "BakedBefore$Aske\x72" 0 129 θ (zrm 7 213) (zQ mkI 0 129 θ res) a.2.2.2 [(0, .ref (za θ 6)), (1, .int a.1), (2, .int a.2.1), (3, .int a.2.2.1)] 15 []) {x1 : Int32} {x2 : Int32} {x3 : Int32} {σ : ZM} (h : f_Asker_guiltyOf_35 k15 x1 x2 x3 σ = some res) : WZ l b_Asker_guiltyOf 4 (some .int) "BakedBefore$Aske\x72" 0 129 θ (zrm 7 213) (zQ mkI 0 129 θ res) σ [(0, .ref (za θ 6)), (1, .int x1), (2, .int x2), (3, .int x3)] 35 [] := by
  unfold f_Asker_guiltyOf_35 at h
  refine z_iinc (v := x3 + (1 : Int32)) 3 d_Asker_guiltyOf_35 rfl rfl (by decide) rfl ?_
  refine z_goto (tgt := 15) d_Asker_guiltyOf_38 (by decide) ?_
  refine z_sub [1, 2, 3, 0] rfl ?_
  exact hk15 (x1, x2, (x3 + (1 : Int32)), σ) h
theorem zb_Asker_guiltyOf_15 {l : Launch} {θ : ZT} {res : Int32 × ZM} {k15 : Int32 × Int32 × Int32 × ZM → Option (Int32 × ZM)} (hk15 : ∀ a : Int32 × Int32 × Int32 × ZM, k15 a = some res → WZ l b_Asker_guiltyOf 4 (some .int) "BakedBefore$Aske\x72" 0 129 θ (zrm 7 213) (zQ mkI 0 129 θ res) a.2.2.2 [(0, .ref (za θ 6)), (1, .int a.1), (2, .int a.2.1), (3, .int a.2.2.1)] 15 []) {x1 : Int32} {x2 : Int32} {x3 : Int32} {σ : ZM} (h : f_Asker_guiltyOf_15 k15 x1 x2 x3 σ = some res) : WZ l b_Asker_guiltyOf 4 (some .int) "BakedBefore$Aske\x72" 0 129 θ (zrm 7 213) (zQ mkI 0 129 θ res) σ [(0, .ref (za θ 6)), (1, .int x1), (2, .int x2), (3, .int x3)] 15 [] := by
  unfold f_Asker_guiltyOf_15 at h
  refine z_iload_n 3 d_Asker_guiltyOf_15 rfl rfl ?_
  refine z_iload_n 1 d_Asker_guiltyOf_16 rfl rfl ?_
  refine z_icmp_ge (tgt := 41) d_Asker_guiltyOf_17 (by decide) (fun c1 => ?_) (fun c1 => ?_)
  · have h := (if_pos c1).symm.trans h
    refine z_iload_n 2 d_Asker_guiltyOf_41 rfl rfl ?_
    exact z_iret d_Asker_guiltyOf_42 h
  · have h := (if_neg c1).symm.trans h
    refine z_aload_n 0 d_Asker_guiltyOf_20 rfl rfl ?_
    refine z_iload_n 1 d_Asker_guiltyOf_21 rfl rfl ?_
    refine z_iload_n 3 d_Asker_guiltyOf_22 rfl rfl ?_
    obtain ⟨⟨v2, s3⟩, e4, h⟩ := zbd_i h
    refine w_callV (As := [.int x1, .int x3]) (kc := 12) (ci := 2) (c_Asker_spoilsWithout l θ e4) cf_Asker_spoilsWithout q_651 d_Asker_guiltyOf_23 zl_6 rfl rfl rfl rfl rfl rfl (Nat.le_of_ble_eq_true rfl) rfl rfl ⟨Nat.le_of_ble_eq_true rfl, Nat.le_of_ble_eq_true rfl⟩ ?_
    refine z_if_ne (tgt := 35) d_Asker_guiltyOf_26 (by decide) (fun c5 => ?_) (fun c5 => ?_)
    · have h := (if_neg c5).symm.trans h
      exact zb_Asker_guiltyOf_35 hk15 h
    · have h := (if_pos c5).symm.trans h
      refine z_iload_n 2 d_Asker_guiltyOf_29 rfl rfl ?_
      refine z_iconst (v := 1) d_Asker_guiltyOf_30 (by decide) ?_
      refine z_iload_n 3 d_Asker_guiltyOf_31 rfl rfl ?_
      refine z_ishl d_Asker_guiltyOf_32 ?_
      refine z_ior d_Asker_guiltyOf_33 ?_
      refine z_istore_n d_Asker_guiltyOf_34 rfl (by decide) rfl ?_
      refine z_sub [1, 2, 0, 3] rfl ?_
      exact zb_Asker_guiltyOf_35 hk15 h
theorem zl_Asker_guiltyOf_15 {l : Launch} {θ : ZT} {res : Int32 × ZM} : ∀ (N : Nat) (a : Int32 × Int32 × Int32 × ZM), F_Asker_guiltyOf_15 N a = some res → WZ l b_Asker_guiltyOf 4 (some .int) "BakedBefore$Aske\x72" 0 129 θ (zrm 7 213) (zQ mkI 0 129 θ res) a.2.2.2 [(0, .ref (za θ 6)), (1, .int a.1), (2, .int a.2.1), (3, .int a.2.2.1)] 15 [] := by
  intro N
  induction N with
  | zero => intro a  h; cases (show (none : Option (Int32 × ZM)) = some res from h)
  | succ N ih => intro a  h; exact zb_Asker_guiltyOf_15 ih (show f_Asker_guiltyOf_15 (F_Asker_guiltyOf_15 N) a.1 a.2.1 a.2.2.1 a.2.2.2 = some res from h)
theorem c_Asker_guiltyOf (l : Launch) (θ : ZT) {x1 : Int32} {σ : ZM} {res : Int32 × ZM} (h : f_Asker_guiltyOf x1 σ = some res) : zMet mkI l 0 129 θ y_Asker_guiltyOf b_Asker_guiltyOf 4 (some .int) (zrm 7 213) [.ref (za θ 6), .int x1] σ res := by
  unfold f_Asker_guiltyOf at h
  refine z_met (lv := [(0, .ref (za θ 6)), (1, .int x1)]) (by decide +kernel) rfl (Nat.le_of_ble_eq_true rfl) (by decide) ?_
  refine z_aload_n 0 d_Asker_guiltyOf_0 rfl rfl ?_
  refine z_iload_n 1 d_Asker_guiltyOf_1 rfl rfl ?_
  refine z_iconst (v := -1) d_Asker_guiltyOf_2 (by decide) ?_
  obtain ⟨⟨v1, s2⟩, e3, h⟩ := zbd_i h
  refine w_callV (As := [.int x1, .int (-1 : Int32)]) (kc := 12) (ci := 2) (c_Asker_spoilsWithout l θ e3) cf_Asker_spoilsWithout q_651 d_Asker_guiltyOf_3 zl_6 rfl rfl rfl rfl rfl rfl (Nat.le_of_ble_eq_true rfl) rfl rfl ⟨Nat.le_of_ble_eq_true rfl, Nat.le_of_ble_eq_true rfl⟩ ?_
  refine z_if_ne (tgt := 11) d_Asker_guiltyOf_6 (by decide) (fun c4 => ?_) (fun c4 => ?_)
  · have h := (if_neg c4).symm.trans h
    refine z_iconst (v := 0) d_Asker_guiltyOf_11 (by decide) ?_
    refine z_istore_n d_Asker_guiltyOf_12 rfl (by decide) rfl ?_
    refine z_iconst (v := 0) d_Asker_guiltyOf_13 (by decide) ?_
    refine z_istore_n d_Asker_guiltyOf_14 rfl (by decide) rfl ?_
    refine z_sub [2, 3, 1, 0] rfl ?_
    exact zl_Asker_guiltyOf_15 2000 (x1, (0 : Int32), (0 : Int32), s2) h
  · have h := (if_pos c4).symm.trans h
    refine z_iconst (v := 0) d_Asker_guiltyOf_9 (by decide) ?_
    exact z_iret d_Asker_guiltyOf_10 h
theorem d_BB_guilty_0 : decode b_BB_guilty 0 = .ok (.aload_n 0, 1) := by decide +kernel
theorem d_BB_guilty_1 : decode b_BB_guilty 1 = .ok (.iload_n 1, 1) := by decide +kernel
theorem d_BB_guilty_2 : decode b_BB_guilty 2 = .ok (.invokevirtual 92, 3) := by decide +kernel
theorem d_BB_guilty_5 : decode b_BB_guilty 5 = .ok (.ifCond .ne (5), 3) := by decide +kernel
theorem d_BB_guilty_8 : decode b_BB_guilty 8 = .ok (.iconst (-1), 1) := by decide +kernel
theorem d_BB_guilty_9 : decode b_BB_guilty 9 = .ok (.ireturn, 1) := by decide +kernel
theorem d_BB_guilty_10 : decode b_BB_guilty 10 = .ok (.aload_n 0, 1) := by decide +kernel
theorem d_BB_guilty_11 : decode b_BB_guilty 11 = .ok (.getfield 53, 3) := by decide +kernel
theorem d_BB_guilty_14 : decode b_BB_guilty 14 = .ok (.iload_n 1, 1) := by decide +kernel
theorem d_BB_guilty_15 : decode b_BB_guilty 15 = .ok (.invokevirtual 203, 3) := by decide +kernel
theorem d_BB_guilty_18 : decode b_BB_guilty 18 = .ok (.ireturn, 1) := by decide +kernel
theorem c_BB_guilty (l : Launch) (θ : ZT) {x1 : Int32} {σ : ZM} {res : Int32 × ZM} (h : f_BB_guilty x1 σ = some res) : zMet mkI l 0 129 θ y_BB_guilty b_BB_guilty 2 (some .int) (zrm 8 236) [.ref (za θ 0), .int x1] σ res := by
  unfold f_BB_guilty at h
  refine z_met (lv := [(0, .ref (za θ 0)), (1, .int x1)]) (by decide +kernel) rfl (Nat.le_of_ble_eq_true rfl) (by decide) ?_
  refine z_aload_n 0 d_BB_guilty_0 rfl rfl ?_
  refine z_iload_n 1 d_BB_guilty_1 rfl rfl ?_
  obtain ⟨⟨v1, s2⟩, e3, h⟩ := zbd_i h
  refine w_callV (As := [.int x1]) (kc := 10) (ci := 0) (c_BB_isLoaf l θ e3) cf_BB_isLoaf q_352 d_BB_guilty_2 zl_0 rfl rfl rfl rfl rfl rfl (Nat.le_of_ble_eq_true rfl) rfl rfl ⟨Nat.le_of_ble_eq_true rfl, Nat.le_of_ble_eq_true rfl⟩ ?_
  refine z_if_ne (tgt := 10) d_BB_guilty_5 (by decide) (fun c4 => ?_) (fun c4 => ?_)
  · have h := (if_neg c4).symm.trans h
    refine z_aload_n 0 d_BB_guilty_10 rfl rfl ?_
    refine gf_BB_asker zl_0 d_BB_guilty_11 q_309 ?_
    refine z_iload_n 1 d_BB_guilty_14 rfl rfl ?_
    obtain ⟨⟨v5, s6⟩, e7, h⟩ := zbd_i h
    refine w_callV (As := [.int x1]) (kc := 12) (ci := 2) (c_Asker_guiltyOf l θ e7) cf_Asker_guiltyOf q_647 d_BB_guilty_15 zl_6 rfl rfl rfl rfl rfl rfl (Nat.le_of_ble_eq_true rfl) rfl rfl ⟨Nat.le_of_ble_eq_true rfl, Nat.le_of_ble_eq_true rfl⟩ ?_
    exact z_iret d_BB_guilty_18 h
  · have h := (if_pos c4).symm.trans h
    refine z_iconst (v := -1) d_BB_guilty_8 (by decide) ?_
    exact z_iret d_BB_guilty_9 h
theorem d_Asker_spoiledIn_0 : decode b_Asker_spoiledIn 0 = .ok (.aload_n 0, 1) := by decide +kernel
theorem d_Asker_spoiledIn_1 : decode b_Asker_spoiledIn 1 = .ok (.getfield 12, 3) := by decide +kernel
theorem d_Asker_spoiledIn_4 : decode b_Asker_spoiledIn 4 = .ok (.aload_n 0, 1) := by decide +kernel
theorem d_Asker_spoiledIn_5 : decode b_Asker_spoiledIn 5 = .ok (.getfield 22, 3) := by decide +kernel
theorem d_Asker_spoiledIn_8 : decode b_Asker_spoiledIn 8 = .ok (.getfield 30, 3) := by decide +kernel
theorem d_Asker_spoiledIn_11 : decode b_Asker_spoiledIn 11 = .ok (.invokevirtual 35, 3) := by decide +kernel
theorem d_Asker_spoiledIn_14 : decode b_Asker_spoiledIn 14 = .ok (.iconst (0), 1) := by decide +kernel
theorem d_Asker_spoiledIn_15 : decode b_Asker_spoiledIn 15 = .ok (.istore_n 2, 1) := by decide +kernel
theorem d_Asker_spoiledIn_16 : decode b_Asker_spoiledIn 16 = .ok (.iconst (0), 1) := by decide +kernel
theorem d_Asker_spoiledIn_17 : decode b_Asker_spoiledIn 17 = .ok (.istore_n 3, 1) := by decide +kernel
theorem d_Asker_spoiledIn_18 : decode b_Asker_spoiledIn 18 = .ok (.iload_n 3, 1) := by decide +kernel
theorem d_Asker_spoiledIn_19 : decode b_Asker_spoiledIn 19 = .ok (.aload_n 0, 1) := by decide +kernel
theorem d_Asker_spoiledIn_20 : decode b_Asker_spoiledIn 20 = .ok (.getfield 22, 3) := by decide +kernel
theorem d_Asker_spoiledIn_23 : decode b_Asker_spoiledIn 23 = .ok (.getfield 65, 3) := by decide +kernel
theorem d_Asker_spoiledIn_26 : decode b_Asker_spoiledIn 26 = .ok (.if_icmp .ge (44), 3) := by decide +kernel
theorem d_Asker_spoiledIn_29 : decode b_Asker_spoiledIn 29 = .ok (.iload_n 1, 1) := by decide +kernel
theorem d_Asker_spoiledIn_30 : decode b_Asker_spoiledIn 30 = .ok (.iload_n 3, 1) := by decide +kernel
theorem d_Asker_spoiledIn_31 : decode b_Asker_spoiledIn 31 = .ok (.ishr, 1) := by decide +kernel
theorem d_Asker_spoiledIn_32 : decode b_Asker_spoiledIn 32 = .ok (.iconst (1), 1) := by decide +kernel
theorem d_Asker_spoiledIn_33 : decode b_Asker_spoiledIn 33 = .ok (.iand, 1) := by decide +kernel
theorem d_Asker_spoiledIn_34 : decode b_Asker_spoiledIn 34 = .ok (.iconst (1), 1) := by decide +kernel
theorem d_Asker_spoiledIn_35 : decode b_Asker_spoiledIn 35 = .ok (.if_icmp .ne (29), 3) := by decide +kernel
theorem d_Asker_spoiledIn_38 : decode b_Asker_spoiledIn 38 = .ok (.aload_n 0, 1) := by decide +kernel
theorem d_Asker_spoiledIn_39 : decode b_Asker_spoiledIn 39 = .ok (.getfield 26, 3) := by decide +kernel
theorem d_Asker_spoiledIn_42 : decode b_Asker_spoiledIn 42 = .ok (.aload_n 0, 1) := by decide +kernel
theorem d_Asker_spoiledIn_43 : decode b_Asker_spoiledIn 43 = .ok (.getfield 12, 3) := by decide +kernel
theorem d_Asker_spoiledIn_46 : decode b_Asker_spoiledIn 46 = .ok (.aload_n 0, 1) := by decide +kernel
theorem d_Asker_spoiledIn_47 : decode b_Asker_spoiledIn 47 = .ok (.getfield 22, 3) := by decide +kernel
theorem d_Asker_spoiledIn_50 : decode b_Asker_spoiledIn 50 = .ok (.getfield 39, 3) := by decide +kernel
theorem d_Asker_spoiledIn_53 : decode b_Asker_spoiledIn 53 = .ok (.iload_n 3, 1) := by decide +kernel
theorem d_Asker_spoiledIn_54 : decode b_Asker_spoiledIn 54 = .ok (.aaload, 1) := by decide +kernel
theorem d_Asker_spoiledIn_55 : decode b_Asker_spoiledIn 55 = .ok (.invokevirtual 43, 3) := by decide +kernel
theorem d_Asker_spoiledIn_58 : decode b_Asker_spoiledIn 58 = .ok (.ifCond .eq (6), 3) := by decide +kernel
theorem d_Asker_spoiledIn_61 : decode b_Asker_spoiledIn 61 = .ok (.iinc 2 (1), 3) := by decide +kernel
theorem d_Asker_spoiledIn_64 : decode b_Asker_spoiledIn 64 = .ok (.iinc 3 (1), 3) := by decide +kernel
theorem d_Asker_spoiledIn_67 : decode b_Asker_spoiledIn 67 = .ok (.goto (-49), 3) := by decide +kernel
theorem d_Asker_spoiledIn_70 : decode b_Asker_spoiledIn 70 = .ok (.iload_n 2, 1) := by decide +kernel
theorem d_Asker_spoiledIn_71 : decode b_Asker_spoiledIn 71 = .ok (.ireturn, 1) := by decide +kernel
theorem zb_Asker_spoiledIn_64 {l : Launch} {θ : ZT} {res : Int32 × ZM} {k18 : Int32 × Int32 × Int32 × ZM → Option (Int32 × ZM)} (hk18 : ∀ a : Int32 × Int32 × Int32 × ZM, k18 a = some res → WZ l b_Asker_spoiledIn 4 (some .int) "BakedBefore$Aske\x72" 0 129 θ (zrm 6 190) (zQ mkI 0 129 θ res) a.2.2.2 [(0, .ref (za θ 6)), (1, .int a.1), (2, .int a.2.1), (3, .int a.2.2.1)] 18 []) {x1 : Int32} {x2 : Int32} {x3 : Int32} {σ : ZM} (h : f_Asker_spoiledIn_64 k18 x1 x2 x3 σ = some res) : WZ l b_Asker_spoiledIn 4 (some .int) "BakedBefore$Aske\x72" 0 129 θ (zrm 6 190) (zQ mkI 0 129 θ res) σ [(0, .ref (za θ 6)), (1, .int x1), (2, .int x2), (3, .int x3)] 64 [] := by
  unfold f_Asker_spoiledIn_64 at h
  refine z_iinc (v := x3 + (1 : Int32)) 3 d_Asker_spoiledIn_64 rfl rfl (by decide) rfl ?_
  refine z_goto (tgt := 18) d_Asker_spoiledIn_67 (by decide) ?_
  refine z_sub [1, 2, 3, 0] rfl ?_
  exact hk18 (x1, x2, (x3 + (1 : Int32)), σ) h
theorem zb_Asker_spoiledIn_18 {l : Launch} {θ : ZT} {res : Int32 × ZM} {k18 : Int32 × Int32 × Int32 × ZM → Option (Int32 × ZM)} (hk18 : ∀ a : Int32 × Int32 × Int32 × ZM, k18 a = some res → WZ l b_Asker_spoiledIn 4 (some .int) "BakedBefore$Aske\x72" 0 129 θ (zrm 6 190) (zQ mkI 0 129 θ res) a.2.2.2 [(0, .ref (za θ 6)), (1, .int a.1), (2, .int a.2.1), (3, .int a.2.2.1)] 18 []) {x1 : Int32} {x2 : Int32} {x3 : Int32} {σ : ZM} (h : f_Asker_spoiledIn_18 k18 x1 x2 x3 σ = some res) : WZ l b_Asker_spoiledIn 4 (some .int) "BakedBefore$Aske\x72" 0 129 θ (zrm 6 190) (zQ mkI 0 129 θ res) σ [(0, .ref (za θ 6)), (1, .int x1), (2, .int x2), (3, .int x3)] 18 [] := by
  unfold f_Asker_spoiledIn_18 at h
  refine z_iload_n 3 d_Asker_spoiledIn_18 rfl rfl ?_
  refine z_aload_n 0 d_Asker_spoiledIn_19 rfl rfl ?_
  refine gf_Asker_now zl_6 d_Asker_spoiledIn_20 q_222 ?_
  refine gf_Stand_many zl_1 d_Asker_spoiledIn_23 q_128 ?_
  refine z_icmp_ge (tgt := 70) d_Asker_spoiledIn_26 (by decide) (fun c1 => ?_) (fun c1 => ?_)
  · have h := (if_pos c1).symm.trans h
    refine z_iload_n 2 d_Asker_spoiledIn_70 rfl rfl ?_
    exact z_iret d_Asker_spoiledIn_71 h
  · have h := (if_neg c1).symm.trans h
    refine z_iload_n 1 d_Asker_spoiledIn_29 rfl rfl ?_
    refine z_iload_n 3 d_Asker_spoiledIn_30 rfl rfl ?_
    refine z_ishr d_Asker_spoiledIn_31 ?_
    refine z_iconst (v := 1) d_Asker_spoiledIn_32 (by decide) ?_
    refine z_iand d_Asker_spoiledIn_33 ?_
    refine z_iconst (v := 1) d_Asker_spoiledIn_34 (by decide) ?_
    refine z_icmp_ne (tgt := 64) d_Asker_spoiledIn_35 (by decide) (fun c2 => ?_) (fun c2 => ?_)
    · have h := (if_neg c2).symm.trans h
      exact zb_Asker_spoiledIn_64 hk18 h
    · have h := (if_pos c2).symm.trans h
      refine z_aload_n 0 d_Asker_spoiledIn_38 rfl rfl ?_
      refine gf_Asker_baker zl_6 d_Asker_spoiledIn_39 q_223 ?_
      refine z_aload_n 0 d_Asker_spoiledIn_42 rfl rfl ?_
      refine gf_Asker_trial zl_6 d_Asker_spoiledIn_43 q_224 ?_
      refine z_aload_n 0 d_Asker_spoiledIn_46 rfl rfl ?_
      refine gf_Asker_now zl_6 d_Asker_spoiledIn_47 q_222 ?_
      refine gf_Stand_loaves (o2 := 25) zl_1 rfl d_Asker_spoiledIn_50 q_115 ?_
      refine z_iload_n 3 d_Asker_spoiledIn_53 rfl rfl ?_
      obtain ⟨c3, h⟩ := zck_i h
      refine w_aald3 zl_25 c3 d_Asker_spoiledIn_54 ?_
      obtain ⟨c4, h⟩ := zck_i h
      obtain ⟨⟨v5, s6⟩, e7, h⟩ := zbd_i h
      refine w_callV (As := [.ref (za θ 35), .ref (za θ (zel 25 x3.toNatClampNeg))]) (kc := 13) (ci := 3) (c_Baker_bakeIn l θ e7) cf_Baker_bakeIn q_584 d_Asker_spoiledIn_55 zl_5 rfl rfl rfl rfl rfl rfl (Nat.le_of_ble_eq_true rfl) rfl rfl ⟨Nat.le_of_ble_eq_true rfl, Nat.le_of_ble_eq_true rfl⟩ ?_
      refine z_if_eq (tgt := 64) d_Asker_spoiledIn_58 (by decide) (fun c8 => ?_) (fun c8 => ?_)
      · have h := (if_pos c8).symm.trans h
        exact zb_Asker_spoiledIn_64 hk18 h
      · have h := (if_neg c8).symm.trans h
        refine z_iinc (v := x2 + (1 : Int32)) 2 d_Asker_spoiledIn_61 rfl rfl (by decide) rfl ?_
        refine z_sub [1, 2, 0, 3] rfl ?_
        exact zb_Asker_spoiledIn_64 hk18 h
theorem zl_Asker_spoiledIn_18 {l : Launch} {θ : ZT} {res : Int32 × ZM} : ∀ (N : Nat) (a : Int32 × Int32 × Int32 × ZM), F_Asker_spoiledIn_18 N a = some res → WZ l b_Asker_spoiledIn 4 (some .int) "BakedBefore$Aske\x72" 0 129 θ (zrm 6 190) (zQ mkI 0 129 θ res) a.2.2.2 [(0, .ref (za θ 6)), (1, .int a.1), (2, .int a.2.1), (3, .int a.2.2.1)] 18 [] := by
  intro N
  induction N with
  | zero => intro a  h; cases (show (none : Option (Int32 × ZM)) = some res from h)
  | succ N ih => intro a  h; exact zb_Asker_spoiledIn_18 ih (show f_Asker_spoiledIn_18 (F_Asker_spoiledIn_18 N) a.1 a.2.1 a.2.2.1 a.2.2.2 = some res from h)
theorem c_Asker_spoiledIn (l : Launch) (θ : ZT) {x1 : Int32} {σ : ZM} {res : Int32 × ZM} (h : f_Asker_spoiledIn x1 σ = some res) : zMet mkI l 0 129 θ y_Asker_spoiledIn b_Asker_spoiledIn 4 (some .int) (zrm 6 190) [.ref (za θ 6), .int x1] σ res := by
  unfold f_Asker_spoiledIn at h
  refine z_met (lv := [(0, .ref (za θ 6)), (1, .int x1)]) (by decide +kernel) rfl (Nat.le_of_ble_eq_true rfl) (by decide) ?_
  refine z_aload_n 0 d_Asker_spoiledIn_0 rfl rfl ?_
  refine gf_Asker_trial zl_6 d_Asker_spoiledIn_1 q_224 ?_
  refine z_aload_n 0 d_Asker_spoiledIn_4 rfl rfl ?_
  refine gf_Asker_now zl_6 d_Asker_spoiledIn_5 q_222 ?_
  refine gf_Stand_oven (o2 := 33) zl_1 rfl d_Asker_spoiledIn_8 q_119 ?_
  obtain ⟨⟨v1, s2⟩, e3, h⟩ := zbd_i h
  refine w_callV (As := [.ref (za θ 33)]) (kc := 17) (ci := 7) (c_Oven_become l θ e3) cf_Oven_become q_580 d_Asker_spoiledIn_11 zl_35 rfl rfl rfl rfl rfl rfl (Nat.le_of_ble_eq_true rfl) rfl rfl ⟨Nat.le_of_ble_eq_true rfl, Nat.le_of_ble_eq_true rfl⟩ ?_
  refine z_iconst (v := 0) d_Asker_spoiledIn_14 (by decide) ?_
  refine z_istore_n d_Asker_spoiledIn_15 rfl (by decide) rfl ?_
  refine z_iconst (v := 0) d_Asker_spoiledIn_16 (by decide) ?_
  refine z_istore_n d_Asker_spoiledIn_17 rfl (by decide) rfl ?_
  refine z_sub [2, 3, 1, 0] rfl ?_
  exact zl_Asker_spoiledIn_18 2000 (x1, (0 : Int32), (0 : Int32), s2) h
theorem d_Asker_bestParting_0 : decode b_Asker_bestParting 0 = .ok (.iconst (1), 1) := by decide +kernel
theorem d_Asker_bestParting_1 : decode b_Asker_bestParting 1 = .ok (.aload_n 0, 1) := by decide +kernel
theorem d_Asker_bestParting_2 : decode b_Asker_bestParting 2 = .ok (.getfield 22, 3) := by decide +kernel
theorem d_Asker_bestParting_5 : decode b_Asker_bestParting 5 = .ok (.getfield 65, 3) := by decide +kernel
theorem d_Asker_bestParting_8 : decode b_Asker_bestParting 8 = .ok (.ishl, 1) := by decide +kernel
theorem d_Asker_bestParting_9 : decode b_Asker_bestParting 9 = .ok (.istore_n 2, 1) := by decide +kernel
theorem d_Asker_bestParting_10 : decode b_Asker_bestParting 10 = .ok (.iconst (0), 1) := by decide +kernel
theorem d_Asker_bestParting_11 : decode b_Asker_bestParting 11 = .ok (.istore_n 3, 1) := by decide +kernel
theorem d_Asker_bestParting_12 : decode b_Asker_bestParting 12 = .ok (.iload_n 3, 1) := by decide +kernel
theorem d_Asker_bestParting_13 : decode b_Asker_bestParting 13 = .ok (.iload_n 2, 1) := by decide +kernel
theorem d_Asker_bestParting_14 : decode b_Asker_bestParting 14 = .ok (.if_icmp .ge (20), 3) := by decide +kernel
theorem d_Asker_bestParting_17 : decode b_Asker_bestParting 17 = .ok (.aload_n 0, 1) := by decide +kernel
theorem d_Asker_bestParting_18 : decode b_Asker_bestParting 18 = .ok (.getfield 18, 3) := by decide +kernel
theorem d_Asker_bestParting_21 : decode b_Asker_bestParting 21 = .ok (.iload_n 3, 1) := by decide +kernel
theorem d_Asker_bestParting_22 : decode b_Asker_bestParting 22 = .ok (.aload_n 0, 1) := by decide +kernel
theorem d_Asker_bestParting_23 : decode b_Asker_bestParting 23 = .ok (.iload_n 3, 1) := by decide +kernel
theorem d_Asker_bestParting_24 : decode b_Asker_bestParting 24 = .ok (.invokevirtual 73, 3) := by decide +kernel
theorem d_Asker_bestParting_27 : decode b_Asker_bestParting 27 = .ok (.iastore, 1) := by decide +kernel
theorem d_Asker_bestParting_28 : decode b_Asker_bestParting 28 = .ok (.iinc 3 (1), 3) := by decide +kernel
theorem d_Asker_bestParting_31 : decode b_Asker_bestParting 31 = .ok (.goto (-19), 3) := by decide +kernel
theorem d_Asker_bestParting_34 : decode b_Asker_bestParting 34 = .ok (.iconst (0), 1) := by decide +kernel
theorem d_Asker_bestParting_35 : decode b_Asker_bestParting 35 = .ok (.istore_n 3, 1) := by decide +kernel
theorem d_Asker_bestParting_36 : decode b_Asker_bestParting 36 = .ok (.aload_n 0, 1) := by decide +kernel
theorem d_Asker_bestParting_37 : decode b_Asker_bestParting 37 = .ok (.getfield 18, 3) := by decide +kernel
theorem d_Asker_bestParting_40 : decode b_Asker_bestParting 40 = .ok (.iload_n 2, 1) := by decide +kernel
theorem d_Asker_bestParting_41 : decode b_Asker_bestParting 41 = .ok (.iconst (1), 1) := by decide +kernel
theorem d_Asker_bestParting_42 : decode b_Asker_bestParting 42 = .ok (.isub, 1) := by decide +kernel
theorem d_Asker_bestParting_43 : decode b_Asker_bestParting 43 = .ok (.iaload, 1) := by decide +kernel
theorem d_Asker_bestParting_44 : decode b_Asker_bestParting 44 = .ok (.istore 4, 2) := by decide +kernel
theorem d_Asker_bestParting_46 : decode b_Asker_bestParting 46 = .ok (.iconst (1), 1) := by decide +kernel
theorem d_Asker_bestParting_47 : decode b_Asker_bestParting 47 = .ok (.istore 5, 2) := by decide +kernel
theorem d_Asker_bestParting_49 : decode b_Asker_bestParting 49 = .ok (.iload 5, 2) := by decide +kernel
theorem d_Asker_bestParting_51 : decode b_Asker_bestParting 51 = .ok (.iload_n 2, 1) := by decide +kernel
theorem d_Asker_bestParting_52 : decode b_Asker_bestParting 52 = .ok (.if_icmp .ge (44), 3) := by decide +kernel
theorem d_Asker_bestParting_55 : decode b_Asker_bestParting 55 = .ok (.aload_n 0, 1) := by decide +kernel
theorem d_Asker_bestParting_56 : decode b_Asker_bestParting 56 = .ok (.getfield 18, 3) := by decide +kernel
theorem d_Asker_bestParting_59 : decode b_Asker_bestParting 59 = .ok (.iload 5, 2) := by decide +kernel
theorem d_Asker_bestParting_61 : decode b_Asker_bestParting 61 = .ok (.iaload, 1) := by decide +kernel
theorem d_Asker_bestParting_62 : decode b_Asker_bestParting 62 = .ok (.aload_n 0, 1) := by decide +kernel
theorem d_Asker_bestParting_63 : decode b_Asker_bestParting 63 = .ok (.getfield 18, 3) := by decide +kernel
theorem d_Asker_bestParting_66 : decode b_Asker_bestParting 66 = .ok (.iload_n 2, 1) := by decide +kernel
theorem d_Asker_bestParting_67 : decode b_Asker_bestParting 67 = .ok (.iconst (1), 1) := by decide +kernel
theorem d_Asker_bestParting_68 : decode b_Asker_bestParting 68 = .ok (.isub, 1) := by decide +kernel
theorem d_Asker_bestParting_69 : decode b_Asker_bestParting 69 = .ok (.iload 5, 2) := by decide +kernel
theorem d_Asker_bestParting_71 : decode b_Asker_bestParting 71 = .ok (.isub, 1) := by decide +kernel
theorem d_Asker_bestParting_72 : decode b_Asker_bestParting 72 = .ok (.iaload, 1) := by decide +kernel
theorem d_Asker_bestParting_73 : decode b_Asker_bestParting 73 = .ok (.iadd, 1) := by decide +kernel
theorem d_Asker_bestParting_74 : decode b_Asker_bestParting 74 = .ok (.istore 6, 2) := by decide +kernel
theorem d_Asker_bestParting_76 : decode b_Asker_bestParting 76 = .ok (.iload 6, 2) := by decide +kernel
theorem d_Asker_bestParting_78 : decode b_Asker_bestParting 78 = .ok (.iload 4, 2) := by decide +kernel
theorem d_Asker_bestParting_80 : decode b_Asker_bestParting 80 = .ok (.if_icmp .ge (10), 3) := by decide +kernel
theorem d_Asker_bestParting_83 : decode b_Asker_bestParting 83 = .ok (.iload 6, 2) := by decide +kernel
theorem d_Asker_bestParting_85 : decode b_Asker_bestParting 85 = .ok (.istore 4, 2) := by decide +kernel
theorem d_Asker_bestParting_87 : decode b_Asker_bestParting 87 = .ok (.iload 5, 2) := by decide +kernel
theorem d_Asker_bestParting_89 : decode b_Asker_bestParting 89 = .ok (.istore_n 3, 1) := by decide +kernel
theorem d_Asker_bestParting_90 : decode b_Asker_bestParting 90 = .ok (.iinc 5 (1), 3) := by decide +kernel
theorem d_Asker_bestParting_93 : decode b_Asker_bestParting 93 = .ok (.goto (-44), 3) := by decide +kernel
theorem d_Asker_bestParting_96 : decode b_Asker_bestParting 96 = .ok (.iload_n 1, 1) := by decide +kernel
theorem d_Asker_bestParting_97 : decode b_Asker_bestParting 97 = .ok (.ifCond .eq (7), 3) := by decide +kernel
theorem d_Asker_bestParting_100 : decode b_Asker_bestParting 100 = .ok (.iload_n 3, 1) := by decide +kernel
theorem d_Asker_bestParting_101 : decode b_Asker_bestParting 101 = .ok (.goto (5), 3) := by decide +kernel
theorem d_Asker_bestParting_104 : decode b_Asker_bestParting 104 = .ok (.iload 4, 2) := by decide +kernel
theorem d_Asker_bestParting_106 : decode b_Asker_bestParting 106 = .ok (.ireturn, 1) := by decide +kernel
theorem zb_Asker_bestParting_90 {l : Launch} {θ : ZT} {res : Int32 × ZM} {k49 : Int32 × Int32 × Int32 × Int32 × Int32 × ZM → Option (Int32 × ZM)} (hk49 : ∀ a : Int32 × Int32 × Int32 × Int32 × Int32 × ZM, k49 a = some res → WZ l b_Asker_bestParting 7 (some .int) "BakedBefore$Aske\x72" 0 129 θ (zrm 7 213) (zQ mkI 0 129 θ res) a.2.2.2.2.2 [(0, .ref (za θ 6)), (1, .int a.1), (2, .int a.2.1), (3, .int a.2.2.1), (4, .int a.2.2.2.1), (5, .int a.2.2.2.2.1)] 49 []) {x1 : Int32} {x2 : Int32} {x3 : Int32} {x4 : Int32} {x5 : Int32} {σ : ZM} (h : f_Asker_bestParting_90 k49 x1 x2 x3 x4 x5 σ = some res) : WZ l b_Asker_bestParting 7 (some .int) "BakedBefore$Aske\x72" 0 129 θ (zrm 7 213) (zQ mkI 0 129 θ res) σ [(0, .ref (za θ 6)), (1, .int x1), (2, .int x2), (3, .int x3), (4, .int x4), (5, .int x5)] 90 [] := by
  unfold f_Asker_bestParting_90 at h
  refine z_iinc (v := x5 + (1 : Int32)) 5 d_Asker_bestParting_90 rfl rfl (by decide) rfl ?_
  refine z_goto (tgt := 49) d_Asker_bestParting_93 (by decide) ?_
  refine z_sub [1, 2, 3, 4, 5, 0] rfl ?_
  exact hk49 (x1, x2, x3, x4, (x5 + (1 : Int32)), σ) h
theorem zb_Asker_bestParting_49 {l : Launch} {θ : ZT} {res : Int32 × ZM} {k49 : Int32 × Int32 × Int32 × Int32 × Int32 × ZM → Option (Int32 × ZM)} (hk49 : ∀ a : Int32 × Int32 × Int32 × Int32 × Int32 × ZM, k49 a = some res → WZ l b_Asker_bestParting 7 (some .int) "BakedBefore$Aske\x72" 0 129 θ (zrm 7 213) (zQ mkI 0 129 θ res) a.2.2.2.2.2 [(0, .ref (za θ 6)), (1, .int a.1), (2, .int a.2.1), (3, .int a.2.2.1), (4, .int a.2.2.2.1), (5, .int a.2.2.2.2.1)] 49 []) {x1 : Int32} {x2 : Int32} {x3 : Int32} {x4 : Int32} {x5 : Int32} {σ : ZM} (h : f_Asker_bestParting_49 k49 x1 x2 x3 x4 x5 σ = some res) : WZ l b_Asker_bestParting 7 (some .int) "BakedBefore$Aske\x72" 0 129 θ (zrm 7 213) (zQ mkI 0 129 θ res) σ [(0, .ref (za θ 6)), (1, .int x1), (2, .int x2), (3, .int x3), (4, .int x4), (5, .int x5)] 49 [] := by
  unfold f_Asker_bestParting_49 at h
  refine z_iload 5 d_Asker_bestParting_49 rfl ?_
  refine z_iload_n 2 d_Asker_bestParting_51 rfl rfl ?_
  refine z_icmp_ge (tgt := 96) d_Asker_bestParting_52 (by decide) (fun c1 => ?_) (fun c1 => ?_)
  · have h := (if_pos c1).symm.trans h
    refine z_iload_n 1 d_Asker_bestParting_96 rfl rfl ?_
    refine z_if_eq (tgt := 104) d_Asker_bestParting_97 (by decide) (fun c2 => ?_) (fun c2 => ?_)
    · have h := (if_pos c2).symm.trans h
      refine z_iload 4 d_Asker_bestParting_104 rfl ?_
      exact z_iret d_Asker_bestParting_106 h
    · have h := (if_neg c2).symm.trans h
      refine z_iload_n 3 d_Asker_bestParting_100 rfl rfl ?_
      refine z_goto (tgt := 106) d_Asker_bestParting_101 (by decide) ?_
      exact z_iret d_Asker_bestParting_106 h
  · have h := (if_neg c1).symm.trans h
    refine z_aload_n 0 d_Asker_bestParting_55 rfl rfl ?_
    refine gf_Asker_spoiledOf zl_6 d_Asker_bestParting_56 q_225 ?_
    refine z_iload 5 d_Asker_bestParting_59 rfl ?_
    obtain ⟨c3, h⟩ := zck_i h
    refine w_iald zl_21 c3 d_Asker_bestParting_61 ?_
    refine z_aload_n 0 d_Asker_bestParting_62 rfl rfl ?_
    refine gf_Asker_spoiledOf zl_6 d_Asker_bestParting_63 q_225 ?_
    refine z_iload_n 2 d_Asker_bestParting_66 rfl rfl ?_
    refine z_iconst (v := 1) d_Asker_bestParting_67 (by decide) ?_
    refine z_isub d_Asker_bestParting_68 ?_
    refine z_iload 5 d_Asker_bestParting_69 rfl ?_
    refine z_isub d_Asker_bestParting_71 ?_
    obtain ⟨c4, h⟩ := zck_i h
    refine w_iald zl_21 c4 d_Asker_bestParting_72 ?_
    refine z_iadd d_Asker_bestParting_73 ?_
    refine z_istore d_Asker_bestParting_74 (by decide) rfl ?_
    refine z_iload 0 d_Asker_bestParting_76 rfl ?_
    refine z_iload 5 d_Asker_bestParting_78 rfl ?_
    refine z_icmp_ge (tgt := 90) d_Asker_bestParting_80 (by decide) (fun c5 => ?_) (fun c5 => ?_)
    · have h := (if_pos c5).symm.trans h
      refine z_sub [1, 2, 3, 4, 5, 6] rfl ?_
      exact zb_Asker_bestParting_90 hk49 h
    · have h := (if_neg c5).symm.trans h
      refine z_iload 0 d_Asker_bestParting_83 rfl ?_
      refine z_istore d_Asker_bestParting_85 (by decide) rfl ?_
      refine z_iload 6 d_Asker_bestParting_87 rfl ?_
      refine z_istore_n d_Asker_bestParting_89 rfl (by decide) rfl ?_
      refine z_sub [3, 4, 5, 0, 1, 6] rfl ?_
      exact zb_Asker_bestParting_90 hk49 h
theorem zl_Asker_bestParting_49 {l : Launch} {θ : ZT} {res : Int32 × ZM} : ∀ (N : Nat) (a : Int32 × Int32 × Int32 × Int32 × Int32 × ZM), F_Asker_bestParting_49 N a = some res → WZ l b_Asker_bestParting 7 (some .int) "BakedBefore$Aske\x72" 0 129 θ (zrm 7 213) (zQ mkI 0 129 θ res) a.2.2.2.2.2 [(0, .ref (za θ 6)), (1, .int a.1), (2, .int a.2.1), (3, .int a.2.2.1), (4, .int a.2.2.2.1), (5, .int a.2.2.2.2.1)] 49 [] := by
  intro N
  induction N with
  | zero => intro a  h; cases (show (none : Option (Int32 × ZM)) = some res from h)
  | succ N ih => intro a  h; exact zb_Asker_bestParting_49 ih (show f_Asker_bestParting_49 (F_Asker_bestParting_49 N) a.1 a.2.1 a.2.2.1 a.2.2.2.1 a.2.2.2.2.1 a.2.2.2.2.2 = some res from h)
theorem zb_Asker_bestParting_12 {l : Launch} {θ : ZT} {res : Int32 × ZM} {k12 : Int32 × Int32 × Int32 × ZM → Option (Int32 × ZM)} (hk12 : ∀ a : Int32 × Int32 × Int32 × ZM, k12 a = some res → WZ l b_Asker_bestParting 7 (some .int) "BakedBefore$Aske\x72" 0 129 θ (zrm 7 213) (zQ mkI 0 129 θ res) a.2.2.2 [(0, .ref (za θ 6)), (1, .int a.1), (2, .int a.2.1), (3, .int a.2.2.1)] 12 []) {x1 : Int32} {x2 : Int32} {x3 : Int32} {σ : ZM} (h : f_Asker_bestParting_12 k12 x1 x2 x3 σ = some res) : WZ l b_Asker_bestParting 7 (some .int) "BakedBefore$Aske\x72" 0 129 θ (zrm 7 213) (zQ mkI 0 129 θ res) σ [(0, .ref (za θ 6)), (1, .int x1), (2, .int x2), (3, .int x3)] 12 [] := by
  unfold f_Asker_bestParting_12 at h
  refine z_iload_n 3 d_Asker_bestParting_12 rfl rfl ?_
  refine z_iload_n 2 d_Asker_bestParting_13 rfl rfl ?_
  refine z_icmp_ge (tgt := 34) d_Asker_bestParting_14 (by decide) (fun c1 => ?_) (fun c1 => ?_)
  · have h := (if_pos c1).symm.trans h
    refine z_iconst (v := 0) d_Asker_bestParting_34 (by decide) ?_
    refine z_istore_n d_Asker_bestParting_35 rfl (by decide) rfl ?_
    refine z_aload_n 1 d_Asker_bestParting_36 rfl rfl ?_
    refine gf_Asker_spoiledOf zl_6 d_Asker_bestParting_37 q_225 ?_
    refine z_iload_n 3 d_Asker_bestParting_40 rfl rfl ?_
    refine z_iconst (v := 1) d_Asker_bestParting_41 (by decide) ?_
    refine z_isub d_Asker_bestParting_42 ?_
    obtain ⟨c2, h⟩ := zck_i h
    refine w_iald zl_21 c2 d_Asker_bestParting_43 ?_
    refine z_istore d_Asker_bestParting_44 (by decide) rfl ?_
    refine z_iconst (v := 1) d_Asker_bestParting_46 (by decide) ?_
    refine z_istore d_Asker_bestParting_47 (by decide) rfl ?_
    refine z_sub [3, 4, 5, 2, 1, 0] rfl ?_
    exact zl_Asker_bestParting_49 2000 (x1, x2, (0 : Int32), (zI σ 21 (x2 - (1 : Int32)).toNatClampNeg), (1 : Int32), σ) h
  · have h := (if_neg c1).symm.trans h
    refine z_aload_n 0 d_Asker_bestParting_17 rfl rfl ?_
    refine gf_Asker_spoiledOf zl_6 d_Asker_bestParting_18 q_225 ?_
    refine z_iload_n 3 d_Asker_bestParting_21 rfl rfl ?_
    refine z_aload_n 0 d_Asker_bestParting_22 rfl rfl ?_
    refine z_iload_n 3 d_Asker_bestParting_23 rfl rfl ?_
    obtain ⟨⟨v3, s4⟩, e5, h⟩ := zbd_i h
    refine w_callV (As := [.int x3]) (kc := 12) (ci := 2) (c_Asker_spoiledIn l θ e5) cf_Asker_spoiledIn q_663 d_Asker_bestParting_24 zl_6 rfl rfl rfl rfl rfl rfl (Nat.le_of_ble_eq_true rfl) rfl rfl ⟨Nat.le_of_ble_eq_true rfl, Nat.le_of_ble_eq_true rfl⟩ ?_
    obtain ⟨c6, h⟩ := zck_i h
    refine w_iast zl_21 c6 d_Asker_bestParting_27 ?_
    refine z_iinc (v := x3 + (1 : Int32)) 3 d_Asker_bestParting_28 rfl rfl (by decide) rfl ?_
    refine z_goto (tgt := 12) d_Asker_bestParting_31 (by decide) ?_
    refine z_sub [1, 2, 3, 0] rfl ?_
    exact hk12 (x1, x2, (x3 + (1 : Int32)), (zsI s4 21 x3.toNatClampNeg v3)) h
theorem zl_Asker_bestParting_12 {l : Launch} {θ : ZT} {res : Int32 × ZM} : ∀ (N : Nat) (a : Int32 × Int32 × Int32 × ZM), F_Asker_bestParting_12 N a = some res → WZ l b_Asker_bestParting 7 (some .int) "BakedBefore$Aske\x72" 0 129 θ (zrm 7 213) (zQ mkI 0 129 θ res) a.2.2.2 [(0, .ref (za θ 6)), (1, .int a.1), (2, .int a.2.1), (3, .int a.2.2.1)] 12 [] := by
  intro N
  induction N with
  | zero => intro a  h; cases (show (none : Option (Int32 × ZM)) = some res from h)
  | succ N ih => intro a  h; exact zb_Asker_bestParting_12 ih (show f_Asker_bestParting_12 (F_Asker_bestParting_12 N) a.1 a.2.1 a.2.2.1 a.2.2.2 = some res from h)
theorem c_Asker_bestParting (l : Launch) (θ : ZT) {x1 : Int32} {σ : ZM} {res : Int32 × ZM} (h : f_Asker_bestParting x1 σ = some res) : zMet mkI l 0 129 θ y_Asker_bestParting b_Asker_bestParting 7 (some .int) (zrm 7 213) [.ref (za θ 6), .int x1] σ res := by
  unfold f_Asker_bestParting at h
  refine z_met (lv := [(0, .ref (za θ 6)), (1, .int x1)]) (by decide +kernel) rfl (Nat.le_of_ble_eq_true rfl) (by decide) ?_
  refine z_iconst (v := 1) d_Asker_bestParting_0 (by decide) ?_
  refine z_aload_n 0 d_Asker_bestParting_1 rfl rfl ?_
  refine gf_Asker_now zl_6 d_Asker_bestParting_2 q_222 ?_
  refine gf_Stand_many zl_1 d_Asker_bestParting_5 q_128 ?_
  refine z_ishl d_Asker_bestParting_8 ?_
  refine z_istore_n d_Asker_bestParting_9 rfl (by decide) rfl ?_
  refine z_iconst (v := 0) d_Asker_bestParting_10 (by decide) ?_
  refine z_istore_n d_Asker_bestParting_11 rfl (by decide) rfl ?_
  refine z_sub [2, 3, 1, 0] rfl ?_
  exact zl_Asker_bestParting_12 2000 (x1, ((1 : Int32) <<< ((zI σ 1 3) &&& 31)), (0 : Int32), σ) h
theorem d_BB_two_0 : decode b_BB_two 0 = .ok (.iload_n 1, 1) := by decide +kernel
theorem d_BB_two_1 : decode b_BB_two 1 = .ok (.ifCond .lt (8), 3) := by decide +kernel
theorem d_BB_two_4 : decode b_BB_two 4 = .ok (.iload_n 1, 1) := by decide +kernel
theorem d_BB_two_5 : decode b_BB_two 5 = .ok (.iconst (1), 1) := by decide +kernel
theorem d_BB_two_6 : decode b_BB_two 6 = .ok (.if_icmp .le (5), 3) := by decide +kernel
theorem d_BB_two_9 : decode b_BB_two 9 = .ok (.iconst (-1), 1) := by decide +kernel
theorem d_BB_two_10 : decode b_BB_two 10 = .ok (.ireturn, 1) := by decide +kernel
theorem d_BB_two_11 : decode b_BB_two 11 = .ok (.aload_n 0, 1) := by decide +kernel
theorem d_BB_two_12 : decode b_BB_two 12 = .ok (.getfield 53, 3) := by decide +kernel
theorem d_BB_two_15 : decode b_BB_two 15 = .ok (.iload_n 1, 1) := by decide +kernel
theorem d_BB_two_16 : decode b_BB_two 16 = .ok (.iconst (1), 1) := by decide +kernel
theorem d_BB_two_17 : decode b_BB_two 17 = .ok (.if_icmp .ne (7), 3) := by decide +kernel
theorem d_BB_two_20 : decode b_BB_two 20 = .ok (.iconst (1), 1) := by decide +kernel
theorem d_BB_two_21 : decode b_BB_two 21 = .ok (.goto (4), 3) := by decide +kernel
theorem d_BB_two_24 : decode b_BB_two 24 = .ok (.iconst (0), 1) := by decide +kernel
theorem d_BB_two_25 : decode b_BB_two 25 = .ok (.invokevirtual 206, 3) := by decide +kernel
theorem d_BB_two_28 : decode b_BB_two 28 = .ok (.ireturn, 1) := by decide +kernel
theorem zb_BB_two_25 {l : Launch} {θ : ZT} {res : Int32 × ZM} {y0 : Int32} {σ : ZM} (h : f_BB_two_25 y0 σ = some res) : WZ l b_BB_two 2 (some .int) "BakedBefore" 0 129 θ (zrm 8 239) (zQ mkI 0 129 θ res) σ [] 25 [.int y0, .ref (za θ 6)] := by
  unfold f_BB_two_25 at h
  obtain ⟨⟨v1, s2⟩, e3, h⟩ := zbd_i h
  refine w_callV (As := [.int y0]) (kc := 12) (ci := 2) (c_Asker_bestParting l θ e3) cf_Asker_bestParting q_659 d_BB_two_25 zl_6 rfl rfl rfl rfl rfl rfl (Nat.le_of_ble_eq_true rfl) rfl rfl ⟨Nat.le_of_ble_eq_true rfl, Nat.le_of_ble_eq_true rfl⟩ ?_
  exact z_iret d_BB_two_28 h
theorem c_BB_two (l : Launch) (θ : ZT) {x1 : Int32} {σ : ZM} {res : Int32 × ZM} (h : f_BB_two x1 σ = some res) : zMet mkI l 0 129 θ y_BB_two b_BB_two 2 (some .int) (zrm 8 239) [.ref (za θ 0), .int x1] σ res := by
  unfold f_BB_two at h
  refine z_met (lv := [(0, .ref (za θ 0)), (1, .int x1)]) (by decide +kernel) rfl (Nat.le_of_ble_eq_true rfl) (by decide) ?_
  refine z_iload_n 1 d_BB_two_0 rfl rfl ?_
  refine z_if_lt (tgt := 9) d_BB_two_1 (by decide) (fun c1 => ?_) (fun c1 => ?_)
  · have h := (if_pos c1).symm.trans h
    refine z_iconst (v := -1) d_BB_two_9 (by decide) ?_
    exact z_iret d_BB_two_10 h
  · have h := (if_neg c1).symm.trans h
    refine z_iload_n 1 d_BB_two_4 rfl rfl ?_
    refine z_iconst (v := 1) d_BB_two_5 (by decide) ?_
    refine z_icmp_le (tgt := 11) d_BB_two_6 (by decide) (fun c2 => ?_) (fun c2 => ?_)
    · have h := (if_pos c2).symm.trans h
      refine z_aload_n 0 d_BB_two_11 rfl rfl ?_
      refine gf_BB_asker zl_0 d_BB_two_12 q_309 ?_
      refine z_iload_n 1 d_BB_two_15 rfl rfl ?_
      refine z_iconst (v := 1) d_BB_two_16 (by decide) ?_
      refine z_icmp_ne (tgt := 24) d_BB_two_17 (by decide) (fun c3 => ?_) (fun c3 => ?_)
      · have h := (if_neg c3).symm.trans h
        refine z_iconst (v := 0) d_BB_two_24 (by decide) ?_
        refine z_sub [] rfl ?_
        exact zb_BB_two_25 h
      · have h := (if_pos c3).symm.trans h
        refine z_iconst (v := 1) d_BB_two_20 (by decide) ?_
        refine z_goto (tgt := 25) d_BB_two_21 (by decide) ?_
        refine z_sub [] rfl ?_
        exact zb_BB_two_25 h
    · have h := (if_neg c2).symm.trans h
      refine z_iconst (v := -1) d_BB_two_9 (by decide) ?_
      exact z_iret d_BB_two_10 h
theorem d_Asker_gainOfFirst_0 : decode b_Asker_gainOfFirst 0 = .ok (.aload_n 0, 1) := by decide +kernel
theorem d_Asker_gainOfFirst_1 : decode b_Asker_gainOfFirst 1 = .ok (.getfield 22, 3) := by decide +kernel
theorem d_Asker_gainOfFirst_4 : decode b_Asker_gainOfFirst 4 = .ok (.getfield 39, 3) := by decide +kernel
theorem d_Asker_gainOfFirst_7 : decode b_Asker_gainOfFirst 7 = .ok (.iload_n 1, 1) := by decide +kernel
theorem d_Asker_gainOfFirst_8 : decode b_Asker_gainOfFirst 8 = .ok (.aaload, 1) := by decide +kernel
theorem d_Asker_gainOfFirst_9 : decode b_Asker_gainOfFirst 9 = .ok (.astore_n 2, 1) := by decide +kernel
theorem d_Asker_gainOfFirst_10 : decode b_Asker_gainOfFirst 10 = .ok (.aload_n 0, 1) := by decide +kernel
theorem d_Asker_gainOfFirst_11 : decode b_Asker_gainOfFirst 11 = .ok (.getfield 22, 3) := by decide +kernel
theorem d_Asker_gainOfFirst_14 : decode b_Asker_gainOfFirst 14 = .ok (.getfield 39, 3) := by decide +kernel
theorem d_Asker_gainOfFirst_17 : decode b_Asker_gainOfFirst 17 = .ok (.iload_n 1, 1) := by decide +kernel
theorem d_Asker_gainOfFirst_18 : decode b_Asker_gainOfFirst 18 = .ok (.iconst (1), 1) := by decide +kernel
theorem d_Asker_gainOfFirst_19 : decode b_Asker_gainOfFirst 19 = .ok (.iadd, 1) := by decide +kernel
theorem d_Asker_gainOfFirst_20 : decode b_Asker_gainOfFirst 20 = .ok (.aaload, 1) := by decide +kernel
theorem d_Asker_gainOfFirst_21 : decode b_Asker_gainOfFirst 21 = .ok (.astore_n 3, 1) := by decide +kernel
theorem d_Asker_gainOfFirst_22 : decode b_Asker_gainOfFirst 22 = .ok (.aload_n 0, 1) := by decide +kernel
theorem d_Asker_gainOfFirst_23 : decode b_Asker_gainOfFirst 23 = .ok (.getfield 12, 3) := by decide +kernel
theorem d_Asker_gainOfFirst_26 : decode b_Asker_gainOfFirst 26 = .ok (.aload_n 0, 1) := by decide +kernel
theorem d_Asker_gainOfFirst_27 : decode b_Asker_gainOfFirst 27 = .ok (.getfield 22, 3) := by decide +kernel
theorem d_Asker_gainOfFirst_30 : decode b_Asker_gainOfFirst 30 = .ok (.getfield 30, 3) := by decide +kernel
theorem d_Asker_gainOfFirst_33 : decode b_Asker_gainOfFirst 33 = .ok (.invokevirtual 35, 3) := by decide +kernel
theorem d_Asker_gainOfFirst_36 : decode b_Asker_gainOfFirst 36 = .ok (.aload_n 0, 1) := by decide +kernel
theorem d_Asker_gainOfFirst_37 : decode b_Asker_gainOfFirst 37 = .ok (.getfield 26, 3) := by decide +kernel
theorem d_Asker_gainOfFirst_40 : decode b_Asker_gainOfFirst 40 = .ok (.aload_n 0, 1) := by decide +kernel
theorem d_Asker_gainOfFirst_41 : decode b_Asker_gainOfFirst 41 = .ok (.getfield 12, 3) := by decide +kernel
theorem d_Asker_gainOfFirst_44 : decode b_Asker_gainOfFirst 44 = .ok (.aload_n 2, 1) := by decide +kernel
theorem d_Asker_gainOfFirst_45 : decode b_Asker_gainOfFirst 45 = .ok (.invokevirtual 43, 3) := by decide +kernel
theorem d_Asker_gainOfFirst_48 : decode b_Asker_gainOfFirst 48 = .ok (.pop, 1) := by decide +kernel
theorem d_Asker_gainOfFirst_49 : decode b_Asker_gainOfFirst 49 = .ok (.aload_n 0, 1) := by decide +kernel
theorem d_Asker_gainOfFirst_50 : decode b_Asker_gainOfFirst 50 = .ok (.getfield 26, 3) := by decide +kernel
theorem d_Asker_gainOfFirst_53 : decode b_Asker_gainOfFirst 53 = .ok (.aload_n 3, 1) := by decide +kernel
theorem d_Asker_gainOfFirst_54 : decode b_Asker_gainOfFirst 54 = .ok (.aload_n 0, 1) := by decide +kernel
theorem d_Asker_gainOfFirst_55 : decode b_Asker_gainOfFirst 55 = .ok (.getfield 12, 3) := by decide +kernel
theorem d_Asker_gainOfFirst_58 : decode b_Asker_gainOfFirst 58 = .ok (.invokevirtual 61, 3) := by decide +kernel
theorem d_Asker_gainOfFirst_61 : decode b_Asker_gainOfFirst 61 = .ok (.aload_n 0, 1) := by decide +kernel
theorem d_Asker_gainOfFirst_62 : decode b_Asker_gainOfFirst 62 = .ok (.getfield 26, 3) := by decide +kernel
theorem d_Asker_gainOfFirst_65 : decode b_Asker_gainOfFirst 65 = .ok (.aload_n 3, 1) := by decide +kernel
theorem d_Asker_gainOfFirst_66 : decode b_Asker_gainOfFirst 66 = .ok (.aload_n 0, 1) := by decide +kernel
theorem d_Asker_gainOfFirst_67 : decode b_Asker_gainOfFirst 67 = .ok (.getfield 22, 3) := by decide +kernel
theorem d_Asker_gainOfFirst_70 : decode b_Asker_gainOfFirst 70 = .ok (.getfield 30, 3) := by decide +kernel
theorem d_Asker_gainOfFirst_73 : decode b_Asker_gainOfFirst 73 = .ok (.invokevirtual 61, 3) := by decide +kernel
theorem d_Asker_gainOfFirst_76 : decode b_Asker_gainOfFirst 76 = .ok (.if_icmp .ge (22), 3) := by decide +kernel
theorem d_Asker_gainOfFirst_79 : decode b_Asker_gainOfFirst 79 = .ok (.aload_n 0, 1) := by decide +kernel
theorem d_Asker_gainOfFirst_80 : decode b_Asker_gainOfFirst 80 = .ok (.getfield 26, 3) := by decide +kernel
theorem d_Asker_gainOfFirst_83 : decode b_Asker_gainOfFirst 83 = .ok (.aload_n 2, 1) := by decide +kernel
theorem d_Asker_gainOfFirst_84 : decode b_Asker_gainOfFirst 84 = .ok (.aload_n 0, 1) := by decide +kernel
theorem d_Asker_gainOfFirst_85 : decode b_Asker_gainOfFirst 85 = .ok (.getfield 22, 3) := by decide +kernel
theorem d_Asker_gainOfFirst_88 : decode b_Asker_gainOfFirst 88 = .ok (.getfield 30, 3) := by decide +kernel
theorem d_Asker_gainOfFirst_91 : decode b_Asker_gainOfFirst 91 = .ok (.getfield 80, 3) := by decide +kernel
theorem d_Asker_gainOfFirst_94 : decode b_Asker_gainOfFirst 94 = .ok (.invokevirtual 83, 3) := by decide +kernel
theorem d_Asker_gainOfFirst_97 : decode b_Asker_gainOfFirst 97 = .ok (.ireturn, 1) := by decide +kernel
theorem d_Asker_gainOfFirst_98 : decode b_Asker_gainOfFirst 98 = .ok (.aload_n 0, 1) := by decide +kernel
theorem d_Asker_gainOfFirst_99 : decode b_Asker_gainOfFirst 99 = .ok (.getfield 26, 3) := by decide +kernel
theorem d_Asker_gainOfFirst_102 : decode b_Asker_gainOfFirst 102 = .ok (.aload_n 3, 1) := by decide +kernel
theorem d_Asker_gainOfFirst_103 : decode b_Asker_gainOfFirst 103 = .ok (.aload_n 0, 1) := by decide +kernel
theorem d_Asker_gainOfFirst_104 : decode b_Asker_gainOfFirst 104 = .ok (.getfield 22, 3) := by decide +kernel
theorem d_Asker_gainOfFirst_107 : decode b_Asker_gainOfFirst 107 = .ok (.getfield 30, 3) := by decide +kernel
theorem d_Asker_gainOfFirst_110 : decode b_Asker_gainOfFirst 110 = .ok (.getfield 80, 3) := by decide +kernel
theorem d_Asker_gainOfFirst_113 : decode b_Asker_gainOfFirst 113 = .ok (.invokevirtual 83, 3) := by decide +kernel
theorem d_Asker_gainOfFirst_116 : decode b_Asker_gainOfFirst 116 = .ok (.ineg, 1) := by decide +kernel
theorem d_Asker_gainOfFirst_117 : decode b_Asker_gainOfFirst 117 = .ok (.ireturn, 1) := by decide +kernel
theorem c_Asker_gainOfFirst (l : Launch) (θ : ZT) {x1 : Int32} {σ : ZM} {res : Int32 × ZM} (h : f_Asker_gainOfFirst x1 σ = some res) : zMet mkI l 0 129 θ y_Asker_gainOfFirst b_Asker_gainOfFirst 4 (some .int) (zrm 6 190) [.ref (za θ 6), .int x1] σ res := by
  unfold f_Asker_gainOfFirst at h
  refine z_met (lv := [(0, .ref (za θ 6)), (1, .int x1)]) (by decide +kernel) rfl (Nat.le_of_ble_eq_true rfl) (by decide) ?_
  refine z_aload_n 0 d_Asker_gainOfFirst_0 rfl rfl ?_
  refine gf_Asker_now zl_6 d_Asker_gainOfFirst_1 q_222 ?_
  refine gf_Stand_loaves (o2 := 25) zl_1 rfl d_Asker_gainOfFirst_4 q_115 ?_
  refine z_iload_n 1 d_Asker_gainOfFirst_7 rfl rfl ?_
  obtain ⟨c1, h⟩ := zck_i h
  refine w_aald3 zl_25 c1 d_Asker_gainOfFirst_8 ?_
  obtain ⟨c2, h⟩ := zck_i h
  refine z_astore_n d_Asker_gainOfFirst_9 rfl (by decide) rfl ?_
  refine z_aload_n 1 d_Asker_gainOfFirst_10 rfl rfl ?_
  refine gf_Asker_now zl_6 d_Asker_gainOfFirst_11 q_222 ?_
  refine gf_Stand_loaves (o2 := 25) zl_1 rfl d_Asker_gainOfFirst_14 q_115 ?_
  refine z_iload_n 2 d_Asker_gainOfFirst_17 rfl rfl ?_
  refine z_iconst (v := 1) d_Asker_gainOfFirst_18 (by decide) ?_
  refine z_iadd d_Asker_gainOfFirst_19 ?_
  obtain ⟨c3, h⟩ := zck_i h
  refine w_aald3 zl_25 c3 d_Asker_gainOfFirst_20 ?_
  obtain ⟨c4, h⟩ := zck_i h
  refine z_astore_n d_Asker_gainOfFirst_21 rfl (by decide) rfl ?_
  refine z_aload_n 2 d_Asker_gainOfFirst_22 rfl rfl ?_
  refine gf_Asker_trial zl_6 d_Asker_gainOfFirst_23 q_224 ?_
  refine z_aload_n 2 d_Asker_gainOfFirst_26 rfl rfl ?_
  refine gf_Asker_now zl_6 d_Asker_gainOfFirst_27 q_222 ?_
  refine gf_Stand_oven (o2 := 33) zl_1 rfl d_Asker_gainOfFirst_30 q_119 ?_
  obtain ⟨⟨v5, s6⟩, e7, h⟩ := zbd_i h
  refine w_callV (As := [.ref (za θ 33)]) (kc := 17) (ci := 7) (c_Oven_become l θ e7) cf_Oven_become q_580 d_Asker_gainOfFirst_33 zl_35 rfl rfl rfl rfl rfl rfl (Nat.le_of_ble_eq_true rfl) rfl rfl ⟨Nat.le_of_ble_eq_true rfl, Nat.le_of_ble_eq_true rfl⟩ ?_
  refine z_aload_n 2 d_Asker_gainOfFirst_36 rfl rfl ?_
  refine gf_Asker_baker zl_6 d_Asker_gainOfFirst_37 q_223 ?_
  refine z_aload_n 2 d_Asker_gainOfFirst_40 rfl rfl ?_
  refine gf_Asker_trial zl_6 d_Asker_gainOfFirst_41 q_224 ?_
  refine z_aload_n 1 d_Asker_gainOfFirst_44 rfl rfl ?_
  obtain ⟨⟨v8, s9⟩, e10, h⟩ := zbd_i h
  refine w_callV (As := [.ref (za θ 35), .ref (za θ (zel 25 x1.toNatClampNeg))]) (kc := 13) (ci := 3) (c_Baker_bakeIn l θ e10) cf_Baker_bakeIn q_584 d_Asker_gainOfFirst_45 zl_5 rfl rfl rfl rfl rfl rfl (Nat.le_of_ble_eq_true rfl) rfl rfl ⟨Nat.le_of_ble_eq_true rfl, Nat.le_of_ble_eq_true rfl⟩ ?_
  refine z_pop d_Asker_gainOfFirst_48 rfl ?_
  refine z_aload_n 2 d_Asker_gainOfFirst_49 rfl rfl ?_
  refine gf_Asker_baker zl_6 d_Asker_gainOfFirst_50 q_223 ?_
  refine z_aload_n 0 d_Asker_gainOfFirst_53 rfl rfl ?_
  refine z_aload_n 2 d_Asker_gainOfFirst_54 rfl rfl ?_
  refine gf_Asker_trial zl_6 d_Asker_gainOfFirst_55 q_224 ?_
  obtain ⟨⟨v11, s12⟩, e13, h⟩ := zbd_i h
  refine w_callV (As := [.ref (za θ (zel 25 (x1 + (1 : Int32)).toNatClampNeg)), .ref (za θ 35)]) (kc := 13) (ci := 3) (c_Baker_takesOfAll l θ e13) cf_Baker_takesOfAll q_639 d_Asker_gainOfFirst_58 zl_5 rfl rfl rfl rfl rfl rfl (Nat.le_of_ble_eq_true rfl) rfl rfl ⟨Nat.le_of_ble_eq_true rfl, Nat.le_of_ble_eq_true rfl⟩ ?_
  refine z_aload_n 2 d_Asker_gainOfFirst_61 rfl rfl ?_
  refine gf_Asker_baker zl_6 d_Asker_gainOfFirst_62 q_223 ?_
  refine z_aload_n 0 d_Asker_gainOfFirst_65 rfl rfl ?_
  refine z_aload_n 2 d_Asker_gainOfFirst_66 rfl rfl ?_
  refine gf_Asker_now zl_6 d_Asker_gainOfFirst_67 q_222 ?_
  refine gf_Stand_oven (o2 := 33) zl_1 rfl d_Asker_gainOfFirst_70 q_119 ?_
  obtain ⟨⟨v14, s15⟩, e16, h⟩ := zbd_i h
  refine w_callV (As := [.ref (za θ (zel 25 (x1 + (1 : Int32)).toNatClampNeg)), .ref (za θ 33)]) (kc := 13) (ci := 3) (c_Baker_takesOfAll l θ e16) cf_Baker_takesOfAll q_639 d_Asker_gainOfFirst_73 zl_5 rfl rfl rfl rfl rfl rfl (Nat.le_of_ble_eq_true rfl) rfl rfl ⟨Nat.le_of_ble_eq_true rfl, Nat.le_of_ble_eq_true rfl⟩ ?_
  refine z_icmp_ge (tgt := 98) d_Asker_gainOfFirst_76 (by decide) (fun c17 => ?_) (fun c17 => ?_)
  · have h := (if_pos c17).symm.trans h
    refine z_aload_n 2 d_Asker_gainOfFirst_98 rfl rfl ?_
    refine gf_Asker_baker zl_6 d_Asker_gainOfFirst_99 q_223 ?_
    refine z_aload_n 0 d_Asker_gainOfFirst_102 rfl rfl ?_
    refine z_aload_n 2 d_Asker_gainOfFirst_103 rfl rfl ?_
    refine gf_Asker_now zl_6 d_Asker_gainOfFirst_104 q_222 ?_
    refine gf_Stand_oven (o2 := 33) zl_1 rfl d_Asker_gainOfFirst_107 q_119 ?_
    refine gf_Oven_hour zl_33 d_Asker_gainOfFirst_110 q_51 ?_
    obtain ⟨⟨v18, s19⟩, e20, h⟩ := zbd_i h
    refine w_callV (As := [.ref (za θ (zel 25 (x1 + (1 : Int32)).toNatClampNeg)), .int (zI s15 33 1)]) (kc := 13) (ci := 3) (c_Baker_feeOf l θ e20) cf_Baker_feeOf q_680 d_Asker_gainOfFirst_113 zl_5 rfl rfl rfl rfl rfl rfl (Nat.le_of_ble_eq_true rfl) rfl rfl ⟨Nat.le_of_ble_eq_true rfl, Nat.le_of_ble_eq_true rfl⟩ ?_
    refine z_ineg d_Asker_gainOfFirst_116 ?_
    exact z_iret d_Asker_gainOfFirst_117 h
  · have h := (if_neg c17).symm.trans h
    refine z_aload_n 2 d_Asker_gainOfFirst_79 rfl rfl ?_
    refine gf_Asker_baker zl_6 d_Asker_gainOfFirst_80 q_223 ?_
    refine z_aload_n 1 d_Asker_gainOfFirst_83 rfl rfl ?_
    refine z_aload_n 2 d_Asker_gainOfFirst_84 rfl rfl ?_
    refine gf_Asker_now zl_6 d_Asker_gainOfFirst_85 q_222 ?_
    refine gf_Stand_oven (o2 := 33) zl_1 rfl d_Asker_gainOfFirst_88 q_119 ?_
    refine gf_Oven_hour zl_33 d_Asker_gainOfFirst_91 q_51 ?_
    obtain ⟨⟨v21, s22⟩, e23, h⟩ := zbd_i h
    refine w_callV (As := [.ref (za θ (zel 25 x1.toNatClampNeg)), .int (zI s15 33 1)]) (kc := 13) (ci := 3) (c_Baker_feeOf l θ e23) cf_Baker_feeOf q_680 d_Asker_gainOfFirst_94 zl_5 rfl rfl rfl rfl rfl rfl (Nat.le_of_ble_eq_true rfl) rfl rfl ⟨Nat.le_of_ble_eq_true rfl, Nat.le_of_ble_eq_true rfl⟩ ?_
    exact z_iret d_Asker_gainOfFirst_97 h
theorem d_Asker_purse_0 : decode b_Asker_purse 0 = .ok (.iconst (0), 1) := by decide +kernel
theorem d_Asker_purse_1 : decode b_Asker_purse 1 = .ok (.istore_n 2, 1) := by decide +kernel
theorem d_Asker_purse_2 : decode b_Asker_purse 2 = .ok (.iload_n 1, 1) := by decide +kernel
theorem d_Asker_purse_3 : decode b_Asker_purse 3 = .ok (.iconst (1), 1) := by decide +kernel
theorem d_Asker_purse_4 : decode b_Asker_purse 4 = .ok (.iadd, 1) := by decide +kernel
theorem d_Asker_purse_5 : decode b_Asker_purse 5 = .ok (.aload_n 0, 1) := by decide +kernel
theorem d_Asker_purse_6 : decode b_Asker_purse 6 = .ok (.getfield 22, 3) := by decide +kernel
theorem d_Asker_purse_9 : decode b_Asker_purse 9 = .ok (.getfield 65, 3) := by decide +kernel
theorem d_Asker_purse_12 : decode b_Asker_purse 12 = .ok (.if_icmp .ge (11), 3) := by decide +kernel
theorem d_Asker_purse_15 : decode b_Asker_purse 15 = .ok (.iload_n 2, 1) := by decide +kernel
theorem d_Asker_purse_16 : decode b_Asker_purse 16 = .ok (.aload_n 0, 1) := by decide +kernel
theorem d_Asker_purse_17 : decode b_Asker_purse 17 = .ok (.iload_n 1, 1) := by decide +kernel
theorem d_Asker_purse_18 : decode b_Asker_purse 18 = .ok (.invokevirtual 77, 3) := by decide +kernel
theorem d_Asker_purse_21 : decode b_Asker_purse 21 = .ok (.iadd, 1) := by decide +kernel
theorem d_Asker_purse_22 : decode b_Asker_purse 22 = .ok (.istore_n 2, 1) := by decide +kernel
theorem d_Asker_purse_23 : decode b_Asker_purse 23 = .ok (.iload_n 1, 1) := by decide +kernel
theorem d_Asker_purse_24 : decode b_Asker_purse 24 = .ok (.ifCond .le (13), 3) := by decide +kernel
theorem d_Asker_purse_27 : decode b_Asker_purse 27 = .ok (.iload_n 2, 1) := by decide +kernel
theorem d_Asker_purse_28 : decode b_Asker_purse 28 = .ok (.aload_n 0, 1) := by decide +kernel
theorem d_Asker_purse_29 : decode b_Asker_purse 29 = .ok (.iload_n 1, 1) := by decide +kernel
theorem d_Asker_purse_30 : decode b_Asker_purse 30 = .ok (.iconst (1), 1) := by decide +kernel
theorem d_Asker_purse_31 : decode b_Asker_purse 31 = .ok (.isub, 1) := by decide +kernel
theorem d_Asker_purse_32 : decode b_Asker_purse 32 = .ok (.invokevirtual 77, 3) := by decide +kernel
theorem d_Asker_purse_35 : decode b_Asker_purse 35 = .ok (.isub, 1) := by decide +kernel
theorem d_Asker_purse_36 : decode b_Asker_purse 36 = .ok (.istore_n 2, 1) := by decide +kernel
theorem d_Asker_purse_37 : decode b_Asker_purse 37 = .ok (.iload_n 2, 1) := by decide +kernel
theorem d_Asker_purse_38 : decode b_Asker_purse 38 = .ok (.ireturn, 1) := by decide +kernel
theorem zb_Asker_purse_23 {l : Launch} {θ : ZT} {res : Int32 × ZM} {x1 : Int32} {x2 : Int32} {σ : ZM} (h : f_Asker_purse_23 x1 x2 σ = some res) : WZ l b_Asker_purse 3 (some .int) "BakedBefore$Aske\x72" 0 129 θ (zrm 7 213) (zQ mkI 0 129 θ res) σ [(0, .ref (za θ 6)), (1, .int x1), (2, .int x2)] 23 [] := by
  unfold f_Asker_purse_23 at h
  refine z_iload_n 1 d_Asker_purse_23 rfl rfl ?_
  refine z_if_le (tgt := 37) d_Asker_purse_24 (by decide) (fun c1 => ?_) (fun c1 => ?_)
  · have h := (if_pos c1).symm.trans h
    refine z_iload_n 2 d_Asker_purse_37 rfl rfl ?_
    exact z_iret d_Asker_purse_38 h
  · have h := (if_neg c1).symm.trans h
    refine z_iload_n 2 d_Asker_purse_27 rfl rfl ?_
    refine z_aload_n 0 d_Asker_purse_28 rfl rfl ?_
    refine z_iload_n 1 d_Asker_purse_29 rfl rfl ?_
    refine z_iconst (v := 1) d_Asker_purse_30 (by decide) ?_
    refine z_isub d_Asker_purse_31 ?_
    obtain ⟨⟨v2, s3⟩, e4, h⟩ := zbd_i h
    refine w_callV (As := [.int (x1 - (1 : Int32))]) (kc := 12) (ci := 2) (c_Asker_gainOfFirst l θ e4) cf_Asker_gainOfFirst q_676 d_Asker_purse_32 zl_6 rfl rfl rfl rfl rfl rfl (Nat.le_of_ble_eq_true rfl) rfl rfl ⟨Nat.le_of_ble_eq_true rfl, Nat.le_of_ble_eq_true rfl⟩ ?_
    refine z_isub d_Asker_purse_35 ?_
    refine z_istore_n d_Asker_purse_36 rfl (by decide) rfl ?_
    refine z_iload_n 0 d_Asker_purse_37 rfl rfl ?_
    exact z_iret d_Asker_purse_38 h
theorem c_Asker_purse (l : Launch) (θ : ZT) {x1 : Int32} {σ : ZM} {res : Int32 × ZM} (h : f_Asker_purse x1 σ = some res) : zMet mkI l 0 129 θ y_Asker_purse b_Asker_purse 3 (some .int) (zrm 7 213) [.ref (za θ 6), .int x1] σ res := by
  unfold f_Asker_purse at h
  refine z_met (lv := [(0, .ref (za θ 6)), (1, .int x1)]) (by decide +kernel) rfl (Nat.le_of_ble_eq_true rfl) (by decide) ?_
  refine z_iconst (v := 0) d_Asker_purse_0 (by decide) ?_
  refine z_istore_n d_Asker_purse_1 rfl (by decide) rfl ?_
  refine z_iload_n 2 d_Asker_purse_2 rfl rfl ?_
  refine z_iconst (v := 1) d_Asker_purse_3 (by decide) ?_
  refine z_iadd d_Asker_purse_4 ?_
  refine z_aload_n 1 d_Asker_purse_5 rfl rfl ?_
  refine gf_Asker_now zl_6 d_Asker_purse_6 q_222 ?_
  refine gf_Stand_many zl_1 d_Asker_purse_9 q_128 ?_
  refine z_icmp_ge (tgt := 23) d_Asker_purse_12 (by decide) (fun c1 => ?_) (fun c1 => ?_)
  · have h := (if_pos c1).symm.trans h
    refine z_sub [1, 2, 0] rfl ?_
    exact zb_Asker_purse_23 h
  · have h := (if_neg c1).symm.trans h
    refine z_iload_n 0 d_Asker_purse_15 rfl rfl ?_
    refine z_aload_n 1 d_Asker_purse_16 rfl rfl ?_
    refine z_iload_n 2 d_Asker_purse_17 rfl rfl ?_
    obtain ⟨⟨v2, s3⟩, e4, h⟩ := zbd_i h
    refine w_callV (As := [.int x1]) (kc := 12) (ci := 2) (c_Asker_gainOfFirst l θ e4) cf_Asker_gainOfFirst q_676 d_Asker_purse_18 zl_6 rfl rfl rfl rfl rfl rfl (Nat.le_of_ble_eq_true rfl) rfl rfl ⟨Nat.le_of_ble_eq_true rfl, Nat.le_of_ble_eq_true rfl⟩ ?_
    refine z_iadd d_Asker_purse_21 ?_
    refine z_istore_n d_Asker_purse_22 rfl (by decide) rfl ?_
    refine z_sub [1, 2, 0] rfl ?_
    exact zb_Asker_purse_23 h
theorem d_BB_has_0 : decode b_BB_has 0 = .ok (.aload_n 0, 1) := by decide +kernel
theorem d_BB_has_1 : decode b_BB_has 1 = .ok (.iload_n 1, 1) := by decide +kernel
theorem d_BB_has_2 : decode b_BB_has 2 = .ok (.invokevirtual 92, 3) := by decide +kernel
theorem d_BB_has_5 : decode b_BB_has 5 = .ok (.ifCond .ne (6), 3) := by decide +kernel
theorem d_BB_has_8 : decode b_BB_has 8 = .ok (.ldc 209, 2) := by decide +kernel
theorem d_BB_has_10 : decode b_BB_has 10 = .ok (.ireturn, 1) := by decide +kernel
theorem d_BB_has_11 : decode b_BB_has 11 = .ok (.aload_n 0, 1) := by decide +kernel
theorem d_BB_has_12 : decode b_BB_has 12 = .ok (.getfield 53, 3) := by decide +kernel
theorem d_BB_has_15 : decode b_BB_has 15 = .ok (.iload_n 1, 1) := by decide +kernel
theorem d_BB_has_16 : decode b_BB_has 16 = .ok (.invokevirtual 210, 3) := by decide +kernel
theorem d_BB_has_19 : decode b_BB_has 19 = .ok (.ireturn, 1) := by decide +kernel
theorem c_BB_has (l : Launch) (θ : ZT) {x1 : Int32} {σ : ZM} {res : Int32 × ZM} (h : f_BB_has x1 σ = some res) : zMet mkI l 0 129 θ y_BB_has b_BB_has 2 (some .int) (zrm 8 235) [.ref (za θ 0), .int x1] σ res := by
  unfold f_BB_has at h
  refine z_met (lv := [(0, .ref (za θ 0)), (1, .int x1)]) (by decide +kernel) rfl (Nat.le_of_ble_eq_true rfl) (by decide) ?_
  refine z_aload_n 0 d_BB_has_0 rfl rfl ?_
  refine z_iload_n 1 d_BB_has_1 rfl rfl ?_
  obtain ⟨⟨v1, s2⟩, e3, h⟩ := zbd_i h
  refine w_callV (As := [.int x1]) (kc := 10) (ci := 0) (c_BB_isLoaf l θ e3) cf_BB_isLoaf q_352 d_BB_has_2 zl_0 rfl rfl rfl rfl rfl rfl (Nat.le_of_ble_eq_true rfl) rfl rfl ⟨Nat.le_of_ble_eq_true rfl, Nat.le_of_ble_eq_true rfl⟩ ?_
  refine z_if_ne (tgt := 11) d_BB_has_5 (by decide) (fun c4 => ?_) (fun c4 => ?_)
  · have h := (if_neg c4).symm.trans h
    refine z_aload_n 0 d_BB_has_11 rfl rfl ?_
    refine gf_BB_asker zl_0 d_BB_has_12 q_309 ?_
    refine z_iload_n 1 d_BB_has_15 rfl rfl ?_
    obtain ⟨⟨v5, s6⟩, e7, h⟩ := zbd_i h
    refine w_callV (As := [.int x1]) (kc := 12) (ci := 2) (c_Asker_purse l θ e7) cf_Asker_purse q_672 d_BB_has_16 zl_6 rfl rfl rfl rfl rfl rfl (Nat.le_of_ble_eq_true rfl) rfl rfl ⟨Nat.le_of_ble_eq_true rfl, Nat.le_of_ble_eq_true rfl⟩ ?_
    exact z_iret d_BB_has_19 h
  · have h := (if_pos c4).symm.trans h
    refine z_ldc (v := -100001) d_BB_has_8 q_671 ?_
    exact z_iret d_BB_has_10 h
theorem d_Asker_bakeAhead_0 : decode b_Asker_bakeAhead 0 = .ok (.aload_n 0, 1) := by decide +kernel
theorem d_Asker_bakeAhead_1 : decode b_Asker_bakeAhead 1 = .ok (.getfield 12, 3) := by decide +kernel
theorem d_Asker_bakeAhead_4 : decode b_Asker_bakeAhead 4 = .ok (.aload_n 0, 1) := by decide +kernel
theorem d_Asker_bakeAhead_5 : decode b_Asker_bakeAhead 5 = .ok (.getfield 22, 3) := by decide +kernel
theorem d_Asker_bakeAhead_8 : decode b_Asker_bakeAhead 8 = .ok (.getfield 30, 3) := by decide +kernel
theorem d_Asker_bakeAhead_11 : decode b_Asker_bakeAhead 11 = .ok (.invokevirtual 35, 3) := by decide +kernel
theorem d_Asker_bakeAhead_14 : decode b_Asker_bakeAhead 14 = .ok (.iconst (0), 1) := by decide +kernel
theorem d_Asker_bakeAhead_15 : decode b_Asker_bakeAhead 15 = .ok (.istore_n 2, 1) := by decide +kernel
theorem d_Asker_bakeAhead_16 : decode b_Asker_bakeAhead 16 = .ok (.iload_n 2, 1) := by decide +kernel
theorem d_Asker_bakeAhead_17 : decode b_Asker_bakeAhead 17 = .ok (.iload_n 1, 1) := by decide +kernel
theorem d_Asker_bakeAhead_18 : decode b_Asker_bakeAhead 18 = .ok (.if_icmp .ge (30), 3) := by decide +kernel
theorem d_Asker_bakeAhead_21 : decode b_Asker_bakeAhead 21 = .ok (.aload_n 0, 1) := by decide +kernel
theorem d_Asker_bakeAhead_22 : decode b_Asker_bakeAhead 22 = .ok (.getfield 26, 3) := by decide +kernel
theorem d_Asker_bakeAhead_25 : decode b_Asker_bakeAhead 25 = .ok (.aload_n 0, 1) := by decide +kernel
theorem d_Asker_bakeAhead_26 : decode b_Asker_bakeAhead 26 = .ok (.getfield 12, 3) := by decide +kernel
theorem d_Asker_bakeAhead_29 : decode b_Asker_bakeAhead 29 = .ok (.aload_n 0, 1) := by decide +kernel
theorem d_Asker_bakeAhead_30 : decode b_Asker_bakeAhead 30 = .ok (.getfield 22, 3) := by decide +kernel
theorem d_Asker_bakeAhead_33 : decode b_Asker_bakeAhead 33 = .ok (.getfield 39, 3) := by decide +kernel
theorem d_Asker_bakeAhead_36 : decode b_Asker_bakeAhead 36 = .ok (.iload_n 2, 1) := by decide +kernel
theorem d_Asker_bakeAhead_37 : decode b_Asker_bakeAhead 37 = .ok (.aaload, 1) := by decide +kernel
theorem d_Asker_bakeAhead_38 : decode b_Asker_bakeAhead 38 = .ok (.invokevirtual 43, 3) := by decide +kernel
theorem d_Asker_bakeAhead_41 : decode b_Asker_bakeAhead 41 = .ok (.pop, 1) := by decide +kernel
theorem d_Asker_bakeAhead_42 : decode b_Asker_bakeAhead 42 = .ok (.iinc 2 (1), 3) := by decide +kernel
theorem d_Asker_bakeAhead_45 : decode b_Asker_bakeAhead 45 = .ok (.goto (-29), 3) := by decide +kernel
theorem d_Asker_bakeAhead_48 : decode b_Asker_bakeAhead 48 = .ok (.return_, 1) := by decide +kernel
theorem zb_Asker_bakeAhead_16 {l : Launch} {θ : ZT} {res : Unit × ZM} {k16 : Int32 × Int32 × ZM → Option (Unit × ZM)} (hk16 : ∀ a : Int32 × Int32 × ZM, k16 a = some res → WZ l b_Asker_bakeAhead 3 none "BakedBefore$Aske\x72" 0 129 θ (zrm 6 190) (zQ mkV 0 129 θ res) a.2.2 [(0, .ref (za θ 6)), (1, .int a.1), (2, .int a.2.1)] 16 []) {x1 : Int32} {x2 : Int32} {σ : ZM} (h : f_Asker_bakeAhead_16 k16 x1 x2 σ = some res) : WZ l b_Asker_bakeAhead 3 none "BakedBefore$Aske\x72" 0 129 θ (zrm 6 190) (zQ mkV 0 129 θ res) σ [(0, .ref (za θ 6)), (1, .int x1), (2, .int x2)] 16 [] := by
  unfold f_Asker_bakeAhead_16 at h
  refine z_iload_n 2 d_Asker_bakeAhead_16 rfl rfl ?_
  refine z_iload_n 1 d_Asker_bakeAhead_17 rfl rfl ?_
  refine z_icmp_ge (tgt := 48) d_Asker_bakeAhead_18 (by decide) (fun c1 => ?_) (fun c1 => ?_)
  · have h := (if_pos c1).symm.trans h
    exact z_vret d_Asker_bakeAhead_48 h
  · have h := (if_neg c1).symm.trans h
    refine z_aload_n 0 d_Asker_bakeAhead_21 rfl rfl ?_
    refine gf_Asker_baker zl_6 d_Asker_bakeAhead_22 q_223 ?_
    refine z_aload_n 0 d_Asker_bakeAhead_25 rfl rfl ?_
    refine gf_Asker_trial zl_6 d_Asker_bakeAhead_26 q_224 ?_
    refine z_aload_n 0 d_Asker_bakeAhead_29 rfl rfl ?_
    refine gf_Asker_now zl_6 d_Asker_bakeAhead_30 q_222 ?_
    refine gf_Stand_loaves (o2 := 25) zl_1 rfl d_Asker_bakeAhead_33 q_115 ?_
    refine z_iload_n 2 d_Asker_bakeAhead_36 rfl rfl ?_
    obtain ⟨c2, h⟩ := zck_i h
    refine w_aald3 zl_25 c2 d_Asker_bakeAhead_37 ?_
    obtain ⟨c3, h⟩ := zck_i h
    obtain ⟨⟨v4, s5⟩, e6, h⟩ := zbd_i h
    refine w_callV (As := [.ref (za θ 35), .ref (za θ (zel 25 x2.toNatClampNeg))]) (kc := 13) (ci := 3) (c_Baker_bakeIn l θ e6) cf_Baker_bakeIn q_584 d_Asker_bakeAhead_38 zl_5 rfl rfl rfl rfl rfl rfl (Nat.le_of_ble_eq_true rfl) rfl rfl ⟨Nat.le_of_ble_eq_true rfl, Nat.le_of_ble_eq_true rfl⟩ ?_
    refine z_pop d_Asker_bakeAhead_41 rfl ?_
    refine z_iinc (v := x2 + (1 : Int32)) 2 d_Asker_bakeAhead_42 rfl rfl (by decide) rfl ?_
    refine z_goto (tgt := 16) d_Asker_bakeAhead_45 (by decide) ?_
    refine z_sub [1, 2, 0] rfl ?_
    exact hk16 (x1, (x2 + (1 : Int32)), s5) h
theorem zl_Asker_bakeAhead_16 {l : Launch} {θ : ZT} {res : Unit × ZM} : ∀ (N : Nat) (a : Int32 × Int32 × ZM), F_Asker_bakeAhead_16 N a = some res → WZ l b_Asker_bakeAhead 3 none "BakedBefore$Aske\x72" 0 129 θ (zrm 6 190) (zQ mkV 0 129 θ res) a.2.2 [(0, .ref (za θ 6)), (1, .int a.1), (2, .int a.2.1)] 16 [] := by
  intro N
  induction N with
  | zero => intro a  h; cases (show (none : Option (Unit × ZM)) = some res from h)
  | succ N ih => intro a  h; exact zb_Asker_bakeAhead_16 ih (show f_Asker_bakeAhead_16 (F_Asker_bakeAhead_16 N) a.1 a.2.1 a.2.2 = some res from h)
theorem c_Asker_bakeAhead (l : Launch) (θ : ZT) {x1 : Int32} {σ : ZM} {res : Unit × ZM} (h : f_Asker_bakeAhead x1 σ = some res) : zMet mkV l 0 129 θ y_Asker_bakeAhead b_Asker_bakeAhead 3 none (zrm 6 190) [.ref (za θ 6), .int x1] σ res := by
  unfold f_Asker_bakeAhead at h
  refine z_met (lv := [(0, .ref (za θ 6)), (1, .int x1)]) (by decide +kernel) rfl (Nat.le_of_ble_eq_true rfl) (by decide) ?_
  refine z_aload_n 0 d_Asker_bakeAhead_0 rfl rfl ?_
  refine gf_Asker_trial zl_6 d_Asker_bakeAhead_1 q_224 ?_
  refine z_aload_n 0 d_Asker_bakeAhead_4 rfl rfl ?_
  refine gf_Asker_now zl_6 d_Asker_bakeAhead_5 q_222 ?_
  refine gf_Stand_oven (o2 := 33) zl_1 rfl d_Asker_bakeAhead_8 q_119 ?_
  obtain ⟨⟨v1, s2⟩, e3, h⟩ := zbd_i h
  refine w_callV (As := [.ref (za θ 33)]) (kc := 17) (ci := 7) (c_Oven_become l θ e3) cf_Oven_become q_580 d_Asker_bakeAhead_11 zl_35 rfl rfl rfl rfl rfl rfl (Nat.le_of_ble_eq_true rfl) rfl rfl ⟨Nat.le_of_ble_eq_true rfl, Nat.le_of_ble_eq_true rfl⟩ ?_
  refine z_iconst (v := 0) d_Asker_bakeAhead_14 (by decide) ?_
  refine z_istore_n d_Asker_bakeAhead_15 rfl (by decide) rfl ?_
  refine z_sub [1, 2, 0] rfl ?_
  exact zl_Asker_bakeAhead_16 2000 (x1, (0 : Int32), s2) h
theorem d_Asker_bothAgree_0 : decode b_Asker_bothAgree 0 = .ok (.aload_n 0, 1) := by decide +kernel
theorem d_Asker_bothAgree_1 : decode b_Asker_bothAgree 1 = .ok (.getfield 22, 3) := by decide +kernel
theorem d_Asker_bothAgree_4 : decode b_Asker_bothAgree 4 = .ok (.getfield 39, 3) := by decide +kernel
theorem d_Asker_bothAgree_7 : decode b_Asker_bothAgree 7 = .ok (.iload_n 1, 1) := by decide +kernel
theorem d_Asker_bothAgree_8 : decode b_Asker_bothAgree 8 = .ok (.aaload, 1) := by decide +kernel
theorem d_Asker_bothAgree_9 : decode b_Asker_bothAgree 9 = .ok (.astore_n 2, 1) := by decide +kernel
theorem d_Asker_bothAgree_10 : decode b_Asker_bothAgree 10 = .ok (.aload_n 0, 1) := by decide +kernel
theorem d_Asker_bothAgree_11 : decode b_Asker_bothAgree 11 = .ok (.getfield 22, 3) := by decide +kernel
theorem d_Asker_bothAgree_14 : decode b_Asker_bothAgree 14 = .ok (.getfield 39, 3) := by decide +kernel
theorem d_Asker_bothAgree_17 : decode b_Asker_bothAgree 17 = .ok (.iload_n 1, 1) := by decide +kernel
theorem d_Asker_bothAgree_18 : decode b_Asker_bothAgree 18 = .ok (.iconst (1), 1) := by decide +kernel
theorem d_Asker_bothAgree_19 : decode b_Asker_bothAgree 19 = .ok (.iadd, 1) := by decide +kernel
theorem d_Asker_bothAgree_20 : decode b_Asker_bothAgree 20 = .ok (.aaload, 1) := by decide +kernel
theorem d_Asker_bothAgree_21 : decode b_Asker_bothAgree 21 = .ok (.astore_n 3, 1) := by decide +kernel
theorem d_Asker_bothAgree_22 : decode b_Asker_bothAgree 22 = .ok (.aload_n 0, 1) := by decide +kernel
theorem d_Asker_bothAgree_23 : decode b_Asker_bothAgree 23 = .ok (.iload_n 1, 1) := by decide +kernel
theorem d_Asker_bothAgree_24 : decode b_Asker_bothAgree 24 = .ok (.invokevirtual 87, 3) := by decide +kernel
theorem d_Asker_bothAgree_27 : decode b_Asker_bothAgree 27 = .ok (.aload_n 0, 1) := by decide +kernel
theorem d_Asker_bothAgree_28 : decode b_Asker_bothAgree 28 = .ok (.getfield 26, 3) := by decide +kernel
theorem d_Asker_bothAgree_31 : decode b_Asker_bothAgree 31 = .ok (.aload_n 2, 1) := by decide +kernel
theorem d_Asker_bothAgree_32 : decode b_Asker_bothAgree 32 = .ok (.aload_n 0, 1) := by decide +kernel
theorem d_Asker_bothAgree_33 : decode b_Asker_bothAgree 33 = .ok (.getfield 12, 3) := by decide +kernel
theorem d_Asker_bothAgree_36 : decode b_Asker_bothAgree 36 = .ok (.invokevirtual 61, 3) := by decide +kernel
theorem d_Asker_bothAgree_39 : decode b_Asker_bothAgree 39 = .ok (.istore 4, 2) := by decide +kernel
theorem d_Asker_bothAgree_41 : decode b_Asker_bothAgree 41 = .ok (.aload_n 0, 1) := by decide +kernel
theorem d_Asker_bothAgree_42 : decode b_Asker_bothAgree 42 = .ok (.getfield 26, 3) := by decide +kernel
theorem d_Asker_bothAgree_45 : decode b_Asker_bothAgree 45 = .ok (.aload_n 0, 1) := by decide +kernel
theorem d_Asker_bothAgree_46 : decode b_Asker_bothAgree 46 = .ok (.getfield 12, 3) := by decide +kernel
theorem d_Asker_bothAgree_49 : decode b_Asker_bothAgree 49 = .ok (.aload_n 2, 1) := by decide +kernel
theorem d_Asker_bothAgree_50 : decode b_Asker_bothAgree 50 = .ok (.invokevirtual 43, 3) := by decide +kernel
theorem d_Asker_bothAgree_53 : decode b_Asker_bothAgree 53 = .ok (.pop, 1) := by decide +kernel
theorem d_Asker_bothAgree_54 : decode b_Asker_bothAgree 54 = .ok (.aload_n 0, 1) := by decide +kernel
theorem d_Asker_bothAgree_55 : decode b_Asker_bothAgree 55 = .ok (.getfield 26, 3) := by decide +kernel
theorem d_Asker_bothAgree_58 : decode b_Asker_bothAgree 58 = .ok (.aload_n 3, 1) := by decide +kernel
theorem d_Asker_bothAgree_59 : decode b_Asker_bothAgree 59 = .ok (.aload_n 0, 1) := by decide +kernel
theorem d_Asker_bothAgree_60 : decode b_Asker_bothAgree 60 = .ok (.getfield 12, 3) := by decide +kernel
theorem d_Asker_bothAgree_63 : decode b_Asker_bothAgree 63 = .ok (.invokevirtual 61, 3) := by decide +kernel
theorem d_Asker_bothAgree_66 : decode b_Asker_bothAgree 66 = .ok (.istore 5, 2) := by decide +kernel
theorem d_Asker_bothAgree_68 : decode b_Asker_bothAgree 68 = .ok (.aload_n 0, 1) := by decide +kernel
theorem d_Asker_bothAgree_69 : decode b_Asker_bothAgree 69 = .ok (.iload_n 1, 1) := by decide +kernel
theorem d_Asker_bothAgree_70 : decode b_Asker_bothAgree 70 = .ok (.invokevirtual 87, 3) := by decide +kernel
theorem d_Asker_bothAgree_73 : decode b_Asker_bothAgree 73 = .ok (.aload_n 0, 1) := by decide +kernel
theorem d_Asker_bothAgree_74 : decode b_Asker_bothAgree 74 = .ok (.getfield 26, 3) := by decide +kernel
theorem d_Asker_bothAgree_77 : decode b_Asker_bothAgree 77 = .ok (.aload_n 3, 1) := by decide +kernel
theorem d_Asker_bothAgree_78 : decode b_Asker_bothAgree 78 = .ok (.aload_n 0, 1) := by decide +kernel
theorem d_Asker_bothAgree_79 : decode b_Asker_bothAgree 79 = .ok (.getfield 12, 3) := by decide +kernel
theorem d_Asker_bothAgree_82 : decode b_Asker_bothAgree 82 = .ok (.invokevirtual 61, 3) := by decide +kernel
theorem d_Asker_bothAgree_85 : decode b_Asker_bothAgree 85 = .ok (.istore 6, 2) := by decide +kernel
theorem d_Asker_bothAgree_87 : decode b_Asker_bothAgree 87 = .ok (.aload_n 0, 1) := by decide +kernel
theorem d_Asker_bothAgree_88 : decode b_Asker_bothAgree 88 = .ok (.getfield 26, 3) := by decide +kernel
theorem d_Asker_bothAgree_91 : decode b_Asker_bothAgree 91 = .ok (.aload_n 0, 1) := by decide +kernel
theorem d_Asker_bothAgree_92 : decode b_Asker_bothAgree 92 = .ok (.getfield 12, 3) := by decide +kernel
theorem d_Asker_bothAgree_95 : decode b_Asker_bothAgree 95 = .ok (.aload_n 3, 1) := by decide +kernel
theorem d_Asker_bothAgree_96 : decode b_Asker_bothAgree 96 = .ok (.invokevirtual 43, 3) := by decide +kernel
theorem d_Asker_bothAgree_99 : decode b_Asker_bothAgree 99 = .ok (.pop, 1) := by decide +kernel
theorem d_Asker_bothAgree_100 : decode b_Asker_bothAgree 100 = .ok (.aload_n 0, 1) := by decide +kernel
theorem d_Asker_bothAgree_101 : decode b_Asker_bothAgree 101 = .ok (.getfield 26, 3) := by decide +kernel
theorem d_Asker_bothAgree_104 : decode b_Asker_bothAgree 104 = .ok (.aload_n 2, 1) := by decide +kernel
theorem d_Asker_bothAgree_105 : decode b_Asker_bothAgree 105 = .ok (.aload_n 0, 1) := by decide +kernel
theorem d_Asker_bothAgree_106 : decode b_Asker_bothAgree 106 = .ok (.getfield 12, 3) := by decide +kernel
theorem d_Asker_bothAgree_109 : decode b_Asker_bothAgree 109 = .ok (.invokevirtual 61, 3) := by decide +kernel
theorem d_Asker_bothAgree_112 : decode b_Asker_bothAgree 112 = .ok (.istore 7, 2) := by decide +kernel
theorem d_Asker_bothAgree_114 : decode b_Asker_bothAgree 114 = .ok (.iload 7, 2) := by decide +kernel
theorem d_Asker_bothAgree_116 : decode b_Asker_bothAgree 116 = .ok (.iload 4, 2) := by decide +kernel
theorem d_Asker_bothAgree_118 : decode b_Asker_bothAgree 118 = .ok (.if_icmp .gt (28), 3) := by decide +kernel
theorem d_Asker_bothAgree_121 : decode b_Asker_bothAgree 121 = .ok (.iload 6, 2) := by decide +kernel
theorem d_Asker_bothAgree_123 : decode b_Asker_bothAgree 123 = .ok (.iload 5, 2) := by decide +kernel
theorem d_Asker_bothAgree_125 : decode b_Asker_bothAgree 125 = .ok (.if_icmp .gt (21), 3) := by decide +kernel
theorem d_Asker_bothAgree_128 : decode b_Asker_bothAgree 128 = .ok (.iload 7, 2) := by decide +kernel
theorem d_Asker_bothAgree_130 : decode b_Asker_bothAgree 130 = .ok (.iload 4, 2) := by decide +kernel
theorem d_Asker_bothAgree_132 : decode b_Asker_bothAgree 132 = .ok (.if_icmp .lt (10), 3) := by decide +kernel
theorem d_Asker_bothAgree_135 : decode b_Asker_bothAgree 135 = .ok (.iload 6, 2) := by decide +kernel
theorem d_Asker_bothAgree_137 : decode b_Asker_bothAgree 137 = .ok (.iload 5, 2) := by decide +kernel
theorem d_Asker_bothAgree_139 : decode b_Asker_bothAgree 139 = .ok (.if_icmp .ge (7), 3) := by decide +kernel
theorem d_Asker_bothAgree_142 : decode b_Asker_bothAgree 142 = .ok (.iconst (1), 1) := by decide +kernel
theorem d_Asker_bothAgree_143 : decode b_Asker_bothAgree 143 = .ok (.goto (4), 3) := by decide +kernel
theorem d_Asker_bothAgree_146 : decode b_Asker_bothAgree 146 = .ok (.iconst (0), 1) := by decide +kernel
theorem d_Asker_bothAgree_147 : decode b_Asker_bothAgree 147 = .ok (.ireturn, 1) := by decide +kernel
theorem c_Asker_bothAgree (l : Launch) (θ : ZT) {x1 : Int32} {σ : ZM} {res : Int32 × ZM} (h : f_Asker_bothAgree x1 σ = some res) : zMet mkI l 0 129 θ y_Asker_bothAgree b_Asker_bothAgree 8 (some .boolean) (zrm 7 212) [.ref (za θ 6), .int x1] σ res := by
  unfold f_Asker_bothAgree at h
  refine z_met (lv := [(0, .ref (za θ 6)), (1, .int x1)]) (by decide +kernel) rfl (Nat.le_of_ble_eq_true rfl) (by decide) ?_
  refine z_aload_n 0 d_Asker_bothAgree_0 rfl rfl ?_
  refine gf_Asker_now zl_6 d_Asker_bothAgree_1 q_222 ?_
  refine gf_Stand_loaves (o2 := 25) zl_1 rfl d_Asker_bothAgree_4 q_115 ?_
  refine z_iload_n 1 d_Asker_bothAgree_7 rfl rfl ?_
  obtain ⟨c1, h⟩ := zck_i h
  refine w_aald3 zl_25 c1 d_Asker_bothAgree_8 ?_
  obtain ⟨c2, h⟩ := zck_i h
  refine z_astore_n d_Asker_bothAgree_9 rfl (by decide) rfl ?_
  refine z_aload_n 1 d_Asker_bothAgree_10 rfl rfl ?_
  refine gf_Asker_now zl_6 d_Asker_bothAgree_11 q_222 ?_
  refine gf_Stand_loaves (o2 := 25) zl_1 rfl d_Asker_bothAgree_14 q_115 ?_
  refine z_iload_n 2 d_Asker_bothAgree_17 rfl rfl ?_
  refine z_iconst (v := 1) d_Asker_bothAgree_18 (by decide) ?_
  refine z_iadd d_Asker_bothAgree_19 ?_
  obtain ⟨c3, h⟩ := zck_i h
  refine w_aald3 zl_25 c3 d_Asker_bothAgree_20 ?_
  obtain ⟨c4, h⟩ := zck_i h
  refine z_astore_n d_Asker_bothAgree_21 rfl (by decide) rfl ?_
  refine z_aload_n 2 d_Asker_bothAgree_22 rfl rfl ?_
  refine z_iload_n 3 d_Asker_bothAgree_23 rfl rfl ?_
  obtain ⟨⟨v5, s6⟩, e7, h⟩ := zbd_i h
  refine w_callV (As := [.int x1]) (kc := 12) (ci := 2) (c_Asker_bakeAhead l θ e7) cf_Asker_bakeAhead q_689 d_Asker_bothAgree_24 zl_6 rfl rfl rfl rfl rfl rfl (Nat.le_of_ble_eq_true rfl) rfl rfl ⟨Nat.le_of_ble_eq_true rfl, Nat.le_of_ble_eq_true rfl⟩ ?_
  refine z_aload_n 2 d_Asker_bothAgree_27 rfl rfl ?_
  refine gf_Asker_baker zl_6 d_Asker_bothAgree_28 q_223 ?_
  refine z_aload_n 1 d_Asker_bothAgree_31 rfl rfl ?_
  refine z_aload_n 2 d_Asker_bothAgree_32 rfl rfl ?_
  refine gf_Asker_trial zl_6 d_Asker_bothAgree_33 q_224 ?_
  obtain ⟨⟨v8, s9⟩, e10, h⟩ := zbd_i h
  refine w_callV (As := [.ref (za θ (zel 25 x1.toNatClampNeg)), .ref (za θ 35)]) (kc := 13) (ci := 3) (c_Baker_takesOfAll l θ e10) cf_Baker_takesOfAll q_639 d_Asker_bothAgree_36 zl_5 rfl rfl rfl rfl rfl rfl (Nat.le_of_ble_eq_true rfl) rfl rfl ⟨Nat.le_of_ble_eq_true rfl, Nat.le_of_ble_eq_true rfl⟩ ?_
  refine z_istore d_Asker_bothAgree_39 (by decide) rfl ?_
  refine z_aload_n 3 d_Asker_bothAgree_41 rfl rfl ?_
  refine gf_Asker_baker zl_6 d_Asker_bothAgree_42 q_223 ?_
  refine z_aload_n 3 d_Asker_bothAgree_45 rfl rfl ?_
  refine gf_Asker_trial zl_6 d_Asker_bothAgree_46 q_224 ?_
  refine z_aload_n 2 d_Asker_bothAgree_49 rfl rfl ?_
  obtain ⟨⟨v11, s12⟩, e13, h⟩ := zbd_i h
  refine w_callV (As := [.ref (za θ 35), .ref (za θ (zel 25 x1.toNatClampNeg))]) (kc := 13) (ci := 3) (c_Baker_bakeIn l θ e13) cf_Baker_bakeIn q_584 d_Asker_bothAgree_50 zl_5 rfl rfl rfl rfl rfl rfl (Nat.le_of_ble_eq_true rfl) rfl rfl ⟨Nat.le_of_ble_eq_true rfl, Nat.le_of_ble_eq_true rfl⟩ ?_
  refine z_pop d_Asker_bothAgree_53 rfl ?_
  refine z_aload_n 3 d_Asker_bothAgree_54 rfl rfl ?_
  refine gf_Asker_baker zl_6 d_Asker_bothAgree_55 q_223 ?_
  refine z_aload_n 1 d_Asker_bothAgree_58 rfl rfl ?_
  refine z_aload_n 3 d_Asker_bothAgree_59 rfl rfl ?_
  refine gf_Asker_trial zl_6 d_Asker_bothAgree_60 q_224 ?_
  obtain ⟨⟨v14, s15⟩, e16, h⟩ := zbd_i h
  refine w_callV (As := [.ref (za θ (zel 25 (x1 + (1 : Int32)).toNatClampNeg)), .ref (za θ 35)]) (kc := 13) (ci := 3) (c_Baker_takesOfAll l θ e16) cf_Baker_takesOfAll q_639 d_Asker_bothAgree_63 zl_5 rfl rfl rfl rfl rfl rfl (Nat.le_of_ble_eq_true rfl) rfl rfl ⟨Nat.le_of_ble_eq_true rfl, Nat.le_of_ble_eq_true rfl⟩ ?_
  refine z_istore d_Asker_bothAgree_66 (by decide) rfl ?_
  refine z_aload_n 4 d_Asker_bothAgree_68 rfl rfl ?_
  refine z_iload_n 5 d_Asker_bothAgree_69 rfl rfl ?_
  obtain ⟨⟨v17, s18⟩, e19, h⟩ := zbd_i h
  refine w_callV (As := [.int x1]) (kc := 12) (ci := 2) (c_Asker_bakeAhead l θ e19) cf_Asker_bakeAhead q_689 d_Asker_bothAgree_70 zl_6 rfl rfl rfl rfl rfl rfl (Nat.le_of_ble_eq_true rfl) rfl rfl ⟨Nat.le_of_ble_eq_true rfl, Nat.le_of_ble_eq_true rfl⟩ ?_
  refine z_aload_n 4 d_Asker_bothAgree_73 rfl rfl ?_
  refine gf_Asker_baker zl_6 d_Asker_bothAgree_74 q_223 ?_
  refine z_aload_n 2 d_Asker_bothAgree_77 rfl rfl ?_
  refine z_aload_n 4 d_Asker_bothAgree_78 rfl rfl ?_
  refine gf_Asker_trial zl_6 d_Asker_bothAgree_79 q_224 ?_
  obtain ⟨⟨v20, s21⟩, e22, h⟩ := zbd_i h
  refine w_callV (As := [.ref (za θ (zel 25 (x1 + (1 : Int32)).toNatClampNeg)), .ref (za θ 35)]) (kc := 13) (ci := 3) (c_Baker_takesOfAll l θ e22) cf_Baker_takesOfAll q_639 d_Asker_bothAgree_82 zl_5 rfl rfl rfl rfl rfl rfl (Nat.le_of_ble_eq_true rfl) rfl rfl ⟨Nat.le_of_ble_eq_true rfl, Nat.le_of_ble_eq_true rfl⟩ ?_
  refine z_istore d_Asker_bothAgree_85 (by decide) rfl ?_
  refine z_aload_n 5 d_Asker_bothAgree_87 rfl rfl ?_
  refine gf_Asker_baker zl_6 d_Asker_bothAgree_88 q_223 ?_
  refine z_aload_n 5 d_Asker_bothAgree_91 rfl rfl ?_
  refine gf_Asker_trial zl_6 d_Asker_bothAgree_92 q_224 ?_
  refine z_aload_n 3 d_Asker_bothAgree_95 rfl rfl ?_
  obtain ⟨⟨v23, s24⟩, e25, h⟩ := zbd_i h
  refine w_callV (As := [.ref (za θ 35), .ref (za θ (zel 25 (x1 + (1 : Int32)).toNatClampNeg))]) (kc := 13) (ci := 3) (c_Baker_bakeIn l θ e25) cf_Baker_bakeIn q_584 d_Asker_bothAgree_96 zl_5 rfl rfl rfl rfl rfl rfl (Nat.le_of_ble_eq_true rfl) rfl rfl ⟨Nat.le_of_ble_eq_true rfl, Nat.le_of_ble_eq_true rfl⟩ ?_
  refine z_pop d_Asker_bothAgree_99 rfl ?_
  refine z_aload_n 5 d_Asker_bothAgree_100 rfl rfl ?_
  refine gf_Asker_baker zl_6 d_Asker_bothAgree_101 q_223 ?_
  refine z_aload_n 4 d_Asker_bothAgree_104 rfl rfl ?_
  refine z_aload_n 5 d_Asker_bothAgree_105 rfl rfl ?_
  refine gf_Asker_trial zl_6 d_Asker_bothAgree_106 q_224 ?_
  obtain ⟨⟨v26, s27⟩, e28, h⟩ := zbd_i h
  refine w_callV (As := [.ref (za θ (zel 25 x1.toNatClampNeg)), .ref (za θ 35)]) (kc := 13) (ci := 3) (c_Baker_takesOfAll l θ e28) cf_Baker_takesOfAll q_639 d_Asker_bothAgree_109 zl_5 rfl rfl rfl rfl rfl rfl (Nat.le_of_ble_eq_true rfl) rfl rfl ⟨Nat.le_of_ble_eq_true rfl, Nat.le_of_ble_eq_true rfl⟩ ?_
  refine z_istore d_Asker_bothAgree_112 (by decide) rfl ?_
  refine z_iload 0 d_Asker_bothAgree_114 rfl ?_
  refine z_iload 3 d_Asker_bothAgree_116 rfl ?_
  refine z_icmp_gt (tgt := 146) d_Asker_bothAgree_118 (by decide) (fun c29 => ?_) (fun c29 => ?_)
  · have h := (if_pos c29).symm.trans h
    refine z_iconst (v := 0) d_Asker_bothAgree_146 (by decide) ?_
    exact z_zret d_Asker_bothAgree_147 (by decide) h
  · have h := (if_neg c29).symm.trans h
    refine z_iload 1 d_Asker_bothAgree_121 rfl ?_
    refine z_iload 2 d_Asker_bothAgree_123 rfl ?_
    refine z_icmp_gt (tgt := 146) d_Asker_bothAgree_125 (by decide) (fun c30 => ?_) (fun c30 => ?_)
    · have h := (if_pos c30).symm.trans h
      refine z_iconst (v := 0) d_Asker_bothAgree_146 (by decide) ?_
      exact z_zret d_Asker_bothAgree_147 (by decide) h
    · have h := (if_neg c30).symm.trans h
      refine z_iload 0 d_Asker_bothAgree_128 rfl ?_
      refine z_iload 3 d_Asker_bothAgree_130 rfl ?_
      refine z_icmp_lt (tgt := 142) d_Asker_bothAgree_132 (by decide) (fun c31 => ?_) (fun c31 => ?_)
      · have h := (if_pos c31).symm.trans h
        refine z_iconst (v := 1) d_Asker_bothAgree_142 (by decide) ?_
        refine z_goto (tgt := 147) d_Asker_bothAgree_143 (by decide) ?_
        exact z_zret d_Asker_bothAgree_147 (by decide) h
      · have h := (if_neg c31).symm.trans h
        refine z_iload 1 d_Asker_bothAgree_135 rfl ?_
        refine z_iload 2 d_Asker_bothAgree_137 rfl ?_
        refine z_icmp_ge (tgt := 146) d_Asker_bothAgree_139 (by decide) (fun c32 => ?_) (fun c32 => ?_)
        · have h := (if_pos c32).symm.trans h
          refine z_iconst (v := 0) d_Asker_bothAgree_146 (by decide) ?_
          exact z_zret d_Asker_bothAgree_147 (by decide) h
        · have h := (if_neg c32).symm.trans h
          refine z_iconst (v := 1) d_Asker_bothAgree_142 (by decide) ?_
          refine z_goto (tgt := 147) d_Asker_bothAgree_143 (by decide) ?_
          exact z_zret d_Asker_bothAgree_147 (by decide) h
theorem d_BB_swaps_0 : decode b_BB_swaps 0 = .ok (.aload_n 0, 1) := by decide +kernel
theorem d_BB_swaps_1 : decode b_BB_swaps 1 = .ok (.iload_n 1, 1) := by decide +kernel
theorem d_BB_swaps_2 : decode b_BB_swaps 2 = .ok (.invokevirtual 92, 3) := by decide +kernel
theorem d_BB_swaps_5 : decode b_BB_swaps 5 = .ok (.ifCond .eq (13), 3) := by decide +kernel
theorem d_BB_swaps_8 : decode b_BB_swaps 8 = .ok (.aload_n 0, 1) := by decide +kernel
theorem d_BB_swaps_9 : decode b_BB_swaps 9 = .ok (.iload_n 1, 1) := by decide +kernel
theorem d_BB_swaps_10 : decode b_BB_swaps 10 = .ok (.iconst (1), 1) := by decide +kernel
theorem d_BB_swaps_11 : decode b_BB_swaps 11 = .ok (.iadd, 1) := by decide +kernel
theorem d_BB_swaps_12 : decode b_BB_swaps 12 = .ok (.invokevirtual 92, 3) := by decide +kernel
theorem d_BB_swaps_15 : decode b_BB_swaps 15 = .ok (.ifCond .ne (5), 3) := by decide +kernel
theorem d_BB_swaps_18 : decode b_BB_swaps 18 = .ok (.iconst (-1), 1) := by decide +kernel
theorem d_BB_swaps_19 : decode b_BB_swaps 19 = .ok (.ireturn, 1) := by decide +kernel
theorem d_BB_swaps_20 : decode b_BB_swaps 20 = .ok (.aload_n 0, 1) := by decide +kernel
theorem d_BB_swaps_21 : decode b_BB_swaps 21 = .ok (.getfield 53, 3) := by decide +kernel
theorem d_BB_swaps_24 : decode b_BB_swaps 24 = .ok (.iload_n 1, 1) := by decide +kernel
theorem d_BB_swaps_25 : decode b_BB_swaps 25 = .ok (.invokevirtual 213, 3) := by decide +kernel
theorem d_BB_swaps_28 : decode b_BB_swaps 28 = .ok (.invokestatic 129, 3) := by decide +kernel
theorem d_BB_swaps_31 : decode b_BB_swaps 31 = .ok (.ireturn, 1) := by decide +kernel
theorem c_BB_swaps (l : Launch) (θ : ZT) {x1 : Int32} {σ : ZM} {res : Int32 × ZM} (h : f_BB_swaps x1 σ = some res) : zMet mkI l 0 129 θ y_BB_swaps b_BB_swaps 2 (some .int) (zrm 8 239) [.ref (za θ 0), .int x1] σ res := by
  unfold f_BB_swaps at h
  refine z_met (lv := [(0, .ref (za θ 0)), (1, .int x1)]) (by decide +kernel) rfl (Nat.le_of_ble_eq_true rfl) (by decide) ?_
  refine z_aload_n 0 d_BB_swaps_0 rfl rfl ?_
  refine z_iload_n 1 d_BB_swaps_1 rfl rfl ?_
  obtain ⟨⟨v1, s2⟩, e3, h⟩ := zbd_i h
  refine w_callV (As := [.int x1]) (kc := 10) (ci := 0) (c_BB_isLoaf l θ e3) cf_BB_isLoaf q_352 d_BB_swaps_2 zl_0 rfl rfl rfl rfl rfl rfl (Nat.le_of_ble_eq_true rfl) rfl rfl ⟨Nat.le_of_ble_eq_true rfl, Nat.le_of_ble_eq_true rfl⟩ ?_
  refine z_if_eq (tgt := 18) d_BB_swaps_5 (by decide) (fun c4 => ?_) (fun c4 => ?_)
  · have h := (if_pos c4).symm.trans h
    refine z_iconst (v := -1) d_BB_swaps_18 (by decide) ?_
    exact z_iret d_BB_swaps_19 h
  · have h := (if_neg c4).symm.trans h
    refine z_aload_n 0 d_BB_swaps_8 rfl rfl ?_
    refine z_iload_n 1 d_BB_swaps_9 rfl rfl ?_
    refine z_iconst (v := 1) d_BB_swaps_10 (by decide) ?_
    refine z_iadd d_BB_swaps_11 ?_
    obtain ⟨⟨v5, s6⟩, e7, h⟩ := zbd_i h
    refine w_callV (As := [.int (x1 + (1 : Int32))]) (kc := 10) (ci := 0) (c_BB_isLoaf l θ e7) cf_BB_isLoaf q_352 d_BB_swaps_12 zl_0 rfl rfl rfl rfl rfl rfl (Nat.le_of_ble_eq_true rfl) rfl rfl ⟨Nat.le_of_ble_eq_true rfl, Nat.le_of_ble_eq_true rfl⟩ ?_
    refine z_if_ne (tgt := 20) d_BB_swaps_15 (by decide) (fun c8 => ?_) (fun c8 => ?_)
    · have h := (if_neg c8).symm.trans h
      refine z_aload_n 0 d_BB_swaps_20 rfl rfl ?_
      refine gf_BB_asker zl_0 d_BB_swaps_21 q_309 ?_
      refine z_iload_n 1 d_BB_swaps_24 rfl rfl ?_
      obtain ⟨⟨v9, s10⟩, e11, h⟩ := zbd_i h
      refine w_callV (As := [.int x1]) (kc := 12) (ci := 2) (c_Asker_bothAgree l θ e11) cf_Asker_bothAgree q_685 d_BB_swaps_25 zl_6 rfl rfl rfl rfl rfl rfl (Nat.le_of_ble_eq_true rfl) rfl rfl ⟨Nat.le_of_ble_eq_true rfl, Nat.le_of_ble_eq_true rfl⟩ ?_
      obtain ⟨⟨v12, s13⟩, e14, h⟩ := zbd_i h
      refine w_callS (As := [.int v9]) (c_BB_flag l θ e14) cf_BB_flag q_401 d_BB_swaps_28 rfl rfl rfl (Nat.le_of_ble_eq_true rfl) rfl rfl ⟨Nat.le_of_ble_eq_true rfl, Nat.le_of_ble_eq_true rfl⟩ ?_
      exact z_iret d_BB_swaps_31 h
    · have h := (if_pos c8).symm.trans h
      refine z_iconst (v := -1) d_BB_swaps_18 (by decide) ?_
      exact z_iret d_BB_swaps_19 h
theorem d_Asker_reaching_0 : decode b_Asker_reaching 0 = .ok (.iload 4, 2) := by decide +kernel
theorem d_Asker_reaching_2 : decode b_Asker_reaching 2 = .ok (.istore 6, 2) := by decide +kernel
theorem d_Asker_reaching_4 : decode b_Asker_reaching 4 = .ok (.iload 5, 2) := by decide +kernel
theorem d_Asker_reaching_6 : decode b_Asker_reaching 6 = .ok (.iconst (1), 1) := by decide +kernel
theorem d_Asker_reaching_7 : decode b_Asker_reaching 7 = .ok (.iadd, 1) := by decide +kernel
theorem d_Asker_reaching_8 : decode b_Asker_reaching 8 = .ok (.istore 7, 2) := by decide +kernel
theorem d_Asker_reaching_10 : decode b_Asker_reaching 10 = .ok (.iload 6, 2) := by decide +kernel
theorem d_Asker_reaching_12 : decode b_Asker_reaching 12 = .ok (.iload 7, 2) := by decide +kernel
theorem d_Asker_reaching_14 : decode b_Asker_reaching 14 = .ok (.if_icmp .ge (40), 3) := by decide +kernel
theorem d_Asker_reaching_17 : decode b_Asker_reaching 17 = .ok (.iload 6, 2) := by decide +kernel
theorem d_Asker_reaching_19 : decode b_Asker_reaching 19 = .ok (.iload 7, 2) := by decide +kernel
theorem d_Asker_reaching_21 : decode b_Asker_reaching 21 = .ok (.iadd, 1) := by decide +kernel
theorem d_Asker_reaching_22 : decode b_Asker_reaching 22 = .ok (.iconst (2), 1) := by decide +kernel
theorem d_Asker_reaching_23 : decode b_Asker_reaching 23 = .ok (.idiv, 1) := by decide +kernel
theorem d_Asker_reaching_24 : decode b_Asker_reaching 24 = .ok (.istore 8, 2) := by decide +kernel
theorem d_Asker_reaching_26 : decode b_Asker_reaching 26 = .ok (.aload_n 0, 1) := by decide +kernel
theorem d_Asker_reaching_27 : decode b_Asker_reaching 27 = .ok (.iload_n 1, 1) := by decide +kernel
theorem d_Asker_reaching_28 : decode b_Asker_reaching 28 = .ok (.iload_n 2, 1) := by decide +kernel
theorem d_Asker_reaching_29 : decode b_Asker_reaching 29 = .ok (.iload 8, 2) := by decide +kernel
theorem d_Asker_reaching_31 : decode b_Asker_reaching 31 = .ok (.invokestatic 99, 3) := by decide +kernel
theorem d_Asker_reaching_34 : decode b_Asker_reaching 34 = .ok (.iload_n 3, 1) := by decide +kernel
theorem d_Asker_reaching_35 : decode b_Asker_reaching 35 = .ok (.if_icmp .lt (10), 3) := by decide +kernel
theorem d_Asker_reaching_38 : decode b_Asker_reaching 38 = .ok (.iload 8, 2) := by decide +kernel
theorem d_Asker_reaching_40 : decode b_Asker_reaching 40 = .ok (.istore 7, 2) := by decide +kernel
theorem d_Asker_reaching_42 : decode b_Asker_reaching 42 = .ok (.goto (9), 3) := by decide +kernel
theorem d_Asker_reaching_45 : decode b_Asker_reaching 45 = .ok (.iload 8, 2) := by decide +kernel
theorem d_Asker_reaching_47 : decode b_Asker_reaching 47 = .ok (.iconst (1), 1) := by decide +kernel
theorem d_Asker_reaching_48 : decode b_Asker_reaching 48 = .ok (.iadd, 1) := by decide +kernel
theorem d_Asker_reaching_49 : decode b_Asker_reaching 49 = .ok (.istore 6, 2) := by decide +kernel
theorem d_Asker_reaching_51 : decode b_Asker_reaching 51 = .ok (.goto (-41), 3) := by decide +kernel
theorem d_Asker_reaching_54 : decode b_Asker_reaching 54 = .ok (.iload 6, 2) := by decide +kernel
theorem d_Asker_reaching_56 : decode b_Asker_reaching 56 = .ok (.ireturn, 1) := by decide +kernel
theorem zb_Asker_reaching_51 {l : Launch} {θ : ZT} {res : Int32 × ZM} {k10 : Nat × Int32 × Int32 × Int32 × Int32 × Int32 × ZM → Option (Int32 × ZM)} (hk10 : ∀ a : Nat × Int32 × Int32 × Int32 × Int32 × Int32 × ZM, zR 0 129 a.1 16 0 = true → k10 a = some res → WZ l b_Asker_reaching 9 (some .int) "BakedBefore$Aske\x72" 0 129 θ (zrm 3 85) (zQ mkI 0 129 θ res) a.2.2.2.2.2.2 [(0, .ref (za θ a.1)), (1, .int a.2.1), (2, .int a.2.2.1), (3, .int a.2.2.2.1), (6, .int a.2.2.2.2.1), (7, .int a.2.2.2.2.2.1)] 10 []) {x0 : Nat} {x1 : Int32} {x2 : Int32} {x3 : Int32} {x6 : Int32} {x7 : Int32} {σ : ZM} (hx0 : zR 0 129 x0 16 0 = true) (h : f_Asker_reaching_51 k10 x0 x1 x2 x3 x6 x7 σ = some res) : WZ l b_Asker_reaching 9 (some .int) "BakedBefore$Aske\x72" 0 129 θ (zrm 3 85) (zQ mkI 0 129 θ res) σ [(0, .ref (za θ x0)), (1, .int x1), (2, .int x2), (3, .int x3), (6, .int x6), (7, .int x7)] 51 [] := by
  unfold f_Asker_reaching_51 at h
  refine z_goto (tgt := 10) d_Asker_reaching_51 (by decide) ?_
  exact hk10 (x0, x1, x2, x3, x6, x7, σ) hx0 h
theorem zb_Asker_reaching_10 {l : Launch} {θ : ZT} {res : Int32 × ZM} {k10 : Nat × Int32 × Int32 × Int32 × Int32 × Int32 × ZM → Option (Int32 × ZM)} (hk10 : ∀ a : Nat × Int32 × Int32 × Int32 × Int32 × Int32 × ZM, zR 0 129 a.1 16 0 = true → k10 a = some res → WZ l b_Asker_reaching 9 (some .int) "BakedBefore$Aske\x72" 0 129 θ (zrm 3 85) (zQ mkI 0 129 θ res) a.2.2.2.2.2.2 [(0, .ref (za θ a.1)), (1, .int a.2.1), (2, .int a.2.2.1), (3, .int a.2.2.2.1), (6, .int a.2.2.2.2.1), (7, .int a.2.2.2.2.2.1)] 10 []) {x0 : Nat} {x1 : Int32} {x2 : Int32} {x3 : Int32} {x6 : Int32} {x7 : Int32} {σ : ZM} (hx0 : zR 0 129 x0 16 0 = true) (h : f_Asker_reaching_10 k10 x0 x1 x2 x3 x6 x7 σ = some res) : WZ l b_Asker_reaching 9 (some .int) "BakedBefore$Aske\x72" 0 129 θ (zrm 3 85) (zQ mkI 0 129 θ res) σ [(0, .ref (za θ x0)), (1, .int x1), (2, .int x2), (3, .int x3), (6, .int x6), (7, .int x7)] 10 [] := by
  unfold f_Asker_reaching_10 at h
  refine z_iload 4 d_Asker_reaching_10 rfl ?_
  refine z_iload 5 d_Asker_reaching_12 rfl ?_
  refine z_icmp_ge (tgt := 54) d_Asker_reaching_14 (by decide) (fun c1 => ?_) (fun c1 => ?_)
  · have h := (if_pos c1).symm.trans h
    refine z_iload 4 d_Asker_reaching_54 rfl ?_
    exact z_iret d_Asker_reaching_56 h
  · have h := (if_neg c1).symm.trans h
    refine z_iload 4 d_Asker_reaching_17 rfl ?_
    refine z_iload 5 d_Asker_reaching_19 rfl ?_
    refine z_iadd d_Asker_reaching_21 ?_
    refine z_iconst (v := 2) d_Asker_reaching_22 (by decide) ?_
    refine z_idiv d_Asker_reaching_23 (by decide) ?_
    refine z_istore d_Asker_reaching_24 (by decide) rfl ?_
    refine z_aload_n 1 d_Asker_reaching_26 rfl rfl ?_
    refine z_iload_n 2 d_Asker_reaching_27 rfl rfl ?_
    refine z_iload_n 3 d_Asker_reaching_28 rfl rfl ?_
    refine z_iload 0 d_Asker_reaching_29 rfl ?_
    obtain ⟨⟨v2, s3⟩, e4, h⟩ := zbd_i h
    refine w_callS (As := [.ref (za θ x0), .int x1, .int x2, .int ((x6 + x7) / (2 : Int32))]) (c_Baker_amount l θ e4) cf_Baker_amount q_705 d_Asker_reaching_31 rfl rfl rfl (Nat.le_of_ble_eq_true rfl) rfl rfl ⟨Nat.le_of_ble_eq_true rfl, Nat.le_of_ble_eq_true rfl⟩ ?_
    refine z_iload_n 4 d_Asker_reaching_34 rfl rfl ?_
    refine z_icmp_lt (tgt := 45) d_Asker_reaching_35 (by decide) (fun c5 => ?_) (fun c5 => ?_)
    · have h := (if_pos c5).symm.trans h
      refine z_iload 0 d_Asker_reaching_45 rfl ?_
      refine z_iconst (v := 1) d_Asker_reaching_47 (by decide) ?_
      refine z_iadd d_Asker_reaching_48 ?_
      refine z_istore d_Asker_reaching_49 (by decide) rfl ?_
      refine z_sub [2, 3, 4, 5, 0, 6] rfl ?_
      exact zb_Asker_reaching_51 hk10 hx0 h
    · have h := (if_neg c5).symm.trans h
      refine z_iload 0 d_Asker_reaching_38 rfl ?_
      refine z_istore d_Asker_reaching_40 (by decide) rfl ?_
      refine z_goto (tgt := 51) d_Asker_reaching_42 (by decide) ?_
      refine z_sub [2, 3, 4, 5, 6, 0] rfl ?_
      exact zb_Asker_reaching_51 hk10 hx0 h
theorem zl_Asker_reaching_10 {l : Launch} {θ : ZT} {res : Int32 × ZM} : ∀ (N : Nat) (a : Nat × Int32 × Int32 × Int32 × Int32 × Int32 × ZM), zR 0 129 a.1 16 0 = true → F_Asker_reaching_10 N a = some res → WZ l b_Asker_reaching 9 (some .int) "BakedBefore$Aske\x72" 0 129 θ (zrm 3 85) (zQ mkI 0 129 θ res) a.2.2.2.2.2.2 [(0, .ref (za θ a.1)), (1, .int a.2.1), (2, .int a.2.2.1), (3, .int a.2.2.2.1), (6, .int a.2.2.2.2.1), (7, .int a.2.2.2.2.2.1)] 10 [] := by
  intro N
  induction N with
  | zero => intro a hx0 h; cases (show (none : Option (Int32 × ZM)) = some res from h)
  | succ N ih => intro a hx0 h; exact zb_Asker_reaching_10 ih hx0 (show f_Asker_reaching_10 (F_Asker_reaching_10 N) a.1 a.2.1 a.2.2.1 a.2.2.2.1 a.2.2.2.2.1 a.2.2.2.2.2.1 a.2.2.2.2.2.2 = some res from h)
theorem c_Asker_reaching (l : Launch) (θ : ZT) {x0 : Nat} {x1 : Int32} {x2 : Int32} {x3 : Int32} {x4 : Int32} {x5 : Int32} {σ : ZM} {res : Int32 × ZM} (h : f_Asker_reaching x0 x1 x2 x3 x4 x5 σ = some res) : zMet mkI l 0 129 θ y_Asker_reaching b_Asker_reaching 9 (some .int) (zrm 3 85) [.ref (za θ x0), .int x1, .int x2, .int x3, .int x4, .int x5] σ res := by
  unfold f_Asker_reaching at h
  obtain ⟨hx0, h⟩ := zck_i h
  refine z_met (lv := [(0, .ref (za θ x0)), (1, .int x1), (2, .int x2), (3, .int x3), (4, .int x4), (5, .int x5)]) (by decide +kernel) rfl (Nat.le_of_ble_eq_true rfl) (by decide) ?_
  refine z_iload 4 d_Asker_reaching_0 rfl ?_
  refine z_istore d_Asker_reaching_2 (by decide) rfl ?_
  refine z_iload 6 d_Asker_reaching_4 rfl ?_
  refine z_iconst (v := 1) d_Asker_reaching_6 (by decide) ?_
  refine z_iadd d_Asker_reaching_7 ?_
  refine z_istore d_Asker_reaching_8 (by decide) rfl ?_
  refine z_sub [2, 3, 4, 5, 1, 0] rfl ?_
  exact zl_Asker_reaching_10 2000 (x0, x1, x2, x3, x4, (x5 + (1 : Int32)), σ) hx0 h
theorem d_Asker_heldBy_0 : decode b_Asker_heldBy 0 = .ok (.iconst (0), 1) := by decide +kernel
theorem d_Asker_heldBy_1 : decode b_Asker_heldBy 1 = .ok (.istore 5, 2) := by decide +kernel
theorem d_Asker_heldBy_3 : decode b_Asker_heldBy 3 = .ok (.iload 5, 2) := by decide +kernel
theorem d_Asker_heldBy_5 : decode b_Asker_heldBy 5 = .ok (.bipush (100), 2) := by decide +kernel
theorem d_Asker_heldBy_7 : decode b_Asker_heldBy 7 = .ok (.if_icmp .gt (137), 3) := by decide +kernel
theorem d_Asker_heldBy_10 : decode b_Asker_heldBy 10 = .ok (.iload 4, 2) := by decide +kernel
theorem d_Asker_heldBy_12 : decode b_Asker_heldBy 12 = .ok (.ifCond .eq (11), 3) := by decide +kernel
theorem d_Asker_heldBy_15 : decode b_Asker_heldBy 15 = .ok (.bipush (100), 2) := by decide +kernel
theorem d_Asker_heldBy_17 : decode b_Asker_heldBy 17 = .ok (.iload 5, 2) := by decide +kernel
theorem d_Asker_heldBy_19 : decode b_Asker_heldBy 19 = .ok (.isub, 1) := by decide +kernel
theorem d_Asker_heldBy_20 : decode b_Asker_heldBy 20 = .ok (.goto (5), 3) := by decide +kernel
theorem d_Asker_heldBy_23 : decode b_Asker_heldBy 23 = .ok (.iload 5, 2) := by decide +kernel
theorem d_Asker_heldBy_25 : decode b_Asker_heldBy 25 = .ok (.istore 6, 2) := by decide +kernel
theorem d_Asker_heldBy_27 : decode b_Asker_heldBy 27 = .ok (.iload 6, 2) := by decide +kernel
theorem d_Asker_heldBy_29 : decode b_Asker_heldBy 29 = .ok (.bipush (10), 2) := by decide +kernel
theorem d_Asker_heldBy_31 : decode b_Asker_heldBy 31 = .ok (.imul, 1) := by decide +kernel
theorem d_Asker_heldBy_32 : decode b_Asker_heldBy 32 = .ok (.istore 7, 2) := by decide +kernel
theorem d_Asker_heldBy_34 : decode b_Asker_heldBy 34 = .ok (.iload 6, 2) := by decide +kernel
theorem d_Asker_heldBy_36 : decode b_Asker_heldBy 36 = .ok (.bipush (100), 2) := by decide +kernel
theorem d_Asker_heldBy_38 : decode b_Asker_heldBy 38 = .ok (.if_icmp .ne (9), 3) := by decide +kernel
theorem d_Asker_heldBy_41 : decode b_Asker_heldBy 41 = .ok (.sipush (9999), 3) := by decide +kernel
theorem d_Asker_heldBy_44 : decode b_Asker_heldBy 44 = .ok (.goto (8), 3) := by decide +kernel
theorem d_Asker_heldBy_47 : decode b_Asker_heldBy 47 = .ok (.iload 7, 2) := by decide +kernel
theorem d_Asker_heldBy_49 : decode b_Asker_heldBy 49 = .ok (.bipush (9), 2) := by decide +kernel
theorem d_Asker_heldBy_51 : decode b_Asker_heldBy 51 = .ok (.iadd, 1) := by decide +kernel
theorem d_Asker_heldBy_52 : decode b_Asker_heldBy 52 = .ok (.istore 8, 2) := by decide +kernel
theorem d_Asker_heldBy_54 : decode b_Asker_heldBy 54 = .ok (.aload_n 0, 1) := by decide +kernel
theorem d_Asker_heldBy_55 : decode b_Asker_heldBy 55 = .ok (.getfield 26, 3) := by decide +kernel
theorem d_Asker_heldBy_58 : decode b_Asker_heldBy 58 = .ok (.aload_n 1, 1) := by decide +kernel
theorem d_Asker_heldBy_59 : decode b_Asker_heldBy 59 = .ok (.iload_n 2, 1) := by decide +kernel
theorem d_Asker_heldBy_60 : decode b_Asker_heldBy 60 = .ok (.iload 7, 2) := by decide +kernel
theorem d_Asker_heldBy_62 : decode b_Asker_heldBy 62 = .ok (.aload_n 0, 1) := by decide +kernel
theorem d_Asker_heldBy_63 : decode b_Asker_heldBy 63 = .ok (.getfield 22, 3) := by decide +kernel
theorem d_Asker_heldBy_66 : decode b_Asker_heldBy 66 = .ok (.getfield 30, 3) := by decide +kernel
theorem d_Asker_heldBy_69 : decode b_Asker_heldBy 69 = .ok (.getfield 80, 3) := by decide +kernel
theorem d_Asker_heldBy_72 : decode b_Asker_heldBy 72 = .ok (.invokevirtual 91, 3) := by decide +kernel
theorem d_Asker_heldBy_75 : decode b_Asker_heldBy 75 = .ok (.istore 9, 2) := by decide +kernel
theorem d_Asker_heldBy_77 : decode b_Asker_heldBy 77 = .ok (.aload_n 1, 1) := by decide +kernel
theorem d_Asker_heldBy_78 : decode b_Asker_heldBy 78 = .ok (.iload_n 2, 1) := by decide +kernel
theorem d_Asker_heldBy_79 : decode b_Asker_heldBy 79 = .ok (.iload 9, 2) := by decide +kernel
theorem d_Asker_heldBy_81 : decode b_Asker_heldBy 81 = .ok (.iload_n 3, 1) := by decide +kernel
theorem d_Asker_heldBy_82 : decode b_Asker_heldBy 82 = .ok (.iload 7, 2) := by decide +kernel
theorem d_Asker_heldBy_84 : decode b_Asker_heldBy 84 = .ok (.iload 8, 2) := by decide +kernel
theorem d_Asker_heldBy_86 : decode b_Asker_heldBy 86 = .ok (.invokestatic 95, 3) := by decide +kernel
theorem d_Asker_heldBy_89 : decode b_Asker_heldBy 89 = .ok (.istore 10, 2) := by decide +kernel
theorem d_Asker_heldBy_91 : decode b_Asker_heldBy 91 = .ok (.iload 10, 2) := by decide +kernel
theorem d_Asker_heldBy_93 : decode b_Asker_heldBy 93 = .ok (.iload 8, 2) := by decide +kernel
theorem d_Asker_heldBy_95 : decode b_Asker_heldBy 95 = .ok (.if_icmp .gt (43), 3) := by decide +kernel
theorem d_Asker_heldBy_98 : decode b_Asker_heldBy 98 = .ok (.aload_n 1, 1) := by decide +kernel
theorem d_Asker_heldBy_99 : decode b_Asker_heldBy 99 = .ok (.iload_n 2, 1) := by decide +kernel
theorem d_Asker_heldBy_100 : decode b_Asker_heldBy 100 = .ok (.iload 9, 2) := by decide +kernel
theorem d_Asker_heldBy_102 : decode b_Asker_heldBy 102 = .ok (.iload 10, 2) := by decide +kernel
theorem d_Asker_heldBy_104 : decode b_Asker_heldBy 104 = .ok (.invokestatic 99, 3) := by decide +kernel
theorem d_Asker_heldBy_107 : decode b_Asker_heldBy 107 = .ok (.iload_n 3, 1) := by decide +kernel
theorem d_Asker_heldBy_108 : decode b_Asker_heldBy 108 = .ok (.if_icmp .ne (30), 3) := by decide +kernel
theorem d_Asker_heldBy_111 : decode b_Asker_heldBy 111 = .ok (.iload 4, 2) := by decide +kernel
theorem d_Asker_heldBy_113 : decode b_Asker_heldBy 113 = .ok (.ifCond .eq (22), 3) := by decide +kernel
theorem d_Asker_heldBy_116 : decode b_Asker_heldBy 116 = .ok (.aload_n 1, 1) := by decide +kernel
theorem d_Asker_heldBy_117 : decode b_Asker_heldBy 117 = .ok (.iload_n 2, 1) := by decide +kernel
theorem d_Asker_heldBy_118 : decode b_Asker_heldBy 118 = .ok (.iload 9, 2) := by decide +kernel
theorem d_Asker_heldBy_120 : decode b_Asker_heldBy 120 = .ok (.iload_n 3, 1) := by decide +kernel
theorem d_Asker_heldBy_121 : decode b_Asker_heldBy 121 = .ok (.iconst (1), 1) := by decide +kernel
theorem d_Asker_heldBy_122 : decode b_Asker_heldBy 122 = .ok (.iadd, 1) := by decide +kernel
theorem d_Asker_heldBy_123 : decode b_Asker_heldBy 123 = .ok (.iload 7, 2) := by decide +kernel
theorem d_Asker_heldBy_125 : decode b_Asker_heldBy 125 = .ok (.iload 8, 2) := by decide +kernel
theorem d_Asker_heldBy_127 : decode b_Asker_heldBy 127 = .ok (.invokestatic 95, 3) := by decide +kernel
theorem d_Asker_heldBy_130 : decode b_Asker_heldBy 130 = .ok (.iconst (1), 1) := by decide +kernel
theorem d_Asker_heldBy_131 : decode b_Asker_heldBy 131 = .ok (.isub, 1) := by decide +kernel
theorem d_Asker_heldBy_132 : decode b_Asker_heldBy 132 = .ok (.goto (5), 3) := by decide +kernel
theorem d_Asker_heldBy_135 : decode b_Asker_heldBy 135 = .ok (.iload 10, 2) := by decide +kernel
theorem d_Asker_heldBy_137 : decode b_Asker_heldBy 137 = .ok (.ireturn, 1) := by decide +kernel
theorem d_Asker_heldBy_138 : decode b_Asker_heldBy 138 = .ok (.iinc 5 (1), 3) := by decide +kernel
theorem d_Asker_heldBy_141 : decode b_Asker_heldBy 141 = .ok (.goto (-138), 3) := by decide +kernel
theorem d_Asker_heldBy_144 : decode b_Asker_heldBy 144 = .ok (.bipush (-5), 2) := by decide +kernel
theorem d_Asker_heldBy_146 : decode b_Asker_heldBy 146 = .ok (.ireturn, 1) := by decide +kernel
theorem zb_Asker_heldBy_138 {l : Launch} {θ : ZT} {res : Int32 × ZM} {k3 : Nat × Int32 × Int32 × Int32 × Int32 × ZM → Option (Int32 × ZM)} (hk3 : ∀ a : Nat × Int32 × Int32 × Int32 × Int32 × ZM, zR 0 129 a.1 16 0 = true → k3 a = some res → WZ l b_Asker_heldBy 11 (some .int) "BakedBefore$Aske\x72" 0 129 θ (zrm 4 140) (zQ mkI 0 129 θ res) a.2.2.2.2.2 [(0, .ref (za θ 6)), (1, .ref (za θ a.1)), (2, .int a.2.1), (3, .int a.2.2.1), (4, .int a.2.2.2.1), (5, .int a.2.2.2.2.1)] 3 []) {x1 : Nat} {x2 : Int32} {x3 : Int32} {x4 : Int32} {x5 : Int32} {σ : ZM} (hx1 : zR 0 129 x1 16 0 = true) (h : f_Asker_heldBy_138 k3 x1 x2 x3 x4 x5 σ = some res) : WZ l b_Asker_heldBy 11 (some .int) "BakedBefore$Aske\x72" 0 129 θ (zrm 4 140) (zQ mkI 0 129 θ res) σ [(0, .ref (za θ 6)), (1, .ref (za θ x1)), (2, .int x2), (3, .int x3), (4, .int x4), (5, .int x5)] 138 [] := by
  unfold f_Asker_heldBy_138 at h
  refine z_iinc (v := x5 + (1 : Int32)) 5 d_Asker_heldBy_138 rfl rfl (by decide) rfl ?_
  refine z_goto (tgt := 3) d_Asker_heldBy_141 (by decide) ?_
  refine z_sub [1, 2, 3, 4, 5, 0] rfl ?_
  exact hk3 (x1, x2, x3, x4, (x5 + (1 : Int32)), σ) hx1 h
theorem zb_Asker_heldBy_52 {l : Launch} {θ : ZT} {res : Int32 × ZM} {k3 : Nat × Int32 × Int32 × Int32 × Int32 × ZM → Option (Int32 × ZM)} (hk3 : ∀ a : Nat × Int32 × Int32 × Int32 × Int32 × ZM, zR 0 129 a.1 16 0 = true → k3 a = some res → WZ l b_Asker_heldBy 11 (some .int) "BakedBefore$Aske\x72" 0 129 θ (zrm 4 140) (zQ mkI 0 129 θ res) a.2.2.2.2.2 [(0, .ref (za θ 6)), (1, .ref (za θ a.1)), (2, .int a.2.1), (3, .int a.2.2.1), (4, .int a.2.2.2.1), (5, .int a.2.2.2.2.1)] 3 []) {x1 : Nat} {x2 : Int32} {x3 : Int32} {x4 : Int32} {x5 : Int32} {x7 : Int32} {y0 : Int32} {σ : ZM} (hx1 : zR 0 129 x1 16 0 = true) (h : f_Asker_heldBy_52 k3 x1 x2 x3 x4 x5 x7 y0 σ = some res) : WZ l b_Asker_heldBy 11 (some .int) "BakedBefore$Aske\x72" 0 129 θ (zrm 4 140) (zQ mkI 0 129 θ res) σ [(0, .ref (za θ 6)), (1, .ref (za θ x1)), (2, .int x2), (3, .int x3), (4, .int x4), (5, .int x5), (7, .int x7)] 52 [.int y0] := by
  unfold f_Asker_heldBy_52 at h
  refine z_istore d_Asker_heldBy_52 (by decide) rfl ?_
  refine z_aload_n 1 d_Asker_heldBy_54 rfl rfl ?_
  refine gf_Asker_baker zl_6 d_Asker_heldBy_55 q_223 ?_
  refine z_aload_n 2 d_Asker_heldBy_58 rfl rfl ?_
  refine z_iload_n 3 d_Asker_heldBy_59 rfl rfl ?_
  refine z_iload 7 d_Asker_heldBy_60 rfl ?_
  refine z_aload_n 1 d_Asker_heldBy_62 rfl rfl ?_
  refine gf_Asker_now zl_6 d_Asker_heldBy_63 q_222 ?_
  refine gf_Stand_oven (o2 := 33) zl_1 rfl d_Asker_heldBy_66 q_119 ?_
  refine gf_Oven_hour zl_33 d_Asker_heldBy_69 q_51 ?_
  obtain ⟨⟨v1, s2⟩, e3, h⟩ := zbd_i h
  refine w_callV (As := [.ref (za θ x1), .int x2, .int x7, .int (zI σ 33 1)]) (kc := 13) (ci := 3) (c_Baker_partOf l θ e3) cf_Baker_partOf q_701 d_Asker_heldBy_72 zl_5 rfl rfl rfl rfl rfl rfl (Nat.le_of_ble_eq_true rfl) rfl rfl ⟨Nat.le_of_ble_eq_true rfl, Nat.le_of_ble_eq_true rfl⟩ ?_
  refine z_istore d_Asker_heldBy_75 (by decide) rfl ?_
  refine z_aload_n 3 d_Asker_heldBy_77 rfl rfl ?_
  refine z_iload_n 4 d_Asker_heldBy_78 rfl rfl ?_
  refine z_iload 0 d_Asker_heldBy_79 rfl ?_
  refine z_iload_n 5 d_Asker_heldBy_81 rfl rfl ?_
  refine z_iload 8 d_Asker_heldBy_82 rfl ?_
  refine z_iload 1 d_Asker_heldBy_84 rfl ?_
  obtain ⟨⟨v4, s5⟩, e6, h⟩ := zbd_i h
  refine w_callS (As := [.ref (za θ x1), .int x2, .int v1, .int x3, .int x7, .int y0]) (c_Asker_reaching l θ e6) cf_Asker_reaching q_702 d_Asker_heldBy_86 rfl rfl rfl (Nat.le_of_ble_eq_true rfl) rfl rfl ⟨Nat.le_of_ble_eq_true rfl, Nat.le_of_ble_eq_true rfl⟩ ?_
  refine z_istore d_Asker_heldBy_89 (by decide) rfl ?_
  refine z_iload 0 d_Asker_heldBy_91 rfl ?_
  refine z_iload 2 d_Asker_heldBy_93 rfl ?_
  refine z_icmp_gt (tgt := 138) d_Asker_heldBy_95 (by decide) (fun c7 => ?_) (fun c7 => ?_)
  · have h := (if_pos c7).symm.trans h
    refine z_sub [3, 4, 5, 6, 7, 8] rfl ?_
    exact zb_Asker_heldBy_138 hk3 hx1 h
  · have h := (if_neg c7).symm.trans h
    refine z_aload_n 4 d_Asker_heldBy_98 rfl rfl ?_
    refine z_iload_n 5 d_Asker_heldBy_99 rfl rfl ?_
    refine z_iload 1 d_Asker_heldBy_100 rfl ?_
    refine z_iload 0 d_Asker_heldBy_102 rfl ?_
    obtain ⟨⟨v8, s9⟩, e10, h⟩ := zbd_i h
    refine w_callS (As := [.ref (za θ x1), .int x2, .int v1, .int v4]) (c_Baker_amount l θ e10) cf_Baker_amount q_705 d_Asker_heldBy_104 rfl rfl rfl (Nat.le_of_ble_eq_true rfl) rfl rfl ⟨Nat.le_of_ble_eq_true rfl, Nat.le_of_ble_eq_true rfl⟩ ?_
    refine z_iload_n 6 d_Asker_heldBy_107 rfl rfl ?_
    refine z_icmp_ne (tgt := 138) d_Asker_heldBy_108 (by decide) (fun c11 => ?_) (fun c11 => ?_)
    · have h := (if_neg c11).symm.trans h
      refine z_sub [3, 4, 5, 6, 7, 8] rfl ?_
      exact zb_Asker_heldBy_138 hk3 hx1 h
    · have h := (if_pos c11).symm.trans h
      refine z_iload 7 d_Asker_heldBy_111 rfl ?_
      refine z_if_eq (tgt := 135) d_Asker_heldBy_113 (by decide) (fun c12 => ?_) (fun c12 => ?_)
      · have h := (if_pos c12).symm.trans h
        refine z_iload 0 d_Asker_heldBy_135 rfl ?_
        exact z_iret d_Asker_heldBy_137 h
      · have h := (if_neg c12).symm.trans h
        refine z_aload_n 4 d_Asker_heldBy_116 rfl rfl ?_
        refine z_iload_n 5 d_Asker_heldBy_117 rfl rfl ?_
        refine z_iload 1 d_Asker_heldBy_118 rfl ?_
        refine z_iload_n 6 d_Asker_heldBy_120 rfl rfl ?_
        refine z_iconst (v := 1) d_Asker_heldBy_121 (by decide) ?_
        refine z_iadd d_Asker_heldBy_122 ?_
        refine z_iload 9 d_Asker_heldBy_123 rfl ?_
        refine z_iload 2 d_Asker_heldBy_125 rfl ?_
        obtain ⟨⟨v13, s14⟩, e15, h⟩ := zbd_i h
        refine w_callS (As := [.ref (za θ x1), .int x2, .int v1, .int (x3 + (1 : Int32)), .int x7, .int y0]) (c_Asker_reaching l θ e15) cf_Asker_reaching q_702 d_Asker_heldBy_127 rfl rfl rfl (Nat.le_of_ble_eq_true rfl) rfl rfl ⟨Nat.le_of_ble_eq_true rfl, Nat.le_of_ble_eq_true rfl⟩ ?_
        refine z_iconst (v := 1) d_Asker_heldBy_130 (by decide) ?_
        refine z_isub d_Asker_heldBy_131 ?_
        refine z_goto (tgt := 137) d_Asker_heldBy_132 (by decide) ?_
        exact z_iret d_Asker_heldBy_137 h
theorem zb_Asker_heldBy_25 {l : Launch} {θ : ZT} {res : Int32 × ZM} {k3 : Nat × Int32 × Int32 × Int32 × Int32 × ZM → Option (Int32 × ZM)} (hk3 : ∀ a : Nat × Int32 × Int32 × Int32 × Int32 × ZM, zR 0 129 a.1 16 0 = true → k3 a = some res → WZ l b_Asker_heldBy 11 (some .int) "BakedBefore$Aske\x72" 0 129 θ (zrm 4 140) (zQ mkI 0 129 θ res) a.2.2.2.2.2 [(0, .ref (za θ 6)), (1, .ref (za θ a.1)), (2, .int a.2.1), (3, .int a.2.2.1), (4, .int a.2.2.2.1), (5, .int a.2.2.2.2.1)] 3 []) {x1 : Nat} {x2 : Int32} {x3 : Int32} {x4 : Int32} {x5 : Int32} {y0 : Int32} {σ : ZM} (hx1 : zR 0 129 x1 16 0 = true) (h : f_Asker_heldBy_25 k3 x1 x2 x3 x4 x5 y0 σ = some res) : WZ l b_Asker_heldBy 11 (some .int) "BakedBefore$Aske\x72" 0 129 θ (zrm 4 140) (zQ mkI 0 129 θ res) σ [(0, .ref (za θ 6)), (1, .ref (za θ x1)), (2, .int x2), (3, .int x3), (4, .int x4), (5, .int x5)] 25 [.int y0] := by
  unfold f_Asker_heldBy_25 at h
  refine z_istore d_Asker_heldBy_25 (by decide) rfl ?_
  refine z_iload 0 d_Asker_heldBy_27 rfl ?_
  refine z_bipush (v := 10) d_Asker_heldBy_29 (by decide) ?_
  refine z_imul d_Asker_heldBy_31 ?_
  refine z_istore d_Asker_heldBy_32 (by decide) rfl ?_
  refine z_iload 1 d_Asker_heldBy_34 rfl ?_
  refine z_bipush (v := 100) d_Asker_heldBy_36 (by decide) ?_
  refine z_icmp_ne (tgt := 47) d_Asker_heldBy_38 (by decide) (fun c1 => ?_) (fun c1 => ?_)
  · have h := (if_neg c1).symm.trans h
    refine z_iload 0 d_Asker_heldBy_47 rfl ?_
    refine z_bipush (v := 9) d_Asker_heldBy_49 (by decide) ?_
    refine z_iadd d_Asker_heldBy_51 ?_
    refine z_sub [2, 3, 4, 5, 6, 7, 0] rfl ?_
    exact zb_Asker_heldBy_52 hk3 hx1 h
  · have h := (if_pos c1).symm.trans h
    refine z_sipush (v := 9999) d_Asker_heldBy_41 (by decide) ?_
    refine z_goto (tgt := 52) d_Asker_heldBy_44 (by decide) ?_
    refine z_sub [2, 3, 4, 5, 6, 7, 0] rfl ?_
    exact zb_Asker_heldBy_52 hk3 hx1 h
theorem zb_Asker_heldBy_3 {l : Launch} {θ : ZT} {res : Int32 × ZM} {k3 : Nat × Int32 × Int32 × Int32 × Int32 × ZM → Option (Int32 × ZM)} (hk3 : ∀ a : Nat × Int32 × Int32 × Int32 × Int32 × ZM, zR 0 129 a.1 16 0 = true → k3 a = some res → WZ l b_Asker_heldBy 11 (some .int) "BakedBefore$Aske\x72" 0 129 θ (zrm 4 140) (zQ mkI 0 129 θ res) a.2.2.2.2.2 [(0, .ref (za θ 6)), (1, .ref (za θ a.1)), (2, .int a.2.1), (3, .int a.2.2.1), (4, .int a.2.2.2.1), (5, .int a.2.2.2.2.1)] 3 []) {x1 : Nat} {x2 : Int32} {x3 : Int32} {x4 : Int32} {x5 : Int32} {σ : ZM} (hx1 : zR 0 129 x1 16 0 = true) (h : f_Asker_heldBy_3 k3 x1 x2 x3 x4 x5 σ = some res) : WZ l b_Asker_heldBy 11 (some .int) "BakedBefore$Aske\x72" 0 129 θ (zrm 4 140) (zQ mkI 0 129 θ res) σ [(0, .ref (za θ 6)), (1, .ref (za θ x1)), (2, .int x2), (3, .int x3), (4, .int x4), (5, .int x5)] 3 [] := by
  unfold f_Asker_heldBy_3 at h
  refine z_iload 5 d_Asker_heldBy_3 rfl ?_
  refine z_bipush (v := 100) d_Asker_heldBy_5 (by decide) ?_
  refine z_icmp_gt (tgt := 144) d_Asker_heldBy_7 (by decide) (fun c1 => ?_) (fun c1 => ?_)
  · have h := (if_pos c1).symm.trans h
    refine z_bipush (v := -5) d_Asker_heldBy_144 (by decide) ?_
    exact z_iret d_Asker_heldBy_146 h
  · have h := (if_neg c1).symm.trans h
    refine z_iload 4 d_Asker_heldBy_10 rfl ?_
    refine z_if_eq (tgt := 23) d_Asker_heldBy_12 (by decide) (fun c2 => ?_) (fun c2 => ?_)
    · have h := (if_pos c2).symm.trans h
      refine z_iload 5 d_Asker_heldBy_23 rfl ?_
      exact zb_Asker_heldBy_25 hk3 hx1 h
    · have h := (if_neg c2).symm.trans h
      refine z_bipush (v := 100) d_Asker_heldBy_15 (by decide) ?_
      refine z_iload 5 d_Asker_heldBy_17 rfl ?_
      refine z_isub d_Asker_heldBy_19 ?_
      refine z_goto (tgt := 25) d_Asker_heldBy_20 (by decide) ?_
      exact zb_Asker_heldBy_25 hk3 hx1 h
theorem zl_Asker_heldBy_3 {l : Launch} {θ : ZT} {res : Int32 × ZM} : ∀ (N : Nat) (a : Nat × Int32 × Int32 × Int32 × Int32 × ZM), zR 0 129 a.1 16 0 = true → F_Asker_heldBy_3 N a = some res → WZ l b_Asker_heldBy 11 (some .int) "BakedBefore$Aske\x72" 0 129 θ (zrm 4 140) (zQ mkI 0 129 θ res) a.2.2.2.2.2 [(0, .ref (za θ 6)), (1, .ref (za θ a.1)), (2, .int a.2.1), (3, .int a.2.2.1), (4, .int a.2.2.2.1), (5, .int a.2.2.2.2.1)] 3 [] := by
  intro N
  induction N with
  | zero => intro a hx1 h; cases (show (none : Option (Int32 × ZM)) = some res from h)
  | succ N ih => intro a hx1 h; exact zb_Asker_heldBy_3 ih hx1 (show f_Asker_heldBy_3 (F_Asker_heldBy_3 N) a.1 a.2.1 a.2.2.1 a.2.2.2.1 a.2.2.2.2.1 a.2.2.2.2.2 = some res from h)
theorem c_Asker_heldBy (l : Launch) (θ : ZT) {x1 : Nat} {x2 : Int32} {x3 : Int32} {x4 : Int32} {σ : ZM} {res : Int32 × ZM} (h : f_Asker_heldBy x1 x2 x3 x4 σ = some res) : zMet mkI l 0 129 θ y_Asker_heldBy b_Asker_heldBy 11 (some .int) (zrm 4 140) [.ref (za θ 6), .ref (za θ x1), .int x2, .int x3, .int x4] σ res := by
  unfold f_Asker_heldBy at h
  obtain ⟨hx1, h⟩ := zck_i h
  refine z_met (lv := [(0, .ref (za θ 6)), (1, .ref (za θ x1)), (2, .int x2), (3, .int x3), (4, .int x4)]) (by decide +kernel) rfl (Nat.le_of_ble_eq_true rfl) (by decide) ?_
  refine z_iconst (v := 0) d_Asker_heldBy_0 (by decide) ?_
  refine z_istore d_Asker_heldBy_1 (by decide) rfl ?_
  refine z_sub [1, 2, 3, 4, 5, 0] rfl ?_
  exact zl_Asker_heldBy_3 2000 (x1, x2, x3, x4, (0 : Int32), σ) hx1 h
theorem d_BB_span_0 : decode b_BB_span 0 = .ok (.aload_n 0, 1) := by decide +kernel
theorem d_BB_span_1 : decode b_BB_span 1 = .ok (.iload_n 1, 1) := by decide +kernel
theorem d_BB_span_2 : decode b_BB_span 2 = .ok (.invokevirtual 92, 3) := by decide +kernel
theorem d_BB_span_5 : decode b_BB_span 5 = .ok (.ifCond .eq (21), 3) := by decide +kernel
theorem d_BB_span_8 : decode b_BB_span 8 = .ok (.iload_n 2, 1) := by decide +kernel
theorem d_BB_span_9 : decode b_BB_span 9 = .ok (.invokestatic 96, 3) := by decide +kernel
theorem d_BB_span_12 : decode b_BB_span 12 = .ok (.ifCond .eq (14), 3) := by decide +kernel
theorem d_BB_span_15 : decode b_BB_span 15 = .ok (.iload 4, 2) := by decide +kernel
theorem d_BB_span_17 : decode b_BB_span 17 = .ok (.ifCond .lt (9), 3) := by decide +kernel
theorem d_BB_span_20 : decode b_BB_span 20 = .ok (.iload 4, 2) := by decide +kernel
theorem d_BB_span_22 : decode b_BB_span 22 = .ok (.iconst (1), 1) := by decide +kernel
theorem d_BB_span_23 : decode b_BB_span 23 = .ok (.if_icmp .le (5), 3) := by decide +kernel
theorem d_BB_span_26 : decode b_BB_span 26 = .ok (.iconst (-1), 1) := by decide +kernel
theorem d_BB_span_27 : decode b_BB_span 27 = .ok (.ireturn, 1) := by decide +kernel
theorem d_BB_span_28 : decode b_BB_span 28 = .ok (.iload_n 3, 1) := by decide +kernel
theorem d_BB_span_29 : decode b_BB_span 29 = .ok (.ifCond .lt (10), 3) := by decide +kernel
theorem d_BB_span_32 : decode b_BB_span 32 = .ok (.iload_n 3, 1) := by decide +kernel
theorem d_BB_span_33 : decode b_BB_span 33 = .ok (.sipush (9999), 3) := by decide +kernel
theorem d_BB_span_36 : decode b_BB_span 36 = .ok (.if_icmp .le (6), 3) := by decide +kernel
theorem d_BB_span_39 : decode b_BB_span 39 = .ok (.bipush (-2), 2) := by decide +kernel
theorem d_BB_span_41 : decode b_BB_span 41 = .ok (.ireturn, 1) := by decide +kernel
theorem d_BB_span_42 : decode b_BB_span 42 = .ok (.aload_n 0, 1) := by decide +kernel
theorem d_BB_span_43 : decode b_BB_span 43 = .ok (.getfield 53, 3) := by decide +kernel
theorem d_BB_span_46 : decode b_BB_span 46 = .ok (.aload_n 0, 1) := by decide +kernel
theorem d_BB_span_47 : decode b_BB_span 47 = .ok (.getfield 12, 3) := by decide +kernel
theorem d_BB_span_50 : decode b_BB_span 50 = .ok (.getfield 82, 3) := by decide +kernel
theorem d_BB_span_53 : decode b_BB_span 53 = .ok (.iload_n 1, 1) := by decide +kernel
theorem d_BB_span_54 : decode b_BB_span 54 = .ok (.aaload, 1) := by decide +kernel
theorem d_BB_span_55 : decode b_BB_span 55 = .ok (.iload_n 2, 1) := by decide +kernel
theorem d_BB_span_56 : decode b_BB_span 56 = .ok (.iload_n 3, 1) := by decide +kernel
theorem d_BB_span_57 : decode b_BB_span 57 = .ok (.iload 4, 2) := by decide +kernel
theorem d_BB_span_59 : decode b_BB_span 59 = .ok (.iconst (1), 1) := by decide +kernel
theorem d_BB_span_60 : decode b_BB_span 60 = .ok (.if_icmp .ne (7), 3) := by decide +kernel
theorem d_BB_span_63 : decode b_BB_span 63 = .ok (.iconst (1), 1) := by decide +kernel
theorem d_BB_span_64 : decode b_BB_span 64 = .ok (.goto (4), 3) := by decide +kernel
theorem d_BB_span_67 : decode b_BB_span 67 = .ok (.iconst (0), 1) := by decide +kernel
theorem d_BB_span_68 : decode b_BB_span 68 = .ok (.invokevirtual 216, 3) := by decide +kernel
theorem d_BB_span_71 : decode b_BB_span 71 = .ok (.ireturn, 1) := by decide +kernel
theorem zb_BB_span_68 {l : Launch} {θ : ZT} {res : Int32 × ZM} {y0 : Int32} {y1 : Int32} {y2 : Int32} {y3 : Nat} {σ : ZM} (hy3 : zR 0 129 y3 16 0 = true) (h : f_BB_span_68 y0 y1 y2 y3 σ = some res) : WZ l b_BB_span 5 (some .int) "BakedBefore" 0 129 θ (zrm 5 170) (zQ mkI 0 129 θ res) σ [] 68 [.int y0, .int y1, .int y2, .ref (za θ y3), .ref (za θ 6)] := by
  unfold f_BB_span_68 at h
  obtain ⟨⟨v1, s2⟩, e3, h⟩ := zbd_i h
  refine w_callV (As := [.ref (za θ y3), .int y2, .int y1, .int y0]) (kc := 12) (ci := 2) (c_Asker_heldBy l θ e3) cf_Asker_heldBy q_697 d_BB_span_68 zl_6 rfl rfl rfl rfl rfl rfl (Nat.le_of_ble_eq_true rfl) rfl rfl ⟨Nat.le_of_ble_eq_true rfl, Nat.le_of_ble_eq_true rfl⟩ ?_
  exact z_iret d_BB_span_71 h
theorem c_BB_span (l : Launch) (θ : ZT) {x1 : Int32} {x2 : Int32} {x3 : Int32} {x4 : Int32} {σ : ZM} {res : Int32 × ZM} (h : f_BB_span x1 x2 x3 x4 σ = some res) : zMet mkI l 0 129 θ y_BB_span b_BB_span 5 (some .int) (zrm 5 170) [.ref (za θ 0), .int x1, .int x2, .int x3, .int x4] σ res := by
  unfold f_BB_span at h
  refine z_met (lv := [(0, .ref (za θ 0)), (1, .int x1), (2, .int x2), (3, .int x3), (4, .int x4)]) (by decide +kernel) rfl (Nat.le_of_ble_eq_true rfl) (by decide) ?_
  refine z_aload_n 0 d_BB_span_0 rfl rfl ?_
  refine z_iload_n 1 d_BB_span_1 rfl rfl ?_
  obtain ⟨⟨v1, s2⟩, e3, h⟩ := zbd_i h
  refine w_callV (As := [.int x1]) (kc := 10) (ci := 0) (c_BB_isLoaf l θ e3) cf_BB_isLoaf q_352 d_BB_span_2 zl_0 rfl rfl rfl rfl rfl rfl (Nat.le_of_ble_eq_true rfl) rfl rfl ⟨Nat.le_of_ble_eq_true rfl, Nat.le_of_ble_eq_true rfl⟩ ?_
  refine z_if_eq (tgt := 26) d_BB_span_5 (by decide) (fun c4 => ?_) (fun c4 => ?_)
  · have h := (if_pos c4).symm.trans h
    refine z_iconst (v := -1) d_BB_span_26 (by decide) ?_
    exact z_iret d_BB_span_27 h
  · have h := (if_neg c4).symm.trans h
    refine z_iload_n 2 d_BB_span_8 rfl rfl ?_
    obtain ⟨⟨v5, s6⟩, e7, h⟩ := zbd_i h
    refine w_callS (As := [.int x2]) (c_BB_isTaste l θ e7) cf_BB_isTaste q_356 d_BB_span_9 rfl rfl rfl (Nat.le_of_ble_eq_true rfl) rfl rfl ⟨Nat.le_of_ble_eq_true rfl, Nat.le_of_ble_eq_true rfl⟩ ?_
    refine z_if_eq (tgt := 26) d_BB_span_12 (by decide) (fun c8 => ?_) (fun c8 => ?_)
    · have h := (if_pos c8).symm.trans h
      refine z_iconst (v := -1) d_BB_span_26 (by decide) ?_
      exact z_iret d_BB_span_27 h
    · have h := (if_neg c8).symm.trans h
      refine z_iload 4 d_BB_span_15 rfl ?_
      refine z_if_lt (tgt := 26) d_BB_span_17 (by decide) (fun c9 => ?_) (fun c9 => ?_)
      · have h := (if_pos c9).symm.trans h
        refine z_iconst (v := -1) d_BB_span_26 (by decide) ?_
        exact z_iret d_BB_span_27 h
      · have h := (if_neg c9).symm.trans h
        refine z_iload 4 d_BB_span_20 rfl ?_
        refine z_iconst (v := 1) d_BB_span_22 (by decide) ?_
        refine z_icmp_le (tgt := 28) d_BB_span_23 (by decide) (fun c10 => ?_) (fun c10 => ?_)
        · have h := (if_pos c10).symm.trans h
          refine z_iload_n 3 d_BB_span_28 rfl rfl ?_
          refine z_if_lt (tgt := 39) d_BB_span_29 (by decide) (fun c11 => ?_) (fun c11 => ?_)
          · have h := (if_pos c11).symm.trans h
            refine z_bipush (v := -2) d_BB_span_39 (by decide) ?_
            exact z_iret d_BB_span_41 h
          · have h := (if_neg c11).symm.trans h
            refine z_iload_n 3 d_BB_span_32 rfl rfl ?_
            refine z_sipush (v := 9999) d_BB_span_33 (by decide) ?_
            refine z_icmp_le (tgt := 42) d_BB_span_36 (by decide) (fun c12 => ?_) (fun c12 => ?_)
            · have h := (if_pos c12).symm.trans h
              refine z_aload_n 0 d_BB_span_42 rfl rfl ?_
              refine gf_BB_asker zl_0 d_BB_span_43 q_309 ?_
              refine z_aload_n 0 d_BB_span_46 rfl rfl ?_
              refine gf_BB_now zl_0 d_BB_span_47 q_303 ?_
              refine gf_Stand_loaves (o2 := 25) zl_1 rfl d_BB_span_50 q_116 ?_
              refine z_iload_n 1 d_BB_span_53 rfl rfl ?_
              obtain ⟨c13, h⟩ := zck_i h
              refine w_aald3 zl_25 c13 d_BB_span_54 ?_
              obtain ⟨c14, h⟩ := zck_i h
              refine z_iload_n 2 d_BB_span_55 rfl rfl ?_
              refine z_iload_n 3 d_BB_span_56 rfl rfl ?_
              refine z_iload 4 d_BB_span_57 rfl ?_
              refine z_iconst (v := 1) d_BB_span_59 (by decide) ?_
              refine z_icmp_ne (tgt := 67) d_BB_span_60 (by decide) (fun c15 => ?_) (fun c15 => ?_)
              · have h := (if_neg c15).symm.trans h
                refine z_iconst (v := 0) d_BB_span_67 (by decide) ?_
                refine z_sub [] rfl ?_
                exact zb_BB_span_68 c14 h
              · have h := (if_pos c15).symm.trans h
                refine z_iconst (v := 1) d_BB_span_63 (by decide) ?_
                refine z_goto (tgt := 68) d_BB_span_64 (by decide) ?_
                refine z_sub [] rfl ?_
                exact zb_BB_span_68 c14 h
            · have h := (if_neg c12).symm.trans h
              refine z_bipush (v := -2) d_BB_span_39 (by decide) ?_
              exact z_iret d_BB_span_41 h
        · have h := (if_neg c10).symm.trans h
          refine z_iconst (v := -1) d_BB_span_26 (by decide) ?_
          exact z_iret d_BB_span_27 h
theorem d_Asker_afterYear_0 : decode b_Asker_afterYear 0 = .ok (.aload_n 0, 1) := by decide +kernel
theorem d_Asker_afterYear_1 : decode b_Asker_afterYear 1 = .ok (.getfield 12, 3) := by decide +kernel
theorem d_Asker_afterYear_4 : decode b_Asker_afterYear 4 = .ok (.aload_n 0, 1) := by decide +kernel
theorem d_Asker_afterYear_5 : decode b_Asker_afterYear 5 = .ok (.getfield 22, 3) := by decide +kernel
theorem d_Asker_afterYear_8 : decode b_Asker_afterYear 8 = .ok (.getfield 30, 3) := by decide +kernel
theorem d_Asker_afterYear_11 : decode b_Asker_afterYear 11 = .ok (.invokevirtual 35, 3) := by decide +kernel
theorem d_Asker_afterYear_14 : decode b_Asker_afterYear 14 = .ok (.iconst (0), 1) := by decide +kernel
theorem d_Asker_afterYear_15 : decode b_Asker_afterYear 15 = .ok (.istore 4, 2) := by decide +kernel
theorem d_Asker_afterYear_17 : decode b_Asker_afterYear 17 = .ok (.iconst (0), 1) := by decide +kernel
theorem d_Asker_afterYear_18 : decode b_Asker_afterYear 18 = .ok (.istore 5, 2) := by decide +kernel
theorem d_Asker_afterYear_20 : decode b_Asker_afterYear 20 = .ok (.iconst (0), 1) := by decide +kernel
theorem d_Asker_afterYear_21 : decode b_Asker_afterYear 21 = .ok (.istore 6, 2) := by decide +kernel
theorem d_Asker_afterYear_23 : decode b_Asker_afterYear 23 = .ok (.iload 6, 2) := by decide +kernel
theorem d_Asker_afterYear_25 : decode b_Asker_afterYear 25 = .ok (.iload_n 1, 1) := by decide +kernel
theorem d_Asker_afterYear_26 : decode b_Asker_afterYear 26 = .ok (.if_icmp .ge (86), 3) := by decide +kernel
theorem d_Asker_afterYear_29 : decode b_Asker_afterYear 29 = .ok (.aload_n 0, 1) := by decide +kernel
theorem d_Asker_afterYear_30 : decode b_Asker_afterYear 30 = .ok (.getfield 12, 3) := by decide +kernel
theorem d_Asker_afterYear_33 : decode b_Asker_afterYear 33 = .ok (.getfield 80, 3) := by decide +kernel
theorem d_Asker_afterYear_36 : decode b_Asker_afterYear 36 = .ok (.iload_n 2, 1) := by decide +kernel
theorem d_Asker_afterYear_37 : decode b_Asker_afterYear 37 = .ok (.irem, 1) := by decide +kernel
theorem d_Asker_afterYear_38 : decode b_Asker_afterYear 38 = .ok (.ifCond .ne (17), 3) := by decide +kernel
theorem d_Asker_afterYear_41 : decode b_Asker_afterYear 41 = .ok (.aload_n 0, 1) := by decide +kernel
theorem d_Asker_afterYear_42 : decode b_Asker_afterYear 42 = .ok (.getfield 26, 3) := by decide +kernel
theorem d_Asker_afterYear_45 : decode b_Asker_afterYear 45 = .ok (.aload_n 0, 1) := by decide +kernel
theorem d_Asker_afterYear_46 : decode b_Asker_afterYear 46 = .ok (.getfield 12, 3) := by decide +kernel
theorem d_Asker_afterYear_49 : decode b_Asker_afterYear 49 = .ok (.invokevirtual 102, 3) := by decide +kernel
theorem d_Asker_afterYear_52 : decode b_Asker_afterYear 52 = .ok (.goto (54), 3) := by decide +kernel
theorem d_Asker_afterYear_55 : decode b_Asker_afterYear 55 = .ok (.aload_n 0, 1) := by decide +kernel
theorem d_Asker_afterYear_56 : decode b_Asker_afterYear 56 = .ok (.getfield 26, 3) := by decide +kernel
theorem d_Asker_afterYear_59 : decode b_Asker_afterYear 59 = .ok (.aload_n 0, 1) := by decide +kernel
theorem d_Asker_afterYear_60 : decode b_Asker_afterYear 60 = .ok (.getfield 12, 3) := by decide +kernel
theorem d_Asker_afterYear_63 : decode b_Asker_afterYear 63 = .ok (.aload_n 0, 1) := by decide +kernel
theorem d_Asker_afterYear_64 : decode b_Asker_afterYear 64 = .ok (.getfield 22, 3) := by decide +kernel
theorem d_Asker_afterYear_67 : decode b_Asker_afterYear 67 = .ok (.getfield 39, 3) := by decide +kernel
theorem d_Asker_afterYear_70 : decode b_Asker_afterYear 70 = .ok (.iload 4, 2) := by decide +kernel
theorem d_Asker_afterYear_72 : decode b_Asker_afterYear 72 = .ok (.aaload, 1) := by decide +kernel
theorem d_Asker_afterYear_73 : decode b_Asker_afterYear 73 = .ok (.invokevirtual 43, 3) := by decide +kernel
theorem d_Asker_afterYear_76 : decode b_Asker_afterYear 76 = .ok (.ifCond .eq (6), 3) := by decide +kernel
theorem d_Asker_afterYear_79 : decode b_Asker_afterYear 79 = .ok (.iinc 5 (1), 3) := by decide +kernel
theorem d_Asker_afterYear_82 : decode b_Asker_afterYear 82 = .ok (.iload 4, 2) := by decide +kernel
theorem d_Asker_afterYear_84 : decode b_Asker_afterYear 84 = .ok (.iconst (1), 1) := by decide +kernel
theorem d_Asker_afterYear_85 : decode b_Asker_afterYear 85 = .ok (.iadd, 1) := by decide +kernel
theorem d_Asker_afterYear_86 : decode b_Asker_afterYear 86 = .ok (.aload_n 0, 1) := by decide +kernel
theorem d_Asker_afterYear_87 : decode b_Asker_afterYear 87 = .ok (.getfield 22, 3) := by decide +kernel
theorem d_Asker_afterYear_90 : decode b_Asker_afterYear 90 = .ok (.getfield 65, 3) := by decide +kernel
theorem d_Asker_afterYear_93 : decode b_Asker_afterYear 93 = .ok (.if_icmp .ge (10), 3) := by decide +kernel
theorem d_Asker_afterYear_96 : decode b_Asker_afterYear 96 = .ok (.iload 4, 2) := by decide +kernel
theorem d_Asker_afterYear_98 : decode b_Asker_afterYear 98 = .ok (.iconst (1), 1) := by decide +kernel
theorem d_Asker_afterYear_99 : decode b_Asker_afterYear 99 = .ok (.iadd, 1) := by decide +kernel
theorem d_Asker_afterYear_100 : decode b_Asker_afterYear 100 = .ok (.goto (4), 3) := by decide +kernel
theorem d_Asker_afterYear_103 : decode b_Asker_afterYear 103 = .ok (.iconst (0), 1) := by decide +kernel
theorem d_Asker_afterYear_104 : decode b_Asker_afterYear 104 = .ok (.istore 4, 2) := by decide +kernel
theorem d_Asker_afterYear_106 : decode b_Asker_afterYear 106 = .ok (.iinc 6 (1), 3) := by decide +kernel
theorem d_Asker_afterYear_109 : decode b_Asker_afterYear 109 = .ok (.goto (-86), 3) := by decide +kernel
theorem d_Asker_afterYear_112 : decode b_Asker_afterYear 112 = .ok (.iload_n 3, 1) := by decide +kernel
theorem d_Asker_afterYear_113 : decode b_Asker_afterYear 113 = .ok (.iconst (4), 1) := by decide +kernel
theorem d_Asker_afterYear_114 : decode b_Asker_afterYear 114 = .ok (.if_icmp .ge (15), 3) := by decide +kernel
theorem d_Asker_afterYear_117 : decode b_Asker_afterYear 117 = .ok (.aload_n 0, 1) := by decide +kernel
theorem d_Asker_afterYear_118 : decode b_Asker_afterYear 118 = .ok (.getfield 12, 3) := by decide +kernel
theorem d_Asker_afterYear_121 : decode b_Asker_afterYear 121 = .ok (.getfield 105, 3) := by decide +kernel
theorem d_Asker_afterYear_124 : decode b_Asker_afterYear 124 = .ok (.iload_n 3, 1) := by decide +kernel
theorem d_Asker_afterYear_125 : decode b_Asker_afterYear 125 = .ok (.iaload, 1) := by decide +kernel
theorem d_Asker_afterYear_126 : decode b_Asker_afterYear 126 = .ok (.goto (5), 3) := by decide +kernel
theorem d_Asker_afterYear_129 : decode b_Asker_afterYear 129 = .ok (.iload 5, 2) := by decide +kernel
theorem d_Asker_afterYear_131 : decode b_Asker_afterYear 131 = .ok (.ireturn, 1) := by decide +kernel
theorem zb_Asker_afterYear_106 {l : Launch} {θ : ZT} {res : Int32 × ZM} {k23 : Int32 × Int32 × Int32 × Int32 × Int32 × Int32 × ZM → Option (Int32 × ZM)} (hk23 : ∀ a : Int32 × Int32 × Int32 × Int32 × Int32 × Int32 × ZM, k23 a = some res → WZ l b_Asker_afterYear 7 (some .int) "BakedBefore$Aske\x72" 0 129 θ (zrm 6 190) (zQ mkI 0 129 θ res) a.2.2.2.2.2.2 [(0, .ref (za θ 6)), (1, .int a.1), (2, .int a.2.1), (3, .int a.2.2.1), (4, .int a.2.2.2.1), (5, .int a.2.2.2.2.1), (6, .int a.2.2.2.2.2.1)] 23 []) {x1 : Int32} {x2 : Int32} {x3 : Int32} {x4 : Int32} {x5 : Int32} {x6 : Int32} {σ : ZM} (h : f_Asker_afterYear_106 k23 x1 x2 x3 x4 x5 x6 σ = some res) : WZ l b_Asker_afterYear 7 (some .int) "BakedBefore$Aske\x72" 0 129 θ (zrm 6 190) (zQ mkI 0 129 θ res) σ [(0, .ref (za θ 6)), (1, .int x1), (2, .int x2), (3, .int x3), (4, .int x4), (5, .int x5), (6, .int x6)] 106 [] := by
  unfold f_Asker_afterYear_106 at h
  refine z_iinc (v := x6 + (1 : Int32)) 6 d_Asker_afterYear_106 rfl rfl (by decide) rfl ?_
  refine z_goto (tgt := 23) d_Asker_afterYear_109 (by decide) ?_
  refine z_sub [1, 2, 3, 4, 5, 6, 0] rfl ?_
  exact hk23 (x1, x2, x3, x4, x5, (x6 + (1 : Int32)), σ) h
theorem zb_Asker_afterYear_104 {l : Launch} {θ : ZT} {res : Int32 × ZM} {k23 : Int32 × Int32 × Int32 × Int32 × Int32 × Int32 × ZM → Option (Int32 × ZM)} (hk23 : ∀ a : Int32 × Int32 × Int32 × Int32 × Int32 × Int32 × ZM, k23 a = some res → WZ l b_Asker_afterYear 7 (some .int) "BakedBefore$Aske\x72" 0 129 θ (zrm 6 190) (zQ mkI 0 129 θ res) a.2.2.2.2.2.2 [(0, .ref (za θ 6)), (1, .int a.1), (2, .int a.2.1), (3, .int a.2.2.1), (4, .int a.2.2.2.1), (5, .int a.2.2.2.2.1), (6, .int a.2.2.2.2.2.1)] 23 []) {x1 : Int32} {x2 : Int32} {x3 : Int32} {x5 : Int32} {x6 : Int32} {y0 : Int32} {σ : ZM} (h : f_Asker_afterYear_104 k23 x1 x2 x3 x5 x6 y0 σ = some res) : WZ l b_Asker_afterYear 7 (some .int) "BakedBefore$Aske\x72" 0 129 θ (zrm 6 190) (zQ mkI 0 129 θ res) σ [(0, .ref (za θ 6)), (1, .int x1), (2, .int x2), (3, .int x3), (5, .int x5), (6, .int x6)] 104 [.int y0] := by
  unfold f_Asker_afterYear_104 at h
  refine z_istore d_Asker_afterYear_104 (by decide) rfl ?_
  refine z_sub [1, 2, 3, 4, 0, 5, 6] rfl ?_
  exact zb_Asker_afterYear_106 hk23 h
theorem zb_Asker_afterYear_82 {l : Launch} {θ : ZT} {res : Int32 × ZM} {k23 : Int32 × Int32 × Int32 × Int32 × Int32 × Int32 × ZM → Option (Int32 × ZM)} (hk23 : ∀ a : Int32 × Int32 × Int32 × Int32 × Int32 × Int32 × ZM, k23 a = some res → WZ l b_Asker_afterYear 7 (some .int) "BakedBefore$Aske\x72" 0 129 θ (zrm 6 190) (zQ mkI 0 129 θ res) a.2.2.2.2.2.2 [(0, .ref (za θ 6)), (1, .int a.1), (2, .int a.2.1), (3, .int a.2.2.1), (4, .int a.2.2.2.1), (5, .int a.2.2.2.2.1), (6, .int a.2.2.2.2.2.1)] 23 []) {x1 : Int32} {x2 : Int32} {x3 : Int32} {x4 : Int32} {x5 : Int32} {x6 : Int32} {σ : ZM} (h : f_Asker_afterYear_82 k23 x1 x2 x3 x4 x5 x6 σ = some res) : WZ l b_Asker_afterYear 7 (some .int) "BakedBefore$Aske\x72" 0 129 θ (zrm 6 190) (zQ mkI 0 129 θ res) σ [(0, .ref (za θ 6)), (1, .int x1), (2, .int x2), (3, .int x3), (4, .int x4), (5, .int x5), (6, .int x6)] 82 [] := by
  unfold f_Asker_afterYear_82 at h
  refine z_iload 4 d_Asker_afterYear_82 rfl ?_
  refine z_iconst (v := 1) d_Asker_afterYear_84 (by decide) ?_
  refine z_iadd d_Asker_afterYear_85 ?_
  refine z_aload_n 0 d_Asker_afterYear_86 rfl rfl ?_
  refine gf_Asker_now zl_6 d_Asker_afterYear_87 q_222 ?_
  refine gf_Stand_many zl_1 d_Asker_afterYear_90 q_128 ?_
  refine z_icmp_ge (tgt := 103) d_Asker_afterYear_93 (by decide) (fun c1 => ?_) (fun c1 => ?_)
  · have h := (if_pos c1).symm.trans h
    refine z_iconst (v := 0) d_Asker_afterYear_103 (by decide) ?_
    refine z_sub [0, 1, 2, 3, 5, 6] rfl ?_
    exact zb_Asker_afterYear_104 hk23 h
  · have h := (if_neg c1).symm.trans h
    refine z_iload 4 d_Asker_afterYear_96 rfl ?_
    refine z_iconst (v := 1) d_Asker_afterYear_98 (by decide) ?_
    refine z_iadd d_Asker_afterYear_99 ?_
    refine z_goto (tgt := 104) d_Asker_afterYear_100 (by decide) ?_
    refine z_sub [0, 1, 2, 3, 5, 6] rfl ?_
    exact zb_Asker_afterYear_104 hk23 h
theorem zb_Asker_afterYear_23 {l : Launch} {θ : ZT} {res : Int32 × ZM} {k23 : Int32 × Int32 × Int32 × Int32 × Int32 × Int32 × ZM → Option (Int32 × ZM)} (hk23 : ∀ a : Int32 × Int32 × Int32 × Int32 × Int32 × Int32 × ZM, k23 a = some res → WZ l b_Asker_afterYear 7 (some .int) "BakedBefore$Aske\x72" 0 129 θ (zrm 6 190) (zQ mkI 0 129 θ res) a.2.2.2.2.2.2 [(0, .ref (za θ 6)), (1, .int a.1), (2, .int a.2.1), (3, .int a.2.2.1), (4, .int a.2.2.2.1), (5, .int a.2.2.2.2.1), (6, .int a.2.2.2.2.2.1)] 23 []) {x1 : Int32} {x2 : Int32} {x3 : Int32} {x4 : Int32} {x5 : Int32} {x6 : Int32} {σ : ZM} (h : f_Asker_afterYear_23 k23 x1 x2 x3 x4 x5 x6 σ = some res) : WZ l b_Asker_afterYear 7 (some .int) "BakedBefore$Aske\x72" 0 129 θ (zrm 6 190) (zQ mkI 0 129 θ res) σ [(0, .ref (za θ 6)), (1, .int x1), (2, .int x2), (3, .int x3), (4, .int x4), (5, .int x5), (6, .int x6)] 23 [] := by
  unfold f_Asker_afterYear_23 at h
  refine z_iload 6 d_Asker_afterYear_23 rfl ?_
  refine z_iload_n 1 d_Asker_afterYear_25 rfl rfl ?_
  refine z_icmp_ge (tgt := 112) d_Asker_afterYear_26 (by decide) (fun c1 => ?_) (fun c1 => ?_)
  · have h := (if_pos c1).symm.trans h
    refine z_iload_n 3 d_Asker_afterYear_112 rfl rfl ?_
    refine z_iconst (v := 4) d_Asker_afterYear_113 (by decide) ?_
    refine z_icmp_ge (tgt := 129) d_Asker_afterYear_114 (by decide) (fun c2 => ?_) (fun c2 => ?_)
    · have h := (if_pos c2).symm.trans h
      refine z_iload 5 d_Asker_afterYear_129 rfl ?_
      exact z_iret d_Asker_afterYear_131 h
    · have h := (if_neg c2).symm.trans h
      refine z_aload_n 0 d_Asker_afterYear_117 rfl rfl ?_
      refine gf_Asker_trial zl_6 d_Asker_afterYear_118 q_224 ?_
      refine gf_Oven_held (o2 := 44) zl_35 rfl d_Asker_afterYear_121 q_47 ?_
      refine z_iload_n 3 d_Asker_afterYear_124 rfl rfl ?_
      obtain ⟨c3, h⟩ := zck_i h
      refine w_iald zl_44 c3 d_Asker_afterYear_125 ?_
      refine z_goto (tgt := 131) d_Asker_afterYear_126 (by decide) ?_
      exact z_iret d_Asker_afterYear_131 h
  · have h := (if_neg c1).symm.trans h
    refine z_aload_n 0 d_Asker_afterYear_29 rfl rfl ?_
    refine gf_Asker_trial zl_6 d_Asker_afterYear_30 q_224 ?_
    refine gf_Oven_hour zl_35 d_Asker_afterYear_33 q_51 ?_
    refine z_iload_n 2 d_Asker_afterYear_36 rfl rfl ?_
    obtain ⟨c4, h⟩ := zck_i h
    refine z_irem d_Asker_afterYear_37 c4 ?_
    refine z_if_ne (tgt := 55) d_Asker_afterYear_38 (by decide) (fun c5 => ?_) (fun c5 => ?_)
    · have h := (if_neg c5).symm.trans h
      refine z_aload_n 0 d_Asker_afterYear_55 rfl rfl ?_
      refine gf_Asker_baker zl_6 d_Asker_afterYear_56 q_223 ?_
      refine z_aload_n 0 d_Asker_afterYear_59 rfl rfl ?_
      refine gf_Asker_trial zl_6 d_Asker_afterYear_60 q_224 ?_
      refine z_aload_n 0 d_Asker_afterYear_63 rfl rfl ?_
      refine gf_Asker_now zl_6 d_Asker_afterYear_64 q_222 ?_
      refine gf_Stand_loaves (o2 := 25) zl_1 rfl d_Asker_afterYear_67 q_115 ?_
      refine z_iload 4 d_Asker_afterYear_70 rfl ?_
      obtain ⟨c6, h⟩ := zck_i h
      refine w_aald3 zl_25 c6 d_Asker_afterYear_72 ?_
      obtain ⟨c7, h⟩ := zck_i h
      obtain ⟨⟨v8, s9⟩, e10, h⟩ := zbd_i h
      refine w_callV (As := [.ref (za θ 35), .ref (za θ (zel 25 x4.toNatClampNeg))]) (kc := 13) (ci := 3) (c_Baker_bakeIn l θ e10) cf_Baker_bakeIn q_584 d_Asker_afterYear_73 zl_5 rfl rfl rfl rfl rfl rfl (Nat.le_of_ble_eq_true rfl) rfl rfl ⟨Nat.le_of_ble_eq_true rfl, Nat.le_of_ble_eq_true rfl⟩ ?_
      refine z_if_eq (tgt := 82) d_Asker_afterYear_76 (by decide) (fun c11 => ?_) (fun c11 => ?_)
      · have h := (if_pos c11).symm.trans h
        exact zb_Asker_afterYear_82 hk23 h
      · have h := (if_neg c11).symm.trans h
        refine z_iinc (v := x5 + (1 : Int32)) 5 d_Asker_afterYear_79 rfl rfl (by decide) rfl ?_
        refine z_sub [1, 2, 3, 4, 5, 0, 6] rfl ?_
        exact zb_Asker_afterYear_82 hk23 h
    · have h := (if_pos c5).symm.trans h
      refine z_aload_n 0 d_Asker_afterYear_41 rfl rfl ?_
      refine gf_Asker_baker zl_6 d_Asker_afterYear_42 q_223 ?_
      refine z_aload_n 0 d_Asker_afterYear_45 rfl rfl ?_
      refine gf_Asker_trial zl_6 d_Asker_afterYear_46 q_224 ?_
      obtain ⟨⟨v12, s13⟩, e14, h⟩ := zbd_i h
      refine w_callV (As := [.ref (za θ 35)]) (kc := 13) (ci := 3) (c_Baker_chill l θ e14) cf_Baker_chill q_716 d_Asker_afterYear_49 zl_5 rfl rfl rfl rfl rfl rfl (Nat.le_of_ble_eq_true rfl) rfl rfl ⟨Nat.le_of_ble_eq_true rfl, Nat.le_of_ble_eq_true rfl⟩ ?_
      refine z_goto (tgt := 106) d_Asker_afterYear_52 (by decide) ?_
      exact zb_Asker_afterYear_106 hk23 h
theorem zl_Asker_afterYear_23 {l : Launch} {θ : ZT} {res : Int32 × ZM} : ∀ (N : Nat) (a : Int32 × Int32 × Int32 × Int32 × Int32 × Int32 × ZM), F_Asker_afterYear_23 N a = some res → WZ l b_Asker_afterYear 7 (some .int) "BakedBefore$Aske\x72" 0 129 θ (zrm 6 190) (zQ mkI 0 129 θ res) a.2.2.2.2.2.2 [(0, .ref (za θ 6)), (1, .int a.1), (2, .int a.2.1), (3, .int a.2.2.1), (4, .int a.2.2.2.1), (5, .int a.2.2.2.2.1), (6, .int a.2.2.2.2.2.1)] 23 [] := by
  intro N
  induction N with
  | zero => intro a  h; cases (show (none : Option (Int32 × ZM)) = some res from h)
  | succ N ih => intro a  h; exact zb_Asker_afterYear_23 ih (show f_Asker_afterYear_23 (F_Asker_afterYear_23 N) a.1 a.2.1 a.2.2.1 a.2.2.2.1 a.2.2.2.2.1 a.2.2.2.2.2.1 a.2.2.2.2.2.2 = some res from h)
theorem c_Asker_afterYear (l : Launch) (θ : ZT) {x1 : Int32} {x2 : Int32} {x3 : Int32} {σ : ZM} {res : Int32 × ZM} (h : f_Asker_afterYear x1 x2 x3 σ = some res) : zMet mkI l 0 129 θ y_Asker_afterYear b_Asker_afterYear 7 (some .int) (zrm 6 190) [.ref (za θ 6), .int x1, .int x2, .int x3] σ res := by
  unfold f_Asker_afterYear at h
  refine z_met (lv := [(0, .ref (za θ 6)), (1, .int x1), (2, .int x2), (3, .int x3)]) (by decide +kernel) rfl (Nat.le_of_ble_eq_true rfl) (by decide) ?_
  refine z_aload_n 0 d_Asker_afterYear_0 rfl rfl ?_
  refine gf_Asker_trial zl_6 d_Asker_afterYear_1 q_224 ?_
  refine z_aload_n 0 d_Asker_afterYear_4 rfl rfl ?_
  refine gf_Asker_now zl_6 d_Asker_afterYear_5 q_222 ?_
  refine gf_Stand_oven (o2 := 33) zl_1 rfl d_Asker_afterYear_8 q_119 ?_
  obtain ⟨⟨v1, s2⟩, e3, h⟩ := zbd_i h
  refine w_callV (As := [.ref (za θ 33)]) (kc := 17) (ci := 7) (c_Oven_become l θ e3) cf_Oven_become q_580 d_Asker_afterYear_11 zl_35 rfl rfl rfl rfl rfl rfl (Nat.le_of_ble_eq_true rfl) rfl rfl ⟨Nat.le_of_ble_eq_true rfl, Nat.le_of_ble_eq_true rfl⟩ ?_
  refine z_iconst (v := 0) d_Asker_afterYear_14 (by decide) ?_
  refine z_istore d_Asker_afterYear_15 (by decide) rfl ?_
  refine z_iconst (v := 0) d_Asker_afterYear_17 (by decide) ?_
  refine z_istore d_Asker_afterYear_18 (by decide) rfl ?_
  refine z_iconst (v := 0) d_Asker_afterYear_20 (by decide) ?_
  refine z_istore d_Asker_afterYear_21 (by decide) rfl ?_
  refine z_sub [3, 4, 5, 6, 2, 1, 0] rfl ?_
  exact zl_Asker_afterYear_23 2000 (x1, x2, x3, (0 : Int32), (0 : Int32), (0 : Int32), s2) h
theorem d_BB_year_0 : decode b_BB_year 0 = .ok (.iload_n 3, 1) := by decide +kernel
theorem d_BB_year_1 : decode b_BB_year 1 = .ok (.ifCond .lt (8), 3) := by decide +kernel
theorem d_BB_year_4 : decode b_BB_year 4 = .ok (.iload_n 3, 1) := by decide +kernel
theorem d_BB_year_5 : decode b_BB_year 5 = .ok (.iconst (4), 1) := by decide +kernel
theorem d_BB_year_6 : decode b_BB_year 6 = .ok (.if_icmp .le (6), 3) := by decide +kernel
theorem d_BB_year_9 : decode b_BB_year 9 = .ok (.ldc 209, 2) := by decide +kernel
theorem d_BB_year_11 : decode b_BB_year 11 = .ok (.ireturn, 1) := by decide +kernel
theorem d_BB_year_12 : decode b_BB_year 12 = .ok (.iload_n 1, 1) := by decide +kernel
theorem d_BB_year_13 : decode b_BB_year 13 = .ok (.ifCond .lt (20), 3) := by decide +kernel
theorem d_BB_year_16 : decode b_BB_year 16 = .ok (.iload_n 1, 1) := by decide +kernel
theorem d_BB_year_17 : decode b_BB_year 17 = .ok (.bipush (60), 2) := by decide +kernel
theorem d_BB_year_19 : decode b_BB_year 19 = .ok (.if_icmp .gt (14), 3) := by decide +kernel
theorem d_BB_year_22 : decode b_BB_year 22 = .ok (.iload_n 2, 1) := by decide +kernel
theorem d_BB_year_23 : decode b_BB_year 23 = .ok (.iconst (2), 1) := by decide +kernel
theorem d_BB_year_24 : decode b_BB_year 24 = .ok (.if_icmp .lt (9), 3) := by decide +kernel
theorem d_BB_year_27 : decode b_BB_year 27 = .ok (.iload_n 2, 1) := by decide +kernel
theorem d_BB_year_28 : decode b_BB_year 28 = .ok (.bipush (30), 2) := by decide +kernel
theorem d_BB_year_30 : decode b_BB_year 30 = .ok (.if_icmp .le (6), 3) := by decide +kernel
theorem d_BB_year_33 : decode b_BB_year 33 = .ok (.ldc 220, 2) := by decide +kernel
theorem d_BB_year_35 : decode b_BB_year 35 = .ok (.ireturn, 1) := by decide +kernel
theorem d_BB_year_36 : decode b_BB_year 36 = .ok (.aload_n 0, 1) := by decide +kernel
theorem d_BB_year_37 : decode b_BB_year 37 = .ok (.getfield 12, 3) := by decide +kernel
theorem d_BB_year_40 : decode b_BB_year 40 = .ok (.getfield 78, 3) := by decide +kernel
theorem d_BB_year_43 : decode b_BB_year 43 = .ok (.ifCond .ne (6), 3) := by decide +kernel
theorem d_BB_year_46 : decode b_BB_year 46 = .ok (.ldc 221, 2) := by decide +kernel
theorem d_BB_year_48 : decode b_BB_year 48 = .ok (.ireturn, 1) := by decide +kernel
theorem d_BB_year_49 : decode b_BB_year 49 = .ok (.aload_n 0, 1) := by decide +kernel
theorem d_BB_year_50 : decode b_BB_year 50 = .ok (.getfield 53, 3) := by decide +kernel
theorem d_BB_year_53 : decode b_BB_year 53 = .ok (.iload_n 1, 1) := by decide +kernel
theorem d_BB_year_54 : decode b_BB_year 54 = .ok (.iload_n 2, 1) := by decide +kernel
theorem d_BB_year_55 : decode b_BB_year 55 = .ok (.iload_n 3, 1) := by decide +kernel
theorem d_BB_year_56 : decode b_BB_year 56 = .ok (.invokevirtual 222, 3) := by decide +kernel
theorem d_BB_year_59 : decode b_BB_year 59 = .ok (.ireturn, 1) := by decide +kernel
theorem zb_BB_year_9 {l : Launch} {θ : ZT} {res : Int32 × ZM}  {σ : ZM} (h : f_BB_year_9 σ = some res) : WZ l b_BB_year 4 (some .int) "BakedBefore" 0 129 θ (zrm 7 216) (zQ mkI 0 129 θ res) σ [] 9 [] := by
  unfold f_BB_year_9 at h
  refine z_ldc (v := -100001) d_BB_year_9 q_671 ?_
  exact z_iret d_BB_year_11 h
theorem zb_BB_year_33 {l : Launch} {θ : ZT} {res : Int32 × ZM}  {σ : ZM} (h : f_BB_year_33 σ = some res) : WZ l b_BB_year 4 (some .int) "BakedBefore" 0 129 θ (zrm 7 216) (zQ mkI 0 129 θ res) σ [] 33 [] := by
  unfold f_BB_year_33 at h
  refine z_ldc (v := -100002) d_BB_year_33 q_710 ?_
  exact z_iret d_BB_year_35 h
theorem c_BB_year (l : Launch) (θ : ZT) {x1 : Int32} {x2 : Int32} {x3 : Int32} {σ : ZM} {res : Int32 × ZM} (h : f_BB_year x1 x2 x3 σ = some res) : zMet mkI l 0 129 θ y_BB_year b_BB_year 4 (some .int) (zrm 7 216) [.ref (za θ 0), .int x1, .int x2, .int x3] σ res := by
  unfold f_BB_year at h
  refine z_met (lv := [(0, .ref (za θ 0)), (1, .int x1), (2, .int x2), (3, .int x3)]) (by decide +kernel) rfl (Nat.le_of_ble_eq_true rfl) (by decide) ?_
  refine z_iload_n 3 d_BB_year_0 rfl rfl ?_
  refine z_if_lt (tgt := 9) d_BB_year_1 (by decide) (fun c1 => ?_) (fun c1 => ?_)
  · have h := (if_pos c1).symm.trans h
    refine z_sub [] rfl ?_
    exact zb_BB_year_9 h
  · have h := (if_neg c1).symm.trans h
    refine z_iload_n 3 d_BB_year_4 rfl rfl ?_
    refine z_iconst (v := 4) d_BB_year_5 (by decide) ?_
    refine z_icmp_le (tgt := 12) d_BB_year_6 (by decide) (fun c2 => ?_) (fun c2 => ?_)
    · have h := (if_pos c2).symm.trans h
      refine z_iload_n 1 d_BB_year_12 rfl rfl ?_
      refine z_if_lt (tgt := 33) d_BB_year_13 (by decide) (fun c3 => ?_) (fun c3 => ?_)
      · have h := (if_pos c3).symm.trans h
        refine z_sub [] rfl ?_
        exact zb_BB_year_33 h
      · have h := (if_neg c3).symm.trans h
        refine z_iload_n 1 d_BB_year_16 rfl rfl ?_
        refine z_bipush (v := 60) d_BB_year_17 (by decide) ?_
        refine z_icmp_gt (tgt := 33) d_BB_year_19 (by decide) (fun c4 => ?_) (fun c4 => ?_)
        · have h := (if_pos c4).symm.trans h
          refine z_sub [] rfl ?_
          exact zb_BB_year_33 h
        · have h := (if_neg c4).symm.trans h
          refine z_iload_n 2 d_BB_year_22 rfl rfl ?_
          refine z_iconst (v := 2) d_BB_year_23 (by decide) ?_
          refine z_icmp_lt (tgt := 33) d_BB_year_24 (by decide) (fun c5 => ?_) (fun c5 => ?_)
          · have h := (if_pos c5).symm.trans h
            refine z_sub [] rfl ?_
            exact zb_BB_year_33 h
          · have h := (if_neg c5).symm.trans h
            refine z_iload_n 2 d_BB_year_27 rfl rfl ?_
            refine z_bipush (v := 30) d_BB_year_28 (by decide) ?_
            refine z_icmp_le (tgt := 36) d_BB_year_30 (by decide) (fun c6 => ?_) (fun c6 => ?_)
            · have h := (if_pos c6).symm.trans h
              refine z_aload_n 0 d_BB_year_36 rfl rfl ?_
              refine gf_BB_now zl_0 d_BB_year_37 q_303 ?_
              refine gf_Stand_many zl_1 d_BB_year_40 q_126 ?_
              refine z_if_ne (tgt := 49) d_BB_year_43 (by decide) (fun c7 => ?_) (fun c7 => ?_)
              · have h := (if_neg c7).symm.trans h
                refine z_aload_n 0 d_BB_year_49 rfl rfl ?_
                refine gf_BB_asker zl_0 d_BB_year_50 q_309 ?_
                refine z_iload_n 1 d_BB_year_53 rfl rfl ?_
                refine z_iload_n 2 d_BB_year_54 rfl rfl ?_
                refine z_iload_n 3 d_BB_year_55 rfl rfl ?_
                obtain ⟨⟨v8, s9⟩, e10, h⟩ := zbd_i h
                refine w_callV (As := [.int x1, .int x2, .int x3]) (kc := 12) (ci := 2) (c_Asker_afterYear l θ e10) cf_Asker_afterYear q_712 d_BB_year_56 zl_6 rfl rfl rfl rfl rfl rfl (Nat.le_of_ble_eq_true rfl) rfl rfl ⟨Nat.le_of_ble_eq_true rfl, Nat.le_of_ble_eq_true rfl⟩ ?_
                exact z_iret d_BB_year_59 h
              · have h := (if_pos c7).symm.trans h
                refine z_ldc (v := -100003) d_BB_year_46 q_711 ?_
                exact z_iret d_BB_year_48 h
            · have h := (if_neg c6).symm.trans h
              refine z_sub [] rfl ?_
              exact zb_BB_year_33 h
    · have h := (if_neg c2).symm.trans h
      refine z_sub [] rfl ?_
      exact zb_BB_year_9 h
theorem d_Asker_spoilers_0 : decode b_Asker_spoilers 0 = .ok (.iconst (0), 1) := by decide +kernel
theorem d_Asker_spoilers_1 : decode b_Asker_spoilers 1 = .ok (.istore_n 2, 1) := by decide +kernel
theorem d_Asker_spoilers_2 : decode b_Asker_spoilers 2 = .ok (.iconst (0), 1) := by decide +kernel
theorem d_Asker_spoilers_3 : decode b_Asker_spoilers 3 = .ok (.istore_n 3, 1) := by decide +kernel
theorem d_Asker_spoilers_4 : decode b_Asker_spoilers 4 = .ok (.iload_n 3, 1) := by decide +kernel
theorem d_Asker_spoilers_5 : decode b_Asker_spoilers 5 = .ok (.aload_n 0, 1) := by decide +kernel
theorem d_Asker_spoilers_6 : decode b_Asker_spoilers 6 = .ok (.getfield 22, 3) := by decide +kernel
theorem d_Asker_spoilers_9 : decode b_Asker_spoilers 9 = .ok (.getfield 65, 3) := by decide +kernel
theorem d_Asker_spoilers_12 : decode b_Asker_spoilers 12 = .ok (.if_icmp .ge (24), 3) := by decide +kernel
theorem d_Asker_spoilers_15 : decode b_Asker_spoilers 15 = .ok (.iload_n 3, 1) := by decide +kernel
theorem d_Asker_spoilers_16 : decode b_Asker_spoilers 16 = .ok (.iload_n 1, 1) := by decide +kernel
theorem d_Asker_spoilers_17 : decode b_Asker_spoilers 17 = .ok (.if_icmp .eq (13), 3) := by decide +kernel
theorem d_Asker_spoilers_20 : decode b_Asker_spoilers 20 = .ok (.iload_n 2, 1) := by decide +kernel
theorem d_Asker_spoilers_21 : decode b_Asker_spoilers 21 = .ok (.aload_n 0, 1) := by decide +kernel
theorem d_Asker_spoilers_22 : decode b_Asker_spoilers 22 = .ok (.iload_n 1, 1) := by decide +kernel
theorem d_Asker_spoilers_23 : decode b_Asker_spoilers 23 = .ok (.iload_n 3, 1) := by decide +kernel
theorem d_Asker_spoilers_24 : decode b_Asker_spoilers 24 = .ok (.iconst (4), 1) := by decide +kernel
theorem d_Asker_spoilers_25 : decode b_Asker_spoilers 25 = .ok (.invokevirtual 108, 3) := by decide +kernel
theorem d_Asker_spoilers_28 : decode b_Asker_spoilers 28 = .ok (.iadd, 1) := by decide +kernel
theorem d_Asker_spoilers_29 : decode b_Asker_spoilers 29 = .ok (.istore_n 2, 1) := by decide +kernel
theorem d_Asker_spoilers_30 : decode b_Asker_spoilers 30 = .ok (.iinc 3 (1), 3) := by decide +kernel
theorem d_Asker_spoilers_33 : decode b_Asker_spoilers 33 = .ok (.goto (-29), 3) := by decide +kernel
theorem d_Asker_spoilers_36 : decode b_Asker_spoilers 36 = .ok (.iload_n 2, 1) := by decide +kernel
theorem d_Asker_spoilers_37 : decode b_Asker_spoilers 37 = .ok (.ireturn, 1) := by decide +kernel
theorem zb_Asker_spoilers_30 {l : Launch} {θ : ZT} {res : Int32 × ZM} {k4 : Int32 × Int32 × Int32 × ZM → Option (Int32 × ZM)} (hk4 : ∀ a : Int32 × Int32 × Int32 × ZM, k4 a = some res → WZ l b_Asker_spoilers 4 (some .int) "BakedBefore$Aske\x72" 0 129 θ (zrm 7 213) (zQ mkI 0 129 θ res) a.2.2.2 [(0, .ref (za θ 6)), (1, .int a.1), (2, .int a.2.1), (3, .int a.2.2.1)] 4 []) {x1 : Int32} {x2 : Int32} {x3 : Int32} {σ : ZM} (h : f_Asker_spoilers_30 k4 x1 x2 x3 σ = some res) : WZ l b_Asker_spoilers 4 (some .int) "BakedBefore$Aske\x72" 0 129 θ (zrm 7 213) (zQ mkI 0 129 θ res) σ [(0, .ref (za θ 6)), (1, .int x1), (2, .int x2), (3, .int x3)] 30 [] := by
  unfold f_Asker_spoilers_30 at h
  refine z_iinc (v := x3 + (1 : Int32)) 3 d_Asker_spoilers_30 rfl rfl (by decide) rfl ?_
  refine z_goto (tgt := 4) d_Asker_spoilers_33 (by decide) ?_
  refine z_sub [1, 2, 3, 0] rfl ?_
  exact hk4 (x1, x2, (x3 + (1 : Int32)), σ) h
theorem zb_Asker_spoilers_4 {l : Launch} {θ : ZT} {res : Int32 × ZM} {k4 : Int32 × Int32 × Int32 × ZM → Option (Int32 × ZM)} (hk4 : ∀ a : Int32 × Int32 × Int32 × ZM, k4 a = some res → WZ l b_Asker_spoilers 4 (some .int) "BakedBefore$Aske\x72" 0 129 θ (zrm 7 213) (zQ mkI 0 129 θ res) a.2.2.2 [(0, .ref (za θ 6)), (1, .int a.1), (2, .int a.2.1), (3, .int a.2.2.1)] 4 []) {x1 : Int32} {x2 : Int32} {x3 : Int32} {σ : ZM} (h : f_Asker_spoilers_4 k4 x1 x2 x3 σ = some res) : WZ l b_Asker_spoilers 4 (some .int) "BakedBefore$Aske\x72" 0 129 θ (zrm 7 213) (zQ mkI 0 129 θ res) σ [(0, .ref (za θ 6)), (1, .int x1), (2, .int x2), (3, .int x3)] 4 [] := by
  unfold f_Asker_spoilers_4 at h
  refine z_iload_n 3 d_Asker_spoilers_4 rfl rfl ?_
  refine z_aload_n 0 d_Asker_spoilers_5 rfl rfl ?_
  refine gf_Asker_now zl_6 d_Asker_spoilers_6 q_222 ?_
  refine gf_Stand_many zl_1 d_Asker_spoilers_9 q_128 ?_
  refine z_icmp_ge (tgt := 36) d_Asker_spoilers_12 (by decide) (fun c1 => ?_) (fun c1 => ?_)
  · have h := (if_pos c1).symm.trans h
    refine z_iload_n 2 d_Asker_spoilers_36 rfl rfl ?_
    exact z_iret d_Asker_spoilers_37 h
  · have h := (if_neg c1).symm.trans h
    refine z_iload_n 3 d_Asker_spoilers_15 rfl rfl ?_
    refine z_iload_n 1 d_Asker_spoilers_16 rfl rfl ?_
    refine z_icmp_eq (tgt := 30) d_Asker_spoilers_17 (by decide) (fun c2 => ?_) (fun c2 => ?_)
    · have h := (if_pos c2).symm.trans h
      exact zb_Asker_spoilers_30 hk4 h
    · have h := (if_neg c2).symm.trans h
      refine z_iload_n 2 d_Asker_spoilers_20 rfl rfl ?_
      refine z_aload_n 0 d_Asker_spoilers_21 rfl rfl ?_
      refine z_iload_n 1 d_Asker_spoilers_22 rfl rfl ?_
      refine z_iload_n 3 d_Asker_spoilers_23 rfl rfl ?_
      refine z_iconst (v := 4) d_Asker_spoilers_24 (by decide) ?_
      obtain ⟨⟨v3, s4⟩, e5, h⟩ := zbd_i h
      refine w_callV (As := [.int x1, .int x3, .int (4 : Int32)]) (kc := 12) (ci := 2) (c_Asker_behind l θ e5) cf_Asker_behind q_726 d_Asker_spoilers_25 zl_6 rfl rfl rfl rfl rfl rfl (Nat.le_of_ble_eq_true rfl) rfl rfl ⟨Nat.le_of_ble_eq_true rfl, Nat.le_of_ble_eq_true rfl⟩ ?_
      refine z_iadd d_Asker_spoilers_28 ?_
      refine z_istore_n d_Asker_spoilers_29 rfl (by decide) rfl ?_
      refine z_sub [1, 2, 0, 3] rfl ?_
      exact zb_Asker_spoilers_30 hk4 h
theorem zl_Asker_spoilers_4 {l : Launch} {θ : ZT} {res : Int32 × ZM} : ∀ (N : Nat) (a : Int32 × Int32 × Int32 × ZM), F_Asker_spoilers_4 N a = some res → WZ l b_Asker_spoilers 4 (some .int) "BakedBefore$Aske\x72" 0 129 θ (zrm 7 213) (zQ mkI 0 129 θ res) a.2.2.2 [(0, .ref (za θ 6)), (1, .int a.1), (2, .int a.2.1), (3, .int a.2.2.1)] 4 [] := by
  intro N
  induction N with
  | zero => intro a  h; cases (show (none : Option (Int32 × ZM)) = some res from h)
  | succ N ih => intro a  h; exact zb_Asker_spoilers_4 ih (show f_Asker_spoilers_4 (F_Asker_spoilers_4 N) a.1 a.2.1 a.2.2.1 a.2.2.2 = some res from h)
theorem c_Asker_spoilers (l : Launch) (θ : ZT) {x1 : Int32} {σ : ZM} {res : Int32 × ZM} (h : f_Asker_spoilers x1 σ = some res) : zMet mkI l 0 129 θ y_Asker_spoilers b_Asker_spoilers 4 (some .int) (zrm 7 213) [.ref (za θ 6), .int x1] σ res := by
  unfold f_Asker_spoilers at h
  refine z_met (lv := [(0, .ref (za θ 6)), (1, .int x1)]) (by decide +kernel) rfl (Nat.le_of_ble_eq_true rfl) (by decide) ?_
  refine z_iconst (v := 0) d_Asker_spoilers_0 (by decide) ?_
  refine z_istore_n d_Asker_spoilers_1 rfl (by decide) rfl ?_
  refine z_iconst (v := 0) d_Asker_spoilers_2 (by decide) ?_
  refine z_istore_n d_Asker_spoilers_3 rfl (by decide) rfl ?_
  refine z_sub [2, 3, 1, 0] rfl ?_
  exact zl_Asker_spoilers_4 2000 (x1, (0 : Int32), (0 : Int32), σ) h
theorem d_BB_lowest_0 : decode b_BB_lowest 0 = .ok (.iload_n 1, 1) := by decide +kernel
theorem d_BB_lowest_1 : decode b_BB_lowest 1 = .ok (.istore_n 3, 1) := by decide +kernel
theorem d_BB_lowest_2 : decode b_BB_lowest 2 = .ok (.iload_n 3, 1) := by decide +kernel
theorem d_BB_lowest_3 : decode b_BB_lowest 3 = .ok (.iconst (1), 1) := by decide +kernel
theorem d_BB_lowest_4 : decode b_BB_lowest 4 = .ok (.if_icmp .le (21), 3) := by decide +kernel
theorem d_BB_lowest_7 : decode b_BB_lowest 7 = .ok (.iload_n 0, 1) := by decide +kernel
theorem d_BB_lowest_8 : decode b_BB_lowest 8 = .ok (.iload_n 3, 1) := by decide +kernel
theorem d_BB_lowest_9 : decode b_BB_lowest 9 = .ok (.irem, 1) := by decide +kernel
theorem d_BB_lowest_10 : decode b_BB_lowest 10 = .ok (.ifCond .ne (9), 3) := by decide +kernel
theorem d_BB_lowest_13 : decode b_BB_lowest 13 = .ok (.iload_n 1, 1) := by decide +kernel
theorem d_BB_lowest_14 : decode b_BB_lowest 14 = .ok (.iload_n 3, 1) := by decide +kernel
theorem d_BB_lowest_15 : decode b_BB_lowest 15 = .ok (.irem, 1) := by decide +kernel
theorem d_BB_lowest_16 : decode b_BB_lowest 16 = .ok (.ifCond .eq (9), 3) := by decide +kernel
theorem d_BB_lowest_19 : decode b_BB_lowest 19 = .ok (.iinc 3 (-1), 3) := by decide +kernel
theorem d_BB_lowest_22 : decode b_BB_lowest 22 = .ok (.goto (-20), 3) := by decide +kernel
theorem d_BB_lowest_25 : decode b_BB_lowest 25 = .ok (.iload_n 2, 1) := by decide +kernel
theorem d_BB_lowest_26 : decode b_BB_lowest 26 = .ok (.ifCond .ne (7), 3) := by decide +kernel
theorem d_BB_lowest_29 : decode b_BB_lowest 29 = .ok (.iload_n 0, 1) := by decide +kernel
theorem d_BB_lowest_30 : decode b_BB_lowest 30 = .ok (.goto (4), 3) := by decide +kernel
theorem d_BB_lowest_33 : decode b_BB_lowest 33 = .ok (.iload_n 1, 1) := by decide +kernel
theorem d_BB_lowest_34 : decode b_BB_lowest 34 = .ok (.iload_n 3, 1) := by decide +kernel
theorem d_BB_lowest_35 : decode b_BB_lowest 35 = .ok (.idiv, 1) := by decide +kernel
theorem d_BB_lowest_36 : decode b_BB_lowest 36 = .ok (.i2l, 1) := by decide +kernel
theorem d_BB_lowest_37 : decode b_BB_lowest 37 = .ok (.lreturn, 1) := by decide +kernel
theorem zb_BB_lowest_19 {l : Launch} {θ : ZT} {res : Int64 × ZM} {k2 : Int32 × Int32 × Int32 × Int32 × ZM → Option (Int64 × ZM)} (hk2 : ∀ a : Int32 × Int32 × Int32 × Int32 × ZM, k2 a = some res → WZ l b_BB_lowest 4 (some .long) "BakedBefore" 0 129 θ (zrm 1 60) (zQ mkL 0 129 θ res) a.2.2.2.2 [(0, .int a.1), (1, .int a.2.1), (2, .int a.2.2.1), (3, .int a.2.2.2.1)] 2 []) {x0 : Int32} {x1 : Int32} {x2 : Int32} {x3 : Int32} {σ : ZM} (h : f_BB_lowest_19 k2 x0 x1 x2 x3 σ = some res) : WZ l b_BB_lowest 4 (some .long) "BakedBefore" 0 129 θ (zrm 1 60) (zQ mkL 0 129 θ res) σ [(0, .int x0), (1, .int x1), (2, .int x2), (3, .int x3)] 19 [] := by
  unfold f_BB_lowest_19 at h
  refine z_iinc (v := x3 + (-1 : Int32)) 3 d_BB_lowest_19 rfl rfl (by decide) rfl ?_
  refine z_goto (tgt := 2) d_BB_lowest_22 (by decide) ?_
  refine z_sub [1, 2, 3, 0] rfl ?_
  exact hk2 (x0, x1, x2, (x3 + (-1 : Int32)), σ) h
theorem zb_BB_lowest_34 {l : Launch} {θ : ZT} {res : Int64 × ZM} {x3 : Int32} {y0 : Int32} {σ : ZM} (h : f_BB_lowest_34 x3 y0 σ = some res) : WZ l b_BB_lowest 4 (some .long) "BakedBefore" 0 129 θ (zrm 1 60) (zQ mkL 0 129 θ res) σ [(3, .int x3)] 34 [.int y0] := by
  unfold f_BB_lowest_34 at h
  refine z_iload_n 0 d_BB_lowest_34 rfl rfl ?_
  obtain ⟨c1, h⟩ := zck_i h
  refine z_idiv d_BB_lowest_35 c1 ?_
  refine z_i2l d_BB_lowest_36 ?_
  exact z_lret d_BB_lowest_37 h
theorem zb_BB_lowest_25 {l : Launch} {θ : ZT} {res : Int64 × ZM} {x0 : Int32} {x1 : Int32} {x2 : Int32} {x3 : Int32} {σ : ZM} (h : f_BB_lowest_25 x0 x1 x2 x3 σ = some res) : WZ l b_BB_lowest 4 (some .long) "BakedBefore" 0 129 θ (zrm 1 60) (zQ mkL 0 129 θ res) σ [(0, .int x0), (1, .int x1), (2, .int x2), (3, .int x3)] 25 [] := by
  unfold f_BB_lowest_25 at h
  refine z_iload_n 2 d_BB_lowest_25 rfl rfl ?_
  refine z_if_ne (tgt := 33) d_BB_lowest_26 (by decide) (fun c1 => ?_) (fun c1 => ?_)
  · have h := (if_neg c1).symm.trans h
    refine z_iload_n 1 d_BB_lowest_33 rfl rfl ?_
    refine z_sub [3] rfl ?_
    exact zb_BB_lowest_34 h
  · have h := (if_pos c1).symm.trans h
    refine z_iload_n 0 d_BB_lowest_29 rfl rfl ?_
    refine z_goto (tgt := 34) d_BB_lowest_30 (by decide) ?_
    refine z_sub [3] rfl ?_
    exact zb_BB_lowest_34 h
theorem zb_BB_lowest_2 {l : Launch} {θ : ZT} {res : Int64 × ZM} {k2 : Int32 × Int32 × Int32 × Int32 × ZM → Option (Int64 × ZM)} (hk2 : ∀ a : Int32 × Int32 × Int32 × Int32 × ZM, k2 a = some res → WZ l b_BB_lowest 4 (some .long) "BakedBefore" 0 129 θ (zrm 1 60) (zQ mkL 0 129 θ res) a.2.2.2.2 [(0, .int a.1), (1, .int a.2.1), (2, .int a.2.2.1), (3, .int a.2.2.2.1)] 2 []) {x0 : Int32} {x1 : Int32} {x2 : Int32} {x3 : Int32} {σ : ZM} (h : f_BB_lowest_2 k2 x0 x1 x2 x3 σ = some res) : WZ l b_BB_lowest 4 (some .long) "BakedBefore" 0 129 θ (zrm 1 60) (zQ mkL 0 129 θ res) σ [(0, .int x0), (1, .int x1), (2, .int x2), (3, .int x3)] 2 [] := by
  unfold f_BB_lowest_2 at h
  refine z_iload_n 3 d_BB_lowest_2 rfl rfl ?_
  refine z_iconst (v := 1) d_BB_lowest_3 (by decide) ?_
  refine z_icmp_le (tgt := 25) d_BB_lowest_4 (by decide) (fun c1 => ?_) (fun c1 => ?_)
  · have h := (if_pos c1).symm.trans h
    exact zb_BB_lowest_25 h
  · have h := (if_neg c1).symm.trans h
    refine z_iload_n 0 d_BB_lowest_7 rfl rfl ?_
    refine z_iload_n 3 d_BB_lowest_8 rfl rfl ?_
    obtain ⟨c2, h⟩ := zck_i h
    refine z_irem d_BB_lowest_9 c2 ?_
    refine z_if_ne (tgt := 19) d_BB_lowest_10 (by decide) (fun c3 => ?_) (fun c3 => ?_)
    · have h := (if_neg c3).symm.trans h
      exact zb_BB_lowest_19 hk2 h
    · have h := (if_pos c3).symm.trans h
      refine z_iload_n 1 d_BB_lowest_13 rfl rfl ?_
      refine z_iload_n 3 d_BB_lowest_14 rfl rfl ?_
      obtain ⟨c4, h⟩ := zck_i h
      refine z_irem d_BB_lowest_15 c4 ?_
      refine z_if_eq (tgt := 25) d_BB_lowest_16 (by decide) (fun c5 => ?_) (fun c5 => ?_)
      · have h := (if_pos c5).symm.trans h
        exact zb_BB_lowest_25 h
      · have h := (if_neg c5).symm.trans h
        exact zb_BB_lowest_19 hk2 h
theorem zl_BB_lowest_2 {l : Launch} {θ : ZT} {res : Int64 × ZM} : ∀ (N : Nat) (a : Int32 × Int32 × Int32 × Int32 × ZM), F_BB_lowest_2 N a = some res → WZ l b_BB_lowest 4 (some .long) "BakedBefore" 0 129 θ (zrm 1 60) (zQ mkL 0 129 θ res) a.2.2.2.2 [(0, .int a.1), (1, .int a.2.1), (2, .int a.2.2.1), (3, .int a.2.2.2.1)] 2 [] := by
  intro N
  induction N with
  | zero => intro a  h; cases (show (none : Option (Int64 × ZM)) = some res from h)
  | succ N ih => intro a  h; exact zb_BB_lowest_2 ih (show f_BB_lowest_2 (F_BB_lowest_2 N) a.1 a.2.1 a.2.2.1 a.2.2.2.1 a.2.2.2.2 = some res from h)
theorem c_BB_lowest (l : Launch) (θ : ZT) {x0 : Int32} {x1 : Int32} {x2 : Int32} {σ : ZM} {res : Int64 × ZM} (h : f_BB_lowest x0 x1 x2 σ = some res) : zMet mkL l 0 129 θ y_BB_lowest b_BB_lowest 4 (some .long) (zrm 1 60) [.int x0, .int x1, .int x2] σ res := by
  unfold f_BB_lowest at h
  refine z_met (lv := [(0, .int x0), (1, .int x1), (2, .int x2)]) (by decide +kernel) rfl (Nat.le_of_ble_eq_true rfl) (by decide) ?_
  refine z_iload_n 1 d_BB_lowest_0 rfl rfl ?_
  refine z_istore_n d_BB_lowest_1 rfl (by decide) rfl ?_
  refine z_sub [1, 2, 3, 0] rfl ?_
  exact zl_BB_lowest_2 2000 (x0, x1, x2, x1, σ) h
theorem d_BB_odds_0 : decode b_BB_odds 0 = .ok (.aload_n 0, 1) := by decide +kernel
theorem d_BB_odds_1 : decode b_BB_odds 1 = .ok (.iload_n 1, 1) := by decide +kernel
theorem d_BB_odds_2 : decode b_BB_odds 2 = .ok (.invokevirtual 92, 3) := by decide +kernel
theorem d_BB_odds_5 : decode b_BB_odds 5 = .ok (.ifCond .eq (23), 3) := by decide +kernel
theorem d_BB_odds_8 : decode b_BB_odds 8 = .ok (.aload_n 0, 1) := by decide +kernel
theorem d_BB_odds_9 : decode b_BB_odds 9 = .ok (.getfield 12, 3) := by decide +kernel
theorem d_BB_odds_12 : decode b_BB_odds 12 = .ok (.getfield 78, 3) := by decide +kernel
theorem d_BB_odds_15 : decode b_BB_odds 15 = .ok (.iconst (2), 1) := by decide +kernel
theorem d_BB_odds_16 : decode b_BB_odds 16 = .ok (.if_icmp .lt (12), 3) := by decide +kernel
theorem d_BB_odds_19 : decode b_BB_odds 19 = .ok (.iload_n 2, 1) := by decide +kernel
theorem d_BB_odds_20 : decode b_BB_odds 20 = .ok (.ifCond .lt (8), 3) := by decide +kernel
theorem d_BB_odds_23 : decode b_BB_odds 23 = .ok (.iload_n 2, 1) := by decide +kernel
theorem d_BB_odds_24 : decode b_BB_odds 24 = .ok (.iconst (1), 1) := by decide +kernel
theorem d_BB_odds_25 : decode b_BB_odds 25 = .ok (.if_icmp .le (7), 3) := by decide +kernel
theorem d_BB_odds_28 : decode b_BB_odds 28 = .ok (.ldc2_w 225, 3) := by decide +kernel
theorem d_BB_odds_31 : decode b_BB_odds 31 = .ok (.lreturn, 1) := by decide +kernel
theorem d_BB_odds_32 : decode b_BB_odds 32 = .ok (.aload_n 0, 1) := by decide +kernel
theorem d_BB_odds_33 : decode b_BB_odds 33 = .ok (.getfield 53, 3) := by decide +kernel
theorem d_BB_odds_36 : decode b_BB_odds 36 = .ok (.iload_n 1, 1) := by decide +kernel
theorem d_BB_odds_37 : decode b_BB_odds 37 = .ok (.invokevirtual 227, 3) := by decide +kernel
theorem d_BB_odds_40 : decode b_BB_odds 40 = .ok (.aload_n 0, 1) := by decide +kernel
theorem d_BB_odds_41 : decode b_BB_odds 41 = .ok (.getfield 12, 3) := by decide +kernel
theorem d_BB_odds_44 : decode b_BB_odds 44 = .ok (.getfield 78, 3) := by decide +kernel
theorem d_BB_odds_47 : decode b_BB_odds 47 = .ok (.iconst (1), 1) := by decide +kernel
theorem d_BB_odds_48 : decode b_BB_odds 48 = .ok (.isub, 1) := by decide +kernel
theorem d_BB_odds_49 : decode b_BB_odds 49 = .ok (.iload_n 2, 1) := by decide +kernel
theorem d_BB_odds_50 : decode b_BB_odds 50 = .ok (.invokestatic 230, 3) := by decide +kernel
theorem d_BB_odds_53 : decode b_BB_odds 53 = .ok (.lreturn, 1) := by decide +kernel
theorem zb_BB_odds_28 {l : Launch} {θ : ZT} {res : Int64 × ZM}  {σ : ZM} (h : f_BB_odds_28 σ = some res) : WZ l b_BB_odds 3 (some .long) "BakedBefore" 0 129 θ (zrm 8 236) (zQ mkL 0 129 θ res) σ [] 28 [] := by
  unfold f_BB_odds_28 at h
  refine z_ldc2 (v := -9223372036854775808) d_BB_odds_28 q_721 ?_
  exact z_lret d_BB_odds_31 h
theorem c_BB_odds (l : Launch) (θ : ZT) {x1 : Int32} {x2 : Int32} {σ : ZM} {res : Int64 × ZM} (h : f_BB_odds x1 x2 σ = some res) : zMet mkL l 0 129 θ y_BB_odds b_BB_odds 3 (some .long) (zrm 8 236) [.ref (za θ 0), .int x1, .int x2] σ res := by
  unfold f_BB_odds at h
  refine z_met (lv := [(0, .ref (za θ 0)), (1, .int x1), (2, .int x2)]) (by decide +kernel) rfl (Nat.le_of_ble_eq_true rfl) (by decide) ?_
  refine z_aload_n 0 d_BB_odds_0 rfl rfl ?_
  refine z_iload_n 1 d_BB_odds_1 rfl rfl ?_
  obtain ⟨⟨v1, s2⟩, e3, h⟩ := zbd_i h
  refine w_callV (As := [.int x1]) (kc := 10) (ci := 0) (c_BB_isLoaf l θ e3) cf_BB_isLoaf q_352 d_BB_odds_2 zl_0 rfl rfl rfl rfl rfl rfl (Nat.le_of_ble_eq_true rfl) rfl rfl ⟨Nat.le_of_ble_eq_true rfl, Nat.le_of_ble_eq_true rfl⟩ ?_
  refine z_if_eq (tgt := 28) d_BB_odds_5 (by decide) (fun c4 => ?_) (fun c4 => ?_)
  · have h := (if_pos c4).symm.trans h
    refine z_sub [] rfl ?_
    exact zb_BB_odds_28 h
  · have h := (if_neg c4).symm.trans h
    refine z_aload_n 0 d_BB_odds_8 rfl rfl ?_
    refine gf_BB_now zl_0 d_BB_odds_9 q_303 ?_
    refine gf_Stand_many zl_1 d_BB_odds_12 q_126 ?_
    refine z_iconst (v := 2) d_BB_odds_15 (by decide) ?_
    refine z_icmp_lt (tgt := 28) d_BB_odds_16 (by decide) (fun c5 => ?_) (fun c5 => ?_)
    · have h := (if_pos c5).symm.trans h
      refine z_sub [] rfl ?_
      exact zb_BB_odds_28 h
    · have h := (if_neg c5).symm.trans h
      refine z_iload_n 2 d_BB_odds_19 rfl rfl ?_
      refine z_if_lt (tgt := 28) d_BB_odds_20 (by decide) (fun c6 => ?_) (fun c6 => ?_)
      · have h := (if_pos c6).symm.trans h
        refine z_sub [] rfl ?_
        exact zb_BB_odds_28 h
      · have h := (if_neg c6).symm.trans h
        refine z_iload_n 2 d_BB_odds_23 rfl rfl ?_
        refine z_iconst (v := 1) d_BB_odds_24 (by decide) ?_
        refine z_icmp_le (tgt := 32) d_BB_odds_25 (by decide) (fun c7 => ?_) (fun c7 => ?_)
        · have h := (if_pos c7).symm.trans h
          refine z_aload_n 0 d_BB_odds_32 rfl rfl ?_
          refine gf_BB_asker zl_0 d_BB_odds_33 q_309 ?_
          refine z_iload_n 1 d_BB_odds_36 rfl rfl ?_
          obtain ⟨⟨v8, s9⟩, e10, h⟩ := zbd_i h
          refine w_callV (As := [.int x1]) (kc := 12) (ci := 2) (c_Asker_spoilers l θ e10) cf_Asker_spoilers q_722 d_BB_odds_37 zl_6 rfl rfl rfl rfl rfl rfl (Nat.le_of_ble_eq_true rfl) rfl rfl ⟨Nat.le_of_ble_eq_true rfl, Nat.le_of_ble_eq_true rfl⟩ ?_
          refine z_aload_n 0 d_BB_odds_40 rfl rfl ?_
          refine gf_BB_now zl_0 d_BB_odds_41 q_303 ?_
          refine gf_Stand_many zl_1 d_BB_odds_44 q_126 ?_
          refine z_iconst (v := 1) d_BB_odds_47 (by decide) ?_
          refine z_isub d_BB_odds_48 ?_
          refine z_iload_n 2 d_BB_odds_49 rfl rfl ?_
          obtain ⟨⟨v11, s12⟩, e13, h⟩ := zbd_i h
          refine w_callS (As := [.int v8, .int ((zI s9 1 3) - (1 : Int32)), .int x2]) (c_BB_lowest l θ e13) cf_BB_lowest q_727 d_BB_odds_50 rfl rfl rfl (Nat.le_of_ble_eq_true rfl) rfl rfl ⟨Nat.le_of_ble_eq_true rfl, Nat.le_of_ble_eq_true rfl⟩ ?_
          exact z_lret d_BB_odds_53 h
        · have h := (if_neg c7).symm.trans h
          refine z_sub [] rfl ?_
          exact zb_BB_odds_28 h
theorem d_Asker_takenByAll_0 : decode b_Asker_takenByAll 0 = .ok (.iconst (0), 1) := by decide +kernel
theorem d_Asker_takenByAll_1 : decode b_Asker_takenByAll 1 = .ok (.istore_n 2, 1) := by decide +kernel
theorem d_Asker_takenByAll_2 : decode b_Asker_takenByAll 2 = .ok (.iconst (0), 1) := by decide +kernel
theorem d_Asker_takenByAll_3 : decode b_Asker_takenByAll 3 = .ok (.istore_n 3, 1) := by decide +kernel
theorem d_Asker_takenByAll_4 : decode b_Asker_takenByAll 4 = .ok (.iload_n 3, 1) := by decide +kernel
theorem d_Asker_takenByAll_5 : decode b_Asker_takenByAll 5 = .ok (.aload_n 0, 1) := by decide +kernel
theorem d_Asker_takenByAll_6 : decode b_Asker_takenByAll 6 = .ok (.getfield 22, 3) := by decide +kernel
theorem d_Asker_takenByAll_9 : decode b_Asker_takenByAll 9 = .ok (.getfield 65, 3) := by decide +kernel
theorem d_Asker_takenByAll_12 : decode b_Asker_takenByAll 12 = .ok (.if_icmp .ge (36), 3) := by decide +kernel
theorem d_Asker_takenByAll_15 : decode b_Asker_takenByAll 15 = .ok (.iload_n 2, 1) := by decide +kernel
theorem d_Asker_takenByAll_16 : decode b_Asker_takenByAll 16 = .ok (.aload_n 0, 1) := by decide +kernel
theorem d_Asker_takenByAll_17 : decode b_Asker_takenByAll 17 = .ok (.getfield 26, 3) := by decide +kernel
theorem d_Asker_takenByAll_20 : decode b_Asker_takenByAll 20 = .ok (.aload_n 0, 1) := by decide +kernel
theorem d_Asker_takenByAll_21 : decode b_Asker_takenByAll 21 = .ok (.getfield 22, 3) := by decide +kernel
theorem d_Asker_takenByAll_24 : decode b_Asker_takenByAll 24 = .ok (.getfield 39, 3) := by decide +kernel
theorem d_Asker_takenByAll_27 : decode b_Asker_takenByAll 27 = .ok (.iload_n 3, 1) := by decide +kernel
theorem d_Asker_takenByAll_28 : decode b_Asker_takenByAll 28 = .ok (.aaload, 1) := by decide +kernel
theorem d_Asker_takenByAll_29 : decode b_Asker_takenByAll 29 = .ok (.iload_n 1, 1) := by decide +kernel
theorem d_Asker_takenByAll_30 : decode b_Asker_takenByAll 30 = .ok (.aload_n 0, 1) := by decide +kernel
theorem d_Asker_takenByAll_31 : decode b_Asker_takenByAll 31 = .ok (.getfield 22, 3) := by decide +kernel
theorem d_Asker_takenByAll_34 : decode b_Asker_takenByAll 34 = .ok (.getfield 30, 3) := by decide +kernel
theorem d_Asker_takenByAll_37 : decode b_Asker_takenByAll 37 = .ok (.invokevirtual 49, 3) := by decide +kernel
theorem d_Asker_takenByAll_40 : decode b_Asker_takenByAll 40 = .ok (.iadd, 1) := by decide +kernel
theorem d_Asker_takenByAll_41 : decode b_Asker_takenByAll 41 = .ok (.istore_n 2, 1) := by decide +kernel
theorem d_Asker_takenByAll_42 : decode b_Asker_takenByAll 42 = .ok (.iinc 3 (1), 3) := by decide +kernel
theorem d_Asker_takenByAll_45 : decode b_Asker_takenByAll 45 = .ok (.goto (-41), 3) := by decide +kernel
theorem d_Asker_takenByAll_48 : decode b_Asker_takenByAll 48 = .ok (.iload_n 2, 1) := by decide +kernel
theorem d_Asker_takenByAll_49 : decode b_Asker_takenByAll 49 = .ok (.ireturn, 1) := by decide +kernel
theorem zb_Asker_takenByAll_4 {l : Launch} {θ : ZT} {res : Int32 × ZM} {k4 : Int32 × Int32 × Int32 × ZM → Option (Int32 × ZM)} (hk4 : ∀ a : Int32 × Int32 × Int32 × ZM, k4 a = some res → WZ l b_Asker_takenByAll 4 (some .int) "BakedBefore$Aske\x72" 0 129 θ (zrm 5 164) (zQ mkI 0 129 θ res) a.2.2.2 [(0, .ref (za θ 6)), (1, .int a.1), (2, .int a.2.1), (3, .int a.2.2.1)] 4 []) {x1 : Int32} {x2 : Int32} {x3 : Int32} {σ : ZM} (h : f_Asker_takenByAll_4 k4 x1 x2 x3 σ = some res) : WZ l b_Asker_takenByAll 4 (some .int) "BakedBefore$Aske\x72" 0 129 θ (zrm 5 164) (zQ mkI 0 129 θ res) σ [(0, .ref (za θ 6)), (1, .int x1), (2, .int x2), (3, .int x3)] 4 [] := by
  unfold f_Asker_takenByAll_4 at h
  refine z_iload_n 3 d_Asker_takenByAll_4 rfl rfl ?_
  refine z_aload_n 0 d_Asker_takenByAll_5 rfl rfl ?_
  refine gf_Asker_now zl_6 d_Asker_takenByAll_6 q_222 ?_
  refine gf_Stand_many zl_1 d_Asker_takenByAll_9 q_128 ?_
  refine z_icmp_ge (tgt := 48) d_Asker_takenByAll_12 (by decide) (fun c1 => ?_) (fun c1 => ?_)
  · have h := (if_pos c1).symm.trans h
    refine z_iload_n 2 d_Asker_takenByAll_48 rfl rfl ?_
    exact z_iret d_Asker_takenByAll_49 h
  · have h := (if_neg c1).symm.trans h
    refine z_iload_n 2 d_Asker_takenByAll_15 rfl rfl ?_
    refine z_aload_n 0 d_Asker_takenByAll_16 rfl rfl ?_
    refine gf_Asker_baker zl_6 d_Asker_takenByAll_17 q_223 ?_
    refine z_aload_n 0 d_Asker_takenByAll_20 rfl rfl ?_
    refine gf_Asker_now zl_6 d_Asker_takenByAll_21 q_222 ?_
    refine gf_Stand_loaves (o2 := 25) zl_1 rfl d_Asker_takenByAll_24 q_115 ?_
    refine z_iload_n 3 d_Asker_takenByAll_27 rfl rfl ?_
    obtain ⟨c2, h⟩ := zck_i h
    refine w_aald3 zl_25 c2 d_Asker_takenByAll_28 ?_
    obtain ⟨c3, h⟩ := zck_i h
    refine z_iload_n 1 d_Asker_takenByAll_29 rfl rfl ?_
    refine z_aload_n 0 d_Asker_takenByAll_30 rfl rfl ?_
    refine gf_Asker_now zl_6 d_Asker_takenByAll_31 q_222 ?_
    refine gf_Stand_oven (o2 := 33) zl_1 rfl d_Asker_takenByAll_34 q_119 ?_
    obtain ⟨⟨v4, s5⟩, e6, h⟩ := zbd_i h
    refine w_callV (As := [.ref (za θ (zel 25 x3.toNatClampNeg)), .int x1, .ref (za θ 33)]) (kc := 13) (ci := 3) (c_Baker_takes l θ e6) cf_Baker_takes q_585 d_Asker_takenByAll_37 zl_5 rfl rfl rfl rfl rfl rfl (Nat.le_of_ble_eq_true rfl) rfl rfl ⟨Nat.le_of_ble_eq_true rfl, Nat.le_of_ble_eq_true rfl⟩ ?_
    refine z_iadd d_Asker_takenByAll_40 ?_
    refine z_istore_n d_Asker_takenByAll_41 rfl (by decide) rfl ?_
    refine z_iinc (v := x3 + (1 : Int32)) 3 d_Asker_takenByAll_42 rfl rfl (by decide) rfl ?_
    refine z_goto (tgt := 4) d_Asker_takenByAll_45 (by decide) ?_
    refine z_sub [2, 3, 1, 0] rfl ?_
    exact hk4 (x1, (x2 + v4), (x3 + (1 : Int32)), s5) h
theorem zl_Asker_takenByAll_4 {l : Launch} {θ : ZT} {res : Int32 × ZM} : ∀ (N : Nat) (a : Int32 × Int32 × Int32 × ZM), F_Asker_takenByAll_4 N a = some res → WZ l b_Asker_takenByAll 4 (some .int) "BakedBefore$Aske\x72" 0 129 θ (zrm 5 164) (zQ mkI 0 129 θ res) a.2.2.2 [(0, .ref (za θ 6)), (1, .int a.1), (2, .int a.2.1), (3, .int a.2.2.1)] 4 [] := by
  intro N
  induction N with
  | zero => intro a  h; cases (show (none : Option (Int32 × ZM)) = some res from h)
  | succ N ih => intro a  h; exact zb_Asker_takenByAll_4 ih (show f_Asker_takenByAll_4 (F_Asker_takenByAll_4 N) a.1 a.2.1 a.2.2.1 a.2.2.2 = some res from h)
theorem c_Asker_takenByAll (l : Launch) (θ : ZT) {x1 : Int32} {σ : ZM} {res : Int32 × ZM} (h : f_Asker_takenByAll x1 σ = some res) : zMet mkI l 0 129 θ y_Asker_takenByAll b_Asker_takenByAll 4 (some .int) (zrm 5 164) [.ref (za θ 6), .int x1] σ res := by
  unfold f_Asker_takenByAll at h
  refine z_met (lv := [(0, .ref (za θ 6)), (1, .int x1)]) (by decide +kernel) rfl (Nat.le_of_ble_eq_true rfl) (by decide) ?_
  refine z_iconst (v := 0) d_Asker_takenByAll_0 (by decide) ?_
  refine z_istore_n d_Asker_takenByAll_1 rfl (by decide) rfl ?_
  refine z_iconst (v := 0) d_Asker_takenByAll_2 (by decide) ?_
  refine z_istore_n d_Asker_takenByAll_3 rfl (by decide) rfl ?_
  refine z_sub [2, 3, 1, 0] rfl ?_
  exact zl_Asker_takenByAll_4 2000 (x1, (0 : Int32), (0 : Int32), σ) h
theorem d_BB_mean_0 : decode b_BB_mean 0 = .ok (.iload_n 1, 1) := by decide +kernel
theorem d_BB_mean_1 : decode b_BB_mean 1 = .ok (.invokestatic 96, 3) := by decide +kernel
theorem d_BB_mean_4 : decode b_BB_mean 4 = .ok (.ifCond .eq (22), 3) := by decide +kernel
theorem d_BB_mean_7 : decode b_BB_mean 7 = .ok (.aload_n 0, 1) := by decide +kernel
theorem d_BB_mean_8 : decode b_BB_mean 8 = .ok (.getfield 12, 3) := by decide +kernel
theorem d_BB_mean_11 : decode b_BB_mean 11 = .ok (.getfield 78, 3) := by decide +kernel
theorem d_BB_mean_14 : decode b_BB_mean 14 = .ok (.ifCond .eq (12), 3) := by decide +kernel
theorem d_BB_mean_17 : decode b_BB_mean 17 = .ok (.iload_n 2, 1) := by decide +kernel
theorem d_BB_mean_18 : decode b_BB_mean 18 = .ok (.ifCond .lt (8), 3) := by decide +kernel
theorem d_BB_mean_21 : decode b_BB_mean 21 = .ok (.iload_n 2, 1) := by decide +kernel
theorem d_BB_mean_22 : decode b_BB_mean 22 = .ok (.iconst (1), 1) := by decide +kernel
theorem d_BB_mean_23 : decode b_BB_mean 23 = .ok (.if_icmp .le (7), 3) := by decide +kernel
theorem d_BB_mean_26 : decode b_BB_mean 26 = .ok (.ldc2_w 225, 3) := by decide +kernel
theorem d_BB_mean_29 : decode b_BB_mean 29 = .ok (.lreturn, 1) := by decide +kernel
theorem d_BB_mean_30 : decode b_BB_mean 30 = .ok (.aload_n 0, 1) := by decide +kernel
theorem d_BB_mean_31 : decode b_BB_mean 31 = .ok (.getfield 53, 3) := by decide +kernel
theorem d_BB_mean_34 : decode b_BB_mean 34 = .ok (.iload_n 1, 1) := by decide +kernel
theorem d_BB_mean_35 : decode b_BB_mean 35 = .ok (.invokevirtual 234, 3) := by decide +kernel
theorem d_BB_mean_38 : decode b_BB_mean 38 = .ok (.aload_n 0, 1) := by decide +kernel
theorem d_BB_mean_39 : decode b_BB_mean 39 = .ok (.getfield 12, 3) := by decide +kernel
theorem d_BB_mean_42 : decode b_BB_mean 42 = .ok (.getfield 78, 3) := by decide +kernel
theorem d_BB_mean_45 : decode b_BB_mean 45 = .ok (.iload_n 2, 1) := by decide +kernel
theorem d_BB_mean_46 : decode b_BB_mean 46 = .ok (.invokestatic 230, 3) := by decide +kernel
theorem d_BB_mean_49 : decode b_BB_mean 49 = .ok (.lreturn, 1) := by decide +kernel
theorem zb_BB_mean_26 {l : Launch} {θ : ZT} {res : Int64 × ZM}  {σ : ZM} (h : f_BB_mean_26 σ = some res) : WZ l b_BB_mean 3 (some .long) "BakedBefore" 0 129 θ (zrm 6 187) (zQ mkL 0 129 θ res) σ [] 26 [] := by
  unfold f_BB_mean_26 at h
  refine z_ldc2 (v := -9223372036854775808) d_BB_mean_26 q_721 ?_
  exact z_lret d_BB_mean_29 h
theorem c_BB_mean (l : Launch) (θ : ZT) {x1 : Int32} {x2 : Int32} {σ : ZM} {res : Int64 × ZM} (h : f_BB_mean x1 x2 σ = some res) : zMet mkL l 0 129 θ y_BB_mean b_BB_mean 3 (some .long) (zrm 6 187) [.ref (za θ 0), .int x1, .int x2] σ res := by
  unfold f_BB_mean at h
  refine z_met (lv := [(0, .ref (za θ 0)), (1, .int x1), (2, .int x2)]) (by decide +kernel) rfl (Nat.le_of_ble_eq_true rfl) (by decide) ?_
  refine z_iload_n 1 d_BB_mean_0 rfl rfl ?_
  obtain ⟨⟨v1, s2⟩, e3, h⟩ := zbd_i h
  refine w_callS (As := [.int x1]) (c_BB_isTaste l θ e3) cf_BB_isTaste q_356 d_BB_mean_1 rfl rfl rfl (Nat.le_of_ble_eq_true rfl) rfl rfl ⟨Nat.le_of_ble_eq_true rfl, Nat.le_of_ble_eq_true rfl⟩ ?_
  refine z_if_eq (tgt := 26) d_BB_mean_4 (by decide) (fun c4 => ?_) (fun c4 => ?_)
  · have h := (if_pos c4).symm.trans h
    refine z_sub [] rfl ?_
    exact zb_BB_mean_26 h
  · have h := (if_neg c4).symm.trans h
    refine z_aload_n 0 d_BB_mean_7 rfl rfl ?_
    refine gf_BB_now zl_0 d_BB_mean_8 q_303 ?_
    refine gf_Stand_many zl_1 d_BB_mean_11 q_126 ?_
    refine z_if_eq (tgt := 26) d_BB_mean_14 (by decide) (fun c5 => ?_) (fun c5 => ?_)
    · have h := (if_pos c5).symm.trans h
      refine z_sub [] rfl ?_
      exact zb_BB_mean_26 h
    · have h := (if_neg c5).symm.trans h
      refine z_iload_n 2 d_BB_mean_17 rfl rfl ?_
      refine z_if_lt (tgt := 26) d_BB_mean_18 (by decide) (fun c6 => ?_) (fun c6 => ?_)
      · have h := (if_pos c6).symm.trans h
        refine z_sub [] rfl ?_
        exact zb_BB_mean_26 h
      · have h := (if_neg c6).symm.trans h
        refine z_iload_n 2 d_BB_mean_21 rfl rfl ?_
        refine z_iconst (v := 1) d_BB_mean_22 (by decide) ?_
        refine z_icmp_le (tgt := 30) d_BB_mean_23 (by decide) (fun c7 => ?_) (fun c7 => ?_)
        · have h := (if_pos c7).symm.trans h
          refine z_aload_n 0 d_BB_mean_30 rfl rfl ?_
          refine gf_BB_asker zl_0 d_BB_mean_31 q_309 ?_
          refine z_iload_n 1 d_BB_mean_34 rfl rfl ?_
          obtain ⟨⟨v8, s9⟩, e10, h⟩ := zbd_i h
          refine w_callV (As := [.int x1]) (kc := 12) (ci := 2) (c_Asker_takenByAll l θ e10) cf_Asker_takenByAll q_734 d_BB_mean_35 zl_6 rfl rfl rfl rfl rfl rfl (Nat.le_of_ble_eq_true rfl) rfl rfl ⟨Nat.le_of_ble_eq_true rfl, Nat.le_of_ble_eq_true rfl⟩ ?_
          refine z_aload_n 0 d_BB_mean_38 rfl rfl ?_
          refine gf_BB_now zl_0 d_BB_mean_39 q_303 ?_
          refine gf_Stand_many zl_1 d_BB_mean_42 q_126 ?_
          refine z_iload_n 2 d_BB_mean_45 rfl rfl ?_
          obtain ⟨⟨v11, s12⟩, e13, h⟩ := zbd_i h
          refine w_callS (As := [.int v8, .int (zI s9 1 3), .int x2]) (c_BB_lowest l θ e13) cf_BB_lowest q_727 d_BB_mean_46 rfl rfl rfl (Nat.le_of_ble_eq_true rfl) rfl rfl ⟨Nat.le_of_ble_eq_true rfl, Nat.le_of_ble_eq_true rfl⟩ ?_
          exact z_lret d_BB_mean_49 h
        · have h := (if_neg c7).symm.trans h
          refine z_sub [] rfl ?_
          exact zb_BB_mean_26 h
theorem d_Book_append_0 : decode b_Book_append 0 = .ok (.aload_n 0, 1) := by decide +kernel
theorem d_Book_append_1 : decode b_Book_append 1 = .ok (.getfield 19, 3) := by decide +kernel
theorem d_Book_append_4 : decode b_Book_append 4 = .ok (.bipush (12), 2) := by decide +kernel
theorem d_Book_append_6 : decode b_Book_append 6 = .ok (.if_icmp .lt (6), 3) := by decide +kernel
theorem d_Book_append_9 : decode b_Book_append 9 = .ok (.bipush (-4), 2) := by decide +kernel
theorem d_Book_append_11 : decode b_Book_append 11 = .ok (.ireturn, 1) := by decide +kernel
theorem d_Book_append_12 : decode b_Book_append 12 = .ok (.aload_n 0, 1) := by decide +kernel
theorem d_Book_append_13 : decode b_Book_append 13 = .ok (.getfield 11, 3) := by decide +kernel
theorem d_Book_append_16 : decode b_Book_append 16 = .ok (.aload_n 0, 1) := by decide +kernel
theorem d_Book_append_17 : decode b_Book_append 17 = .ok (.getfield 19, 3) := by decide +kernel
theorem d_Book_append_20 : decode b_Book_append 20 = .ok (.iload_n 1, 1) := by decide +kernel
theorem d_Book_append_21 : decode b_Book_append 21 = .ok (.iastore, 1) := by decide +kernel
theorem d_Book_append_22 : decode b_Book_append 22 = .ok (.aload_n 0, 1) := by decide +kernel
theorem d_Book_append_23 : decode b_Book_append 23 = .ok (.getfield 15, 3) := by decide +kernel
theorem d_Book_append_26 : decode b_Book_append 26 = .ok (.aload_n 0, 1) := by decide +kernel
theorem d_Book_append_27 : decode b_Book_append 27 = .ok (.getfield 19, 3) := by decide +kernel
theorem d_Book_append_30 : decode b_Book_append 30 = .ok (.iload_n 2, 1) := by decide +kernel
theorem d_Book_append_31 : decode b_Book_append 31 = .ok (.bastore, 1) := by decide +kernel
theorem d_Book_append_32 : decode b_Book_append 32 = .ok (.aload_n 0, 1) := by decide +kernel
theorem d_Book_append_33 : decode b_Book_append 33 = .ok (.dup, 1) := by decide +kernel
theorem d_Book_append_34 : decode b_Book_append 34 = .ok (.getfield 19, 3) := by decide +kernel
theorem d_Book_append_37 : decode b_Book_append 37 = .ok (.iconst (1), 1) := by decide +kernel
theorem d_Book_append_38 : decode b_Book_append 38 = .ok (.iadd, 1) := by decide +kernel
theorem d_Book_append_39 : decode b_Book_append 39 = .ok (.putfield 19, 3) := by decide +kernel
theorem d_Book_append_42 : decode b_Book_append 42 = .ok (.aload_n 0, 1) := by decide +kernel
theorem d_Book_append_43 : decode b_Book_append 43 = .ok (.getfield 19, 3) := by decide +kernel
theorem d_Book_append_46 : decode b_Book_append 46 = .ok (.ireturn, 1) := by decide +kernel
theorem c_Book_append (l : Launch) (θ : ZT) {x0 : Nat} {x1 : Int32} {x2 : Int32} {σ : ZM} {res : Int32 × ZM} (h : f_Book_append x0 x1 x2 σ = some res) : zMet mkI l 0 129 θ y_Book_append b_Book_append 3 (some .int) (zrm 1 60) [.ref (za θ x0), .int x1, .int x2] σ res := by
  unfold f_Book_append at h
  obtain ⟨hx0, h⟩ := zck_i h
  refine z_met (lv := [(0, .ref (za θ x0)), (1, .int x1), (2, .int x2)]) (by decide +kernel) rfl (Nat.le_of_ble_eq_true rfl) (by decide) ?_
  refine z_aload_n 0 d_Book_append_0 rfl rfl ?_
  refine gf_Book_rows hx0 d_Book_append_1 q_68 ?_
  refine z_bipush (v := 12) d_Book_append_4 (by decide) ?_
  refine z_icmp_lt (tgt := 12) d_Book_append_6 (by decide) (fun c1 => ?_) (fun c1 => ?_)
  · have h := (if_pos c1).symm.trans h
    refine z_aload_n 0 d_Book_append_12 rfl rfl ?_
    refine gf_Book_loaves (o2 := x0 + 2) hx0 rfl d_Book_append_13 q_64 ?_
    refine z_aload_n 0 d_Book_append_16 rfl rfl ?_
    refine gf_Book_rows hx0 d_Book_append_17 q_68 ?_
    refine z_iload_n 1 d_Book_append_20 rfl rfl ?_
    obtain ⟨c2, h⟩ := zck_i h
    refine w_iast (zr_Book_loaves hx0) c2 d_Book_append_21 ?_
    refine z_aload_n 0 d_Book_append_22 rfl rfl ?_
    refine gf_Book_spoiled (o2 := x0 + 4) hx0 rfl d_Book_append_23 q_66 ?_
    refine z_aload_n 0 d_Book_append_26 rfl rfl ?_
    refine gf_Book_rows hx0 d_Book_append_27 q_68 ?_
    refine z_iload_n 2 d_Book_append_30 rfl rfl ?_
    obtain ⟨c3, h⟩ := zck_i h
    obtain ⟨c4, h⟩ := zck_i h
    refine w_bast (zr_Book_spoiled hx0) c3 c4 d_Book_append_31 ?_
    refine z_aload_n 0 d_Book_append_32 rfl rfl ?_
    refine z_dup d_Book_append_33 rfl ?_
    refine gf_Book_rows hx0 d_Book_append_34 q_68 ?_
    refine z_iconst (v := 1) d_Book_append_37 (by decide) ?_
    refine z_iadd d_Book_append_38 ?_
    refine pf_Book_rows hx0 d_Book_append_39 q_68 ?_
    refine z_aload_n 0 d_Book_append_42 rfl rfl ?_
    refine gf_Book_rows hx0 d_Book_append_43 q_68 ?_
    exact z_iret d_Book_append_46 h
  · have h := (if_neg c1).symm.trans h
    refine z_bipush (v := -4) d_Book_append_9 (by decide) ?_
    exact z_iret d_Book_append_11 h
theorem d_BB_book_0 : decode b_BB_book 0 = .ok (.iload_n 1, 1) := by decide +kernel
theorem d_BB_book_1 : decode b_BB_book 1 = .ok (.iconst (-1), 1) := by decide +kernel
theorem d_BB_book_2 : decode b_BB_book 2 = .ok (.if_icmp .ne (16), 3) := by decide +kernel
theorem d_BB_book_5 : decode b_BB_book 5 = .ok (.aload_n 0, 1) := by decide +kernel
theorem d_BB_book_6 : decode b_BB_book 6 = .ok (.getfield 12, 3) := by decide +kernel
theorem d_BB_book_9 : decode b_BB_book 9 = .ok (.getfield 237, 3) := by decide +kernel
theorem d_BB_book_12 : decode b_BB_book 12 = .ok (.iconst (0), 1) := by decide +kernel
theorem d_BB_book_13 : decode b_BB_book 13 = .ok (.putfield 241, 3) := by decide +kernel
theorem d_BB_book_16 : decode b_BB_book 16 = .ok (.iconst (0), 1) := by decide +kernel
theorem d_BB_book_17 : decode b_BB_book 17 = .ok (.ireturn, 1) := by decide +kernel
theorem d_BB_book_18 : decode b_BB_book 18 = .ok (.iload_n 1, 1) := by decide +kernel
theorem d_BB_book_19 : decode b_BB_book 19 = .ok (.bipush (-2), 2) := by decide +kernel
theorem d_BB_book_21 : decode b_BB_book 21 = .ok (.if_icmp .eq (13), 3) := by decide +kernel
theorem d_BB_book_24 : decode b_BB_book 24 = .ok (.aload_n 0, 1) := by decide +kernel
theorem d_BB_book_25 : decode b_BB_book 25 = .ok (.iload_n 1, 1) := by decide +kernel
theorem d_BB_book_26 : decode b_BB_book 26 = .ok (.invokevirtual 92, 3) := by decide +kernel
theorem d_BB_book_29 : decode b_BB_book 29 = .ok (.ifCond .ne (5), 3) := by decide +kernel
theorem d_BB_book_32 : decode b_BB_book 32 = .ok (.iconst (-1), 1) := by decide +kernel
theorem d_BB_book_33 : decode b_BB_book 33 = .ok (.ireturn, 1) := by decide +kernel
theorem d_BB_book_34 : decode b_BB_book 34 = .ok (.aload_n 0, 1) := by decide +kernel
theorem d_BB_book_35 : decode b_BB_book 35 = .ok (.getfield 12, 3) := by decide +kernel
theorem d_BB_book_38 : decode b_BB_book 38 = .ok (.getfield 237, 3) := by decide +kernel
theorem d_BB_book_41 : decode b_BB_book 41 = .ok (.iload_n 1, 1) := by decide +kernel
theorem d_BB_book_42 : decode b_BB_book 42 = .ok (.iload_n 2, 1) := by decide +kernel
theorem d_BB_book_43 : decode b_BB_book 43 = .ok (.invokevirtual 246, 3) := by decide +kernel
theorem d_BB_book_46 : decode b_BB_book 46 = .ok (.ireturn, 1) := by decide +kernel
theorem zb_BB_book_34 {l : Launch} {θ : ZT} {res : Int32 × ZM} {x1 : Int32} {x2 : Int32} {σ : ZM} (h : f_BB_book_34 x1 x2 σ = some res) : WZ l b_BB_book 3 (some .int) "BakedBefore" 0 129 θ (zrm 2 82) (zQ mkI 0 129 θ res) σ [(0, .ref (za θ 0)), (1, .int x1), (2, .int x2)] 34 [] := by
  unfold f_BB_book_34 at h
  refine z_aload_n 0 d_BB_book_34 rfl rfl ?_
  refine gf_BB_now zl_0 d_BB_book_35 q_303 ?_
  refine gf_Stand_book (o2 := 27) zl_1 rfl d_BB_book_38 q_124 ?_
  refine z_iload_n 1 d_BB_book_41 rfl rfl ?_
  refine z_iload_n 2 d_BB_book_42 rfl rfl ?_
  obtain ⟨⟨v1, s2⟩, e3, h⟩ := zbd_i h
  refine w_callV (As := [.int x1, .int x2]) (kc := 14) (ci := 4) (c_Book_append l θ e3) cf_Book_append q_742 d_BB_book_43 zl_27 rfl rfl rfl rfl rfl rfl (Nat.le_of_ble_eq_true rfl) rfl rfl ⟨Nat.le_of_ble_eq_true rfl, Nat.le_of_ble_eq_true rfl⟩ ?_
  exact z_iret d_BB_book_46 h
theorem c_BB_book (l : Launch) (θ : ZT) {x1 : Int32} {x2 : Int32} {σ : ZM} {res : Int32 × ZM} (h : f_BB_book x1 x2 σ = some res) : zMet mkI l 0 129 θ y_BB_book b_BB_book 3 (some .int) (zrm 2 82) [.ref (za θ 0), .int x1, .int x2] σ res := by
  unfold f_BB_book at h
  refine z_met (lv := [(0, .ref (za θ 0)), (1, .int x1), (2, .int x2)]) (by decide +kernel) rfl (Nat.le_of_ble_eq_true rfl) (by decide) ?_
  refine z_iload_n 1 d_BB_book_0 rfl rfl ?_
  refine z_iconst (v := -1) d_BB_book_1 (by decide) ?_
  refine z_icmp_ne (tgt := 18) d_BB_book_2 (by decide) (fun c1 => ?_) (fun c1 => ?_)
  · have h := (if_neg c1).symm.trans h
    refine z_iload_n 1 d_BB_book_18 rfl rfl ?_
    refine z_bipush (v := -2) d_BB_book_19 (by decide) ?_
    refine z_icmp_eq (tgt := 34) d_BB_book_21 (by decide) (fun c2 => ?_) (fun c2 => ?_)
    · have h := (if_pos c2).symm.trans h
      exact zb_BB_book_34 h
    · have h := (if_neg c2).symm.trans h
      refine z_aload_n 0 d_BB_book_24 rfl rfl ?_
      refine z_iload_n 1 d_BB_book_25 rfl rfl ?_
      obtain ⟨⟨v3, s4⟩, e5, h⟩ := zbd_i h
      refine w_callV (As := [.int x1]) (kc := 10) (ci := 0) (c_BB_isLoaf l θ e5) cf_BB_isLoaf q_352 d_BB_book_26 zl_0 rfl rfl rfl rfl rfl rfl (Nat.le_of_ble_eq_true rfl) rfl rfl ⟨Nat.le_of_ble_eq_true rfl, Nat.le_of_ble_eq_true rfl⟩ ?_
      refine z_if_ne (tgt := 34) d_BB_book_29 (by decide) (fun c6 => ?_) (fun c6 => ?_)
      · have h := (if_neg c6).symm.trans h
        exact zb_BB_book_34 h
      · have h := (if_pos c6).symm.trans h
        refine z_iconst (v := -1) d_BB_book_32 (by decide) ?_
        exact z_iret d_BB_book_33 h
  · have h := (if_pos c1).symm.trans h
    refine z_aload_n 0 d_BB_book_5 rfl rfl ?_
    refine gf_BB_now zl_0 d_BB_book_6 q_303 ?_
    refine gf_Stand_book (o2 := 27) zl_1 rfl d_BB_book_9 q_124 ?_
    refine z_iconst (v := 0) d_BB_book_12 (by decide) ?_
    refine pf_Book_rows zl_27 d_BB_book_13 q_70 ?_
    refine z_iconst (v := 0) d_BB_book_16 (by decide) ?_
    exact z_iret d_BB_book_17 h
