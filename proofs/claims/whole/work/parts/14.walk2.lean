/-! walks: Reader_readBoth Reader_readEither Reader_readPart Reader_readClause Reader_readInto BB_kiln BB_told Oven_strike Baker_bakeIn BB_bake Baker_chill BB_cold Oven_become Asker_behind BB_would Integer_bitCount BB_isSet Search_keep Search_goOnOrder Search_seekOrder BB_order Search_lowestOf Search_goOnColds Search_seekColds BB_colds Baker_takesOfAll -/
theorem d_Reader_readBoth_0 : decode b_Reader_readBoth 0 = .ok (.aload_n 0, 1) := by decide +kernel
theorem d_Reader_readBoth_1 : decode b_Reader_readBoth 1 = .ok (.iload_n 1, 1) := by decide +kernel
theorem d_Reader_readBoth_2 : decode b_Reader_readBoth 2 = .ok (.invokevirtual 87, 3) := by decide +kernel
theorem d_Reader_readBoth_5 : decode b_Reader_readBoth 5 = .ok (.ifCond .ne (5), 3) := by decide +kernel
theorem d_Reader_readBoth_8 : decode b_Reader_readBoth 8 = .ok (.iconst (0), 1) := by decide +kernel
theorem d_Reader_readBoth_9 : decode b_Reader_readBoth 9 = .ok (.ireturn, 1) := by decide +kernel
theorem d_Reader_readBoth_10 : decode b_Reader_readBoth 10 = .ok (.iconst (0), 1) := by decide +kernel
theorem d_Reader_readBoth_11 : decode b_Reader_readBoth 11 = .ok (.istore_n 2, 1) := by decide +kernel
theorem d_Reader_readBoth_12 : decode b_Reader_readBoth 12 = .ok (.iload_n 2, 1) := by decide +kernel
theorem d_Reader_readBoth_13 : decode b_Reader_readBoth 13 = .ok (.bipush (100), 2) := by decide +kernel
theorem d_Reader_readBoth_15 : decode b_Reader_readBoth 15 = .ok (.if_icmp .ge (37), 3) := by decide +kernel
theorem d_Reader_readBoth_18 : decode b_Reader_readBoth 18 = .ok (.aload_n 0, 1) := by decide +kernel
theorem d_Reader_readBoth_19 : decode b_Reader_readBoth 19 = .ok (.bipush (38), 2) := by decide +kernel
theorem d_Reader_readBoth_21 : decode b_Reader_readBoth 21 = .ok (.invokevirtual 35, 3) := by decide +kernel
theorem d_Reader_readBoth_24 : decode b_Reader_readBoth 24 = .ok (.ifCond .eq (28), 3) := by decide +kernel
theorem d_Reader_readBoth_27 : decode b_Reader_readBoth 27 = .ok (.aload_n 0, 1) := by decide +kernel
theorem d_Reader_readBoth_28 : decode b_Reader_readBoth 28 = .ok (.iload_n 1, 1) := by decide +kernel
theorem d_Reader_readBoth_29 : decode b_Reader_readBoth 29 = .ok (.invokevirtual 87, 3) := by decide +kernel
theorem d_Reader_readBoth_32 : decode b_Reader_readBoth 32 = .ok (.ifCond .ne (5), 3) := by decide +kernel
theorem d_Reader_readBoth_35 : decode b_Reader_readBoth 35 = .ok (.iconst (0), 1) := by decide +kernel
theorem d_Reader_readBoth_36 : decode b_Reader_readBoth 36 = .ok (.ireturn, 1) := by decide +kernel
theorem d_Reader_readBoth_37 : decode b_Reader_readBoth 37 = .ok (.aload_n 0, 1) := by decide +kernel
theorem d_Reader_readBoth_38 : decode b_Reader_readBoth 38 = .ok (.getfield 19, 3) := by decide +kernel
theorem d_Reader_readBoth_41 : decode b_Reader_readBoth 41 = .ok (.bipush (-2), 2) := by decide +kernel
theorem d_Reader_readBoth_43 : decode b_Reader_readBoth 43 = .ok (.invokevirtual 83, 3) := by decide +kernel
theorem d_Reader_readBoth_46 : decode b_Reader_readBoth 46 = .ok (.iinc 2 (1), 3) := by decide +kernel
theorem d_Reader_readBoth_49 : decode b_Reader_readBoth 49 = .ok (.goto (-37), 3) := by decide +kernel
theorem d_Reader_readBoth_52 : decode b_Reader_readBoth 52 = .ok (.iconst (1), 1) := by decide +kernel
theorem d_Reader_readBoth_53 : decode b_Reader_readBoth 53 = .ok (.ireturn, 1) := by decide +kernel
theorem zb_Reader_readBoth_12 {l : Launch} {θ : ZT} {res : Int32 × ZM} {rec : Int32 × ZM → Option (Int32 × ZM)} (n : Nat) (hrec : ∀ (a : Int32 × ZM) (r : Int32 × ZM), rec a = some r → zMet mkI l 0 129 θ y_Reader_readPart b_Reader_readPart 6 (some .boolean) (zrm (4 + 3 * n) (122 + 75 * n)) [.ref (za θ 3), .int a.1] a.2 r) {k12 : Int32 × Int32 × ZM → Option (Int32 × ZM)} (hk12 : ∀ a : Int32 × Int32 × ZM, k12 a = some res → WZ l b_Reader_readBoth 3 (some .boolean) "BakedBefore$Reade\x72" 0 129 θ (zrm (5 + 3 * n) (147 + 75 * n)) (zQ mkI 0 129 θ res) a.2.2 [(0, .ref (za θ 3)), (1, .int a.1), (2, .int a.2.1)] 12 []) {x1 : Int32} {x2 : Int32} {σ : ZM} (h : f_Reader_readBoth_12 rec k12 x1 x2 σ = some res) : WZ l b_Reader_readBoth 3 (some .boolean) "BakedBefore$Reade\x72" 0 129 θ (zrm (5 + 3 * n) (147 + 75 * n)) (zQ mkI 0 129 θ res) σ [(0, .ref (za θ 3)), (1, .int x1), (2, .int x2)] 12 [] := by
  unfold f_Reader_readBoth_12 at h
  refine z_iload_n 2 d_Reader_readBoth_12 rfl rfl ?_
  refine z_bipush (v := 100) d_Reader_readBoth_13 (by decide) ?_
  refine z_icmp_ge (tgt := 52) d_Reader_readBoth_15 (by decide) (fun c1 => ?_) (fun c1 => ?_)
  · have h := (if_pos c1).symm.trans h
    refine z_iconst (v := 1) d_Reader_readBoth_52 (by decide) ?_
    exact z_zret d_Reader_readBoth_53 (by decide) h
  · have h := (if_neg c1).symm.trans h
    refine z_aload_n 0 d_Reader_readBoth_18 rfl rfl ?_
    refine z_bipush (v := 38) d_Reader_readBoth_19 (by decide) ?_
    obtain ⟨⟨v2, s3⟩, e4, h⟩ := zbd_i h
    refine w_callV (As := [.int (38 : Int32)]) (kc := 18) (ci := 8) (c_Reader_skip l θ e4) cf_Reader_skip q_507 d_Reader_readBoth_21 zl_3 rfl rfl rfl rfl rfl rfl (Nat.le_of_ble_eq_true rfl) rfl rfl ⟨by simp only [zrm]; omega, by simp only [zrm]; omega⟩ ?_
    refine z_if_eq (tgt := 52) d_Reader_readBoth_24 (by decide) (fun c5 => ?_) (fun c5 => ?_)
    · have h := (if_pos c5).symm.trans h
      refine z_iconst (v := 1) d_Reader_readBoth_52 (by decide) ?_
      exact z_zret d_Reader_readBoth_53 (by decide) h
    · have h := (if_neg c5).symm.trans h
      refine z_aload_n 0 d_Reader_readBoth_27 rfl rfl ?_
      refine z_iload_n 1 d_Reader_readBoth_28 rfl rfl ?_
      obtain ⟨⟨v6, s7⟩, e8, h⟩ := zbd_i h
      refine w_callV (As := [.int x1]) (kc := 18) (ci := 8) (hrec (x1, s3) _ e8) cf_Reader_readPart q_530 d_Reader_readBoth_29 zl_3 rfl rfl rfl rfl rfl rfl (Nat.le_of_ble_eq_true rfl) rfl rfl ⟨by simp only [zrm]; omega, by simp only [zrm]; omega⟩ ?_
      refine z_if_ne (tgt := 37) d_Reader_readBoth_32 (by decide) (fun c9 => ?_) (fun c9 => ?_)
      · have h := (if_neg c9).symm.trans h
        refine z_aload_n 0 d_Reader_readBoth_37 rfl rfl ?_
        obtain ⟨c10, h⟩ := zck_i h
        refine gf_Reader_kiln zl_3 c10 d_Reader_readBoth_38 q_153 ?_
        refine z_bipush (v := -2) d_Reader_readBoth_41 (by decide) ?_
        obtain ⟨⟨v11, s12⟩, e13, h⟩ := zbd_i h
        refine w_callV (As := [.int (-2 : Int32)]) (kc := 15) (ci := 5) (c_Kiln_append l θ e13) cf_Kiln_append q_541 d_Reader_readBoth_43 c10 rfl rfl rfl rfl rfl rfl (Nat.le_of_ble_eq_true rfl) rfl rfl ⟨by simp only [zrm]; omega, by simp only [zrm]; omega⟩ ?_
        refine z_iinc (v := x2 + (1 : Int32)) 2 d_Reader_readBoth_46 rfl rfl (by decide) rfl ?_
        refine z_goto (tgt := 12) d_Reader_readBoth_49 (by decide) ?_
        refine z_sub [1, 2, 0] rfl ?_
        exact hk12 (x1, (x2 + (1 : Int32)), s12) h
      · have h := (if_pos c9).symm.trans h
        refine z_iconst (v := 0) d_Reader_readBoth_35 (by decide) ?_
        exact z_zret d_Reader_readBoth_36 (by decide) h
theorem zl_Reader_readBoth_12 {l : Launch} {θ : ZT} {res : Int32 × ZM} {rec : Int32 × ZM → Option (Int32 × ZM)} (n : Nat) (hrec : ∀ (a : Int32 × ZM) (r : Int32 × ZM), rec a = some r → zMet mkI l 0 129 θ y_Reader_readPart b_Reader_readPart 6 (some .boolean) (zrm (4 + 3 * n) (122 + 75 * n)) [.ref (za θ 3), .int a.1] a.2 r) : ∀ (N : Nat) (a : Int32 × Int32 × ZM), F_Reader_readBoth_12 rec N a = some res → WZ l b_Reader_readBoth 3 (some .boolean) "BakedBefore$Reade\x72" 0 129 θ (zrm (5 + 3 * n) (147 + 75 * n)) (zQ mkI 0 129 θ res) a.2.2 [(0, .ref (za θ 3)), (1, .int a.1), (2, .int a.2.1)] 12 [] := by
  intro N
  induction N with
  | zero => intro a  h; cases (show (none : Option (Int32 × ZM)) = some res from h)
  | succ N ih => intro a  h; exact zb_Reader_readBoth_12 n hrec ih (show f_Reader_readBoth_12 rec (F_Reader_readBoth_12 rec N) a.1 a.2.1 a.2.2 = some res from h)
theorem c_Reader_readBoth (l : Launch) (θ : ZT) {rec : Int32 × ZM → Option (Int32 × ZM)} (n : Nat) (hrec : ∀ (a : Int32 × ZM) (r : Int32 × ZM), rec a = some r → zMet mkI l 0 129 θ y_Reader_readPart b_Reader_readPart 6 (some .boolean) (zrm (4 + 3 * n) (122 + 75 * n)) [.ref (za θ 3), .int a.1] a.2 r) {x1 : Int32} {σ : ZM} {res : Int32 × ZM} (h : f_Reader_readBoth rec x1 σ = some res) : zMet mkI l 0 129 θ y_Reader_readBoth b_Reader_readBoth 3 (some .boolean) (zrm (5 + 3 * n) (147 + 75 * n)) [.ref (za θ 3), .int x1] σ res := by
  unfold f_Reader_readBoth at h
  refine z_met (lv := [(0, .ref (za θ 3)), (1, .int x1)]) (by decide +kernel) rfl (Nat.le_of_ble_eq_true rfl) (by decide) ?_
  refine z_aload_n 0 d_Reader_readBoth_0 rfl rfl ?_
  refine z_iload_n 1 d_Reader_readBoth_1 rfl rfl ?_
  obtain ⟨⟨v1, s2⟩, e3, h⟩ := zbd_i h
  refine w_callV (As := [.int x1]) (kc := 18) (ci := 8) (hrec (x1, σ) _ e3) cf_Reader_readPart q_530 d_Reader_readBoth_2 zl_3 rfl rfl rfl rfl rfl rfl (Nat.le_of_ble_eq_true rfl) rfl rfl ⟨by simp only [zrm]; omega, by simp only [zrm]; omega⟩ ?_
  refine z_if_ne (tgt := 10) d_Reader_readBoth_5 (by decide) (fun c4 => ?_) (fun c4 => ?_)
  · have h := (if_neg c4).symm.trans h
    refine z_iconst (v := 0) d_Reader_readBoth_10 (by decide) ?_
    refine z_istore_n d_Reader_readBoth_11 rfl (by decide) rfl ?_
    refine z_sub [1, 2, 0] rfl ?_
    exact zl_Reader_readBoth_12 n hrec 2000 (x1, (0 : Int32), s2) h
  · have h := (if_pos c4).symm.trans h
    refine z_iconst (v := 0) d_Reader_readBoth_8 (by decide) ?_
    exact z_zret d_Reader_readBoth_9 (by decide) h
theorem d_Reader_readEither_0 : decode b_Reader_readEither 0 = .ok (.aload_n 0, 1) := by decide +kernel
theorem d_Reader_readEither_1 : decode b_Reader_readEither 1 = .ok (.iload_n 1, 1) := by decide +kernel
theorem d_Reader_readEither_2 : decode b_Reader_readEither 2 = .ok (.invokevirtual 80, 3) := by decide +kernel
theorem d_Reader_readEither_5 : decode b_Reader_readEither 5 = .ok (.ifCond .ne (5), 3) := by decide +kernel
theorem d_Reader_readEither_8 : decode b_Reader_readEither 8 = .ok (.iconst (0), 1) := by decide +kernel
theorem d_Reader_readEither_9 : decode b_Reader_readEither 9 = .ok (.ireturn, 1) := by decide +kernel
theorem d_Reader_readEither_10 : decode b_Reader_readEither 10 = .ok (.iconst (0), 1) := by decide +kernel
theorem d_Reader_readEither_11 : decode b_Reader_readEither 11 = .ok (.istore_n 2, 1) := by decide +kernel
theorem d_Reader_readEither_12 : decode b_Reader_readEither 12 = .ok (.iload_n 2, 1) := by decide +kernel
theorem d_Reader_readEither_13 : decode b_Reader_readEither 13 = .ok (.bipush (100), 2) := by decide +kernel
theorem d_Reader_readEither_15 : decode b_Reader_readEither 15 = .ok (.if_icmp .ge (37), 3) := by decide +kernel
theorem d_Reader_readEither_18 : decode b_Reader_readEither 18 = .ok (.aload_n 0, 1) := by decide +kernel
theorem d_Reader_readEither_19 : decode b_Reader_readEither 19 = .ok (.bipush (124), 2) := by decide +kernel
theorem d_Reader_readEither_21 : decode b_Reader_readEither 21 = .ok (.invokevirtual 35, 3) := by decide +kernel
theorem d_Reader_readEither_24 : decode b_Reader_readEither 24 = .ok (.ifCond .eq (28), 3) := by decide +kernel
theorem d_Reader_readEither_27 : decode b_Reader_readEither 27 = .ok (.aload_n 0, 1) := by decide +kernel
theorem d_Reader_readEither_28 : decode b_Reader_readEither 28 = .ok (.iload_n 1, 1) := by decide +kernel
theorem d_Reader_readEither_29 : decode b_Reader_readEither 29 = .ok (.invokevirtual 80, 3) := by decide +kernel
theorem d_Reader_readEither_32 : decode b_Reader_readEither 32 = .ok (.ifCond .ne (5), 3) := by decide +kernel
theorem d_Reader_readEither_35 : decode b_Reader_readEither 35 = .ok (.iconst (0), 1) := by decide +kernel
theorem d_Reader_readEither_36 : decode b_Reader_readEither 36 = .ok (.ireturn, 1) := by decide +kernel
theorem d_Reader_readEither_37 : decode b_Reader_readEither 37 = .ok (.aload_n 0, 1) := by decide +kernel
theorem d_Reader_readEither_38 : decode b_Reader_readEither 38 = .ok (.getfield 19, 3) := by decide +kernel
theorem d_Reader_readEither_41 : decode b_Reader_readEither 41 = .ok (.bipush (-3), 2) := by decide +kernel
theorem d_Reader_readEither_43 : decode b_Reader_readEither 43 = .ok (.invokevirtual 83, 3) := by decide +kernel
theorem d_Reader_readEither_46 : decode b_Reader_readEither 46 = .ok (.iinc 2 (1), 3) := by decide +kernel
theorem d_Reader_readEither_49 : decode b_Reader_readEither 49 = .ok (.goto (-37), 3) := by decide +kernel
theorem d_Reader_readEither_52 : decode b_Reader_readEither 52 = .ok (.iconst (1), 1) := by decide +kernel
theorem d_Reader_readEither_53 : decode b_Reader_readEither 53 = .ok (.ireturn, 1) := by decide +kernel
theorem zb_Reader_readEither_12 {l : Launch} {θ : ZT} {res : Int32 × ZM} {rec : Int32 × ZM → Option (Int32 × ZM)} (n : Nat) (hrec : ∀ (a : Int32 × ZM) (r : Int32 × ZM), rec a = some r → zMet mkI l 0 129 θ y_Reader_readPart b_Reader_readPart 6 (some .boolean) (zrm (4 + 3 * n) (122 + 75 * n)) [.ref (za θ 3), .int a.1] a.2 r) {k12 : Int32 × Int32 × ZM → Option (Int32 × ZM)} (hk12 : ∀ a : Int32 × Int32 × ZM, k12 a = some res → WZ l b_Reader_readEither 3 (some .boolean) "BakedBefore$Reade\x72" 0 129 θ (zrm (6 + 3 * n) (172 + 75 * n)) (zQ mkI 0 129 θ res) a.2.2 [(0, .ref (za θ 3)), (1, .int a.1), (2, .int a.2.1)] 12 []) {x1 : Int32} {x2 : Int32} {σ : ZM} (h : f_Reader_readEither_12 rec k12 x1 x2 σ = some res) : WZ l b_Reader_readEither 3 (some .boolean) "BakedBefore$Reade\x72" 0 129 θ (zrm (6 + 3 * n) (172 + 75 * n)) (zQ mkI 0 129 θ res) σ [(0, .ref (za θ 3)), (1, .int x1), (2, .int x2)] 12 [] := by
  unfold f_Reader_readEither_12 at h
  refine z_iload_n 2 d_Reader_readEither_12 rfl rfl ?_
  refine z_bipush (v := 100) d_Reader_readEither_13 (by decide) ?_
  refine z_icmp_ge (tgt := 52) d_Reader_readEither_15 (by decide) (fun c1 => ?_) (fun c1 => ?_)
  · have h := (if_pos c1).symm.trans h
    refine z_iconst (v := 1) d_Reader_readEither_52 (by decide) ?_
    exact z_zret d_Reader_readEither_53 (by decide) h
  · have h := (if_neg c1).symm.trans h
    refine z_aload_n 0 d_Reader_readEither_18 rfl rfl ?_
    refine z_bipush (v := 124) d_Reader_readEither_19 (by decide) ?_
    obtain ⟨⟨v2, s3⟩, e4, h⟩ := zbd_i h
    refine w_callV (As := [.int (124 : Int32)]) (kc := 18) (ci := 8) (c_Reader_skip l θ e4) cf_Reader_skip q_507 d_Reader_readEither_21 zl_3 rfl rfl rfl rfl rfl rfl (Nat.le_of_ble_eq_true rfl) rfl rfl ⟨by simp only [zrm]; omega, by simp only [zrm]; omega⟩ ?_
    refine z_if_eq (tgt := 52) d_Reader_readEither_24 (by decide) (fun c5 => ?_) (fun c5 => ?_)
    · have h := (if_pos c5).symm.trans h
      refine z_iconst (v := 1) d_Reader_readEither_52 (by decide) ?_
      exact z_zret d_Reader_readEither_53 (by decide) h
    · have h := (if_neg c5).symm.trans h
      refine z_aload_n 0 d_Reader_readEither_27 rfl rfl ?_
      refine z_iload_n 1 d_Reader_readEither_28 rfl rfl ?_
      obtain ⟨⟨v6, s7⟩, e8, h⟩ := zbd_i h
      refine w_callV (As := [.int x1]) (kc := 18) (ci := 8) (c_Reader_readBoth l θ n hrec e8) cf_Reader_readBoth q_526 d_Reader_readEither_29 zl_3 rfl rfl rfl rfl rfl rfl (Nat.le_of_ble_eq_true rfl) rfl rfl ⟨by simp only [zrm]; omega, by simp only [zrm]; omega⟩ ?_
      refine z_if_ne (tgt := 37) d_Reader_readEither_32 (by decide) (fun c9 => ?_) (fun c9 => ?_)
      · have h := (if_neg c9).symm.trans h
        refine z_aload_n 0 d_Reader_readEither_37 rfl rfl ?_
        obtain ⟨c10, h⟩ := zck_i h
        refine gf_Reader_kiln zl_3 c10 d_Reader_readEither_38 q_153 ?_
        refine z_bipush (v := -3) d_Reader_readEither_41 (by decide) ?_
        obtain ⟨⟨v11, s12⟩, e13, h⟩ := zbd_i h
        refine w_callV (As := [.int (-3 : Int32)]) (kc := 15) (ci := 5) (c_Kiln_append l θ e13) cf_Kiln_append q_541 d_Reader_readEither_43 c10 rfl rfl rfl rfl rfl rfl (Nat.le_of_ble_eq_true rfl) rfl rfl ⟨by simp only [zrm]; omega, by simp only [zrm]; omega⟩ ?_
        refine z_iinc (v := x2 + (1 : Int32)) 2 d_Reader_readEither_46 rfl rfl (by decide) rfl ?_
        refine z_goto (tgt := 12) d_Reader_readEither_49 (by decide) ?_
        refine z_sub [1, 2, 0] rfl ?_
        exact hk12 (x1, (x2 + (1 : Int32)), s12) h
      · have h := (if_pos c9).symm.trans h
        refine z_iconst (v := 0) d_Reader_readEither_35 (by decide) ?_
        exact z_zret d_Reader_readEither_36 (by decide) h
theorem zl_Reader_readEither_12 {l : Launch} {θ : ZT} {res : Int32 × ZM} {rec : Int32 × ZM → Option (Int32 × ZM)} (n : Nat) (hrec : ∀ (a : Int32 × ZM) (r : Int32 × ZM), rec a = some r → zMet mkI l 0 129 θ y_Reader_readPart b_Reader_readPart 6 (some .boolean) (zrm (4 + 3 * n) (122 + 75 * n)) [.ref (za θ 3), .int a.1] a.2 r) : ∀ (N : Nat) (a : Int32 × Int32 × ZM), F_Reader_readEither_12 rec N a = some res → WZ l b_Reader_readEither 3 (some .boolean) "BakedBefore$Reade\x72" 0 129 θ (zrm (6 + 3 * n) (172 + 75 * n)) (zQ mkI 0 129 θ res) a.2.2 [(0, .ref (za θ 3)), (1, .int a.1), (2, .int a.2.1)] 12 [] := by
  intro N
  induction N with
  | zero => intro a  h; cases (show (none : Option (Int32 × ZM)) = some res from h)
  | succ N ih => intro a  h; exact zb_Reader_readEither_12 n hrec ih (show f_Reader_readEither_12 rec (F_Reader_readEither_12 rec N) a.1 a.2.1 a.2.2 = some res from h)
theorem c_Reader_readEither (l : Launch) (θ : ZT) {rec : Int32 × ZM → Option (Int32 × ZM)} (n : Nat) (hrec : ∀ (a : Int32 × ZM) (r : Int32 × ZM), rec a = some r → zMet mkI l 0 129 θ y_Reader_readPart b_Reader_readPart 6 (some .boolean) (zrm (4 + 3 * n) (122 + 75 * n)) [.ref (za θ 3), .int a.1] a.2 r) {x1 : Int32} {σ : ZM} {res : Int32 × ZM} (h : f_Reader_readEither rec x1 σ = some res) : zMet mkI l 0 129 θ y_Reader_readEither b_Reader_readEither 3 (some .boolean) (zrm (6 + 3 * n) (172 + 75 * n)) [.ref (za θ 3), .int x1] σ res := by
  unfold f_Reader_readEither at h
  refine z_met (lv := [(0, .ref (za θ 3)), (1, .int x1)]) (by decide +kernel) rfl (Nat.le_of_ble_eq_true rfl) (by decide) ?_
  refine z_aload_n 0 d_Reader_readEither_0 rfl rfl ?_
  refine z_iload_n 1 d_Reader_readEither_1 rfl rfl ?_
  obtain ⟨⟨v1, s2⟩, e3, h⟩ := zbd_i h
  refine w_callV (As := [.int x1]) (kc := 18) (ci := 8) (c_Reader_readBoth l θ n hrec e3) cf_Reader_readBoth q_526 d_Reader_readEither_2 zl_3 rfl rfl rfl rfl rfl rfl (Nat.le_of_ble_eq_true rfl) rfl rfl ⟨by simp only [zrm]; omega, by simp only [zrm]; omega⟩ ?_
  refine z_if_ne (tgt := 10) d_Reader_readEither_5 (by decide) (fun c4 => ?_) (fun c4 => ?_)
  · have h := (if_neg c4).symm.trans h
    refine z_iconst (v := 0) d_Reader_readEither_10 (by decide) ?_
    refine z_istore_n d_Reader_readEither_11 rfl (by decide) rfl ?_
    refine z_sub [1, 2, 0] rfl ?_
    exact zl_Reader_readEither_12 n hrec 2000 (x1, (0 : Int32), s2) h
  · have h := (if_pos c4).symm.trans h
    refine z_iconst (v := 0) d_Reader_readEither_8 (by decide) ?_
    exact z_zret d_Reader_readEither_9 (by decide) h
theorem d_Reader_readPart_0 : decode b_Reader_readPart 0 = .ok (.iload_n 1, 1) := by decide +kernel
theorem d_Reader_readPart_1 : decode b_Reader_readPart 1 = .ok (.istore_n 2, 1) := by decide +kernel
theorem d_Reader_readPart_2 : decode b_Reader_readPart 2 = .ok (.iload_n 2, 1) := by decide +kernel
theorem d_Reader_readPart_3 : decode b_Reader_readPart 3 = .ok (.iconst (4), 1) := by decide +kernel
theorem d_Reader_readPart_4 : decode b_Reader_readPart 4 = .ok (.if_icmp .ge (18), 3) := by decide +kernel
theorem d_Reader_readPart_7 : decode b_Reader_readPart 7 = .ok (.aload_n 0, 1) := by decide +kernel
theorem d_Reader_readPart_8 : decode b_Reader_readPart 8 = .ok (.bipush (33), 2) := by decide +kernel
theorem d_Reader_readPart_10 : decode b_Reader_readPart 10 = .ok (.invokevirtual 35, 3) := by decide +kernel
theorem d_Reader_readPart_13 : decode b_Reader_readPart 13 = .ok (.ifCond .eq (9), 3) := by decide +kernel
theorem d_Reader_readPart_16 : decode b_Reader_readPart 16 = .ok (.iinc 2 (1), 3) := by decide +kernel
theorem d_Reader_readPart_19 : decode b_Reader_readPart 19 = .ok (.goto (-17), 3) := by decide +kernel
theorem d_Reader_readPart_22 : decode b_Reader_readPart 22 = .ok (.iload_n 2, 1) := by decide +kernel
theorem d_Reader_readPart_23 : decode b_Reader_readPart 23 = .ok (.iconst (4), 1) := by decide +kernel
theorem d_Reader_readPart_24 : decode b_Reader_readPart 24 = .ok (.if_icmp .ge (16), 3) := by decide +kernel
theorem d_Reader_readPart_27 : decode b_Reader_readPart 27 = .ok (.aload_n 0, 1) := by decide +kernel
theorem d_Reader_readPart_28 : decode b_Reader_readPart 28 = .ok (.bipush (40), 2) := by decide +kernel
theorem d_Reader_readPart_30 : decode b_Reader_readPart 30 = .ok (.invokevirtual 35, 3) := by decide +kernel
theorem d_Reader_readPart_33 : decode b_Reader_readPart 33 = .ok (.ifCond .eq (7), 3) := by decide +kernel
theorem d_Reader_readPart_36 : decode b_Reader_readPart 36 = .ok (.iconst (1), 1) := by decide +kernel
theorem d_Reader_readPart_37 : decode b_Reader_readPart 37 = .ok (.goto (4), 3) := by decide +kernel
theorem d_Reader_readPart_40 : decode b_Reader_readPart 40 = .ok (.iconst (0), 1) := by decide +kernel
theorem d_Reader_readPart_41 : decode b_Reader_readPart 41 = .ok (.istore_n 3, 1) := by decide +kernel
theorem d_Reader_readPart_42 : decode b_Reader_readPart 42 = .ok (.iload_n 3, 1) := by decide +kernel
theorem d_Reader_readPart_43 : decode b_Reader_readPart 43 = .ok (.ifCond .eq (30), 3) := by decide +kernel
theorem d_Reader_readPart_46 : decode b_Reader_readPart 46 = .ok (.aload_n 0, 1) := by decide +kernel
theorem d_Reader_readPart_47 : decode b_Reader_readPart 47 = .ok (.iload_n 2, 1) := by decide +kernel
theorem d_Reader_readPart_48 : decode b_Reader_readPart 48 = .ok (.iconst (1), 1) := by decide +kernel
theorem d_Reader_readPart_49 : decode b_Reader_readPart 49 = .ok (.iadd, 1) := by decide +kernel
theorem d_Reader_readPart_50 : decode b_Reader_readPart 50 = .ok (.invokevirtual 65, 3) := by decide +kernel
theorem d_Reader_readPart_53 : decode b_Reader_readPart 53 = .ok (.ifCond .eq (16), 3) := by decide +kernel
theorem d_Reader_readPart_56 : decode b_Reader_readPart 56 = .ok (.aload_n 0, 1) := by decide +kernel
theorem d_Reader_readPart_57 : decode b_Reader_readPart 57 = .ok (.bipush (41), 2) := by decide +kernel
theorem d_Reader_readPart_59 : decode b_Reader_readPart 59 = .ok (.invokevirtual 35, 3) := by decide +kernel
theorem d_Reader_readPart_62 : decode b_Reader_readPart 62 = .ok (.ifCond .eq (7), 3) := by decide +kernel
theorem d_Reader_readPart_65 : decode b_Reader_readPart 65 = .ok (.iconst (1), 1) := by decide +kernel
theorem d_Reader_readPart_66 : decode b_Reader_readPart 66 = .ok (.goto (11), 3) := by decide +kernel
theorem d_Reader_readPart_69 : decode b_Reader_readPart 69 = .ok (.iconst (0), 1) := by decide +kernel
theorem d_Reader_readPart_70 : decode b_Reader_readPart 70 = .ok (.goto (7), 3) := by decide +kernel
theorem d_Reader_readPart_73 : decode b_Reader_readPart 73 = .ok (.aload_n 0, 1) := by decide +kernel
theorem d_Reader_readPart_74 : decode b_Reader_readPart 74 = .ok (.invokevirtual 90, 3) := by decide +kernel
theorem d_Reader_readPart_77 : decode b_Reader_readPart 77 = .ok (.istore 4, 2) := by decide +kernel
theorem d_Reader_readPart_79 : decode b_Reader_readPart 79 = .ok (.iload_n 1, 1) := by decide +kernel
theorem d_Reader_readPart_80 : decode b_Reader_readPart 80 = .ok (.istore 5, 2) := by decide +kernel
theorem d_Reader_readPart_82 : decode b_Reader_readPart 82 = .ok (.iload 4, 2) := by decide +kernel
theorem d_Reader_readPart_84 : decode b_Reader_readPart 84 = .ok (.ifCond .eq (23), 3) := by decide +kernel
theorem d_Reader_readPart_87 : decode b_Reader_readPart 87 = .ok (.iload 5, 2) := by decide +kernel
theorem d_Reader_readPart_89 : decode b_Reader_readPart 89 = .ok (.iload_n 2, 1) := by decide +kernel
theorem d_Reader_readPart_90 : decode b_Reader_readPart 90 = .ok (.if_icmp .ge (17), 3) := by decide +kernel
theorem d_Reader_readPart_93 : decode b_Reader_readPart 93 = .ok (.aload_n 0, 1) := by decide +kernel
theorem d_Reader_readPart_94 : decode b_Reader_readPart 94 = .ok (.getfield 19, 3) := by decide +kernel
theorem d_Reader_readPart_97 : decode b_Reader_readPart 97 = .ok (.iconst (-1), 1) := by decide +kernel
theorem d_Reader_readPart_98 : decode b_Reader_readPart 98 = .ok (.invokevirtual 83, 3) := by decide +kernel
theorem d_Reader_readPart_101 : decode b_Reader_readPart 101 = .ok (.iinc 5 (1), 3) := by decide +kernel
theorem d_Reader_readPart_104 : decode b_Reader_readPart 104 = .ok (.goto (-22), 3) := by decide +kernel
theorem d_Reader_readPart_107 : decode b_Reader_readPart 107 = .ok (.iload 4, 2) := by decide +kernel
theorem d_Reader_readPart_109 : decode b_Reader_readPart 109 = .ok (.ireturn, 1) := by decide +kernel
theorem zb_Reader_readPart_82 {l : Launch} {θ : ZT} {res : Int32 × ZM} {rec : Int32 × ZM → Option (Int32 × ZM)} (n : Nat) (hrec : ∀ (a : Int32 × ZM) (r : Int32 × ZM), rec a = some r → zMet mkI l 0 129 θ y_Reader_readPart b_Reader_readPart 6 (some .boolean) (zrm (4 + 3 * n) (122 + 75 * n)) [.ref (za θ 3), .int a.1] a.2 r) {k82 : Int32 × Int32 × Int32 × ZM → Option (Int32 × ZM)} (hk82 : ∀ a : Int32 × Int32 × Int32 × ZM, k82 a = some res → WZ l b_Reader_readPart 6 (some .boolean) "BakedBefore$Reade\x72" 0 129 θ (zrm (4 + 3 * (n + 1)) (122 + 75 * (n + 1))) (zQ mkI 0 129 θ res) a.2.2.2 [(0, .ref (za θ 3)), (2, .int a.1), (4, .int a.2.1), (5, .int a.2.2.1)] 82 []) {x2 : Int32} {x4 : Int32} {x5 : Int32} {σ : ZM} (h : f_Reader_readPart_82 rec k82 x2 x4 x5 σ = some res) : WZ l b_Reader_readPart 6 (some .boolean) "BakedBefore$Reade\x72" 0 129 θ (zrm (4 + 3 * (n + 1)) (122 + 75 * (n + 1))) (zQ mkI 0 129 θ res) σ [(0, .ref (za θ 3)), (2, .int x2), (4, .int x4), (5, .int x5)] 82 [] := by
  unfold f_Reader_readPart_82 at h
  refine z_iload 2 d_Reader_readPart_82 rfl ?_
  refine z_if_eq (tgt := 107) d_Reader_readPart_84 (by decide) (fun c1 => ?_) (fun c1 => ?_)
  · have h := (if_pos c1).symm.trans h
    refine z_iload 2 d_Reader_readPart_107 rfl ?_
    obtain ⟨c2, h⟩ := zck_i h
    exact z_zret d_Reader_readPart_109 c2 h
  · have h := (if_neg c1).symm.trans h
    refine z_iload 3 d_Reader_readPart_87 rfl ?_
    refine z_iload_n 1 d_Reader_readPart_89 rfl rfl ?_
    refine z_icmp_ge (tgt := 107) d_Reader_readPart_90 (by decide) (fun c3 => ?_) (fun c3 => ?_)
    · have h := (if_pos c3).symm.trans h
      refine z_iload 2 d_Reader_readPart_107 rfl ?_
      obtain ⟨c4, h⟩ := zck_i h
      exact z_zret d_Reader_readPart_109 c4 h
    · have h := (if_neg c3).symm.trans h
      refine z_aload_n 0 d_Reader_readPart_93 rfl rfl ?_
      obtain ⟨c5, h⟩ := zck_i h
      refine gf_Reader_kiln zl_3 c5 d_Reader_readPart_94 q_153 ?_
      refine z_iconst (v := -1) d_Reader_readPart_97 (by decide) ?_
      obtain ⟨⟨v6, s7⟩, e8, h⟩ := zbd_i h
      refine w_callV (As := [.int (-1 : Int32)]) (kc := 15) (ci := 5) (c_Kiln_append l θ e8) cf_Kiln_append q_541 d_Reader_readPart_98 c5 rfl rfl rfl rfl rfl rfl (Nat.le_of_ble_eq_true rfl) rfl rfl ⟨by simp only [zrm]; omega, by simp only [zrm]; omega⟩ ?_
      refine z_iinc (v := x5 + (1 : Int32)) 3 d_Reader_readPart_101 rfl rfl (by decide) rfl ?_
      refine z_goto (tgt := 82) d_Reader_readPart_104 (by decide) ?_
      refine z_sub [1, 2, 3, 0] rfl ?_
      exact hk82 (x2, x4, (x5 + (1 : Int32)), s7) h
theorem zl_Reader_readPart_82 {l : Launch} {θ : ZT} {res : Int32 × ZM} {rec : Int32 × ZM → Option (Int32 × ZM)} (n : Nat) (hrec : ∀ (a : Int32 × ZM) (r : Int32 × ZM), rec a = some r → zMet mkI l 0 129 θ y_Reader_readPart b_Reader_readPart 6 (some .boolean) (zrm (4 + 3 * n) (122 + 75 * n)) [.ref (za θ 3), .int a.1] a.2 r) : ∀ (N : Nat) (a : Int32 × Int32 × Int32 × ZM), F_Reader_readPart_82 rec N a = some res → WZ l b_Reader_readPart 6 (some .boolean) "BakedBefore$Reade\x72" 0 129 θ (zrm (4 + 3 * (n + 1)) (122 + 75 * (n + 1))) (zQ mkI 0 129 θ res) a.2.2.2 [(0, .ref (za θ 3)), (2, .int a.1), (4, .int a.2.1), (5, .int a.2.2.1)] 82 [] := by
  intro N
  induction N with
  | zero => intro a  h; cases (show (none : Option (Int32 × ZM)) = some res from h)
  | succ N ih => intro a  h; exact zb_Reader_readPart_82 n hrec ih (show f_Reader_readPart_82 rec (F_Reader_readPart_82 rec N) a.1 a.2.1 a.2.2.1 a.2.2.2 = some res from h)
theorem zb_Reader_readPart_77 {l : Launch} {θ : ZT} {res : Int32 × ZM} {rec : Int32 × ZM → Option (Int32 × ZM)} (n : Nat) (hrec : ∀ (a : Int32 × ZM) (r : Int32 × ZM), rec a = some r → zMet mkI l 0 129 θ y_Reader_readPart b_Reader_readPart 6 (some .boolean) (zrm (4 + 3 * n) (122 + 75 * n)) [.ref (za θ 3), .int a.1] a.2 r) {x1 : Int32} {x2 : Int32} {y0 : Int32} {σ : ZM} (h : f_Reader_readPart_77 rec x1 x2 y0 σ = some res) : WZ l b_Reader_readPart 6 (some .boolean) "BakedBefore$Reade\x72" 0 129 θ (zrm (4 + 3 * (n + 1)) (122 + 75 * (n + 1))) (zQ mkI 0 129 θ res) σ [(0, .ref (za θ 3)), (1, .int x1), (2, .int x2)] 77 [.int y0] := by
  unfold f_Reader_readPart_77 at h
  refine z_istore d_Reader_readPart_77 (by decide) rfl ?_
  refine z_iload_n 2 d_Reader_readPart_79 rfl rfl ?_
  refine z_istore d_Reader_readPart_80 (by decide) rfl ?_
  refine z_sub [2, 4, 1, 0] rfl ?_
  exact zl_Reader_readPart_82 n hrec 2000 (x2, y0, x1, σ) h
theorem zb_Reader_readPart_69 {l : Launch} {θ : ZT} {res : Int32 × ZM} {rec : Int32 × ZM → Option (Int32 × ZM)} (n : Nat) (hrec : ∀ (a : Int32 × ZM) (r : Int32 × ZM), rec a = some r → zMet mkI l 0 129 θ y_Reader_readPart b_Reader_readPart 6 (some .boolean) (zrm (4 + 3 * n) (122 + 75 * n)) [.ref (za θ 3), .int a.1] a.2 r) {x1 : Int32} {x2 : Int32} {σ : ZM} (h : f_Reader_readPart_69 rec x1 x2 σ = some res) : WZ l b_Reader_readPart 6 (some .boolean) "BakedBefore$Reade\x72" 0 129 θ (zrm (4 + 3 * (n + 1)) (122 + 75 * (n + 1))) (zQ mkI 0 129 θ res) σ [(0, .ref (za θ 3)), (1, .int x1), (2, .int x2)] 69 [] := by
  unfold f_Reader_readPart_69 at h
  refine z_iconst (v := 0) d_Reader_readPart_69 (by decide) ?_
  refine z_goto (tgt := 77) d_Reader_readPart_70 (by decide) ?_
  exact zb_Reader_readPart_77 n hrec h
theorem zb_Reader_readPart_41 {l : Launch} {θ : ZT} {res : Int32 × ZM} {rec : Int32 × ZM → Option (Int32 × ZM)} (n : Nat) (hrec : ∀ (a : Int32 × ZM) (r : Int32 × ZM), rec a = some r → zMet mkI l 0 129 θ y_Reader_readPart b_Reader_readPart 6 (some .boolean) (zrm (4 + 3 * n) (122 + 75 * n)) [.ref (za θ 3), .int a.1] a.2 r) {x1 : Int32} {x2 : Int32} {y0 : Int32} {σ : ZM} (h : f_Reader_readPart_41 rec x1 x2 y0 σ = some res) : WZ l b_Reader_readPart 6 (some .boolean) "BakedBefore$Reade\x72" 0 129 θ (zrm (4 + 3 * (n + 1)) (122 + 75 * (n + 1))) (zQ mkI 0 129 θ res) σ [(0, .ref (za θ 3)), (1, .int x1), (2, .int x2)] 41 [.int y0] := by
  unfold f_Reader_readPart_41 at h
  refine z_istore_n d_Reader_readPart_41 rfl (by decide) rfl ?_
  refine z_iload_n 0 d_Reader_readPart_42 rfl rfl ?_
  refine z_if_eq (tgt := 73) d_Reader_readPart_43 (by decide) (fun c1 => ?_) (fun c1 => ?_)
  · have h := (if_pos c1).symm.trans h
    refine z_aload_n 1 d_Reader_readPart_73 rfl rfl ?_
    obtain ⟨⟨v2, s3⟩, e4, h⟩ := zbd_i h
    refine w_callV (As := []) (kc := 18) (ci := 8) (c_Reader_readTest l θ e4) cf_Reader_readTest q_534 d_Reader_readPart_74 zl_3 rfl rfl rfl rfl rfl rfl (Nat.le_of_ble_eq_true rfl) rfl rfl ⟨by simp only [zrm]; omega, by simp only [zrm]; omega⟩ ?_
    refine z_sub [1, 2, 3] rfl ?_
    exact zb_Reader_readPart_77 n hrec h
  · have h := (if_neg c1).symm.trans h
    refine z_aload_n 1 d_Reader_readPart_46 rfl rfl ?_
    refine z_iload_n 3 d_Reader_readPart_47 rfl rfl ?_
    refine z_iconst (v := 1) d_Reader_readPart_48 (by decide) ?_
    refine z_iadd d_Reader_readPart_49 ?_
    obtain ⟨⟨v5, s6⟩, e7, h⟩ := zbd_i h
    refine w_callV (As := [.int (x2 + (1 : Int32))]) (kc := 18) (ci := 8) (c_Reader_readEither l θ n hrec e7) cf_Reader_readEither q_522 d_Reader_readPart_50 zl_3 rfl rfl rfl rfl rfl rfl (Nat.le_of_ble_eq_true rfl) rfl rfl ⟨by simp only [zrm]; omega, by simp only [zrm]; omega⟩ ?_
    refine z_if_eq (tgt := 69) d_Reader_readPart_53 (by decide) (fun c8 => ?_) (fun c8 => ?_)
    · have h := (if_pos c8).symm.trans h
      refine z_sub [1, 2, 3] rfl ?_
      exact zb_Reader_readPart_69 n hrec h
    · have h := (if_neg c8).symm.trans h
      refine z_aload_n 1 d_Reader_readPart_56 rfl rfl ?_
      refine z_bipush (v := 41) d_Reader_readPart_57 (by decide) ?_
      obtain ⟨⟨v9, s10⟩, e11, h⟩ := zbd_i h
      refine w_callV (As := [.int (41 : Int32)]) (kc := 18) (ci := 8) (c_Reader_skip l θ e11) cf_Reader_skip q_507 d_Reader_readPart_59 zl_3 rfl rfl rfl rfl rfl rfl (Nat.le_of_ble_eq_true rfl) rfl rfl ⟨by simp only [zrm]; omega, by simp only [zrm]; omega⟩ ?_
      refine z_if_eq (tgt := 69) d_Reader_readPart_62 (by decide) (fun c12 => ?_) (fun c12 => ?_)
      · have h := (if_pos c12).symm.trans h
        refine z_sub [1, 2, 3] rfl ?_
        exact zb_Reader_readPart_69 n hrec h
      · have h := (if_neg c12).symm.trans h
        refine z_iconst (v := 1) d_Reader_readPart_65 (by decide) ?_
        refine z_goto (tgt := 77) d_Reader_readPart_66 (by decide) ?_
        refine z_sub [1, 2, 3] rfl ?_
        exact zb_Reader_readPart_77 n hrec h
theorem zb_Reader_readPart_40 {l : Launch} {θ : ZT} {res : Int32 × ZM} {rec : Int32 × ZM → Option (Int32 × ZM)} (n : Nat) (hrec : ∀ (a : Int32 × ZM) (r : Int32 × ZM), rec a = some r → zMet mkI l 0 129 θ y_Reader_readPart b_Reader_readPart 6 (some .boolean) (zrm (4 + 3 * n) (122 + 75 * n)) [.ref (za θ 3), .int a.1] a.2 r) {x1 : Int32} {x2 : Int32} {σ : ZM} (h : f_Reader_readPart_40 rec x1 x2 σ = some res) : WZ l b_Reader_readPart 6 (some .boolean) "BakedBefore$Reade\x72" 0 129 θ (zrm (4 + 3 * (n + 1)) (122 + 75 * (n + 1))) (zQ mkI 0 129 θ res) σ [(0, .ref (za θ 3)), (1, .int x1), (2, .int x2)] 40 [] := by
  unfold f_Reader_readPart_40 at h
  refine z_iconst (v := 0) d_Reader_readPart_40 (by decide) ?_
  exact zb_Reader_readPart_41 n hrec h
theorem zb_Reader_readPart_22 {l : Launch} {θ : ZT} {res : Int32 × ZM} {rec : Int32 × ZM → Option (Int32 × ZM)} (n : Nat) (hrec : ∀ (a : Int32 × ZM) (r : Int32 × ZM), rec a = some r → zMet mkI l 0 129 θ y_Reader_readPart b_Reader_readPart 6 (some .boolean) (zrm (4 + 3 * n) (122 + 75 * n)) [.ref (za θ 3), .int a.1] a.2 r) {x1 : Int32} {x2 : Int32} {σ : ZM} (h : f_Reader_readPart_22 rec x1 x2 σ = some res) : WZ l b_Reader_readPart 6 (some .boolean) "BakedBefore$Reade\x72" 0 129 θ (zrm (4 + 3 * (n + 1)) (122 + 75 * (n + 1))) (zQ mkI 0 129 θ res) σ [(0, .ref (za θ 3)), (1, .int x1), (2, .int x2)] 22 [] := by
  unfold f_Reader_readPart_22 at h
  refine z_iload_n 2 d_Reader_readPart_22 rfl rfl ?_
  refine z_iconst (v := 4) d_Reader_readPart_23 (by decide) ?_
  refine z_icmp_ge (tgt := 40) d_Reader_readPart_24 (by decide) (fun c1 => ?_) (fun c1 => ?_)
  · have h := (if_pos c1).symm.trans h
    exact zb_Reader_readPart_40 n hrec h
  · have h := (if_neg c1).symm.trans h
    refine z_aload_n 0 d_Reader_readPart_27 rfl rfl ?_
    refine z_bipush (v := 40) d_Reader_readPart_28 (by decide) ?_
    obtain ⟨⟨v2, s3⟩, e4, h⟩ := zbd_i h
    refine w_callV (As := [.int (40 : Int32)]) (kc := 18) (ci := 8) (c_Reader_skip l θ e4) cf_Reader_skip q_507 d_Reader_readPart_30 zl_3 rfl rfl rfl rfl rfl rfl (Nat.le_of_ble_eq_true rfl) rfl rfl ⟨by simp only [zrm]; omega, by simp only [zrm]; omega⟩ ?_
    refine z_if_eq (tgt := 40) d_Reader_readPart_33 (by decide) (fun c5 => ?_) (fun c5 => ?_)
    · have h := (if_pos c5).symm.trans h
      exact zb_Reader_readPart_40 n hrec h
    · have h := (if_neg c5).symm.trans h
      refine z_iconst (v := 1) d_Reader_readPart_36 (by decide) ?_
      refine z_goto (tgt := 41) d_Reader_readPart_37 (by decide) ?_
      exact zb_Reader_readPart_41 n hrec h
theorem zb_Reader_readPart_2 {l : Launch} {θ : ZT} {res : Int32 × ZM} {rec : Int32 × ZM → Option (Int32 × ZM)} (n : Nat) (hrec : ∀ (a : Int32 × ZM) (r : Int32 × ZM), rec a = some r → zMet mkI l 0 129 θ y_Reader_readPart b_Reader_readPart 6 (some .boolean) (zrm (4 + 3 * n) (122 + 75 * n)) [.ref (za θ 3), .int a.1] a.2 r) {k2 : Int32 × Int32 × ZM → Option (Int32 × ZM)} (hk2 : ∀ a : Int32 × Int32 × ZM, k2 a = some res → WZ l b_Reader_readPart 6 (some .boolean) "BakedBefore$Reade\x72" 0 129 θ (zrm (4 + 3 * (n + 1)) (122 + 75 * (n + 1))) (zQ mkI 0 129 θ res) a.2.2 [(0, .ref (za θ 3)), (1, .int a.1), (2, .int a.2.1)] 2 []) {x1 : Int32} {x2 : Int32} {σ : ZM} (h : f_Reader_readPart_2 rec k2 x1 x2 σ = some res) : WZ l b_Reader_readPart 6 (some .boolean) "BakedBefore$Reade\x72" 0 129 θ (zrm (4 + 3 * (n + 1)) (122 + 75 * (n + 1))) (zQ mkI 0 129 θ res) σ [(0, .ref (za θ 3)), (1, .int x1), (2, .int x2)] 2 [] := by
  unfold f_Reader_readPart_2 at h
  refine z_iload_n 2 d_Reader_readPart_2 rfl rfl ?_
  refine z_iconst (v := 4) d_Reader_readPart_3 (by decide) ?_
  refine z_icmp_ge (tgt := 22) d_Reader_readPart_4 (by decide) (fun c1 => ?_) (fun c1 => ?_)
  · have h := (if_pos c1).symm.trans h
    exact zb_Reader_readPart_22 n hrec h
  · have h := (if_neg c1).symm.trans h
    refine z_aload_n 0 d_Reader_readPart_7 rfl rfl ?_
    refine z_bipush (v := 33) d_Reader_readPart_8 (by decide) ?_
    obtain ⟨⟨v2, s3⟩, e4, h⟩ := zbd_i h
    refine w_callV (As := [.int (33 : Int32)]) (kc := 18) (ci := 8) (c_Reader_skip l θ e4) cf_Reader_skip q_507 d_Reader_readPart_10 zl_3 rfl rfl rfl rfl rfl rfl (Nat.le_of_ble_eq_true rfl) rfl rfl ⟨by simp only [zrm]; omega, by simp only [zrm]; omega⟩ ?_
    refine z_if_eq (tgt := 22) d_Reader_readPart_13 (by decide) (fun c5 => ?_) (fun c5 => ?_)
    · have h := (if_pos c5).symm.trans h
      exact zb_Reader_readPart_22 n hrec h
    · have h := (if_neg c5).symm.trans h
      refine z_iinc (v := x2 + (1 : Int32)) 2 d_Reader_readPart_16 rfl rfl (by decide) rfl ?_
      refine z_goto (tgt := 2) d_Reader_readPart_19 (by decide) ?_
      refine z_sub [1, 2, 0] rfl ?_
      exact hk2 (x1, (x2 + (1 : Int32)), s3) h
theorem zl_Reader_readPart_2 {l : Launch} {θ : ZT} {res : Int32 × ZM} {rec : Int32 × ZM → Option (Int32 × ZM)} (n : Nat) (hrec : ∀ (a : Int32 × ZM) (r : Int32 × ZM), rec a = some r → zMet mkI l 0 129 θ y_Reader_readPart b_Reader_readPart 6 (some .boolean) (zrm (4 + 3 * n) (122 + 75 * n)) [.ref (za θ 3), .int a.1] a.2 r) : ∀ (N : Nat) (a : Int32 × Int32 × ZM), F_Reader_readPart_2 rec N a = some res → WZ l b_Reader_readPart 6 (some .boolean) "BakedBefore$Reade\x72" 0 129 θ (zrm (4 + 3 * (n + 1)) (122 + 75 * (n + 1))) (zQ mkI 0 129 θ res) a.2.2 [(0, .ref (za θ 3)), (1, .int a.1), (2, .int a.2.1)] 2 [] := by
  intro N
  induction N with
  | zero => intro a  h; cases (show (none : Option (Int32 × ZM)) = some res from h)
  | succ N ih => intro a  h; exact zb_Reader_readPart_2 n hrec ih (show f_Reader_readPart_2 rec (F_Reader_readPart_2 rec N) a.1 a.2.1 a.2.2 = some res from h)
theorem c_Reader_readPart (l : Launch) (θ : ZT) {rec : Int32 × ZM → Option (Int32 × ZM)} (n : Nat) (hrec : ∀ (a : Int32 × ZM) (r : Int32 × ZM), rec a = some r → zMet mkI l 0 129 θ y_Reader_readPart b_Reader_readPart 6 (some .boolean) (zrm (4 + 3 * n) (122 + 75 * n)) [.ref (za θ 3), .int a.1] a.2 r) {x1 : Int32} {σ : ZM} {res : Int32 × ZM} (h : f_Reader_readPart rec x1 σ = some res) : zMet mkI l 0 129 θ y_Reader_readPart b_Reader_readPart 6 (some .boolean) (zrm (4 + 3 * (n + 1)) (122 + 75 * (n + 1))) [.ref (za θ 3), .int x1] σ res := by
  unfold f_Reader_readPart at h
  refine z_met (lv := [(0, .ref (za θ 3)), (1, .int x1)]) (by decide +kernel) rfl (Nat.le_of_ble_eq_true rfl) (by decide) ?_
  refine z_iload_n 1 d_Reader_readPart_0 rfl rfl ?_
  refine z_istore_n d_Reader_readPart_1 rfl (by decide) rfl ?_
  refine z_sub [1, 2, 0] rfl ?_
  exact zl_Reader_readPart_2 n hrec 2000 (x1, x1, σ) h
theorem cn_Reader_readPart (l : Launch) (θ : ZT) : ∀ (n : Nat) (a : Int32 × ZM) (r : Int32 × ZM), F_Reader_readPart n a = some r → zMet mkI l 0 129 θ y_Reader_readPart b_Reader_readPart 6 (some .boolean) (zrm (4 + 3 * n) (122 + 75 * n)) [.ref (za θ 3), .int a.1] a.2 r := by
  intro n
  induction n with
  | zero => intro a r h; cases (show (none : Option (Int32 × ZM)) = some r from h)
  | succ n ih => intro a r h; exact c_Reader_readPart l θ n ih (show f_Reader_readPart (F_Reader_readPart n) a.1 a.2 = some r from h)
theorem d_Reader_readClause_0 : decode b_Reader_readClause 0 = .ok (.aload_n 0, 1) := by decide +kernel
theorem d_Reader_readClause_1 : decode b_Reader_readClause 1 = .ok (.invokevirtual 39, 3) := by decide +kernel
theorem d_Reader_readClause_4 : decode b_Reader_readClause 4 = .ok (.invokestatic 43, 3) := by decide +kernel
theorem d_Reader_readClause_7 : decode b_Reader_readClause 7 = .ok (.istore_n 1, 1) := by decide +kernel
theorem d_Reader_readClause_8 : decode b_Reader_readClause 8 = .ok (.iload_n 1, 1) := by decide +kernel
theorem d_Reader_readClause_9 : decode b_Reader_readClause 9 = .ok (.ifCond .lt (30), 3) := by decide +kernel
theorem d_Reader_readClause_12 : decode b_Reader_readClause 12 = .ok (.aload_n 0, 1) := by decide +kernel
theorem d_Reader_readClause_13 : decode b_Reader_readClause 13 = .ok (.iload_n 1, 1) := by decide +kernel
theorem d_Reader_readClause_14 : decode b_Reader_readClause 14 = .ok (.invokestatic 47, 3) := by decide +kernel
theorem d_Reader_readClause_17 : decode b_Reader_readClause 17 = .ok (.invokevirtual 51, 3) := by decide +kernel
theorem d_Reader_readClause_20 : decode b_Reader_readClause 20 = .ok (.ifCond .eq (19), 3) := by decide +kernel
theorem d_Reader_readClause_23 : decode b_Reader_readClause 23 = .ok (.aload_n 0, 1) := by decide +kernel
theorem d_Reader_readClause_24 : decode b_Reader_readClause 24 = .ok (.bipush (32), 2) := by decide +kernel
theorem d_Reader_readClause_26 : decode b_Reader_readClause 26 = .ok (.invokevirtual 35, 3) := by decide +kernel
theorem d_Reader_readClause_29 : decode b_Reader_readClause 29 = .ok (.ifCond .eq (10), 3) := by decide +kernel
theorem d_Reader_readClause_32 : decode b_Reader_readClause 32 = .ok (.aload_n 0, 1) := by decide +kernel
theorem d_Reader_readClause_33 : decode b_Reader_readClause 33 = .ok (.invokevirtual 55, 3) := by decide +kernel
theorem d_Reader_readClause_36 : decode b_Reader_readClause 36 = .ok (.ifCond .ne (5), 3) := by decide +kernel
theorem d_Reader_readClause_39 : decode b_Reader_readClause 39 = .ok (.iconst (0), 1) := by decide +kernel
theorem d_Reader_readClause_40 : decode b_Reader_readClause 40 = .ok (.ireturn, 1) := by decide +kernel
theorem d_Reader_readClause_41 : decode b_Reader_readClause 41 = .ok (.aload_n 0, 1) := by decide +kernel
theorem d_Reader_readClause_42 : decode b_Reader_readClause 42 = .ok (.getfield 19, 3) := by decide +kernel
theorem d_Reader_readClause_45 : decode b_Reader_readClause 45 = .ok (.iload_n 1, 1) := by decide +kernel
theorem d_Reader_readClause_46 : decode b_Reader_readClause 46 = .ok (.aload_n 0, 1) := by decide +kernel
theorem d_Reader_readClause_47 : decode b_Reader_readClause 47 = .ok (.getfield 58, 3) := by decide +kernel
theorem d_Reader_readClause_50 : decode b_Reader_readClause 50 = .ok (.invokevirtual 61, 3) := by decide +kernel
theorem d_Reader_readClause_53 : decode b_Reader_readClause 53 = .ok (.iload_n 1, 1) := by decide +kernel
theorem d_Reader_readClause_54 : decode b_Reader_readClause 54 = .ok (.iconst (2), 1) := by decide +kernel
theorem d_Reader_readClause_55 : decode b_Reader_readClause 55 = .ok (.if_icmp .eq (20), 3) := by decide +kernel
theorem d_Reader_readClause_58 : decode b_Reader_readClause 58 = .ok (.aload_n 0, 1) := by decide +kernel
theorem d_Reader_readClause_59 : decode b_Reader_readClause 59 = .ok (.bipush (32), 2) := by decide +kernel
theorem d_Reader_readClause_61 : decode b_Reader_readClause 61 = .ok (.invokevirtual 35, 3) := by decide +kernel
theorem d_Reader_readClause_64 : decode b_Reader_readClause 64 = .ok (.ifCond .eq (15), 3) := by decide +kernel
theorem d_Reader_readClause_67 : decode b_Reader_readClause 67 = .ok (.aload_n 0, 1) := by decide +kernel
theorem d_Reader_readClause_68 : decode b_Reader_readClause 68 = .ok (.iconst (0), 1) := by decide +kernel
theorem d_Reader_readClause_69 : decode b_Reader_readClause 69 = .ok (.invokevirtual 65, 3) := by decide +kernel
theorem d_Reader_readClause_72 : decode b_Reader_readClause 72 = .ok (.ifCond .eq (7), 3) := by decide +kernel
theorem d_Reader_readClause_75 : decode b_Reader_readClause 75 = .ok (.iconst (1), 1) := by decide +kernel
theorem d_Reader_readClause_76 : decode b_Reader_readClause 76 = .ok (.goto (4), 3) := by decide +kernel
theorem d_Reader_readClause_79 : decode b_Reader_readClause 79 = .ok (.iconst (0), 1) := by decide +kernel
theorem d_Reader_readClause_80 : decode b_Reader_readClause 80 = .ok (.ireturn, 1) := by decide +kernel
theorem c_Reader_readClause (l : Launch) (θ : ZT)  {σ : ZM} {res : Int32 × ZM} (h : f_Reader_readClause σ = some res) : zMet mkI l 0 129 θ y_Reader_readClause b_Reader_readClause 2 (some .boolean) (zrm 31 794) [.ref (za θ 3)] σ res := by
  unfold f_Reader_readClause at h
  refine z_met (lv := [(0, .ref (za θ 3))]) (by decide +kernel) rfl (Nat.le_of_ble_eq_true rfl) (by decide) ?_
  refine z_aload_n 0 d_Reader_readClause_0 rfl rfl ?_
  obtain ⟨⟨v1, s2⟩, e3, h⟩ := zbd_i h
  refine w_callV (As := []) (kc := 18) (ci := 8) (c_Reader_here l θ e3) cf_Reader_here q_441 d_Reader_readClause_1 zl_3 rfl rfl rfl rfl rfl rfl (Nat.le_of_ble_eq_true rfl) rfl rfl ⟨Nat.le_of_ble_eq_true rfl, Nat.le_of_ble_eq_true rfl⟩ ?_
  obtain ⟨⟨v4, s5⟩, e6, h⟩ := zbd_i h
  refine w_callS (As := [.int v1]) (c_Reader_wordFrom l θ e6) cf_Reader_wordFrom q_445 d_Reader_readClause_4 rfl rfl rfl (Nat.le_of_ble_eq_true rfl) rfl rfl ⟨Nat.le_of_ble_eq_true rfl, Nat.le_of_ble_eq_true rfl⟩ ?_
  refine z_istore_n d_Reader_readClause_7 rfl (by decide) rfl ?_
  refine z_iload_n 0 d_Reader_readClause_8 rfl rfl ?_
  refine z_if_lt (tgt := 39) d_Reader_readClause_9 (by decide) (fun c7 => ?_) (fun c7 => ?_)
  · have h := (if_pos c7).symm.trans h
    refine z_iconst (v := 0) d_Reader_readClause_39 (by decide) ?_
    exact z_zret d_Reader_readClause_40 (by decide) h
  · have h := (if_neg c7).symm.trans h
    refine z_aload_n 1 d_Reader_readClause_12 rfl rfl ?_
    refine z_iload_n 0 d_Reader_readClause_13 rfl rfl ?_
    obtain ⟨⟨v8, s9⟩, e10, h⟩ := zbd_i h
    refine w_callS (As := [.int v4]) (c_Reader_spelling l θ e10) cf_Reader_spelling q_448 d_Reader_readClause_14 rfl rfl rfl (Nat.le_of_ble_eq_true rfl) rfl rfl ⟨Nat.le_of_ble_eq_true rfl, Nat.le_of_ble_eq_true rfl⟩ ?_
    obtain ⟨hSv8, h⟩ := zck_i h
    obtain ⟨⟨v11, s12⟩, e13, h⟩ := zbd_i h
    refine w_callV (As := [.ref (zf θ (2 + v8))]) (kc := 18) (ci := 8) (c_Reader_readWord l θ e13) cf_Reader_readWord q_455 d_Reader_readClause_17 zl_3 rfl rfl rfl rfl rfl rfl (Nat.le_of_ble_eq_true rfl) rfl rfl ⟨Nat.le_of_ble_eq_true rfl, Nat.le_of_ble_eq_true rfl⟩ ?_
    refine z_if_eq (tgt := 39) d_Reader_readClause_20 (by decide) (fun c14 => ?_) (fun c14 => ?_)
    · have h := (if_pos c14).symm.trans h
      refine z_iconst (v := 0) d_Reader_readClause_39 (by decide) ?_
      exact z_zret d_Reader_readClause_40 (by decide) h
    · have h := (if_neg c14).symm.trans h
      refine z_aload_n 1 d_Reader_readClause_23 rfl rfl ?_
      refine z_bipush (v := 32) d_Reader_readClause_24 (by decide) ?_
      obtain ⟨⟨v15, s16⟩, e17, h⟩ := zbd_i h
      refine w_callV (As := [.int (32 : Int32)]) (kc := 18) (ci := 8) (c_Reader_skip l θ e17) cf_Reader_skip q_507 d_Reader_readClause_26 zl_3 rfl rfl rfl rfl rfl rfl (Nat.le_of_ble_eq_true rfl) rfl rfl ⟨Nat.le_of_ble_eq_true rfl, Nat.le_of_ble_eq_true rfl⟩ ?_
      refine z_if_eq (tgt := 39) d_Reader_readClause_29 (by decide) (fun c18 => ?_) (fun c18 => ?_)
      · have h := (if_pos c18).symm.trans h
        refine z_iconst (v := 0) d_Reader_readClause_39 (by decide) ?_
        exact z_zret d_Reader_readClause_40 (by decide) h
      · have h := (if_neg c18).symm.trans h
        refine z_aload_n 1 d_Reader_readClause_32 rfl rfl ?_
        obtain ⟨⟨v19, s20⟩, e21, h⟩ := zbd_i h
        refine w_callV (As := []) (kc := 18) (ci := 8) (c_Reader_readNumber l θ e21) cf_Reader_readNumber q_511 d_Reader_readClause_33 zl_3 rfl rfl rfl rfl rfl rfl (Nat.le_of_ble_eq_true rfl) rfl rfl ⟨Nat.le_of_ble_eq_true rfl, Nat.le_of_ble_eq_true rfl⟩ ?_
        refine z_if_ne (tgt := 41) d_Reader_readClause_36 (by decide) (fun c22 => ?_) (fun c22 => ?_)
        · have h := (if_neg c22).symm.trans h
          refine z_aload_n 1 d_Reader_readClause_41 rfl rfl ?_
          obtain ⟨c23, h⟩ := zck_i h
          refine gf_Reader_kiln zl_3 c23 d_Reader_readClause_42 q_153 ?_
          refine z_iload_n 0 d_Reader_readClause_45 rfl rfl ?_
          refine z_aload_n 1 d_Reader_readClause_46 rfl rfl ?_
          refine gf_Reader_number zl_3 d_Reader_readClause_47 q_152 ?_
          obtain ⟨⟨v24, s25⟩, e26, h⟩ := zbd_i h
          refine w_callV (As := [.int v4, .int (zI s20 3 3)]) (kc := 15) (ci := 5) (c_Kiln_begin l θ e26) cf_Kiln_begin q_518 d_Reader_readClause_50 c23 rfl rfl rfl rfl rfl rfl (Nat.le_of_ble_eq_true rfl) rfl rfl ⟨Nat.le_of_ble_eq_true rfl, Nat.le_of_ble_eq_true rfl⟩ ?_
          refine z_iload_n 0 d_Reader_readClause_53 rfl rfl ?_
          refine z_iconst (v := 2) d_Reader_readClause_54 (by decide) ?_
          refine z_icmp_eq (tgt := 75) d_Reader_readClause_55 (by decide) (fun c27 => ?_) (fun c27 => ?_)
          · have h := (if_pos c27).symm.trans h
            refine z_iconst (v := 1) d_Reader_readClause_75 (by decide) ?_
            refine z_goto (tgt := 80) d_Reader_readClause_76 (by decide) ?_
            exact z_zret d_Reader_readClause_80 (by decide) h
          · have h := (if_neg c27).symm.trans h
            refine z_aload_n 1 d_Reader_readClause_58 rfl rfl ?_
            refine z_bipush (v := 32) d_Reader_readClause_59 (by decide) ?_
            obtain ⟨⟨v28, s29⟩, e30, h⟩ := zbd_i h
            refine w_callV (As := [.int (32 : Int32)]) (kc := 18) (ci := 8) (c_Reader_skip l θ e30) cf_Reader_skip q_507 d_Reader_readClause_61 zl_3 rfl rfl rfl rfl rfl rfl (Nat.le_of_ble_eq_true rfl) rfl rfl ⟨Nat.le_of_ble_eq_true rfl, Nat.le_of_ble_eq_true rfl⟩ ?_
            refine z_if_eq (tgt := 79) d_Reader_readClause_64 (by decide) (fun c31 => ?_) (fun c31 => ?_)
            · have h := (if_pos c31).symm.trans h
              refine z_iconst (v := 0) d_Reader_readClause_79 (by decide) ?_
              exact z_zret d_Reader_readClause_80 (by decide) h
            · have h := (if_neg c31).symm.trans h
              refine z_aload_n 1 d_Reader_readClause_67 rfl rfl ?_
              refine z_iconst (v := 0) d_Reader_readClause_68 (by decide) ?_
              obtain ⟨⟨v32, s33⟩, e34, h⟩ := zbd_i h
              refine w_callV (As := [.int (0 : Int32)]) (kc := 18) (ci := 8) (c_Reader_readEither l θ 8 (cn_Reader_readPart l θ 8) e34) cf_Reader_readEither q_522 d_Reader_readClause_69 zl_3 rfl rfl rfl rfl rfl rfl (Nat.le_of_ble_eq_true rfl) rfl rfl ⟨Nat.le_of_ble_eq_true rfl, Nat.le_of_ble_eq_true rfl⟩ ?_
              refine z_if_eq (tgt := 79) d_Reader_readClause_72 (by decide) (fun c35 => ?_) (fun c35 => ?_)
              · have h := (if_pos c35).symm.trans h
                refine z_iconst (v := 0) d_Reader_readClause_79 (by decide) ?_
                exact z_zret d_Reader_readClause_80 (by decide) h
              · have h := (if_neg c35).symm.trans h
                refine z_iconst (v := 1) d_Reader_readClause_75 (by decide) ?_
                refine z_goto (tgt := 80) d_Reader_readClause_76 (by decide) ?_
                exact z_zret d_Reader_readClause_80 (by decide) h
        · have h := (if_pos c22).symm.trans h
          refine z_iconst (v := 0) d_Reader_readClause_39 (by decide) ?_
          exact z_zret d_Reader_readClause_40 (by decide) h
theorem d_Reader_readInto_0 : decode b_Reader_readInto 0 = .ok (.aload_n 0, 1) := by decide +kernel
theorem d_Reader_readInto_1 : decode b_Reader_readInto 1 = .ok (.aload_n 1, 1) := by decide +kernel
theorem d_Reader_readInto_2 : decode b_Reader_readInto 2 = .ok (.putfield 19, 3) := by decide +kernel
theorem d_Reader_readInto_5 : decode b_Reader_readInto 5 = .ok (.aload_n 0, 1) := by decide +kernel
theorem d_Reader_readInto_6 : decode b_Reader_readInto 6 = .ok (.getfield 19, 3) := by decide +kernel
theorem d_Reader_readInto_9 : decode b_Reader_readInto 9 = .ok (.invokevirtual 23, 3) := by decide +kernel
theorem d_Reader_readInto_12 : decode b_Reader_readInto 12 = .ok (.aload_n 0, 1) := by decide +kernel
theorem d_Reader_readInto_13 : decode b_Reader_readInto 13 = .ok (.iconst (0), 1) := by decide +kernel
theorem d_Reader_readInto_14 : decode b_Reader_readInto 14 = .ok (.putfield 28, 3) := by decide +kernel
theorem d_Reader_readInto_17 : decode b_Reader_readInto 17 = .ok (.aload_n 0, 1) := by decide +kernel
theorem d_Reader_readInto_18 : decode b_Reader_readInto 18 = .ok (.invokevirtual 31, 3) := by decide +kernel
theorem d_Reader_readInto_21 : decode b_Reader_readInto 21 = .ok (.istore_n 2, 1) := by decide +kernel
theorem d_Reader_readInto_22 : decode b_Reader_readInto 22 = .ok (.iconst (1), 1) := by decide +kernel
theorem d_Reader_readInto_23 : decode b_Reader_readInto 23 = .ok (.istore_n 3, 1) := by decide +kernel
theorem d_Reader_readInto_24 : decode b_Reader_readInto 24 = .ok (.iload_n 2, 1) := by decide +kernel
theorem d_Reader_readInto_25 : decode b_Reader_readInto 25 = .ok (.ifCond .eq (48), 3) := by decide +kernel
theorem d_Reader_readInto_28 : decode b_Reader_readInto 28 = .ok (.aload_n 0, 1) := by decide +kernel
theorem d_Reader_readInto_29 : decode b_Reader_readInto 29 = .ok (.getfield 28, 3) := by decide +kernel
theorem d_Reader_readInto_32 : decode b_Reader_readInto 32 = .ok (.aload_n 0, 1) := by decide +kernel
theorem d_Reader_readInto_33 : decode b_Reader_readInto 33 = .ok (.getfield 15, 3) := by decide +kernel
theorem d_Reader_readInto_36 : decode b_Reader_readInto 36 = .ok (.if_icmp .ge (37), 3) := by decide +kernel
theorem d_Reader_readInto_39 : decode b_Reader_readInto 39 = .ok (.iload_n 3, 1) := by decide +kernel
theorem d_Reader_readInto_40 : decode b_Reader_readInto 40 = .ok (.bipush (10), 2) := by decide +kernel
theorem d_Reader_readInto_42 : decode b_Reader_readInto 42 = .ok (.if_icmp .ge (23), 3) := by decide +kernel
theorem d_Reader_readInto_45 : decode b_Reader_readInto 45 = .ok (.aload_n 0, 1) := by decide +kernel
theorem d_Reader_readInto_46 : decode b_Reader_readInto 46 = .ok (.bipush (59), 2) := by decide +kernel
theorem d_Reader_readInto_48 : decode b_Reader_readInto 48 = .ok (.invokevirtual 35, 3) := by decide +kernel
theorem d_Reader_readInto_51 : decode b_Reader_readInto 51 = .ok (.ifCond .eq (14), 3) := by decide +kernel
theorem d_Reader_readInto_54 : decode b_Reader_readInto 54 = .ok (.aload_n 0, 1) := by decide +kernel
theorem d_Reader_readInto_55 : decode b_Reader_readInto 55 = .ok (.invokevirtual 31, 3) := by decide +kernel
theorem d_Reader_readInto_58 : decode b_Reader_readInto 58 = .ok (.ifCond .eq (7), 3) := by decide +kernel
theorem d_Reader_readInto_61 : decode b_Reader_readInto 61 = .ok (.iconst (1), 1) := by decide +kernel
theorem d_Reader_readInto_62 : decode b_Reader_readInto 62 = .ok (.goto (4), 3) := by decide +kernel
theorem d_Reader_readInto_65 : decode b_Reader_readInto 65 = .ok (.iconst (0), 1) := by decide +kernel
theorem d_Reader_readInto_66 : decode b_Reader_readInto 66 = .ok (.istore_n 2, 1) := by decide +kernel
theorem d_Reader_readInto_67 : decode b_Reader_readInto 67 = .ok (.iinc 3 (1), 3) := by decide +kernel
theorem d_Reader_readInto_70 : decode b_Reader_readInto 70 = .ok (.goto (-46), 3) := by decide +kernel
theorem d_Reader_readInto_73 : decode b_Reader_readInto 73 = .ok (.aload_n 0, 1) := by decide +kernel
theorem d_Reader_readInto_74 : decode b_Reader_readInto 74 = .ok (.iconst (0), 1) := by decide +kernel
theorem d_Reader_readInto_75 : decode b_Reader_readInto 75 = .ok (.putfield 15, 3) := by decide +kernel
theorem d_Reader_readInto_78 : decode b_Reader_readInto 78 = .ok (.iload_n 2, 1) := by decide +kernel
theorem d_Reader_readInto_79 : decode b_Reader_readInto 79 = .ok (.ifCond .eq (7), 3) := by decide +kernel
theorem d_Reader_readInto_82 : decode b_Reader_readInto 82 = .ok (.iconst (-1), 1) := by decide +kernel
theorem d_Reader_readInto_83 : decode b_Reader_readInto 83 = .ok (.goto (7), 3) := by decide +kernel
theorem d_Reader_readInto_86 : decode b_Reader_readInto 86 = .ok (.aload_n 0, 1) := by decide +kernel
theorem d_Reader_readInto_87 : decode b_Reader_readInto 87 = .ok (.getfield 28, 3) := by decide +kernel
theorem d_Reader_readInto_90 : decode b_Reader_readInto 90 = .ok (.ireturn, 1) := by decide +kernel
theorem zb_Reader_readInto_66 {l : Launch} {θ : ZT} {res : Int32 × ZM} {k24 : Int32 × Int32 × ZM → Option (Int32 × ZM)} (hk24 : ∀ a : Int32 × Int32 × ZM, k24 a = some res → WZ l b_Reader_readInto 4 (some .int) "BakedBefore$Reade\x72" 0 129 θ (zrm 32 815) (zQ mkI 0 129 θ res) a.2.2 [(0, .ref (za θ 3)), (2, .int a.1), (3, .int a.2.1)] 24 []) {x3 : Int32} {y0 : Int32} {σ : ZM} (h : f_Reader_readInto_66 k24 x3 y0 σ = some res) : WZ l b_Reader_readInto 4 (some .int) "BakedBefore$Reade\x72" 0 129 θ (zrm 32 815) (zQ mkI 0 129 θ res) σ [(0, .ref (za θ 3)), (3, .int x3)] 66 [.int y0] := by
  unfold f_Reader_readInto_66 at h
  refine z_istore_n d_Reader_readInto_66 rfl (by decide) rfl ?_
  refine z_iinc (v := x3 + (1 : Int32)) 2 d_Reader_readInto_67 rfl rfl (by decide) rfl ?_
  refine z_goto (tgt := 24) d_Reader_readInto_70 (by decide) ?_
  refine z_sub [2, 1, 0] rfl ?_
  exact hk24 (y0, (x3 + (1 : Int32)), σ) h
theorem zb_Reader_readInto_65 {l : Launch} {θ : ZT} {res : Int32 × ZM} {k24 : Int32 × Int32 × ZM → Option (Int32 × ZM)} (hk24 : ∀ a : Int32 × Int32 × ZM, k24 a = some res → WZ l b_Reader_readInto 4 (some .int) "BakedBefore$Reade\x72" 0 129 θ (zrm 32 815) (zQ mkI 0 129 θ res) a.2.2 [(0, .ref (za θ 3)), (2, .int a.1), (3, .int a.2.1)] 24 []) {x3 : Int32} {σ : ZM} (h : f_Reader_readInto_65 k24 x3 σ = some res) : WZ l b_Reader_readInto 4 (some .int) "BakedBefore$Reade\x72" 0 129 θ (zrm 32 815) (zQ mkI 0 129 θ res) σ [(0, .ref (za θ 3)), (3, .int x3)] 65 [] := by
  unfold f_Reader_readInto_65 at h
  refine z_iconst (v := 0) d_Reader_readInto_65 (by decide) ?_
  exact zb_Reader_readInto_66 hk24 h
theorem zb_Reader_readInto_73 {l : Launch} {θ : ZT} {res : Int32 × ZM} {x2 : Int32} {σ : ZM} (h : f_Reader_readInto_73 x2 σ = some res) : WZ l b_Reader_readInto 4 (some .int) "BakedBefore$Reade\x72" 0 129 θ (zrm 32 815) (zQ mkI 0 129 θ res) σ [(0, .ref (za θ 3)), (2, .int x2)] 73 [] := by
  unfold f_Reader_readInto_73 at h
  refine z_aload_n 0 d_Reader_readInto_73 rfl rfl ?_
  refine z_iconst (v := 0) d_Reader_readInto_74 (by decide) ?_
  refine pf_Reader_length zl_3 d_Reader_readInto_75 q_149 ?_
  refine z_iload_n 1 d_Reader_readInto_78 rfl rfl ?_
  refine z_if_eq (tgt := 86) d_Reader_readInto_79 (by decide) (fun c1 => ?_) (fun c1 => ?_)
  · have h := (if_pos c1).symm.trans h
    refine z_aload_n 0 d_Reader_readInto_86 rfl rfl ?_
    refine gf_Reader_at zl_3 d_Reader_readInto_87 q_151 ?_
    exact z_iret d_Reader_readInto_90 h
  · have h := (if_neg c1).symm.trans h
    refine z_iconst (v := -1) d_Reader_readInto_82 (by decide) ?_
    refine z_goto (tgt := 90) d_Reader_readInto_83 (by decide) ?_
    exact z_iret d_Reader_readInto_90 h
theorem zb_Reader_readInto_24 {l : Launch} {θ : ZT} {res : Int32 × ZM} {k24 : Int32 × Int32 × ZM → Option (Int32 × ZM)} (hk24 : ∀ a : Int32 × Int32 × ZM, k24 a = some res → WZ l b_Reader_readInto 4 (some .int) "BakedBefore$Reade\x72" 0 129 θ (zrm 32 815) (zQ mkI 0 129 θ res) a.2.2 [(0, .ref (za θ 3)), (2, .int a.1), (3, .int a.2.1)] 24 []) {x2 : Int32} {x3 : Int32} {σ : ZM} (h : f_Reader_readInto_24 k24 x2 x3 σ = some res) : WZ l b_Reader_readInto 4 (some .int) "BakedBefore$Reade\x72" 0 129 θ (zrm 32 815) (zQ mkI 0 129 θ res) σ [(0, .ref (za θ 3)), (2, .int x2), (3, .int x3)] 24 [] := by
  unfold f_Reader_readInto_24 at h
  refine z_iload_n 1 d_Reader_readInto_24 rfl rfl ?_
  refine z_if_eq (tgt := 73) d_Reader_readInto_25 (by decide) (fun c1 => ?_) (fun c1 => ?_)
  · have h := (if_pos c1).symm.trans h
    refine z_sub [0, 1] rfl ?_
    exact zb_Reader_readInto_73 h
  · have h := (if_neg c1).symm.trans h
    refine z_aload_n 0 d_Reader_readInto_28 rfl rfl ?_
    refine gf_Reader_at zl_3 d_Reader_readInto_29 q_151 ?_
    refine z_aload_n 0 d_Reader_readInto_32 rfl rfl ?_
    refine gf_Reader_length zl_3 d_Reader_readInto_33 q_149 ?_
    refine z_icmp_ge (tgt := 73) d_Reader_readInto_36 (by decide) (fun c2 => ?_) (fun c2 => ?_)
    · have h := (if_pos c2).symm.trans h
      refine z_sub [0, 1] rfl ?_
      exact zb_Reader_readInto_73 h
    · have h := (if_neg c2).symm.trans h
      refine z_iload_n 2 d_Reader_readInto_39 rfl rfl ?_
      refine z_bipush (v := 10) d_Reader_readInto_40 (by decide) ?_
      refine z_icmp_ge (tgt := 65) d_Reader_readInto_42 (by decide) (fun c3 => ?_) (fun c3 => ?_)
      · have h := (if_pos c3).symm.trans h
        refine z_sub [0, 2] rfl ?_
        exact zb_Reader_readInto_65 hk24 h
      · have h := (if_neg c3).symm.trans h
        refine z_aload_n 0 d_Reader_readInto_45 rfl rfl ?_
        refine z_bipush (v := 59) d_Reader_readInto_46 (by decide) ?_
        obtain ⟨⟨v4, s5⟩, e6, h⟩ := zbd_i h
        refine w_callV (As := [.int (59 : Int32)]) (kc := 18) (ci := 8) (c_Reader_skip l θ e6) cf_Reader_skip q_507 d_Reader_readInto_48 zl_3 rfl rfl rfl rfl rfl rfl (Nat.le_of_ble_eq_true rfl) rfl rfl ⟨Nat.le_of_ble_eq_true rfl, Nat.le_of_ble_eq_true rfl⟩ ?_
        refine z_if_eq (tgt := 65) d_Reader_readInto_51 (by decide) (fun c7 => ?_) (fun c7 => ?_)
        · have h := (if_pos c7).symm.trans h
          refine z_sub [0, 2] rfl ?_
          exact zb_Reader_readInto_65 hk24 h
        · have h := (if_neg c7).symm.trans h
          refine z_aload_n 0 d_Reader_readInto_54 rfl rfl ?_
          obtain ⟨⟨v8, s9⟩, e10, h⟩ := zbd_i h
          refine w_callV (As := []) (kc := 18) (ci := 8) (c_Reader_readClause l θ e10) cf_Reader_readClause q_437 d_Reader_readInto_55 zl_3 rfl rfl rfl rfl rfl rfl (Nat.le_of_ble_eq_true rfl) rfl rfl ⟨Nat.le_of_ble_eq_true rfl, Nat.le_of_ble_eq_true rfl⟩ ?_
          refine z_if_eq (tgt := 65) d_Reader_readInto_58 (by decide) (fun c11 => ?_) (fun c11 => ?_)
          · have h := (if_pos c11).symm.trans h
            refine z_sub [0, 2] rfl ?_
            exact zb_Reader_readInto_65 hk24 h
          · have h := (if_neg c11).symm.trans h
            refine z_iconst (v := 1) d_Reader_readInto_61 (by decide) ?_
            refine z_goto (tgt := 66) d_Reader_readInto_62 (by decide) ?_
            refine z_sub [0, 2] rfl ?_
            exact zb_Reader_readInto_66 hk24 h
theorem zl_Reader_readInto_24 {l : Launch} {θ : ZT} {res : Int32 × ZM} : ∀ (N : Nat) (a : Int32 × Int32 × ZM), F_Reader_readInto_24 N a = some res → WZ l b_Reader_readInto 4 (some .int) "BakedBefore$Reade\x72" 0 129 θ (zrm 32 815) (zQ mkI 0 129 θ res) a.2.2 [(0, .ref (za θ 3)), (2, .int a.1), (3, .int a.2.1)] 24 [] := by
  intro N
  induction N with
  | zero => intro a  h; cases (show (none : Option (Int32 × ZM)) = some res from h)
  | succ N ih => intro a  h; exact zb_Reader_readInto_24 ih (show f_Reader_readInto_24 (F_Reader_readInto_24 N) a.1 a.2.1 a.2.2 = some res from h)
theorem c_Reader_readInto (l : Launch) (θ : ZT) {x1 : Nat} {σ : ZM} {res : Int32 × ZM} (h : f_Reader_readInto x1 σ = some res) : zMet mkI l 0 129 θ y_Reader_readInto b_Reader_readInto 4 (some .int) (zrm 32 815) [.ref (za θ 3), .ref (za θ x1)] σ res := by
  unfold f_Reader_readInto at h
  obtain ⟨hx1, h⟩ := zck_i h
  refine z_met (lv := [(0, .ref (za θ 3)), (1, .ref (za θ x1))]) (by decide +kernel) rfl (Nat.le_of_ble_eq_true rfl) (by decide) ?_
  refine z_aload_n 0 d_Reader_readInto_0 rfl rfl ?_
  refine z_aload_n 1 d_Reader_readInto_1 rfl rfl ?_
  refine pf_Reader_kiln zl_3 hx1 d_Reader_readInto_2 q_153 ?_
  refine z_aload_n 0 d_Reader_readInto_5 rfl rfl ?_
  obtain ⟨c1, h⟩ := zck_i h
  refine gf_Reader_kiln zl_3 c1 d_Reader_readInto_6 q_153 ?_
  obtain ⟨⟨v2, s3⟩, e4, h⟩ := zbd_i h
  refine w_callV (As := []) (kc := 15) (ci := 5) (c_Kiln_empty l θ e4) cf_Kiln_empty q_433 d_Reader_readInto_9 c1 rfl rfl rfl rfl rfl rfl (Nat.le_of_ble_eq_true rfl) rfl rfl ⟨Nat.le_of_ble_eq_true rfl, Nat.le_of_ble_eq_true rfl⟩ ?_
  refine z_aload_n 0 d_Reader_readInto_12 rfl rfl ?_
  refine z_iconst (v := 0) d_Reader_readInto_13 (by decide) ?_
  refine pf_Reader_at zl_3 d_Reader_readInto_14 q_151 ?_
  refine z_aload_n 0 d_Reader_readInto_17 rfl rfl ?_
  obtain ⟨⟨v5, s6⟩, e7, h⟩ := zbd_i h
  refine w_callV (As := []) (kc := 18) (ci := 8) (c_Reader_readClause l θ e7) cf_Reader_readClause q_437 d_Reader_readInto_18 zl_3 rfl rfl rfl rfl rfl rfl (Nat.le_of_ble_eq_true rfl) rfl rfl ⟨Nat.le_of_ble_eq_true rfl, Nat.le_of_ble_eq_true rfl⟩ ?_
  refine z_istore_n d_Reader_readInto_21 rfl (by decide) rfl ?_
  refine z_iconst (v := 1) d_Reader_readInto_22 (by decide) ?_
  refine z_istore_n d_Reader_readInto_23 rfl (by decide) rfl ?_
  refine z_sub [2, 1, 0] rfl ?_
  exact zl_Reader_readInto_24 2000 (v5, (1 : Int32), s6) h
theorem d_BB_kiln_0 : decode b_BB_kiln 0 = .ok (.aload_n 0, 1) := by decide +kernel
theorem d_BB_kiln_1 : decode b_BB_kiln 1 = .ok (.getfield 151, 3) := by decide +kernel
theorem d_BB_kiln_4 : decode b_BB_kiln 4 = .ok (.bipush (6), 2) := by decide +kernel
theorem d_BB_kiln_6 : decode b_BB_kiln 6 = .ok (.if_icmp .lt (6), 3) := by decide +kernel
theorem d_BB_kiln_9 : decode b_BB_kiln 9 = .ok (.bipush (-4), 2) := by decide +kernel
theorem d_BB_kiln_11 : decode b_BB_kiln 11 = .ok (.ireturn, 1) := by decide +kernel
theorem d_BB_kiln_12 : decode b_BB_kiln 12 = .ok (.aload_n 0, 1) := by decide +kernel
theorem d_BB_kiln_13 : decode b_BB_kiln 13 = .ok (.getfield 24, 3) := by decide +kernel
theorem d_BB_kiln_16 : decode b_BB_kiln 16 = .ok (.aload_n 0, 1) := by decide +kernel
theorem d_BB_kiln_17 : decode b_BB_kiln 17 = .ok (.getfield 30, 3) := by decide +kernel
theorem d_BB_kiln_20 : decode b_BB_kiln 20 = .ok (.aload_n 0, 1) := by decide +kernel
theorem d_BB_kiln_21 : decode b_BB_kiln 21 = .ok (.getfield 151, 3) := by decide +kernel
theorem d_BB_kiln_24 : decode b_BB_kiln 24 = .ok (.aaload, 1) := by decide +kernel
theorem d_BB_kiln_25 : decode b_BB_kiln 25 = .ok (.invokevirtual 154, 3) := by decide +kernel
theorem d_BB_kiln_28 : decode b_BB_kiln 28 = .ok (.istore_n 1, 1) := by decide +kernel
theorem d_BB_kiln_29 : decode b_BB_kiln 29 = .ok (.iload_n 1, 1) := by decide +kernel
theorem d_BB_kiln_30 : decode b_BB_kiln 30 = .ok (.ifCond .lt (8), 3) := by decide +kernel
theorem d_BB_kiln_33 : decode b_BB_kiln 33 = .ok (.bipush (-10), 2) := by decide +kernel
theorem d_BB_kiln_35 : decode b_BB_kiln 35 = .ok (.iload_n 1, 1) := by decide +kernel
theorem d_BB_kiln_36 : decode b_BB_kiln 36 = .ok (.isub, 1) := by decide +kernel
theorem d_BB_kiln_37 : decode b_BB_kiln 37 = .ok (.ireturn, 1) := by decide +kernel
theorem d_BB_kiln_38 : decode b_BB_kiln 38 = .ok (.aload_n 0, 1) := by decide +kernel
theorem d_BB_kiln_39 : decode b_BB_kiln 39 = .ok (.getfield 12, 3) := by decide +kernel
theorem d_BB_kiln_42 : decode b_BB_kiln 42 = .ok (.aload_n 0, 1) := by decide +kernel
theorem d_BB_kiln_43 : decode b_BB_kiln 43 = .ok (.getfield 151, 3) := by decide +kernel
theorem d_BB_kiln_46 : decode b_BB_kiln 46 = .ok (.putfield 158, 3) := by decide +kernel
theorem d_BB_kiln_49 : decode b_BB_kiln 49 = .ok (.aload_n 0, 1) := by decide +kernel
theorem d_BB_kiln_50 : decode b_BB_kiln 50 = .ok (.getfield 44, 3) := by decide +kernel
theorem d_BB_kiln_53 : decode b_BB_kiln 53 = .ok (.aload_n 0, 1) := by decide +kernel
theorem d_BB_kiln_54 : decode b_BB_kiln 54 = .ok (.getfield 30, 3) := by decide +kernel
theorem d_BB_kiln_57 : decode b_BB_kiln 57 = .ok (.aload_n 0, 1) := by decide +kernel
theorem d_BB_kiln_58 : decode b_BB_kiln 58 = .ok (.getfield 151, 3) := by decide +kernel
theorem d_BB_kiln_61 : decode b_BB_kiln 61 = .ok (.aaload, 1) := by decide +kernel
theorem d_BB_kiln_62 : decode b_BB_kiln 62 = .ok (.putfield 161, 3) := by decide +kernel
theorem d_BB_kiln_65 : decode b_BB_kiln 65 = .ok (.aload_n 0, 1) := by decide +kernel
theorem d_BB_kiln_66 : decode b_BB_kiln 66 = .ok (.dup, 1) := by decide +kernel
theorem d_BB_kiln_67 : decode b_BB_kiln 67 = .ok (.getfield 151, 3) := by decide +kernel
theorem d_BB_kiln_70 : decode b_BB_kiln 70 = .ok (.iconst (1), 1) := by decide +kernel
theorem d_BB_kiln_71 : decode b_BB_kiln 71 = .ok (.iadd, 1) := by decide +kernel
theorem d_BB_kiln_72 : decode b_BB_kiln 72 = .ok (.putfield 151, 3) := by decide +kernel
theorem d_BB_kiln_75 : decode b_BB_kiln 75 = .ok (.aload_n 0, 1) := by decide +kernel
theorem d_BB_kiln_76 : decode b_BB_kiln 76 = .ok (.getfield 12, 3) := by decide +kernel
theorem d_BB_kiln_79 : decode b_BB_kiln 79 = .ok (.getfield 158, 3) := by decide +kernel
theorem d_BB_kiln_82 : decode b_BB_kiln 82 = .ok (.ireturn, 1) := by decide +kernel
theorem c_BB_kiln (l : Launch) (θ : ZT)  {σ : ZM} {res : Int32 × ZM} (h : f_BB_kiln σ = some res) : zMet mkI l 0 129 θ y_BB_kiln b_BB_kiln 2 (some .int) (zrm 33 838) [.ref (za θ 0)] σ res := by
  unfold f_BB_kiln at h
  refine z_met (lv := [(0, .ref (za θ 0))]) (by decide +kernel) rfl (Nat.le_of_ble_eq_true rfl) (by decide) ?_
  refine z_aload_n 0 d_BB_kiln_0 rfl rfl ?_
  refine gf_BB_kilnCount zl_0 d_BB_kiln_1 q_313 ?_
  refine z_bipush (v := 6) d_BB_kiln_4 (by decide) ?_
  refine z_icmp_lt (tgt := 12) d_BB_kiln_6 (by decide) (fun c1 => ?_) (fun c1 => ?_)
  · have h := (if_pos c1).symm.trans h
    refine z_aload_n 0 d_BB_kiln_12 rfl rfl ?_
    refine gf_BB_reader zl_0 d_BB_kiln_13 q_305 ?_
    refine z_aload_n 0 d_BB_kiln_16 rfl rfl ?_
    refine gf_BB_kilns zl_0 d_BB_kiln_17 q_306 ?_
    refine z_aload_n 0 d_BB_kiln_20 rfl rfl ?_
    refine gf_BB_kilnCount zl_0 d_BB_kiln_21 q_313 ?_
    obtain ⟨c2, h⟩ := zck_i h
    refine w_aald5 zl_20 c2 d_BB_kiln_24 ?_
    obtain ⟨c3, h⟩ := zck_i h
    obtain ⟨⟨v4, s5⟩, e6, h⟩ := zbd_i h
    refine w_callV (As := [.ref (za θ (zel 20 (zI σ 0 10).toNatClampNeg))]) (kc := 18) (ci := 8) (c_Reader_readInto l θ e6) cf_Reader_readInto q_429 d_BB_kiln_25 zl_3 rfl rfl rfl rfl rfl rfl (Nat.le_of_ble_eq_true rfl) rfl rfl ⟨Nat.le_of_ble_eq_true rfl, Nat.le_of_ble_eq_true rfl⟩ ?_
    refine z_istore_n d_BB_kiln_28 rfl (by decide) rfl ?_
    refine z_iload_n 0 d_BB_kiln_29 rfl rfl ?_
    refine z_if_lt (tgt := 38) d_BB_kiln_30 (by decide) (fun c7 => ?_) (fun c7 => ?_)
    · have h := (if_pos c7).symm.trans h
      refine z_aload_n 1 d_BB_kiln_38 rfl rfl ?_
      refine gf_BB_now zl_0 d_BB_kiln_39 q_303 ?_
      refine z_aload_n 1 d_BB_kiln_42 rfl rfl ?_
      refine gf_BB_kilnCount zl_0 d_BB_kiln_43 q_313 ?_
      refine pf_Stand_holding zl_1 d_BB_kiln_46 q_130 ?_
      refine z_aload_n 1 d_BB_kiln_49 rfl rfl ?_
      refine gf_BB_baker zl_0 d_BB_kiln_50 q_308 ?_
      refine z_aload_n 1 d_BB_kiln_53 rfl rfl ?_
      refine gf_BB_kilns zl_0 d_BB_kiln_54 q_306 ?_
      refine z_aload_n 1 d_BB_kiln_57 rfl rfl ?_
      refine gf_BB_kilnCount zl_0 d_BB_kiln_58 q_313 ?_
      obtain ⟨c8, h⟩ := zck_i h
      refine w_aald5 zl_20 c8 d_BB_kiln_61 ?_
      obtain ⟨c9, h⟩ := zck_i h
      refine pf_Baker_kiln zl_5 c9 d_BB_kiln_62 q_210 ?_
      refine z_aload_n 1 d_BB_kiln_65 rfl rfl ?_
      refine z_dup d_BB_kiln_66 rfl ?_
      refine gf_BB_kilnCount zl_0 d_BB_kiln_67 q_313 ?_
      refine z_iconst (v := 1) d_BB_kiln_70 (by decide) ?_
      refine z_iadd d_BB_kiln_71 ?_
      refine pf_BB_kilnCount zl_0 d_BB_kiln_72 q_313 ?_
      refine z_aload_n 1 d_BB_kiln_75 rfl rfl ?_
      refine gf_BB_now zl_0 d_BB_kiln_76 q_303 ?_
      refine gf_Stand_holding zl_1 d_BB_kiln_79 q_130 ?_
      exact z_iret d_BB_kiln_82 h
    · have h := (if_neg c7).symm.trans h
      refine z_bipush (v := -10) d_BB_kiln_33 (by decide) ?_
      refine z_iload_n 0 d_BB_kiln_35 rfl rfl ?_
      refine z_isub d_BB_kiln_36 ?_
      exact z_iret d_BB_kiln_37 h
  · have h := (if_neg c1).symm.trans h
    refine z_bipush (v := -4) d_BB_kiln_9 (by decide) ?_
    exact z_iret d_BB_kiln_11 h
theorem d_BB_told_0 : decode b_BB_told 0 = .ok (.iload_n 1, 1) := by decide +kernel
theorem d_BB_told_1 : decode b_BB_told 1 = .ok (.invokestatic 96, 3) := by decide +kernel
theorem d_BB_told_4 : decode b_BB_told 4 = .ok (.ifCond .eq (16), 3) := by decide +kernel
theorem d_BB_told_7 : decode b_BB_told 7 = .ok (.aload_n 0, 1) := by decide +kernel
theorem d_BB_told_8 : decode b_BB_told 8 = .ok (.getfield 12, 3) := by decide +kernel
theorem d_BB_told_11 : decode b_BB_told 11 = .ok (.getfield 112, 3) := by decide +kernel
theorem d_BB_told_14 : decode b_BB_told 14 = .ok (.getfield 144, 3) := by decide +kernel
theorem d_BB_told_17 : decode b_BB_told 17 = .ok (.iload_n 1, 1) := by decide +kernel
theorem d_BB_told_18 : decode b_BB_told 18 = .ok (.iaload, 1) := by decide +kernel
theorem d_BB_told_19 : decode b_BB_told 19 = .ok (.ireturn, 1) := by decide +kernel
theorem d_BB_told_20 : decode b_BB_told 20 = .ok (.iload_n 1, 1) := by decide +kernel
theorem d_BB_told_21 : decode b_BB_told 21 = .ok (.iconst (4), 1) := by decide +kernel
theorem d_BB_told_22 : decode b_BB_told 22 = .ok (.if_icmp .ne (14), 3) := by decide +kernel
theorem d_BB_told_25 : decode b_BB_told 25 = .ok (.aload_n 0, 1) := by decide +kernel
theorem d_BB_told_26 : decode b_BB_told 26 = .ok (.getfield 12, 3) := by decide +kernel
theorem d_BB_told_29 : decode b_BB_told 29 = .ok (.getfield 112, 3) := by decide +kernel
theorem d_BB_told_32 : decode b_BB_told 32 = .ok (.getfield 116, 3) := by decide +kernel
theorem d_BB_told_35 : decode b_BB_told 35 = .ok (.ireturn, 1) := by decide +kernel
theorem d_BB_told_36 : decode b_BB_told 36 = .ok (.iload_n 1, 1) := by decide +kernel
theorem d_BB_told_37 : decode b_BB_told 37 = .ok (.iconst (5), 1) := by decide +kernel
theorem d_BB_told_38 : decode b_BB_told 38 = .ok (.if_icmp .ne (16), 3) := by decide +kernel
theorem d_BB_told_41 : decode b_BB_told 41 = .ok (.aload_n 0, 1) := by decide +kernel
theorem d_BB_told_42 : decode b_BB_told 42 = .ok (.getfield 44, 3) := by decide +kernel
theorem d_BB_told_45 : decode b_BB_told 45 = .ok (.getfield 161, 3) := by decide +kernel
theorem d_BB_told_48 : decode b_BB_told 48 = .ok (.getfield 164, 3) := by decide +kernel
theorem d_BB_told_51 : decode b_BB_told 51 = .ok (.goto (4), 3) := by decide +kernel
theorem d_BB_told_54 : decode b_BB_told 54 = .ok (.iconst (-1), 1) := by decide +kernel
theorem d_BB_told_55 : decode b_BB_told 55 = .ok (.ireturn, 1) := by decide +kernel
theorem c_BB_told (l : Launch) (θ : ZT) {x1 : Int32} {σ : ZM} {res : Int32 × ZM} (h : f_BB_told x1 σ = some res) : zMet mkI l 0 129 θ y_BB_told b_BB_told 2 (some .int) (zrm 2 80) [.ref (za θ 0), .int x1] σ res := by
  unfold f_BB_told at h
  refine z_met (lv := [(0, .ref (za θ 0)), (1, .int x1)]) (by decide +kernel) rfl (Nat.le_of_ble_eq_true rfl) (by decide) ?_
  refine z_iload_n 1 d_BB_told_0 rfl rfl ?_
  obtain ⟨⟨v1, s2⟩, e3, h⟩ := zbd_i h
  refine w_callS (As := [.int x1]) (c_BB_isTaste l θ e3) cf_BB_isTaste q_356 d_BB_told_1 rfl rfl rfl (Nat.le_of_ble_eq_true rfl) rfl rfl ⟨Nat.le_of_ble_eq_true rfl, Nat.le_of_ble_eq_true rfl⟩ ?_
  refine z_if_eq (tgt := 20) d_BB_told_4 (by decide) (fun c4 => ?_) (fun c4 => ?_)
  · have h := (if_pos c4).symm.trans h
    refine z_iload_n 1 d_BB_told_20 rfl rfl ?_
    refine z_iconst (v := 4) d_BB_told_21 (by decide) ?_
    refine z_icmp_ne (tgt := 36) d_BB_told_22 (by decide) (fun c5 => ?_) (fun c5 => ?_)
    · have h := (if_neg c5).symm.trans h
      refine z_iload_n 1 d_BB_told_36 rfl rfl ?_
      refine z_iconst (v := 5) d_BB_told_37 (by decide) ?_
      refine z_icmp_ne (tgt := 54) d_BB_told_38 (by decide) (fun c6 => ?_) (fun c6 => ?_)
      · have h := (if_neg c6).symm.trans h
        refine z_iconst (v := -1) d_BB_told_54 (by decide) ?_
        exact z_iret d_BB_told_55 h
      · have h := (if_pos c6).symm.trans h
        refine z_aload_n 0 d_BB_told_41 rfl rfl ?_
        refine gf_BB_baker zl_0 d_BB_told_42 q_308 ?_
        obtain ⟨c7, h⟩ := zck_i h
        refine gf_Baker_kiln zl_5 c7 d_BB_told_45 q_210 ?_
        refine gf_Kiln_coldPart c7 d_BB_told_48 q_183 ?_
        refine z_goto (tgt := 55) d_BB_told_51 (by decide) ?_
        exact z_iret d_BB_told_55 h
    · have h := (if_pos c5).symm.trans h
      refine z_aload_n 0 d_BB_told_25 rfl rfl ?_
      refine gf_BB_now zl_0 d_BB_told_26 q_303 ?_
      refine gf_Stand_oven (o2 := 33) zl_1 rfl d_BB_told_29 q_121 ?_
      refine gf_Oven_hour zl_33 d_BB_told_32 q_50 ?_
      exact z_iret d_BB_told_35 h
  · have h := (if_neg c4).symm.trans h
    refine z_aload_n 0 d_BB_told_7 rfl rfl ?_
    refine gf_BB_now zl_0 d_BB_told_8 q_303 ?_
    refine gf_Stand_oven (o2 := 33) zl_1 rfl d_BB_told_11 q_121 ?_
    refine gf_Oven_held (o2 := 42) zl_33 rfl d_BB_told_14 q_45 ?_
    refine z_iload_n 1 d_BB_told_17 rfl rfl ?_
    obtain ⟨c8, h⟩ := zck_i h
    refine w_iald zl_42 c8 d_BB_told_18 ?_
    exact z_iret d_BB_told_19 h
theorem d_Oven_strike_0 : decode b_Oven_strike 0 = .ok (.aload_n 0, 1) := by decide +kernel
theorem d_Oven_strike_1 : decode b_Oven_strike 1 = .ok (.sipush (9999), 3) := by decide +kernel
theorem d_Oven_strike_4 : decode b_Oven_strike 4 = .ok (.aload_n 0, 1) := by decide +kernel
theorem d_Oven_strike_5 : decode b_Oven_strike 5 = .ok (.getfield 15, 3) := by decide +kernel
theorem d_Oven_strike_8 : decode b_Oven_strike 8 = .ok (.iconst (1), 1) := by decide +kernel
theorem d_Oven_strike_9 : decode b_Oven_strike 9 = .ok (.iadd, 1) := by decide +kernel
theorem d_Oven_strike_10 : decode b_Oven_strike 10 = .ok (.invokestatic 19, 3) := by decide +kernel
theorem d_Oven_strike_13 : decode b_Oven_strike 13 = .ok (.putfield 15, 3) := by decide +kernel
theorem d_Oven_strike_16 : decode b_Oven_strike 16 = .ok (.return_, 1) := by decide +kernel
theorem c_Oven_strike (l : Launch) (θ : ZT) {x0 : Nat} {σ : ZM} {res : Unit × ZM} (h : f_Oven_strike x0 σ = some res) : zMet mkV l 0 129 θ y_Oven_strike b_Oven_strike 1 none (zrm 2 60) [.ref (za θ x0)] σ res := by
  unfold f_Oven_strike at h
  obtain ⟨hx0, h⟩ := zck_i h
  refine z_met (lv := [(0, .ref (za θ x0))]) (by decide +kernel) rfl (Nat.le_of_ble_eq_true rfl) (by decide) ?_
  refine z_aload_n 0 d_Oven_strike_0 rfl rfl ?_
  refine z_sipush (v := 9999) d_Oven_strike_1 (by decide) ?_
  refine z_aload_n 0 d_Oven_strike_4 rfl rfl ?_
  refine gf_Oven_hour hx0 d_Oven_strike_5 q_48 ?_
  refine z_iconst (v := 1) d_Oven_strike_8 (by decide) ?_
  refine z_iadd d_Oven_strike_9 ?_
  refine z_mmin d_Oven_strike_10 q_563 q_396 q_14 q_397 (by decide) (Nat.le_of_ble_eq_true rfl) ?_
  refine pf_Oven_hour hx0 d_Oven_strike_13 q_48 ?_
  exact z_vret d_Oven_strike_16 h
theorem d_Baker_bakeIn_0 : decode b_Baker_bakeIn 0 = .ok (.iconst (0), 1) := by decide +kernel
theorem d_Baker_bakeIn_1 : decode b_Baker_bakeIn 1 = .ok (.istore_n 3, 1) := by decide +kernel
theorem d_Baker_bakeIn_2 : decode b_Baker_bakeIn 2 = .ok (.iconst (0), 1) := by decide +kernel
theorem d_Baker_bakeIn_3 : decode b_Baker_bakeIn 3 = .ok (.istore 4, 2) := by decide +kernel
theorem d_Baker_bakeIn_5 : decode b_Baker_bakeIn 5 = .ok (.iload 4, 2) := by decide +kernel
theorem d_Baker_bakeIn_7 : decode b_Baker_bakeIn 7 = .ok (.iconst (4), 1) := by decide +kernel
theorem d_Baker_bakeIn_8 : decode b_Baker_bakeIn 8 = .ok (.if_icmp .ge (77), 3) := by decide +kernel
theorem d_Baker_bakeIn_11 : decode b_Baker_bakeIn 11 = .ok (.aload_n 0, 1) := by decide +kernel
theorem d_Baker_bakeIn_12 : decode b_Baker_bakeIn 12 = .ok (.aload_n 2, 1) := by decide +kernel
theorem d_Baker_bakeIn_13 : decode b_Baker_bakeIn 13 = .ok (.iload 4, 2) := by decide +kernel
theorem d_Baker_bakeIn_15 : decode b_Baker_bakeIn 15 = .ok (.aload_n 1, 1) := by decide +kernel
theorem d_Baker_bakeIn_16 : decode b_Baker_bakeIn 16 = .ok (.invokevirtual 65, 3) := by decide +kernel
theorem d_Baker_bakeIn_19 : decode b_Baker_bakeIn 19 = .ok (.istore 5, 2) := by decide +kernel
theorem d_Baker_bakeIn_21 : decode b_Baker_bakeIn 21 = .ok (.aload_n 0, 1) := by decide +kernel
theorem d_Baker_bakeIn_22 : decode b_Baker_bakeIn 22 = .ok (.aload_n 2, 1) := by decide +kernel
theorem d_Baker_bakeIn_23 : decode b_Baker_bakeIn 23 = .ok (.iload 4, 2) := by decide +kernel
theorem d_Baker_bakeIn_25 : decode b_Baker_bakeIn 25 = .ok (.aload_n 1, 1) := by decide +kernel
theorem d_Baker_bakeIn_26 : decode b_Baker_bakeIn 26 = .ok (.invokevirtual 72, 3) := by decide +kernel
theorem d_Baker_bakeIn_29 : decode b_Baker_bakeIn 29 = .ok (.istore 6, 2) := by decide +kernel
theorem d_Baker_bakeIn_31 : decode b_Baker_bakeIn 31 = .ok (.aload_n 1, 1) := by decide +kernel
theorem d_Baker_bakeIn_32 : decode b_Baker_bakeIn 32 = .ok (.getfield 50, 3) := by decide +kernel
theorem d_Baker_bakeIn_35 : decode b_Baker_bakeIn 35 = .ok (.iload 4, 2) := by decide +kernel
theorem d_Baker_bakeIn_37 : decode b_Baker_bakeIn 37 = .ok (.sipush (9999), 3) := by decide +kernel
theorem d_Baker_bakeIn_40 : decode b_Baker_bakeIn 40 = .ok (.aload_n 1, 1) := by decide +kernel
theorem d_Baker_bakeIn_41 : decode b_Baker_bakeIn 41 = .ok (.getfield 50, 3) := by decide +kernel
theorem d_Baker_bakeIn_44 : decode b_Baker_bakeIn 44 = .ok (.iload 4, 2) := by decide +kernel
theorem d_Baker_bakeIn_46 : decode b_Baker_bakeIn 46 = .ok (.iaload, 1) := by decide +kernel
theorem d_Baker_bakeIn_47 : decode b_Baker_bakeIn 47 = .ok (.iload 5, 2) := by decide +kernel
theorem d_Baker_bakeIn_49 : decode b_Baker_bakeIn 49 = .ok (.isub, 1) := by decide +kernel
theorem d_Baker_bakeIn_50 : decode b_Baker_bakeIn 50 = .ok (.iload 6, 2) := by decide +kernel
theorem d_Baker_bakeIn_52 : decode b_Baker_bakeIn 52 = .ok (.iadd, 1) := by decide +kernel
theorem d_Baker_bakeIn_53 : decode b_Baker_bakeIn 53 = .ok (.invokestatic 38, 3) := by decide +kernel
theorem d_Baker_bakeIn_56 : decode b_Baker_bakeIn 56 = .ok (.iastore, 1) := by decide +kernel
theorem d_Baker_bakeIn_57 : decode b_Baker_bakeIn 57 = .ok (.iload_n 3, 1) := by decide +kernel
theorem d_Baker_bakeIn_58 : decode b_Baker_bakeIn 58 = .ok (.ifCond .ne (15), 3) := by decide +kernel
theorem d_Baker_bakeIn_61 : decode b_Baker_bakeIn 61 = .ok (.iload 5, 2) := by decide +kernel
theorem d_Baker_bakeIn_63 : decode b_Baker_bakeIn 63 = .ok (.aload_n 2, 1) := by decide +kernel
theorem d_Baker_bakeIn_64 : decode b_Baker_bakeIn 64 = .ok (.getfield 34, 3) := by decide +kernel
theorem d_Baker_bakeIn_67 : decode b_Baker_bakeIn 67 = .ok (.iload 4, 2) := by decide +kernel
theorem d_Baker_bakeIn_69 : decode b_Baker_bakeIn 69 = .ok (.iaload, 1) := by decide +kernel
theorem d_Baker_bakeIn_70 : decode b_Baker_bakeIn 70 = .ok (.if_icmp .le (7), 3) := by decide +kernel
theorem d_Baker_bakeIn_73 : decode b_Baker_bakeIn 73 = .ok (.iconst (1), 1) := by decide +kernel
theorem d_Baker_bakeIn_74 : decode b_Baker_bakeIn 74 = .ok (.goto (4), 3) := by decide +kernel
theorem d_Baker_bakeIn_77 : decode b_Baker_bakeIn 77 = .ok (.iconst (0), 1) := by decide +kernel
theorem d_Baker_bakeIn_78 : decode b_Baker_bakeIn 78 = .ok (.istore_n 3, 1) := by decide +kernel
theorem d_Baker_bakeIn_79 : decode b_Baker_bakeIn 79 = .ok (.iinc 4 (1), 3) := by decide +kernel
theorem d_Baker_bakeIn_82 : decode b_Baker_bakeIn 82 = .ok (.goto (-77), 3) := by decide +kernel
theorem d_Baker_bakeIn_85 : decode b_Baker_bakeIn 85 = .ok (.aload_n 1, 1) := by decide +kernel
theorem d_Baker_bakeIn_86 : decode b_Baker_bakeIn 86 = .ok (.invokevirtual 75, 3) := by decide +kernel
theorem d_Baker_bakeIn_89 : decode b_Baker_bakeIn 89 = .ok (.iload_n 3, 1) := by decide +kernel
theorem d_Baker_bakeIn_90 : decode b_Baker_bakeIn 90 = .ok (.ireturn, 1) := by decide +kernel
theorem zb_Baker_bakeIn_78 {l : Launch} {θ : ZT} {res : Int32 × ZM} {k5 : Nat × Nat × Int32 × Int32 × ZM → Option (Int32 × ZM)} (hk5 : ∀ a : Nat × Nat × Int32 × Int32 × ZM, zR 0 129 a.1 17 0 = true → zR 0 129 a.2.1 16 0 = true → k5 a = some res → WZ l b_Baker_bakeIn 7 (some .boolean) "BakedBefore$Bake\x72" 0 129 θ (zrm 5 164) (zQ mkI 0 129 θ res) a.2.2.2.2 [(0, .ref (za θ 5)), (1, .ref (za θ a.1)), (2, .ref (za θ a.2.1)), (3, .int a.2.2.1), (4, .int a.2.2.2.1)] 5 []) {x1 : Nat} {x2 : Nat} {x4 : Int32} {y0 : Int32} {σ : ZM} (hx1 : zR 0 129 x1 17 0 = true) (hx2 : zR 0 129 x2 16 0 = true) (h : f_Baker_bakeIn_78 k5 x1 x2 x4 y0 σ = some res) : WZ l b_Baker_bakeIn 7 (some .boolean) "BakedBefore$Bake\x72" 0 129 θ (zrm 5 164) (zQ mkI 0 129 θ res) σ [(0, .ref (za θ 5)), (1, .ref (za θ x1)), (2, .ref (za θ x2)), (4, .int x4)] 78 [.int y0] := by
  unfold f_Baker_bakeIn_78 at h
  refine z_istore_n d_Baker_bakeIn_78 rfl (by decide) rfl ?_
  refine z_iinc (v := x4 + (1 : Int32)) 4 d_Baker_bakeIn_79 rfl rfl (by decide) rfl ?_
  refine z_goto (tgt := 5) d_Baker_bakeIn_82 (by decide) ?_
  refine z_sub [2, 3, 4, 1, 0] rfl ?_
  exact hk5 (x1, x2, y0, (x4 + (1 : Int32)), σ) hx1 hx2 h
theorem zb_Baker_bakeIn_73 {l : Launch} {θ : ZT} {res : Int32 × ZM} {k5 : Nat × Nat × Int32 × Int32 × ZM → Option (Int32 × ZM)} (hk5 : ∀ a : Nat × Nat × Int32 × Int32 × ZM, zR 0 129 a.1 17 0 = true → zR 0 129 a.2.1 16 0 = true → k5 a = some res → WZ l b_Baker_bakeIn 7 (some .boolean) "BakedBefore$Bake\x72" 0 129 θ (zrm 5 164) (zQ mkI 0 129 θ res) a.2.2.2.2 [(0, .ref (za θ 5)), (1, .ref (za θ a.1)), (2, .ref (za θ a.2.1)), (3, .int a.2.2.1), (4, .int a.2.2.2.1)] 5 []) {x1 : Nat} {x2 : Nat} {x4 : Int32} {σ : ZM} (hx1 : zR 0 129 x1 17 0 = true) (hx2 : zR 0 129 x2 16 0 = true) (h : f_Baker_bakeIn_73 k5 x1 x2 x4 σ = some res) : WZ l b_Baker_bakeIn 7 (some .boolean) "BakedBefore$Bake\x72" 0 129 θ (zrm 5 164) (zQ mkI 0 129 θ res) σ [(0, .ref (za θ 5)), (1, .ref (za θ x1)), (2, .ref (za θ x2)), (4, .int x4)] 73 [] := by
  unfold f_Baker_bakeIn_73 at h
  refine z_iconst (v := 1) d_Baker_bakeIn_73 (by decide) ?_
  refine z_goto (tgt := 78) d_Baker_bakeIn_74 (by decide) ?_
  exact zb_Baker_bakeIn_78 hk5 hx1 hx2 h
theorem zb_Baker_bakeIn_5 {l : Launch} {θ : ZT} {res : Int32 × ZM} {k5 : Nat × Nat × Int32 × Int32 × ZM → Option (Int32 × ZM)} (hk5 : ∀ a : Nat × Nat × Int32 × Int32 × ZM, zR 0 129 a.1 17 0 = true → zR 0 129 a.2.1 16 0 = true → k5 a = some res → WZ l b_Baker_bakeIn 7 (some .boolean) "BakedBefore$Bake\x72" 0 129 θ (zrm 5 164) (zQ mkI 0 129 θ res) a.2.2.2.2 [(0, .ref (za θ 5)), (1, .ref (za θ a.1)), (2, .ref (za θ a.2.1)), (3, .int a.2.2.1), (4, .int a.2.2.2.1)] 5 []) {x1 : Nat} {x2 : Nat} {x3 : Int32} {x4 : Int32} {σ : ZM} (hx1 : zR 0 129 x1 17 0 = true) (hx2 : zR 0 129 x2 16 0 = true) (h : f_Baker_bakeIn_5 k5 x1 x2 x3 x4 σ = some res) : WZ l b_Baker_bakeIn 7 (some .boolean) "BakedBefore$Bake\x72" 0 129 θ (zrm 5 164) (zQ mkI 0 129 θ res) σ [(0, .ref (za θ 5)), (1, .ref (za θ x1)), (2, .ref (za θ x2)), (3, .int x3), (4, .int x4)] 5 [] := by
  unfold f_Baker_bakeIn_5 at h
  refine z_iload 4 d_Baker_bakeIn_5 rfl ?_
  refine z_iconst (v := 4) d_Baker_bakeIn_7 (by decide) ?_
  refine z_icmp_ge (tgt := 85) d_Baker_bakeIn_8 (by decide) (fun c1 => ?_) (fun c1 => ?_)
  · have h := (if_pos c1).symm.trans h
    refine z_aload_n 1 d_Baker_bakeIn_85 rfl rfl ?_
    obtain ⟨⟨v2, s3⟩, e4, h⟩ := zbd_i h
    refine w_callV (As := []) (kc := 17) (ci := 7) (c_Oven_strike l θ e4) cf_Oven_strike q_559 d_Baker_bakeIn_86 hx1 rfl rfl rfl rfl rfl rfl (Nat.le_of_ble_eq_true rfl) rfl rfl ⟨Nat.le_of_ble_eq_true rfl, Nat.le_of_ble_eq_true rfl⟩ ?_
    refine z_iload_n 3 d_Baker_bakeIn_89 rfl rfl ?_
    obtain ⟨c5, h⟩ := zck_i h
    exact z_zret d_Baker_bakeIn_90 c5 h
  · have h := (if_neg c1).symm.trans h
    refine z_aload_n 0 d_Baker_bakeIn_11 rfl rfl ?_
    refine z_aload_n 2 d_Baker_bakeIn_12 rfl rfl ?_
    refine z_iload 4 d_Baker_bakeIn_13 rfl ?_
    refine z_aload_n 1 d_Baker_bakeIn_15 rfl rfl ?_
    obtain ⟨⟨v6, s7⟩, e8, h⟩ := zbd_i h
    refine w_callV (As := [.ref (za θ x2), .int x4, .ref (za θ x1)]) (kc := 13) (ci := 3) (c_Baker_takes l θ e8) cf_Baker_takes q_384 d_Baker_bakeIn_16 zl_5 rfl rfl rfl rfl rfl rfl (Nat.le_of_ble_eq_true rfl) rfl rfl ⟨Nat.le_of_ble_eq_true rfl, Nat.le_of_ble_eq_true rfl⟩ ?_
    refine z_istore d_Baker_bakeIn_19 (by decide) rfl ?_
    refine z_aload_n 1 d_Baker_bakeIn_21 rfl rfl ?_
    refine z_aload_n 3 d_Baker_bakeIn_22 rfl rfl ?_
    refine z_iload 5 d_Baker_bakeIn_23 rfl ?_
    refine z_aload_n 2 d_Baker_bakeIn_25 rfl rfl ?_
    obtain ⟨⟨v9, s10⟩, e11, h⟩ := zbd_i h
    refine w_callV (As := [.ref (za θ x2), .int x4, .ref (za θ x1)]) (kc := 13) (ci := 3) (c_Baker_leaves l θ e11) cf_Baker_leaves q_558 d_Baker_bakeIn_26 zl_5 rfl rfl rfl rfl rfl rfl (Nat.le_of_ble_eq_true rfl) rfl rfl ⟨Nat.le_of_ble_eq_true rfl, Nat.le_of_ble_eq_true rfl⟩ ?_
    refine z_istore d_Baker_bakeIn_29 (by decide) rfl ?_
    refine z_aload_n 3 d_Baker_bakeIn_31 rfl rfl ?_
    refine gf_Oven_held (o2 := x1 + 9) hx1 rfl d_Baker_bakeIn_32 q_44 ?_
    refine z_iload 6 d_Baker_bakeIn_35 rfl ?_
    refine z_sipush (v := 9999) d_Baker_bakeIn_37 (by decide) ?_
    refine z_aload_n 3 d_Baker_bakeIn_40 rfl rfl ?_
    refine gf_Oven_held (o2 := x1 + 9) hx1 rfl d_Baker_bakeIn_41 q_44 ?_
    refine z_iload 6 d_Baker_bakeIn_44 rfl ?_
    obtain ⟨c12, h⟩ := zck_i h
    refine w_iald (zr_Oven_held hx1) c12 d_Baker_bakeIn_46 ?_
    refine z_iload 1 d_Baker_bakeIn_47 rfl ?_
    refine z_isub d_Baker_bakeIn_49 ?_
    refine z_iload 0 d_Baker_bakeIn_50 rfl ?_
    refine z_iadd d_Baker_bakeIn_52 ?_
    refine z_mmin d_Baker_bakeIn_53 q_395 q_396 q_14 q_397 (by decide) (Nat.le_of_ble_eq_true rfl) ?_
    obtain ⟨c13, h⟩ := zck_i h
    refine w_iast (zr_Oven_held hx1) c13 d_Baker_bakeIn_56 ?_
    refine z_iload_n 5 d_Baker_bakeIn_57 rfl rfl ?_
    refine z_if_ne (tgt := 73) d_Baker_bakeIn_58 (by decide) (fun c14 => ?_) (fun c14 => ?_)
    · have h := (if_neg c14).symm.trans h
      refine z_sub [2, 3, 4, 6] rfl ?_
      exact zb_Baker_bakeIn_73 hk5 hx1 hx2 h
    · have h := (if_pos c14).symm.trans h
      refine z_iload 1 d_Baker_bakeIn_61 rfl ?_
      refine z_aload_n 4 d_Baker_bakeIn_63 rfl rfl ?_
      refine gf_Loaf_bears (o2 := x2 + 24) hx2 rfl d_Baker_bakeIn_64 q_92 ?_
      refine z_iload 6 d_Baker_bakeIn_67 rfl ?_
      obtain ⟨c15, h⟩ := zck_i h
      refine w_iald (zr_Loaf_bears hx2) c15 d_Baker_bakeIn_69 ?_
      refine z_icmp_le (tgt := 77) d_Baker_bakeIn_70 (by decide) (fun c16 => ?_) (fun c16 => ?_)
      · have h := (if_pos c16).symm.trans h
        refine z_iconst (v := 0) d_Baker_bakeIn_77 (by decide) ?_
        refine z_sub [2, 3, 4, 6] rfl ?_
        exact zb_Baker_bakeIn_78 hk5 hx1 hx2 h
      · have h := (if_neg c16).symm.trans h
        refine z_sub [2, 3, 4, 6] rfl ?_
        exact zb_Baker_bakeIn_73 hk5 hx1 hx2 h
theorem zl_Baker_bakeIn_5 {l : Launch} {θ : ZT} {res : Int32 × ZM} : ∀ (N : Nat) (a : Nat × Nat × Int32 × Int32 × ZM), zR 0 129 a.1 17 0 = true → zR 0 129 a.2.1 16 0 = true → F_Baker_bakeIn_5 N a = some res → WZ l b_Baker_bakeIn 7 (some .boolean) "BakedBefore$Bake\x72" 0 129 θ (zrm 5 164) (zQ mkI 0 129 θ res) a.2.2.2.2 [(0, .ref (za θ 5)), (1, .ref (za θ a.1)), (2, .ref (za θ a.2.1)), (3, .int a.2.2.1), (4, .int a.2.2.2.1)] 5 [] := by
  intro N
  induction N with
  | zero => intro a hx1 hx2 h; cases (show (none : Option (Int32 × ZM)) = some res from h)
  | succ N ih => intro a hx1 hx2 h; exact zb_Baker_bakeIn_5 ih hx1 hx2 (show f_Baker_bakeIn_5 (F_Baker_bakeIn_5 N) a.1 a.2.1 a.2.2.1 a.2.2.2.1 a.2.2.2.2 = some res from h)
theorem c_Baker_bakeIn (l : Launch) (θ : ZT) {x1 : Nat} {x2 : Nat} {σ : ZM} {res : Int32 × ZM} (h : f_Baker_bakeIn x1 x2 σ = some res) : zMet mkI l 0 129 θ y_Baker_bakeIn b_Baker_bakeIn 7 (some .boolean) (zrm 5 164) [.ref (za θ 5), .ref (za θ x1), .ref (za θ x2)] σ res := by
  unfold f_Baker_bakeIn at h
  obtain ⟨hx1, h⟩ := zck_i h
  obtain ⟨hx2, h⟩ := zck_i h
  refine z_met (lv := [(0, .ref (za θ 5)), (1, .ref (za θ x1)), (2, .ref (za θ x2))]) (by decide +kernel) rfl (Nat.le_of_ble_eq_true rfl) (by decide) ?_
  refine z_iconst (v := 0) d_Baker_bakeIn_0 (by decide) ?_
  refine z_istore_n d_Baker_bakeIn_1 rfl (by decide) rfl ?_
  refine z_iconst (v := 0) d_Baker_bakeIn_2 (by decide) ?_
  refine z_istore d_Baker_bakeIn_3 (by decide) rfl ?_
  refine z_sub [2, 3, 4, 1, 0] rfl ?_
  exact zl_Baker_bakeIn_5 2000 (x1, x2, (0 : Int32), (0 : Int32), σ) hx1 hx2 h
theorem d_BB_bake_0 : decode b_BB_bake 0 = .ok (.aload_n 0, 1) := by decide +kernel
theorem d_BB_bake_1 : decode b_BB_bake 1 = .ok (.iload_n 1, 1) := by decide +kernel
theorem d_BB_bake_2 : decode b_BB_bake 2 = .ok (.invokevirtual 92, 3) := by decide +kernel
theorem d_BB_bake_5 : decode b_BB_bake 5 = .ok (.ifCond .ne (5), 3) := by decide +kernel
theorem d_BB_bake_8 : decode b_BB_bake 8 = .ok (.iconst (-1), 1) := by decide +kernel
theorem d_BB_bake_9 : decode b_BB_bake 9 = .ok (.ireturn, 1) := by decide +kernel
theorem d_BB_bake_10 : decode b_BB_bake 10 = .ok (.aload_n 0, 1) := by decide +kernel
theorem d_BB_bake_11 : decode b_BB_bake 11 = .ok (.getfield 44, 3) := by decide +kernel
theorem d_BB_bake_14 : decode b_BB_bake 14 = .ok (.aload_n 0, 1) := by decide +kernel
theorem d_BB_bake_15 : decode b_BB_bake 15 = .ok (.getfield 12, 3) := by decide +kernel
theorem d_BB_bake_18 : decode b_BB_bake 18 = .ok (.getfield 112, 3) := by decide +kernel
theorem d_BB_bake_21 : decode b_BB_bake 21 = .ok (.aload_n 0, 1) := by decide +kernel
theorem d_BB_bake_22 : decode b_BB_bake 22 = .ok (.getfield 12, 3) := by decide +kernel
theorem d_BB_bake_25 : decode b_BB_bake 25 = .ok (.getfield 82, 3) := by decide +kernel
theorem d_BB_bake_28 : decode b_BB_bake 28 = .ok (.iload_n 1, 1) := by decide +kernel
theorem d_BB_bake_29 : decode b_BB_bake 29 = .ok (.aaload, 1) := by decide +kernel
theorem d_BB_bake_30 : decode b_BB_bake 30 = .ok (.invokevirtual 167, 3) := by decide +kernel
theorem d_BB_bake_33 : decode b_BB_bake 33 = .ok (.invokestatic 129, 3) := by decide +kernel
theorem d_BB_bake_36 : decode b_BB_bake 36 = .ok (.ireturn, 1) := by decide +kernel
theorem c_BB_bake (l : Launch) (θ : ZT) {x1 : Int32} {σ : ZM} {res : Int32 × ZM} (h : f_BB_bake x1 σ = some res) : zMet mkI l 0 129 θ y_BB_bake b_BB_bake 2 (some .int) (zrm 6 190) [.ref (za θ 0), .int x1] σ res := by
  unfold f_BB_bake at h
  refine z_met (lv := [(0, .ref (za θ 0)), (1, .int x1)]) (by decide +kernel) rfl (Nat.le_of_ble_eq_true rfl) (by decide) ?_
  refine z_aload_n 0 d_BB_bake_0 rfl rfl ?_
  refine z_iload_n 1 d_BB_bake_1 rfl rfl ?_
  obtain ⟨⟨v1, s2⟩, e3, h⟩ := zbd_i h
  refine w_callV (As := [.int x1]) (kc := 10) (ci := 0) (c_BB_isLoaf l θ e3) cf_BB_isLoaf q_352 d_BB_bake_2 zl_0 rfl rfl rfl rfl rfl rfl (Nat.le_of_ble_eq_true rfl) rfl rfl ⟨Nat.le_of_ble_eq_true rfl, Nat.le_of_ble_eq_true rfl⟩ ?_
  refine z_if_ne (tgt := 10) d_BB_bake_5 (by decide) (fun c4 => ?_) (fun c4 => ?_)
  · have h := (if_neg c4).symm.trans h
    refine z_aload_n 0 d_BB_bake_10 rfl rfl ?_
    refine gf_BB_baker zl_0 d_BB_bake_11 q_308 ?_
    refine z_aload_n 0 d_BB_bake_14 rfl rfl ?_
    refine gf_BB_now zl_0 d_BB_bake_15 q_303 ?_
    refine gf_Stand_oven (o2 := 33) zl_1 rfl d_BB_bake_18 q_121 ?_
    refine z_aload_n 0 d_BB_bake_21 rfl rfl ?_
    refine gf_BB_now zl_0 d_BB_bake_22 q_303 ?_
    refine gf_Stand_loaves (o2 := 25) zl_1 rfl d_BB_bake_25 q_116 ?_
    refine z_iload_n 1 d_BB_bake_28 rfl rfl ?_
    obtain ⟨c5, h⟩ := zck_i h
    refine w_aald3 zl_25 c5 d_BB_bake_29 ?_
    obtain ⟨c6, h⟩ := zck_i h
    obtain ⟨⟨v7, s8⟩, e9, h⟩ := zbd_i h
    refine w_callV (As := [.ref (za θ 33), .ref (za θ (zel 25 x1.toNatClampNeg))]) (kc := 13) (ci := 3) (c_Baker_bakeIn l θ e9) cf_Baker_bakeIn q_554 d_BB_bake_30 zl_5 rfl rfl rfl rfl rfl rfl (Nat.le_of_ble_eq_true rfl) rfl rfl ⟨Nat.le_of_ble_eq_true rfl, Nat.le_of_ble_eq_true rfl⟩ ?_
    obtain ⟨⟨v10, s11⟩, e12, h⟩ := zbd_i h
    refine w_callS (As := [.int v7]) (c_BB_flag l θ e12) cf_BB_flag q_401 d_BB_bake_33 rfl rfl rfl (Nat.le_of_ble_eq_true rfl) rfl rfl ⟨Nat.le_of_ble_eq_true rfl, Nat.le_of_ble_eq_true rfl⟩ ?_
    exact z_iret d_BB_bake_36 h
  · have h := (if_pos c4).symm.trans h
    refine z_iconst (v := -1) d_BB_bake_8 (by decide) ?_
    exact z_iret d_BB_bake_9 h
theorem d_Baker_chill_0 : decode b_Baker_chill 0 = .ok (.iconst (0), 1) := by decide +kernel
theorem d_Baker_chill_1 : decode b_Baker_chill 1 = .ok (.istore_n 2, 1) := by decide +kernel
theorem d_Baker_chill_2 : decode b_Baker_chill 2 = .ok (.iload_n 2, 1) := by decide +kernel
theorem d_Baker_chill_3 : decode b_Baker_chill 3 = .ok (.iconst (4), 1) := by decide +kernel
theorem d_Baker_chill_4 : decode b_Baker_chill 4 = .ok (.if_icmp .ge (38), 3) := by decide +kernel
theorem d_Baker_chill_7 : decode b_Baker_chill 7 = .ok (.aload_n 1, 1) := by decide +kernel
theorem d_Baker_chill_8 : decode b_Baker_chill 8 = .ok (.getfield 50, 3) := by decide +kernel
theorem d_Baker_chill_11 : decode b_Baker_chill 11 = .ok (.iload_n 2, 1) := by decide +kernel
theorem d_Baker_chill_12 : decode b_Baker_chill 12 = .ok (.sipush (9999), 3) := by decide +kernel
theorem d_Baker_chill_15 : decode b_Baker_chill 15 = .ok (.aload_n 1, 1) := by decide +kernel
theorem d_Baker_chill_16 : decode b_Baker_chill 16 = .ok (.getfield 50, 3) := by decide +kernel
theorem d_Baker_chill_19 : decode b_Baker_chill 19 = .ok (.iload_n 2, 1) := by decide +kernel
theorem d_Baker_chill_20 : decode b_Baker_chill 20 = .ok (.iaload, 1) := by decide +kernel
theorem d_Baker_chill_21 : decode b_Baker_chill 21 = .ok (.aload_n 0, 1) := by decide +kernel
theorem d_Baker_chill_22 : decode b_Baker_chill 22 = .ok (.getfield 9, 3) := by decide +kernel
theorem d_Baker_chill_25 : decode b_Baker_chill 25 = .ok (.getfield 78, 3) := by decide +kernel
theorem d_Baker_chill_28 : decode b_Baker_chill 28 = .ok (.imul, 1) := by decide +kernel
theorem d_Baker_chill_29 : decode b_Baker_chill 29 = .ok (.bipush (100), 2) := by decide +kernel
theorem d_Baker_chill_31 : decode b_Baker_chill 31 = .ok (.idiv, 1) := by decide +kernel
theorem d_Baker_chill_32 : decode b_Baker_chill 32 = .ok (.invokestatic 38, 3) := by decide +kernel
theorem d_Baker_chill_35 : decode b_Baker_chill 35 = .ok (.iastore, 1) := by decide +kernel
theorem d_Baker_chill_36 : decode b_Baker_chill 36 = .ok (.iinc 2 (1), 3) := by decide +kernel
theorem d_Baker_chill_39 : decode b_Baker_chill 39 = .ok (.goto (-37), 3) := by decide +kernel
theorem d_Baker_chill_42 : decode b_Baker_chill 42 = .ok (.aload_n 1, 1) := by decide +kernel
theorem d_Baker_chill_43 : decode b_Baker_chill 43 = .ok (.invokevirtual 75, 3) := by decide +kernel
theorem d_Baker_chill_46 : decode b_Baker_chill 46 = .ok (.return_, 1) := by decide +kernel
theorem zb_Baker_chill_2 {l : Launch} {θ : ZT} {res : Unit × ZM} {k2 : Nat × Int32 × ZM → Option (Unit × ZM)} (hk2 : ∀ a : Nat × Int32 × ZM, zR 0 129 a.1 17 0 = true → k2 a = some res → WZ l b_Baker_chill 3 none "BakedBefore$Bake\x72" 0 129 θ (zrm 3 80) (zQ mkV 0 129 θ res) a.2.2 [(0, .ref (za θ 5)), (1, .ref (za θ a.1)), (2, .int a.2.1)] 2 []) {x1 : Nat} {x2 : Int32} {σ : ZM} (hx1 : zR 0 129 x1 17 0 = true) (h : f_Baker_chill_2 k2 x1 x2 σ = some res) : WZ l b_Baker_chill 3 none "BakedBefore$Bake\x72" 0 129 θ (zrm 3 80) (zQ mkV 0 129 θ res) σ [(0, .ref (za θ 5)), (1, .ref (za θ x1)), (2, .int x2)] 2 [] := by
  unfold f_Baker_chill_2 at h
  refine z_iload_n 2 d_Baker_chill_2 rfl rfl ?_
  refine z_iconst (v := 4) d_Baker_chill_3 (by decide) ?_
  refine z_icmp_ge (tgt := 42) d_Baker_chill_4 (by decide) (fun c1 => ?_) (fun c1 => ?_)
  · have h := (if_pos c1).symm.trans h
    refine z_aload_n 1 d_Baker_chill_42 rfl rfl ?_
    obtain ⟨⟨v2, s3⟩, e4, h⟩ := zbd_i h
    refine w_callV (As := []) (kc := 17) (ci := 7) (c_Oven_strike l θ e4) cf_Oven_strike q_559 d_Baker_chill_43 hx1 rfl rfl rfl rfl rfl rfl (Nat.le_of_ble_eq_true rfl) rfl rfl ⟨Nat.le_of_ble_eq_true rfl, Nat.le_of_ble_eq_true rfl⟩ ?_
    exact z_vret d_Baker_chill_46 h
  · have h := (if_neg c1).symm.trans h
    refine z_aload_n 1 d_Baker_chill_7 rfl rfl ?_
    refine gf_Oven_held (o2 := x1 + 9) hx1 rfl d_Baker_chill_8 q_44 ?_
    refine z_iload_n 2 d_Baker_chill_11 rfl rfl ?_
    refine z_sipush (v := 9999) d_Baker_chill_12 (by decide) ?_
    refine z_aload_n 1 d_Baker_chill_15 rfl rfl ?_
    refine gf_Oven_held (o2 := x1 + 9) hx1 rfl d_Baker_chill_16 q_44 ?_
    refine z_iload_n 2 d_Baker_chill_19 rfl rfl ?_
    obtain ⟨c5, h⟩ := zck_i h
    refine w_iald (zr_Oven_held hx1) c5 d_Baker_chill_20 ?_
    refine z_aload_n 0 d_Baker_chill_21 rfl rfl ?_
    obtain ⟨c6, h⟩ := zck_i h
    refine gf_Baker_kiln zl_5 c6 d_Baker_chill_22 q_209 ?_
    refine gf_Kiln_coldPart c6 d_Baker_chill_25 q_182 ?_
    refine z_imul d_Baker_chill_28 ?_
    refine z_bipush (v := 100) d_Baker_chill_29 (by decide) ?_
    refine z_idiv d_Baker_chill_31 (by decide) ?_
    refine z_mmin d_Baker_chill_32 q_395 q_396 q_14 q_397 (by decide) (Nat.le_of_ble_eq_true rfl) ?_
    obtain ⟨c7, h⟩ := zck_i h
    refine w_iast (zr_Oven_held hx1) c7 d_Baker_chill_35 ?_
    refine z_iinc (v := x2 + (1 : Int32)) 2 d_Baker_chill_36 rfl rfl (by decide) rfl ?_
    refine z_goto (tgt := 2) d_Baker_chill_39 (by decide) ?_
    refine z_sub [1, 2, 0] rfl ?_
    exact hk2 (x1, (x2 + (1 : Int32)), (zsI σ (x1 + 9) x2.toNatClampNeg (if (((zI σ (x1 + 9) x2.toNatClampNeg) * (zI σ (zP σ 5 0) 8)) / (100 : Int32)) < (9999 : Int32) then (((zI σ (x1 + 9) x2.toNatClampNeg) * (zI σ (zP σ 5 0) 8)) / (100 : Int32)) else (9999 : Int32)))) hx1 h
theorem zl_Baker_chill_2 {l : Launch} {θ : ZT} {res : Unit × ZM} : ∀ (N : Nat) (a : Nat × Int32 × ZM), zR 0 129 a.1 17 0 = true → F_Baker_chill_2 N a = some res → WZ l b_Baker_chill 3 none "BakedBefore$Bake\x72" 0 129 θ (zrm 3 80) (zQ mkV 0 129 θ res) a.2.2 [(0, .ref (za θ 5)), (1, .ref (za θ a.1)), (2, .int a.2.1)] 2 [] := by
  intro N
  induction N with
  | zero => intro a hx1 h; cases (show (none : Option (Unit × ZM)) = some res from h)
  | succ N ih => intro a hx1 h; exact zb_Baker_chill_2 ih hx1 (show f_Baker_chill_2 (F_Baker_chill_2 N) a.1 a.2.1 a.2.2 = some res from h)
theorem c_Baker_chill (l : Launch) (θ : ZT) {x1 : Nat} {σ : ZM} {res : Unit × ZM} (h : f_Baker_chill x1 σ = some res) : zMet mkV l 0 129 θ y_Baker_chill b_Baker_chill 3 none (zrm 3 80) [.ref (za θ 5), .ref (za θ x1)] σ res := by
  unfold f_Baker_chill at h
  obtain ⟨hx1, h⟩ := zck_i h
  refine z_met (lv := [(0, .ref (za θ 5)), (1, .ref (za θ x1))]) (by decide +kernel) rfl (Nat.le_of_ble_eq_true rfl) (by decide) ?_
  refine z_iconst (v := 0) d_Baker_chill_0 (by decide) ?_
  refine z_istore_n d_Baker_chill_1 rfl (by decide) rfl ?_
  refine z_sub [1, 2, 0] rfl ?_
  exact zl_Baker_chill_2 2000 (x1, (0 : Int32), σ) hx1 h
theorem d_BB_cold_0 : decode b_BB_cold 0 = .ok (.aload_n 0, 1) := by decide +kernel
theorem d_BB_cold_1 : decode b_BB_cold 1 = .ok (.getfield 44, 3) := by decide +kernel
theorem d_BB_cold_4 : decode b_BB_cold 4 = .ok (.aload_n 0, 1) := by decide +kernel
theorem d_BB_cold_5 : decode b_BB_cold 5 = .ok (.getfield 12, 3) := by decide +kernel
theorem d_BB_cold_8 : decode b_BB_cold 8 = .ok (.getfield 112, 3) := by decide +kernel
theorem d_BB_cold_11 : decode b_BB_cold 11 = .ok (.invokevirtual 171, 3) := by decide +kernel
theorem d_BB_cold_14 : decode b_BB_cold 14 = .ok (.aload_n 0, 1) := by decide +kernel
theorem d_BB_cold_15 : decode b_BB_cold 15 = .ok (.getfield 12, 3) := by decide +kernel
theorem d_BB_cold_18 : decode b_BB_cold 18 = .ok (.getfield 112, 3) := by decide +kernel
theorem d_BB_cold_21 : decode b_BB_cold 21 = .ok (.getfield 116, 3) := by decide +kernel
theorem d_BB_cold_24 : decode b_BB_cold 24 = .ok (.ireturn, 1) := by decide +kernel
theorem c_BB_cold (l : Launch) (θ : ZT)  {σ : ZM} {res : Int32 × ZM} (h : f_BB_cold σ = some res) : zMet mkI l 0 129 θ y_BB_cold b_BB_cold 1 (some .int) (zrm 4 102) [.ref (za θ 0)] σ res := by
  unfold f_BB_cold at h
  refine z_met (lv := [(0, .ref (za θ 0))]) (by decide +kernel) rfl (Nat.le_of_ble_eq_true rfl) (by decide) ?_
  refine z_aload_n 0 d_BB_cold_0 rfl rfl ?_
  refine gf_BB_baker zl_0 d_BB_cold_1 q_308 ?_
  refine z_aload_n 0 d_BB_cold_4 rfl rfl ?_
  refine gf_BB_now zl_0 d_BB_cold_5 q_303 ?_
  refine gf_Stand_oven (o2 := 33) zl_1 rfl d_BB_cold_8 q_121 ?_
  obtain ⟨⟨v1, s2⟩, e3, h⟩ := zbd_i h
  refine w_callV (As := [.ref (za θ 33)]) (kc := 13) (ci := 3) (c_Baker_chill l θ e3) cf_Baker_chill q_568 d_BB_cold_11 zl_5 rfl rfl rfl rfl rfl rfl (Nat.le_of_ble_eq_true rfl) rfl rfl ⟨Nat.le_of_ble_eq_true rfl, Nat.le_of_ble_eq_true rfl⟩ ?_
  refine z_aload_n 0 d_BB_cold_14 rfl rfl ?_
  refine gf_BB_now zl_0 d_BB_cold_15 q_303 ?_
  refine gf_Stand_oven (o2 := 33) zl_1 rfl d_BB_cold_18 q_121 ?_
  refine gf_Oven_hour zl_33 d_BB_cold_21 q_50 ?_
  exact z_iret d_BB_cold_24 h
theorem d_Oven_become_0 : decode b_Oven_become 0 = .ok (.iconst (0), 1) := by decide +kernel
theorem d_Oven_become_1 : decode b_Oven_become 1 = .ok (.istore_n 2, 1) := by decide +kernel
theorem d_Oven_become_2 : decode b_Oven_become 2 = .ok (.iload_n 2, 1) := by decide +kernel
theorem d_Oven_become_3 : decode b_Oven_become 3 = .ok (.iconst (4), 1) := by decide +kernel
theorem d_Oven_become_4 : decode b_Oven_become 4 = .ok (.if_icmp .ge (21), 3) := by decide +kernel
theorem d_Oven_become_7 : decode b_Oven_become 7 = .ok (.aload_n 0, 1) := by decide +kernel
theorem d_Oven_become_8 : decode b_Oven_become 8 = .ok (.getfield 9, 3) := by decide +kernel
theorem d_Oven_become_11 : decode b_Oven_become 11 = .ok (.iload_n 2, 1) := by decide +kernel
theorem d_Oven_become_12 : decode b_Oven_become 12 = .ok (.aload_n 1, 1) := by decide +kernel
theorem d_Oven_become_13 : decode b_Oven_become 13 = .ok (.getfield 9, 3) := by decide +kernel
theorem d_Oven_become_16 : decode b_Oven_become 16 = .ok (.iload_n 2, 1) := by decide +kernel
theorem d_Oven_become_17 : decode b_Oven_become 17 = .ok (.iaload, 1) := by decide +kernel
theorem d_Oven_become_18 : decode b_Oven_become 18 = .ok (.iastore, 1) := by decide +kernel
theorem d_Oven_become_19 : decode b_Oven_become 19 = .ok (.iinc 2 (1), 3) := by decide +kernel
theorem d_Oven_become_22 : decode b_Oven_become 22 = .ok (.goto (-20), 3) := by decide +kernel
theorem d_Oven_become_25 : decode b_Oven_become 25 = .ok (.aload_n 0, 1) := by decide +kernel
theorem d_Oven_become_26 : decode b_Oven_become 26 = .ok (.aload_n 1, 1) := by decide +kernel
theorem d_Oven_become_27 : decode b_Oven_become 27 = .ok (.getfield 15, 3) := by decide +kernel
theorem d_Oven_become_30 : decode b_Oven_become 30 = .ok (.putfield 15, 3) := by decide +kernel
theorem d_Oven_become_33 : decode b_Oven_become 33 = .ok (.return_, 1) := by decide +kernel
theorem zb_Oven_become_2 {l : Launch} {θ : ZT} {res : Unit × ZM} {k2 : Nat × Nat × Int32 × ZM → Option (Unit × ZM)} (hk2 : ∀ a : Nat × Nat × Int32 × ZM, zR 0 129 a.1 17 0 = true → zR 0 129 a.2.1 17 0 = true → k2 a = some res → WZ l b_Oven_become 3 none "BakedBefore$Oven" 0 129 θ (zrm 1 60) (zQ mkV 0 129 θ res) a.2.2.2 [(0, .ref (za θ a.1)), (1, .ref (za θ a.2.1)), (2, .int a.2.2.1)] 2 []) {x0 : Nat} {x1 : Nat} {x2 : Int32} {σ : ZM} (hx0 : zR 0 129 x0 17 0 = true) (hx1 : zR 0 129 x1 17 0 = true) (h : f_Oven_become_2 k2 x0 x1 x2 σ = some res) : WZ l b_Oven_become 3 none "BakedBefore$Oven" 0 129 θ (zrm 1 60) (zQ mkV 0 129 θ res) σ [(0, .ref (za θ x0)), (1, .ref (za θ x1)), (2, .int x2)] 2 [] := by
  unfold f_Oven_become_2 at h
  refine z_iload_n 2 d_Oven_become_2 rfl rfl ?_
  refine z_iconst (v := 4) d_Oven_become_3 (by decide) ?_
  refine z_icmp_ge (tgt := 25) d_Oven_become_4 (by decide) (fun c1 => ?_) (fun c1 => ?_)
  · have h := (if_pos c1).symm.trans h
    refine z_aload_n 0 d_Oven_become_25 rfl rfl ?_
    refine z_aload_n 1 d_Oven_become_26 rfl rfl ?_
    refine gf_Oven_hour hx1 d_Oven_become_27 q_48 ?_
    refine pf_Oven_hour hx0 d_Oven_become_30 q_48 ?_
    exact z_vret d_Oven_become_33 h
  · have h := (if_neg c1).symm.trans h
    refine z_aload_n 0 d_Oven_become_7 rfl rfl ?_
    refine gf_Oven_held (o2 := x0 + 9) hx0 rfl d_Oven_become_8 q_43 ?_
    refine z_iload_n 2 d_Oven_become_11 rfl rfl ?_
    refine z_aload_n 1 d_Oven_become_12 rfl rfl ?_
    refine gf_Oven_held (o2 := x1 + 9) hx1 rfl d_Oven_become_13 q_43 ?_
    refine z_iload_n 2 d_Oven_become_16 rfl rfl ?_
    obtain ⟨c2, h⟩ := zck_i h
    refine w_iald (zr_Oven_held hx1) c2 d_Oven_become_17 ?_
    obtain ⟨c3, h⟩ := zck_i h
    refine w_iast (zr_Oven_held hx0) c3 d_Oven_become_18 ?_
    refine z_iinc (v := x2 + (1 : Int32)) 2 d_Oven_become_19 rfl rfl (by decide) rfl ?_
    refine z_goto (tgt := 2) d_Oven_become_22 (by decide) ?_
    refine z_sub [1, 2, 0] rfl ?_
    exact hk2 (x0, x1, (x2 + (1 : Int32)), (zsI σ (x0 + 9) x2.toNatClampNeg (zI σ (x1 + 9) x2.toNatClampNeg))) hx0 hx1 h
theorem zl_Oven_become_2 {l : Launch} {θ : ZT} {res : Unit × ZM} : ∀ (N : Nat) (a : Nat × Nat × Int32 × ZM), zR 0 129 a.1 17 0 = true → zR 0 129 a.2.1 17 0 = true → F_Oven_become_2 N a = some res → WZ l b_Oven_become 3 none "BakedBefore$Oven" 0 129 θ (zrm 1 60) (zQ mkV 0 129 θ res) a.2.2.2 [(0, .ref (za θ a.1)), (1, .ref (za θ a.2.1)), (2, .int a.2.2.1)] 2 [] := by
  intro N
  induction N with
  | zero => intro a hx0 hx1 h; cases (show (none : Option (Unit × ZM)) = some res from h)
  | succ N ih => intro a hx0 hx1 h; exact zb_Oven_become_2 ih hx0 hx1 (show f_Oven_become_2 (F_Oven_become_2 N) a.1 a.2.1 a.2.2.1 a.2.2.2 = some res from h)
theorem c_Oven_become (l : Launch) (θ : ZT) {x0 : Nat} {x1 : Nat} {σ : ZM} {res : Unit × ZM} (h : f_Oven_become x0 x1 σ = some res) : zMet mkV l 0 129 θ y_Oven_become b_Oven_become 3 none (zrm 1 60) [.ref (za θ x0), .ref (za θ x1)] σ res := by
  unfold f_Oven_become at h
  obtain ⟨hx0, h⟩ := zck_i h
  obtain ⟨hx1, h⟩ := zck_i h
  refine z_met (lv := [(0, .ref (za θ x0)), (1, .ref (za θ x1))]) (by decide +kernel) rfl (Nat.le_of_ble_eq_true rfl) (by decide) ?_
  refine z_iconst (v := 0) d_Oven_become_0 (by decide) ?_
  refine z_istore_n d_Oven_become_1 rfl (by decide) rfl ?_
  refine z_sub [1, 2, 0] rfl ?_
  exact zl_Oven_become_2 2000 (x0, x1, (0 : Int32), σ) hx0 hx1 h
theorem d_Asker_behind_0 : decode b_Asker_behind 0 = .ok (.aload_n 0, 1) := by decide +kernel
theorem d_Asker_behind_1 : decode b_Asker_behind 1 = .ok (.getfield 12, 3) := by decide +kernel
theorem d_Asker_behind_4 : decode b_Asker_behind 4 = .ok (.aload_n 0, 1) := by decide +kernel
theorem d_Asker_behind_5 : decode b_Asker_behind 5 = .ok (.getfield 22, 3) := by decide +kernel
theorem d_Asker_behind_8 : decode b_Asker_behind 8 = .ok (.getfield 30, 3) := by decide +kernel
theorem d_Asker_behind_11 : decode b_Asker_behind 11 = .ok (.invokevirtual 35, 3) := by decide +kernel
theorem d_Asker_behind_14 : decode b_Asker_behind 14 = .ok (.iload_n 2, 1) := by decide +kernel
theorem d_Asker_behind_15 : decode b_Asker_behind 15 = .ok (.ifCond .lt (24), 3) := by decide +kernel
theorem d_Asker_behind_18 : decode b_Asker_behind 18 = .ok (.aload_n 0, 1) := by decide +kernel
theorem d_Asker_behind_19 : decode b_Asker_behind 19 = .ok (.getfield 26, 3) := by decide +kernel
theorem d_Asker_behind_22 : decode b_Asker_behind 22 = .ok (.aload_n 0, 1) := by decide +kernel
theorem d_Asker_behind_23 : decode b_Asker_behind 23 = .ok (.getfield 12, 3) := by decide +kernel
theorem d_Asker_behind_26 : decode b_Asker_behind 26 = .ok (.aload_n 0, 1) := by decide +kernel
theorem d_Asker_behind_27 : decode b_Asker_behind 27 = .ok (.getfield 22, 3) := by decide +kernel
theorem d_Asker_behind_30 : decode b_Asker_behind 30 = .ok (.getfield 39, 3) := by decide +kernel
theorem d_Asker_behind_33 : decode b_Asker_behind 33 = .ok (.iload_n 2, 1) := by decide +kernel
theorem d_Asker_behind_34 : decode b_Asker_behind 34 = .ok (.aaload, 1) := by decide +kernel
theorem d_Asker_behind_35 : decode b_Asker_behind 35 = .ok (.invokevirtual 43, 3) := by decide +kernel
theorem d_Asker_behind_38 : decode b_Asker_behind 38 = .ok (.pop, 1) := by decide +kernel
theorem d_Asker_behind_39 : decode b_Asker_behind 39 = .ok (.iload_n 3, 1) := by decide +kernel
theorem d_Asker_behind_40 : decode b_Asker_behind 40 = .ok (.iconst (4), 1) := by decide +kernel
theorem d_Asker_behind_41 : decode b_Asker_behind 41 = .ok (.if_icmp .ge (25), 3) := by decide +kernel
theorem d_Asker_behind_44 : decode b_Asker_behind 44 = .ok (.aload_n 0, 1) := by decide +kernel
theorem d_Asker_behind_45 : decode b_Asker_behind 45 = .ok (.getfield 26, 3) := by decide +kernel
theorem d_Asker_behind_48 : decode b_Asker_behind 48 = .ok (.aload_n 0, 1) := by decide +kernel
theorem d_Asker_behind_49 : decode b_Asker_behind 49 = .ok (.getfield 22, 3) := by decide +kernel
theorem d_Asker_behind_52 : decode b_Asker_behind 52 = .ok (.getfield 39, 3) := by decide +kernel
theorem d_Asker_behind_55 : decode b_Asker_behind 55 = .ok (.iload_n 1, 1) := by decide +kernel
theorem d_Asker_behind_56 : decode b_Asker_behind 56 = .ok (.aaload, 1) := by decide +kernel
theorem d_Asker_behind_57 : decode b_Asker_behind 57 = .ok (.iload_n 3, 1) := by decide +kernel
theorem d_Asker_behind_58 : decode b_Asker_behind 58 = .ok (.aload_n 0, 1) := by decide +kernel
theorem d_Asker_behind_59 : decode b_Asker_behind 59 = .ok (.getfield 12, 3) := by decide +kernel
theorem d_Asker_behind_62 : decode b_Asker_behind 62 = .ok (.invokevirtual 49, 3) := by decide +kernel
theorem d_Asker_behind_65 : decode b_Asker_behind 65 = .ok (.ireturn, 1) := by decide +kernel
theorem d_Asker_behind_66 : decode b_Asker_behind 66 = .ok (.aload_n 0, 1) := by decide +kernel
theorem d_Asker_behind_67 : decode b_Asker_behind 67 = .ok (.getfield 26, 3) := by decide +kernel
theorem d_Asker_behind_70 : decode b_Asker_behind 70 = .ok (.aload_n 0, 1) := by decide +kernel
theorem d_Asker_behind_71 : decode b_Asker_behind 71 = .ok (.getfield 22, 3) := by decide +kernel
theorem d_Asker_behind_74 : decode b_Asker_behind 74 = .ok (.getfield 39, 3) := by decide +kernel
theorem d_Asker_behind_77 : decode b_Asker_behind 77 = .ok (.iload_n 1, 1) := by decide +kernel
theorem d_Asker_behind_78 : decode b_Asker_behind 78 = .ok (.aaload, 1) := by decide +kernel
theorem d_Asker_behind_79 : decode b_Asker_behind 79 = .ok (.aload_n 0, 1) := by decide +kernel
theorem d_Asker_behind_80 : decode b_Asker_behind 80 = .ok (.getfield 12, 3) := by decide +kernel
theorem d_Asker_behind_83 : decode b_Asker_behind 83 = .ok (.invokevirtual 53, 3) := by decide +kernel
theorem d_Asker_behind_86 : decode b_Asker_behind 86 = .ok (.invokestatic 57, 3) := by decide +kernel
theorem d_Asker_behind_89 : decode b_Asker_behind 89 = .ok (.ireturn, 1) := by decide +kernel
theorem zb_Asker_behind_39 {l : Launch} {θ : ZT} {res : Int32 × ZM} {x1 : Int32} {x3 : Int32} {σ : ZM} (h : f_Asker_behind_39 x1 x3 σ = some res) : WZ l b_Asker_behind 4 (some .int) "BakedBefore$Aske\x72" 0 129 θ (zrm 6 190) (zQ mkI 0 129 θ res) σ [(0, .ref (za θ 6)), (1, .int x1), (3, .int x3)] 39 [] := by
  unfold f_Asker_behind_39 at h
  refine z_iload_n 2 d_Asker_behind_39 rfl rfl ?_
  refine z_iconst (v := 4) d_Asker_behind_40 (by decide) ?_
  refine z_icmp_ge (tgt := 66) d_Asker_behind_41 (by decide) (fun c1 => ?_) (fun c1 => ?_)
  · have h := (if_pos c1).symm.trans h
    refine z_aload_n 0 d_Asker_behind_66 rfl rfl ?_
    refine gf_Asker_baker zl_6 d_Asker_behind_67 q_223 ?_
    refine z_aload_n 0 d_Asker_behind_70 rfl rfl ?_
    refine gf_Asker_now zl_6 d_Asker_behind_71 q_222 ?_
    refine gf_Stand_loaves (o2 := 25) zl_1 rfl d_Asker_behind_74 q_115 ?_
    refine z_iload_n 1 d_Asker_behind_77 rfl rfl ?_
    obtain ⟨c2, h⟩ := zck_i h
    refine w_aald3 zl_25 c2 d_Asker_behind_78 ?_
    obtain ⟨c3, h⟩ := zck_i h
    refine z_aload_n 0 d_Asker_behind_79 rfl rfl ?_
    refine gf_Asker_trial zl_6 d_Asker_behind_80 q_224 ?_
    obtain ⟨⟨v4, s5⟩, e6, h⟩ := zbd_i h
    refine w_callV (As := [.ref (za θ (zel 25 x1.toNatClampNeg)), .ref (za θ 35)]) (kc := 13) (ci := 3) (c_Baker_spoils l θ e6) cf_Baker_spoils q_586 d_Asker_behind_83 zl_5 rfl rfl rfl rfl rfl rfl (Nat.le_of_ble_eq_true rfl) rfl rfl ⟨Nat.le_of_ble_eq_true rfl, Nat.le_of_ble_eq_true rfl⟩ ?_
    obtain ⟨⟨v7, s8⟩, e9, h⟩ := zbd_i h
    refine z_flag (c_BB_flag l θ e9) cf_BB_flag d_Asker_behind_86 rfl (Nat.le_of_ble_eq_true rfl) rfl rfl ⟨Nat.le_of_ble_eq_true rfl, Nat.le_of_ble_eq_true rfl⟩ ?_
    exact z_iret d_Asker_behind_89 h
  · have h := (if_neg c1).symm.trans h
    refine z_aload_n 0 d_Asker_behind_44 rfl rfl ?_
    refine gf_Asker_baker zl_6 d_Asker_behind_45 q_223 ?_
    refine z_aload_n 0 d_Asker_behind_48 rfl rfl ?_
    refine gf_Asker_now zl_6 d_Asker_behind_49 q_222 ?_
    refine gf_Stand_loaves (o2 := 25) zl_1 rfl d_Asker_behind_52 q_115 ?_
    refine z_iload_n 1 d_Asker_behind_55 rfl rfl ?_
    obtain ⟨c10, h⟩ := zck_i h
    refine w_aald3 zl_25 c10 d_Asker_behind_56 ?_
    obtain ⟨c11, h⟩ := zck_i h
    refine z_iload_n 2 d_Asker_behind_57 rfl rfl ?_
    refine z_aload_n 0 d_Asker_behind_58 rfl rfl ?_
    refine gf_Asker_trial zl_6 d_Asker_behind_59 q_224 ?_
    obtain ⟨⟨v12, s13⟩, e14, h⟩ := zbd_i h
    refine w_callV (As := [.ref (za θ (zel 25 x1.toNatClampNeg)), .int x3, .ref (za θ 35)]) (kc := 13) (ci := 3) (c_Baker_takes l θ e14) cf_Baker_takes q_585 d_Asker_behind_62 zl_5 rfl rfl rfl rfl rfl rfl (Nat.le_of_ble_eq_true rfl) rfl rfl ⟨Nat.le_of_ble_eq_true rfl, Nat.le_of_ble_eq_true rfl⟩ ?_
    exact z_iret d_Asker_behind_65 h
theorem c_Asker_behind (l : Launch) (θ : ZT) {x1 : Int32} {x2 : Int32} {x3 : Int32} {σ : ZM} {res : Int32 × ZM} (h : f_Asker_behind x1 x2 x3 σ = some res) : zMet mkI l 0 129 θ y_Asker_behind b_Asker_behind 4 (some .int) (zrm 6 190) [.ref (za θ 6), .int x1, .int x2, .int x3] σ res := by
  unfold f_Asker_behind at h
  refine z_met (lv := [(0, .ref (za θ 6)), (1, .int x1), (2, .int x2), (3, .int x3)]) (by decide +kernel) rfl (Nat.le_of_ble_eq_true rfl) (by decide) ?_
  refine z_aload_n 0 d_Asker_behind_0 rfl rfl ?_
  refine gf_Asker_trial zl_6 d_Asker_behind_1 q_224 ?_
  refine z_aload_n 0 d_Asker_behind_4 rfl rfl ?_
  refine gf_Asker_now zl_6 d_Asker_behind_5 q_222 ?_
  refine gf_Stand_oven (o2 := 33) zl_1 rfl d_Asker_behind_8 q_119 ?_
  obtain ⟨⟨v1, s2⟩, e3, h⟩ := zbd_i h
  refine w_callV (As := [.ref (za θ 33)]) (kc := 17) (ci := 7) (c_Oven_become l θ e3) cf_Oven_become q_580 d_Asker_behind_11 zl_35 rfl rfl rfl rfl rfl rfl (Nat.le_of_ble_eq_true rfl) rfl rfl ⟨Nat.le_of_ble_eq_true rfl, Nat.le_of_ble_eq_true rfl⟩ ?_
  refine z_iload_n 2 d_Asker_behind_14 rfl rfl ?_
  refine z_if_lt (tgt := 39) d_Asker_behind_15 (by decide) (fun c4 => ?_) (fun c4 => ?_)
  · have h := (if_pos c4).symm.trans h
    refine z_sub [0, 1, 3] rfl ?_
    exact zb_Asker_behind_39 h
  · have h := (if_neg c4).symm.trans h
    refine z_aload_n 0 d_Asker_behind_18 rfl rfl ?_
    refine gf_Asker_baker zl_6 d_Asker_behind_19 q_223 ?_
    refine z_aload_n 0 d_Asker_behind_22 rfl rfl ?_
    refine gf_Asker_trial zl_6 d_Asker_behind_23 q_224 ?_
    refine z_aload_n 0 d_Asker_behind_26 rfl rfl ?_
    refine gf_Asker_now zl_6 d_Asker_behind_27 q_222 ?_
    refine gf_Stand_loaves (o2 := 25) zl_1 rfl d_Asker_behind_30 q_115 ?_
    refine z_iload_n 2 d_Asker_behind_33 rfl rfl ?_
    obtain ⟨c5, h⟩ := zck_i h
    refine w_aald3 zl_25 c5 d_Asker_behind_34 ?_
    obtain ⟨c6, h⟩ := zck_i h
    obtain ⟨⟨v7, s8⟩, e9, h⟩ := zbd_i h
    refine w_callV (As := [.ref (za θ 35), .ref (za θ (zel 25 x2.toNatClampNeg))]) (kc := 13) (ci := 3) (c_Baker_bakeIn l θ e9) cf_Baker_bakeIn q_584 d_Asker_behind_35 zl_5 rfl rfl rfl rfl rfl rfl (Nat.le_of_ble_eq_true rfl) rfl rfl ⟨Nat.le_of_ble_eq_true rfl, Nat.le_of_ble_eq_true rfl⟩ ?_
    refine z_pop d_Asker_behind_38 rfl ?_
    refine z_sub [0, 1, 3] rfl ?_
    exact zb_Asker_behind_39 h
theorem d_BB_would_0 : decode b_BB_would 0 = .ok (.aload_n 0, 1) := by decide +kernel
theorem d_BB_would_1 : decode b_BB_would 1 = .ok (.iload_n 1, 1) := by decide +kernel
theorem d_BB_would_2 : decode b_BB_would 2 = .ok (.invokevirtual 92, 3) := by decide +kernel
theorem d_BB_would_5 : decode b_BB_would 5 = .ok (.ifCond .eq (25), 3) := by decide +kernel
theorem d_BB_would_8 : decode b_BB_would 8 = .ok (.iload_n 2, 1) := by decide +kernel
theorem d_BB_would_9 : decode b_BB_would 9 = .ok (.iconst (-1), 1) := by decide +kernel
theorem d_BB_would_10 : decode b_BB_would 10 = .ok (.if_icmp .eq (11), 3) := by decide +kernel
theorem d_BB_would_13 : decode b_BB_would 13 = .ok (.aload_n 0, 1) := by decide +kernel
theorem d_BB_would_14 : decode b_BB_would 14 = .ok (.iload_n 2, 1) := by decide +kernel
theorem d_BB_would_15 : decode b_BB_would 15 = .ok (.invokevirtual 92, 3) := by decide +kernel
theorem d_BB_would_18 : decode b_BB_would 18 = .ok (.ifCond .eq (12), 3) := by decide +kernel
theorem d_BB_would_21 : decode b_BB_would 21 = .ok (.iload_n 3, 1) := by decide +kernel
theorem d_BB_would_22 : decode b_BB_would 22 = .ok (.ifCond .lt (8), 3) := by decide +kernel
theorem d_BB_would_25 : decode b_BB_would 25 = .ok (.iload_n 3, 1) := by decide +kernel
theorem d_BB_would_26 : decode b_BB_would 26 = .ok (.iconst (4), 1) := by decide +kernel
theorem d_BB_would_27 : decode b_BB_would 27 = .ok (.if_icmp .le (5), 3) := by decide +kernel
theorem d_BB_would_30 : decode b_BB_would 30 = .ok (.iconst (-1), 1) := by decide +kernel
theorem d_BB_would_31 : decode b_BB_would 31 = .ok (.ireturn, 1) := by decide +kernel
theorem d_BB_would_32 : decode b_BB_would 32 = .ok (.iload_n 1, 1) := by decide +kernel
theorem d_BB_would_33 : decode b_BB_would 33 = .ok (.iload_n 2, 1) := by decide +kernel
theorem d_BB_would_34 : decode b_BB_would 34 = .ok (.if_icmp .ne (6), 3) := by decide +kernel
theorem d_BB_would_37 : decode b_BB_would 37 = .ok (.bipush (-2), 2) := by decide +kernel
theorem d_BB_would_39 : decode b_BB_would 39 = .ok (.ireturn, 1) := by decide +kernel
theorem d_BB_would_40 : decode b_BB_would 40 = .ok (.aload_n 0, 1) := by decide +kernel
theorem d_BB_would_41 : decode b_BB_would 41 = .ok (.getfield 53, 3) := by decide +kernel
theorem d_BB_would_44 : decode b_BB_would 44 = .ok (.iload_n 1, 1) := by decide +kernel
theorem d_BB_would_45 : decode b_BB_would 45 = .ok (.iload_n 2, 1) := by decide +kernel
theorem d_BB_would_46 : decode b_BB_would 46 = .ok (.iload_n 3, 1) := by decide +kernel
theorem d_BB_would_47 : decode b_BB_would 47 = .ok (.invokevirtual 175, 3) := by decide +kernel
theorem d_BB_would_50 : decode b_BB_would 50 = .ok (.ireturn, 1) := by decide +kernel
theorem zb_BB_would_21 {l : Launch} {θ : ZT} {res : Int32 × ZM} {x1 : Int32} {x2 : Int32} {x3 : Int32} {σ : ZM} (h : f_BB_would_21 x1 x2 x3 σ = some res) : WZ l b_BB_would 4 (some .int) "BakedBefore" 0 129 θ (zrm 7 213) (zQ mkI 0 129 θ res) σ [(0, .ref (za θ 0)), (1, .int x1), (2, .int x2), (3, .int x3)] 21 [] := by
  unfold f_BB_would_21 at h
  refine z_iload_n 3 d_BB_would_21 rfl rfl ?_
  refine z_if_lt (tgt := 30) d_BB_would_22 (by decide) (fun c1 => ?_) (fun c1 => ?_)
  · have h := (if_pos c1).symm.trans h
    refine z_iconst (v := -1) d_BB_would_30 (by decide) ?_
    exact z_iret d_BB_would_31 h
  · have h := (if_neg c1).symm.trans h
    refine z_iload_n 3 d_BB_would_25 rfl rfl ?_
    refine z_iconst (v := 4) d_BB_would_26 (by decide) ?_
    refine z_icmp_le (tgt := 32) d_BB_would_27 (by decide) (fun c2 => ?_) (fun c2 => ?_)
    · have h := (if_pos c2).symm.trans h
      refine z_iload_n 1 d_BB_would_32 rfl rfl ?_
      refine z_iload_n 2 d_BB_would_33 rfl rfl ?_
      refine z_icmp_ne (tgt := 40) d_BB_would_34 (by decide) (fun c3 => ?_) (fun c3 => ?_)
      · have h := (if_neg c3).symm.trans h
        refine z_aload_n 0 d_BB_would_40 rfl rfl ?_
        refine gf_BB_asker zl_0 d_BB_would_41 q_309 ?_
        refine z_iload_n 1 d_BB_would_44 rfl rfl ?_
        refine z_iload_n 2 d_BB_would_45 rfl rfl ?_
        refine z_iload_n 3 d_BB_would_46 rfl rfl ?_
        obtain ⟨⟨v4, s5⟩, e6, h⟩ := zbd_i h
        refine w_callV (As := [.int x1, .int x2, .int x3]) (kc := 12) (ci := 2) (c_Asker_behind l θ e6) cf_Asker_behind q_576 d_BB_would_47 zl_6 rfl rfl rfl rfl rfl rfl (Nat.le_of_ble_eq_true rfl) rfl rfl ⟨Nat.le_of_ble_eq_true rfl, Nat.le_of_ble_eq_true rfl⟩ ?_
        exact z_iret d_BB_would_50 h
      · have h := (if_pos c3).symm.trans h
        refine z_bipush (v := -2) d_BB_would_37 (by decide) ?_
        exact z_iret d_BB_would_39 h
    · have h := (if_neg c2).symm.trans h
      refine z_iconst (v := -1) d_BB_would_30 (by decide) ?_
      exact z_iret d_BB_would_31 h
theorem c_BB_would (l : Launch) (θ : ZT) {x1 : Int32} {x2 : Int32} {x3 : Int32} {σ : ZM} {res : Int32 × ZM} (h : f_BB_would x1 x2 x3 σ = some res) : zMet mkI l 0 129 θ y_BB_would b_BB_would 4 (some .int) (zrm 7 213) [.ref (za θ 0), .int x1, .int x2, .int x3] σ res := by
  unfold f_BB_would at h
  refine z_met (lv := [(0, .ref (za θ 0)), (1, .int x1), (2, .int x2), (3, .int x3)]) (by decide +kernel) rfl (Nat.le_of_ble_eq_true rfl) (by decide) ?_
  refine z_aload_n 0 d_BB_would_0 rfl rfl ?_
  refine z_iload_n 1 d_BB_would_1 rfl rfl ?_
  obtain ⟨⟨v1, s2⟩, e3, h⟩ := zbd_i h
  refine w_callV (As := [.int x1]) (kc := 10) (ci := 0) (c_BB_isLoaf l θ e3) cf_BB_isLoaf q_352 d_BB_would_2 zl_0 rfl rfl rfl rfl rfl rfl (Nat.le_of_ble_eq_true rfl) rfl rfl ⟨Nat.le_of_ble_eq_true rfl, Nat.le_of_ble_eq_true rfl⟩ ?_
  refine z_if_eq (tgt := 30) d_BB_would_5 (by decide) (fun c4 => ?_) (fun c4 => ?_)
  · have h := (if_pos c4).symm.trans h
    refine z_iconst (v := -1) d_BB_would_30 (by decide) ?_
    exact z_iret d_BB_would_31 h
  · have h := (if_neg c4).symm.trans h
    refine z_iload_n 2 d_BB_would_8 rfl rfl ?_
    refine z_iconst (v := -1) d_BB_would_9 (by decide) ?_
    refine z_icmp_eq (tgt := 21) d_BB_would_10 (by decide) (fun c5 => ?_) (fun c5 => ?_)
    · have h := (if_pos c5).symm.trans h
      exact zb_BB_would_21 h
    · have h := (if_neg c5).symm.trans h
      refine z_aload_n 0 d_BB_would_13 rfl rfl ?_
      refine z_iload_n 2 d_BB_would_14 rfl rfl ?_
      obtain ⟨⟨v6, s7⟩, e8, h⟩ := zbd_i h
      refine w_callV (As := [.int x2]) (kc := 10) (ci := 0) (c_BB_isLoaf l θ e8) cf_BB_isLoaf q_352 d_BB_would_15 zl_0 rfl rfl rfl rfl rfl rfl (Nat.le_of_ble_eq_true rfl) rfl rfl ⟨Nat.le_of_ble_eq_true rfl, Nat.le_of_ble_eq_true rfl⟩ ?_
      refine z_if_eq (tgt := 30) d_BB_would_18 (by decide) (fun c9 => ?_) (fun c9 => ?_)
      · have h := (if_pos c9).symm.trans h
        refine z_iconst (v := -1) d_BB_would_30 (by decide) ?_
        exact z_iret d_BB_would_31 h
      · have h := (if_neg c9).symm.trans h
        exact zb_BB_would_21 h
theorem d_Integer_bitCount_0 : decode b_Integer_bitCount 0 = .ok (.iload_n 0, 1) := by decide +kernel
theorem d_Integer_bitCount_1 : decode b_Integer_bitCount 1 = .ok (.iload_n 0, 1) := by decide +kernel
theorem d_Integer_bitCount_2 : decode b_Integer_bitCount 2 = .ok (.iconst (1), 1) := by decide +kernel
theorem d_Integer_bitCount_3 : decode b_Integer_bitCount 3 = .ok (.iushr, 1) := by decide +kernel
theorem d_Integer_bitCount_4 : decode b_Integer_bitCount 4 = .ok (.ldc_w 265, 3) := by decide +kernel
theorem d_Integer_bitCount_7 : decode b_Integer_bitCount 7 = .ok (.iand, 1) := by decide +kernel
theorem d_Integer_bitCount_8 : decode b_Integer_bitCount 8 = .ok (.isub, 1) := by decide +kernel
theorem d_Integer_bitCount_9 : decode b_Integer_bitCount 9 = .ok (.istore_n 0, 1) := by decide +kernel
theorem d_Integer_bitCount_10 : decode b_Integer_bitCount 10 = .ok (.iload_n 0, 1) := by decide +kernel
theorem d_Integer_bitCount_11 : decode b_Integer_bitCount 11 = .ok (.ldc_w 266, 3) := by decide +kernel
theorem d_Integer_bitCount_14 : decode b_Integer_bitCount 14 = .ok (.iand, 1) := by decide +kernel
theorem d_Integer_bitCount_15 : decode b_Integer_bitCount 15 = .ok (.iload_n 0, 1) := by decide +kernel
theorem d_Integer_bitCount_16 : decode b_Integer_bitCount 16 = .ok (.iconst (2), 1) := by decide +kernel
theorem d_Integer_bitCount_17 : decode b_Integer_bitCount 17 = .ok (.iushr, 1) := by decide +kernel
theorem d_Integer_bitCount_18 : decode b_Integer_bitCount 18 = .ok (.ldc_w 266, 3) := by decide +kernel
theorem d_Integer_bitCount_21 : decode b_Integer_bitCount 21 = .ok (.iand, 1) := by decide +kernel
theorem d_Integer_bitCount_22 : decode b_Integer_bitCount 22 = .ok (.iadd, 1) := by decide +kernel
theorem d_Integer_bitCount_23 : decode b_Integer_bitCount 23 = .ok (.istore_n 0, 1) := by decide +kernel
theorem d_Integer_bitCount_24 : decode b_Integer_bitCount 24 = .ok (.iload_n 0, 1) := by decide +kernel
theorem d_Integer_bitCount_25 : decode b_Integer_bitCount 25 = .ok (.iload_n 0, 1) := by decide +kernel
theorem d_Integer_bitCount_26 : decode b_Integer_bitCount 26 = .ok (.iconst (4), 1) := by decide +kernel
theorem d_Integer_bitCount_27 : decode b_Integer_bitCount 27 = .ok (.iushr, 1) := by decide +kernel
theorem d_Integer_bitCount_28 : decode b_Integer_bitCount 28 = .ok (.iadd, 1) := by decide +kernel
theorem d_Integer_bitCount_29 : decode b_Integer_bitCount 29 = .ok (.ldc_w 267, 3) := by decide +kernel
theorem d_Integer_bitCount_32 : decode b_Integer_bitCount 32 = .ok (.iand, 1) := by decide +kernel
theorem d_Integer_bitCount_33 : decode b_Integer_bitCount 33 = .ok (.istore_n 0, 1) := by decide +kernel
theorem d_Integer_bitCount_34 : decode b_Integer_bitCount 34 = .ok (.iload_n 0, 1) := by decide +kernel
theorem d_Integer_bitCount_35 : decode b_Integer_bitCount 35 = .ok (.iload_n 0, 1) := by decide +kernel
theorem d_Integer_bitCount_36 : decode b_Integer_bitCount 36 = .ok (.bipush (8), 2) := by decide +kernel
theorem d_Integer_bitCount_38 : decode b_Integer_bitCount 38 = .ok (.iushr, 1) := by decide +kernel
theorem d_Integer_bitCount_39 : decode b_Integer_bitCount 39 = .ok (.iadd, 1) := by decide +kernel
theorem d_Integer_bitCount_40 : decode b_Integer_bitCount 40 = .ok (.istore_n 0, 1) := by decide +kernel
theorem d_Integer_bitCount_41 : decode b_Integer_bitCount 41 = .ok (.iload_n 0, 1) := by decide +kernel
theorem d_Integer_bitCount_42 : decode b_Integer_bitCount 42 = .ok (.iload_n 0, 1) := by decide +kernel
theorem d_Integer_bitCount_43 : decode b_Integer_bitCount 43 = .ok (.bipush (16), 2) := by decide +kernel
theorem d_Integer_bitCount_45 : decode b_Integer_bitCount 45 = .ok (.iushr, 1) := by decide +kernel
theorem d_Integer_bitCount_46 : decode b_Integer_bitCount 46 = .ok (.iadd, 1) := by decide +kernel
theorem d_Integer_bitCount_47 : decode b_Integer_bitCount 47 = .ok (.istore_n 0, 1) := by decide +kernel
theorem d_Integer_bitCount_48 : decode b_Integer_bitCount 48 = .ok (.iload_n 0, 1) := by decide +kernel
theorem d_Integer_bitCount_49 : decode b_Integer_bitCount 49 = .ok (.bipush (63), 2) := by decide +kernel
theorem d_Integer_bitCount_51 : decode b_Integer_bitCount 51 = .ok (.iand, 1) := by decide +kernel
theorem d_Integer_bitCount_52 : decode b_Integer_bitCount 52 = .ok (.ireturn, 1) := by decide +kernel
theorem c_Integer_bitCount (l : Launch) (θ : ZT) {x0 : Int32} {σ : ZM} {res : Int32 × ZM} (h : f_Integer_bitCount x0 σ = some res) : zMet mkI l 0 129 θ y_Integer_bitCount b_Integer_bitCount 1 (some .int) (zrm 1 60) [.int x0] σ res := by
  unfold f_Integer_bitCount at h
  refine z_met (lv := [(0, .int x0)]) (by decide +kernel) rfl (Nat.le_of_ble_eq_true rfl) (by decide) ?_
  refine z_iload_n 0 d_Integer_bitCount_0 rfl rfl ?_
  refine z_iload_n 0 d_Integer_bitCount_1 rfl rfl ?_
  refine z_iconst (v := 1) d_Integer_bitCount_2 (by decide) ?_
  refine z_iushr d_Integer_bitCount_3 rfl ?_
  refine z_ldcw (v := 1431655765) d_Integer_bitCount_4 q_599 ?_
  refine z_iand d_Integer_bitCount_7 ?_
  refine z_isub d_Integer_bitCount_8 ?_
  refine z_istore_n d_Integer_bitCount_9 rfl (by decide) rfl ?_
  refine z_iload_n 0 d_Integer_bitCount_10 rfl rfl ?_
  refine z_ldcw (v := 858993459) d_Integer_bitCount_11 q_600 ?_
  refine z_iand d_Integer_bitCount_14 ?_
  refine z_iload_n 0 d_Integer_bitCount_15 rfl rfl ?_
  refine z_iconst (v := 2) d_Integer_bitCount_16 (by decide) ?_
  refine z_iushr d_Integer_bitCount_17 rfl ?_
  refine z_ldcw (v := 858993459) d_Integer_bitCount_18 q_600 ?_
  refine z_iand d_Integer_bitCount_21 ?_
  refine z_iadd d_Integer_bitCount_22 ?_
  refine z_istore_n d_Integer_bitCount_23 rfl (by decide) rfl ?_
  refine z_iload_n 0 d_Integer_bitCount_24 rfl rfl ?_
  refine z_iload_n 0 d_Integer_bitCount_25 rfl rfl ?_
  refine z_iconst (v := 4) d_Integer_bitCount_26 (by decide) ?_
  refine z_iushr d_Integer_bitCount_27 rfl ?_
  refine z_iadd d_Integer_bitCount_28 ?_
  refine z_ldcw (v := 252645135) d_Integer_bitCount_29 q_601 ?_
  refine z_iand d_Integer_bitCount_32 ?_
  refine z_istore_n d_Integer_bitCount_33 rfl (by decide) rfl ?_
  refine z_iload_n 0 d_Integer_bitCount_34 rfl rfl ?_
  refine z_iload_n 0 d_Integer_bitCount_35 rfl rfl ?_
  refine z_bipush (v := 8) d_Integer_bitCount_36 (by decide) ?_
  refine z_iushr d_Integer_bitCount_38 rfl ?_
  refine z_iadd d_Integer_bitCount_39 ?_
  refine z_istore_n d_Integer_bitCount_40 rfl (by decide) rfl ?_
  refine z_iload_n 0 d_Integer_bitCount_41 rfl rfl ?_
  refine z_iload_n 0 d_Integer_bitCount_42 rfl rfl ?_
  refine z_bipush (v := 16) d_Integer_bitCount_43 (by decide) ?_
  refine z_iushr d_Integer_bitCount_45 rfl ?_
  refine z_iadd d_Integer_bitCount_46 ?_
  refine z_istore_n d_Integer_bitCount_47 rfl (by decide) rfl ?_
  refine z_iload_n 0 d_Integer_bitCount_48 rfl rfl ?_
  refine z_bipush (v := 63) d_Integer_bitCount_49 (by decide) ?_
  refine z_iand d_Integer_bitCount_51 ?_
  exact z_iret d_Integer_bitCount_52 h
theorem d_BB_isSet_0 : decode b_BB_isSet 0 = .ok (.iload_n 1, 1) := by decide +kernel
theorem d_BB_isSet_1 : decode b_BB_isSet 1 = .ok (.ifCond .lt (28), 3) := by decide +kernel
theorem d_BB_isSet_4 : decode b_BB_isSet 4 = .ok (.iload_n 1, 1) := by decide +kernel
theorem d_BB_isSet_5 : decode b_BB_isSet 5 = .ok (.iconst (1), 1) := by decide +kernel
theorem d_BB_isSet_6 : decode b_BB_isSet 6 = .ok (.aload_n 0, 1) := by decide +kernel
theorem d_BB_isSet_7 : decode b_BB_isSet 7 = .ok (.getfield 12, 3) := by decide +kernel
theorem d_BB_isSet_10 : decode b_BB_isSet 10 = .ok (.getfield 78, 3) := by decide +kernel
theorem d_BB_isSet_13 : decode b_BB_isSet 13 = .ok (.ishl, 1) := by decide +kernel
theorem d_BB_isSet_14 : decode b_BB_isSet 14 = .ok (.if_icmp .ge (15), 3) := by decide +kernel
theorem d_BB_isSet_17 : decode b_BB_isSet 17 = .ok (.iload_n 1, 1) := by decide +kernel
theorem d_BB_isSet_18 : decode b_BB_isSet 18 = .ok (.invokestatic 294, 3) := by decide +kernel
theorem d_BB_isSet_21 : decode b_BB_isSet 21 = .ok (.iload_n 2, 1) := by decide +kernel
theorem d_BB_isSet_22 : decode b_BB_isSet 22 = .ok (.if_icmp .gt (7), 3) := by decide +kernel
theorem d_BB_isSet_25 : decode b_BB_isSet 25 = .ok (.iconst (1), 1) := by decide +kernel
theorem d_BB_isSet_26 : decode b_BB_isSet 26 = .ok (.goto (4), 3) := by decide +kernel
theorem d_BB_isSet_29 : decode b_BB_isSet 29 = .ok (.iconst (0), 1) := by decide +kernel
theorem d_BB_isSet_30 : decode b_BB_isSet 30 = .ok (.ireturn, 1) := by decide +kernel
theorem c_BB_isSet (l : Launch) (θ : ZT) {x1 : Int32} {x2 : Int32} {σ : ZM} {res : Int32 × ZM} (h : f_BB_isSet x1 x2 σ = some res) : zMet mkI l 0 129 θ y_BB_isSet b_BB_isSet 3 (some .boolean) (zrm 2 80) [.ref (za θ 0), .int x1, .int x2] σ res := by
  unfold f_BB_isSet at h
  refine z_met (lv := [(0, .ref (za θ 0)), (1, .int x1), (2, .int x2)]) (by decide +kernel) rfl (Nat.le_of_ble_eq_true rfl) (by decide) ?_
  refine z_iload_n 1 d_BB_isSet_0 rfl rfl ?_
  refine z_if_lt (tgt := 29) d_BB_isSet_1 (by decide) (fun c1 => ?_) (fun c1 => ?_)
  · have h := (if_pos c1).symm.trans h
    refine z_iconst (v := 0) d_BB_isSet_29 (by decide) ?_
    exact z_zret d_BB_isSet_30 (by decide) h
  · have h := (if_neg c1).symm.trans h
    refine z_iload_n 1 d_BB_isSet_4 rfl rfl ?_
    refine z_iconst (v := 1) d_BB_isSet_5 (by decide) ?_
    refine z_aload_n 0 d_BB_isSet_6 rfl rfl ?_
    refine gf_BB_now zl_0 d_BB_isSet_7 q_303 ?_
    refine gf_Stand_many zl_1 d_BB_isSet_10 q_126 ?_
    refine z_ishl d_BB_isSet_13 ?_
    refine z_icmp_ge (tgt := 29) d_BB_isSet_14 (by decide) (fun c2 => ?_) (fun c2 => ?_)
    · have h := (if_pos c2).symm.trans h
      refine z_iconst (v := 0) d_BB_isSet_29 (by decide) ?_
      exact z_zret d_BB_isSet_30 (by decide) h
    · have h := (if_neg c2).symm.trans h
      refine z_iload_n 1 d_BB_isSet_17 rfl rfl ?_
      obtain ⟨⟨v3, s4⟩, e5, h⟩ := zbd_i h
      refine w_callS (As := [.int x1]) (c_Integer_bitCount l θ e5) cf_Integer_bitCount q_596 d_BB_isSet_18 rfl rfl rfl (Nat.le_of_ble_eq_true rfl) rfl rfl ⟨Nat.le_of_ble_eq_true rfl, Nat.le_of_ble_eq_true rfl⟩ ?_
      refine z_iload_n 2 d_BB_isSet_21 rfl rfl ?_
      refine z_icmp_gt (tgt := 29) d_BB_isSet_22 (by decide) (fun c6 => ?_) (fun c6 => ?_)
      · have h := (if_pos c6).symm.trans h
        refine z_iconst (v := 0) d_BB_isSet_29 (by decide) ?_
        exact z_zret d_BB_isSet_30 (by decide) h
      · have h := (if_neg c6).symm.trans h
        refine z_iconst (v := 1) d_BB_isSet_25 (by decide) ?_
        refine z_goto (tgt := 30) d_BB_isSet_26 (by decide) ?_
        exact z_zret d_BB_isSet_30 (by decide) h
theorem d_Search_keep_0 : decode b_Search_keep 0 = .ok (.iload_n 1, 1) := by decide +kernel
theorem d_Search_keep_1 : decode b_Search_keep 1 = .ok (.aload_n 0, 1) := by decide +kernel
theorem d_Search_keep_2 : decode b_Search_keep 2 = .ok (.getfield 43, 3) := by decide +kernel
theorem d_Search_keep_5 : decode b_Search_keep 5 = .ok (.if_icmp .ge (41), 3) := by decide +kernel
theorem d_Search_keep_8 : decode b_Search_keep 8 = .ok (.aload_n 0, 1) := by decide +kernel
theorem d_Search_keep_9 : decode b_Search_keep 9 = .ok (.iload_n 1, 1) := by decide +kernel
theorem d_Search_keep_10 : decode b_Search_keep 10 = .ok (.putfield 43, 3) := by decide +kernel
theorem d_Search_keep_13 : decode b_Search_keep 13 = .ok (.iconst (0), 1) := by decide +kernel
theorem d_Search_keep_14 : decode b_Search_keep 14 = .ok (.istore_n 2, 1) := by decide +kernel
theorem d_Search_keep_15 : decode b_Search_keep 15 = .ok (.iload_n 2, 1) := by decide +kernel
theorem d_Search_keep_16 : decode b_Search_keep 16 = .ok (.aload_n 0, 1) := by decide +kernel
theorem d_Search_keep_17 : decode b_Search_keep 17 = .ok (.getfield 39, 3) := by decide +kernel
theorem d_Search_keep_20 : decode b_Search_keep 20 = .ok (.if_icmp .ge (26), 3) := by decide +kernel
theorem d_Search_keep_23 : decode b_Search_keep 23 = .ok (.iload_n 2, 1) := by decide +kernel
theorem d_Search_keep_24 : decode b_Search_keep 24 = .ok (.iconst (5), 1) := by decide +kernel
theorem d_Search_keep_25 : decode b_Search_keep 25 = .ok (.if_icmp .ge (21), 3) := by decide +kernel
theorem d_Search_keep_28 : decode b_Search_keep 28 = .ok (.aload_n 0, 1) := by decide +kernel
theorem d_Search_keep_29 : decode b_Search_keep 29 = .ok (.getfield 21, 3) := by decide +kernel
theorem d_Search_keep_32 : decode b_Search_keep 32 = .ok (.iload_n 2, 1) := by decide +kernel
theorem d_Search_keep_33 : decode b_Search_keep 33 = .ok (.aload_n 0, 1) := by decide +kernel
theorem d_Search_keep_34 : decode b_Search_keep 34 = .ok (.getfield 17, 3) := by decide +kernel
theorem d_Search_keep_37 : decode b_Search_keep 37 = .ok (.iload_n 2, 1) := by decide +kernel
theorem d_Search_keep_38 : decode b_Search_keep 38 = .ok (.iaload, 1) := by decide +kernel
theorem d_Search_keep_39 : decode b_Search_keep 39 = .ok (.iastore, 1) := by decide +kernel
theorem d_Search_keep_40 : decode b_Search_keep 40 = .ok (.iinc 2 (1), 3) := by decide +kernel
theorem d_Search_keep_43 : decode b_Search_keep 43 = .ok (.goto (-28), 3) := by decide +kernel
theorem d_Search_keep_46 : decode b_Search_keep 46 = .ok (.return_, 1) := by decide +kernel
theorem zb_Search_keep_15 {l : Launch} {θ : ZT} {res : Unit × ZM} {k15 : Int32 × ZM → Option (Unit × ZM)} (hk15 : ∀ a : Int32 × ZM, k15 a = some res → WZ l b_Search_keep 3 none "BakedBefore$Search" 0 129 θ (zrm 1 60) (zQ mkV 0 129 θ res) a.2 [(0, .ref (za θ 7)), (2, .int a.1)] 15 []) {x2 : Int32} {σ : ZM} (h : f_Search_keep_15 k15 x2 σ = some res) : WZ l b_Search_keep 3 none "BakedBefore$Search" 0 129 θ (zrm 1 60) (zQ mkV 0 129 θ res) σ [(0, .ref (za θ 7)), (2, .int x2)] 15 [] := by
  unfold f_Search_keep_15 at h
  refine z_iload_n 1 d_Search_keep_15 rfl rfl ?_
  refine z_aload_n 0 d_Search_keep_16 rfl rfl ?_
  refine gf_Search_length zl_7 d_Search_keep_17 q_250 ?_
  refine z_icmp_ge (tgt := 46) d_Search_keep_20 (by decide) (fun c1 => ?_) (fun c1 => ?_)
  · have h := (if_pos c1).symm.trans h
    exact z_vret d_Search_keep_46 h
  · have h := (if_neg c1).symm.trans h
    refine z_iload_n 1 d_Search_keep_23 rfl rfl ?_
    refine z_iconst (v := 5) d_Search_keep_24 (by decide) ?_
    refine z_icmp_ge (tgt := 46) d_Search_keep_25 (by decide) (fun c2 => ?_) (fun c2 => ?_)
    · have h := (if_pos c2).symm.trans h
      exact z_vret d_Search_keep_46 h
    · have h := (if_neg c2).symm.trans h
      refine z_aload_n 0 d_Search_keep_28 rfl rfl ?_
      refine gf_Search_best zl_7 d_Search_keep_29 q_248 ?_
      refine z_iload_n 1 d_Search_keep_32 rfl rfl ?_
      refine z_aload_n 0 d_Search_keep_33 rfl rfl ?_
      refine gf_Search_row zl_7 d_Search_keep_34 q_247 ?_
      refine z_iload_n 1 d_Search_keep_37 rfl rfl ?_
      obtain ⟨c3, h⟩ := zck_i h
      refine w_iald zl_22 c3 d_Search_keep_38 ?_
      obtain ⟨c4, h⟩ := zck_i h
      refine w_iast zl_23 c4 d_Search_keep_39 ?_
      refine z_iinc (v := x2 + (1 : Int32)) 1 d_Search_keep_40 rfl rfl (by decide) rfl ?_
      refine z_goto (tgt := 15) d_Search_keep_43 (by decide) ?_
      refine z_sub [1, 0] rfl ?_
      exact hk15 ((x2 + (1 : Int32)), (zsI σ 23 x2.toNatClampNeg (zI σ 22 x2.toNatClampNeg))) h
theorem zl_Search_keep_15 {l : Launch} {θ : ZT} {res : Unit × ZM} : ∀ (N : Nat) (a : Int32 × ZM), F_Search_keep_15 N a = some res → WZ l b_Search_keep 3 none "BakedBefore$Search" 0 129 θ (zrm 1 60) (zQ mkV 0 129 θ res) a.2 [(0, .ref (za θ 7)), (2, .int a.1)] 15 [] := by
  intro N
  induction N with
  | zero => intro a  h; cases (show (none : Option (Unit × ZM)) = some res from h)
  | succ N ih => intro a  h; exact zb_Search_keep_15 ih (show f_Search_keep_15 (F_Search_keep_15 N) a.1 a.2 = some res from h)
theorem c_Search_keep (l : Launch) (θ : ZT) {x1 : Int32} {σ : ZM} {res : Unit × ZM} (h : f_Search_keep x1 σ = some res) : zMet mkV l 0 129 θ y_Search_keep b_Search_keep 3 none (zrm 1 60) [.ref (za θ 7), .int x1] σ res := by
  unfold f_Search_keep at h
  refine z_met (lv := [(0, .ref (za θ 7)), (1, .int x1)]) (by decide +kernel) rfl (Nat.le_of_ble_eq_true rfl) (by decide) ?_
  refine z_iload_n 1 d_Search_keep_0 rfl rfl ?_
  refine z_aload_n 0 d_Search_keep_1 rfl rfl ?_
  refine gf_Search_fewest zl_7 d_Search_keep_2 q_252 ?_
  refine z_icmp_ge (tgt := 46) d_Search_keep_5 (by decide) (fun c1 => ?_) (fun c1 => ?_)
  · have h := (if_pos c1).symm.trans h
    exact z_vret d_Search_keep_46 h
  · have h := (if_neg c1).symm.trans h
    refine z_aload_n 0 d_Search_keep_8 rfl rfl ?_
    refine z_iload_n 1 d_Search_keep_9 rfl rfl ?_
    refine pf_Search_fewest zl_7 d_Search_keep_10 q_252 ?_
    refine z_iconst (v := 0) d_Search_keep_13 (by decide) ?_
    refine z_istore_n d_Search_keep_14 rfl (by decide) rfl ?_
    refine z_sub [1, 0] rfl ?_
    exact zl_Search_keep_15 2000 ((0 : Int32), (zsI σ 7 6 x1)) h
theorem d_Search_goOnOrder_0 : decode b_Search_goOnOrder 0 = .ok (.iload_n 1, 1) := by decide +kernel
theorem d_Search_goOnOrder_1 : decode b_Search_goOnOrder 1 = .ok (.ifCond .ne (9), 3) := by decide +kernel
theorem d_Search_goOnOrder_4 : decode b_Search_goOnOrder 4 = .ok (.aload_n 0, 1) := by decide +kernel
theorem d_Search_goOnOrder_5 : decode b_Search_goOnOrder 5 = .ok (.iload_n 3, 1) := by decide +kernel
theorem d_Search_goOnOrder_6 : decode b_Search_goOnOrder 6 = .ok (.invokevirtual 60, 3) := by decide +kernel
theorem d_Search_goOnOrder_9 : decode b_Search_goOnOrder 9 = .ok (.return_, 1) := by decide +kernel
theorem d_Search_goOnOrder_10 : decode b_Search_goOnOrder 10 = .ok (.iload_n 2, 1) := by decide +kernel
theorem d_Search_goOnOrder_11 : decode b_Search_goOnOrder 11 = .ok (.iconst (5), 1) := by decide +kernel
theorem d_Search_goOnOrder_12 : decode b_Search_goOnOrder 12 = .ok (.if_icmp .lt (4), 3) := by decide +kernel
theorem d_Search_goOnOrder_15 : decode b_Search_goOnOrder 15 = .ok (.return_, 1) := by decide +kernel
theorem d_Search_goOnOrder_16 : decode b_Search_goOnOrder 16 = .ok (.aload_n 0, 1) := by decide +kernel
theorem d_Search_goOnOrder_17 : decode b_Search_goOnOrder 17 = .ok (.getfield 13, 3) := by decide +kernel
theorem d_Search_goOnOrder_20 : decode b_Search_goOnOrder 20 = .ok (.iload_n 2, 1) := by decide +kernel
theorem d_Search_goOnOrder_21 : decode b_Search_goOnOrder 21 = .ok (.aaload, 1) := by decide +kernel
theorem d_Search_goOnOrder_22 : decode b_Search_goOnOrder 22 = .ok (.astore 4, 2) := by decide +kernel
theorem d_Search_goOnOrder_24 : decode b_Search_goOnOrder 24 = .ok (.aload_n 0, 1) := by decide +kernel
theorem d_Search_goOnOrder_25 : decode b_Search_goOnOrder 25 = .ok (.getfield 13, 3) := by decide +kernel
theorem d_Search_goOnOrder_28 : decode b_Search_goOnOrder 28 = .ok (.iload_n 2, 1) := by decide +kernel
theorem d_Search_goOnOrder_29 : decode b_Search_goOnOrder 29 = .ok (.iconst (1), 1) := by decide +kernel
theorem d_Search_goOnOrder_30 : decode b_Search_goOnOrder 30 = .ok (.iadd, 1) := by decide +kernel
theorem d_Search_goOnOrder_31 : decode b_Search_goOnOrder 31 = .ok (.aaload, 1) := by decide +kernel
theorem d_Search_goOnOrder_32 : decode b_Search_goOnOrder 32 = .ok (.astore 5, 2) := by decide +kernel
theorem d_Search_goOnOrder_34 : decode b_Search_goOnOrder 34 = .ok (.iconst (0), 1) := by decide +kernel
theorem d_Search_goOnOrder_35 : decode b_Search_goOnOrder 35 = .ok (.istore 6, 2) := by decide +kernel
theorem d_Search_goOnOrder_37 : decode b_Search_goOnOrder 37 = .ok (.iload 6, 2) := by decide +kernel
theorem d_Search_goOnOrder_39 : decode b_Search_goOnOrder 39 = .ok (.aload_n 0, 1) := by decide +kernel
theorem d_Search_goOnOrder_40 : decode b_Search_goOnOrder 40 = .ok (.getfield 24, 3) := by decide +kernel
theorem d_Search_goOnOrder_43 : decode b_Search_goOnOrder 43 = .ok (.getfield 64, 3) := by decide +kernel
theorem d_Search_goOnOrder_46 : decode b_Search_goOnOrder 46 = .ok (.if_icmp .ge (90), 3) := by decide +kernel
theorem d_Search_goOnOrder_49 : decode b_Search_goOnOrder 49 = .ok (.iload_n 3, 1) := by decide +kernel
theorem d_Search_goOnOrder_50 : decode b_Search_goOnOrder 50 = .ok (.aload_n 0, 1) := by decide +kernel
theorem d_Search_goOnOrder_51 : decode b_Search_goOnOrder 51 = .ok (.getfield 43, 3) := by decide +kernel
theorem d_Search_goOnOrder_54 : decode b_Search_goOnOrder 54 = .ok (.if_icmp .ge (82), 3) := by decide +kernel
theorem d_Search_goOnOrder_57 : decode b_Search_goOnOrder 57 = .ok (.iload_n 1, 1) := by decide +kernel
theorem d_Search_goOnOrder_58 : decode b_Search_goOnOrder 58 = .ok (.iload 6, 2) := by decide +kernel
theorem d_Search_goOnOrder_60 : decode b_Search_goOnOrder 60 = .ok (.ishr, 1) := by decide +kernel
theorem d_Search_goOnOrder_61 : decode b_Search_goOnOrder 61 = .ok (.iconst (1), 1) := by decide +kernel
theorem d_Search_goOnOrder_62 : decode b_Search_goOnOrder 62 = .ok (.iand, 1) := by decide +kernel
theorem d_Search_goOnOrder_63 : decode b_Search_goOnOrder 63 = .ok (.iconst (1), 1) := by decide +kernel
theorem d_Search_goOnOrder_64 : decode b_Search_goOnOrder 64 = .ok (.if_icmp .ne (66), 3) := by decide +kernel
theorem d_Search_goOnOrder_67 : decode b_Search_goOnOrder 67 = .ok (.aload 5, 2) := by decide +kernel
theorem d_Search_goOnOrder_69 : decode b_Search_goOnOrder 69 = .ok (.aload 4, 2) := by decide +kernel
theorem d_Search_goOnOrder_71 : decode b_Search_goOnOrder 71 = .ok (.invokevirtual 52, 3) := by decide +kernel
theorem d_Search_goOnOrder_74 : decode b_Search_goOnOrder 74 = .ok (.aload_n 0, 1) := by decide +kernel
theorem d_Search_goOnOrder_75 : decode b_Search_goOnOrder 75 = .ok (.getfield 17, 3) := by decide +kernel
theorem d_Search_goOnOrder_78 : decode b_Search_goOnOrder 78 = .ok (.iload_n 2, 1) := by decide +kernel
theorem d_Search_goOnOrder_79 : decode b_Search_goOnOrder 79 = .ok (.iload 6, 2) := by decide +kernel
theorem d_Search_goOnOrder_81 : decode b_Search_goOnOrder 81 = .ok (.iastore, 1) := by decide +kernel
theorem d_Search_goOnOrder_82 : decode b_Search_goOnOrder 82 = .ok (.aload_n 0, 1) := by decide +kernel
theorem d_Search_goOnOrder_83 : decode b_Search_goOnOrder 83 = .ok (.getfield 28, 3) := by decide +kernel
theorem d_Search_goOnOrder_86 : decode b_Search_goOnOrder 86 = .ok (.aload 5, 2) := by decide +kernel
theorem d_Search_goOnOrder_88 : decode b_Search_goOnOrder 88 = .ok (.aload_n 0, 1) := by decide +kernel
theorem d_Search_goOnOrder_89 : decode b_Search_goOnOrder 89 = .ok (.getfield 24, 3) := by decide +kernel
theorem d_Search_goOnOrder_92 : decode b_Search_goOnOrder 92 = .ok (.getfield 67, 3) := by decide +kernel
theorem d_Search_goOnOrder_95 : decode b_Search_goOnOrder 95 = .ok (.iload 6, 2) := by decide +kernel
theorem d_Search_goOnOrder_97 : decode b_Search_goOnOrder 97 = .ok (.aaload, 1) := by decide +kernel
theorem d_Search_goOnOrder_98 : decode b_Search_goOnOrder 98 = .ok (.invokevirtual 71, 3) := by decide +kernel
theorem d_Search_goOnOrder_101 : decode b_Search_goOnOrder 101 = .ok (.istore 7, 2) := by decide +kernel
theorem d_Search_goOnOrder_103 : decode b_Search_goOnOrder 103 = .ok (.aload_n 0, 1) := by decide +kernel
theorem d_Search_goOnOrder_104 : decode b_Search_goOnOrder 104 = .ok (.iload_n 1, 1) := by decide +kernel
theorem d_Search_goOnOrder_105 : decode b_Search_goOnOrder 105 = .ok (.iconst (1), 1) := by decide +kernel
theorem d_Search_goOnOrder_106 : decode b_Search_goOnOrder 106 = .ok (.iload 6, 2) := by decide +kernel
theorem d_Search_goOnOrder_108 : decode b_Search_goOnOrder 108 = .ok (.ishl, 1) := by decide +kernel
theorem d_Search_goOnOrder_109 : decode b_Search_goOnOrder 109 = .ok (.iconst (-1), 1) := by decide +kernel
theorem d_Search_goOnOrder_110 : decode b_Search_goOnOrder 110 = .ok (.ixor, 1) := by decide +kernel
theorem d_Search_goOnOrder_111 : decode b_Search_goOnOrder 111 = .ok (.iand, 1) := by decide +kernel
theorem d_Search_goOnOrder_112 : decode b_Search_goOnOrder 112 = .ok (.iload_n 2, 1) := by decide +kernel
theorem d_Search_goOnOrder_113 : decode b_Search_goOnOrder 113 = .ok (.iconst (1), 1) := by decide +kernel
theorem d_Search_goOnOrder_114 : decode b_Search_goOnOrder 114 = .ok (.iadd, 1) := by decide +kernel
theorem d_Search_goOnOrder_115 : decode b_Search_goOnOrder 115 = .ok (.iload 7, 2) := by decide +kernel
theorem d_Search_goOnOrder_117 : decode b_Search_goOnOrder 117 = .ok (.ifCond .eq (9), 3) := by decide +kernel
theorem d_Search_goOnOrder_120 : decode b_Search_goOnOrder 120 = .ok (.iload_n 3, 1) := by decide +kernel
theorem d_Search_goOnOrder_121 : decode b_Search_goOnOrder 121 = .ok (.iconst (1), 1) := by decide +kernel
theorem d_Search_goOnOrder_122 : decode b_Search_goOnOrder 122 = .ok (.iadd, 1) := by decide +kernel
theorem d_Search_goOnOrder_123 : decode b_Search_goOnOrder 123 = .ok (.goto (4), 3) := by decide +kernel
theorem d_Search_goOnOrder_126 : decode b_Search_goOnOrder 126 = .ok (.iload_n 3, 1) := by decide +kernel
theorem d_Search_goOnOrder_127 : decode b_Search_goOnOrder 127 = .ok (.invokestatic 56, 3) := by decide +kernel
theorem d_Search_goOnOrder_130 : decode b_Search_goOnOrder 130 = .ok (.iinc 6 (1), 3) := by decide +kernel
theorem d_Search_goOnOrder_133 : decode b_Search_goOnOrder 133 = .ok (.goto (-96), 3) := by decide +kernel
theorem d_Search_goOnOrder_136 : decode b_Search_goOnOrder 136 = .ok (.return_, 1) := by decide +kernel
theorem zb_Search_goOnOrder_130 {l : Launch} {θ : ZT} {res : Unit × ZM} {rec : Int32 × Int32 × Int32 × ZM → Option (Unit × ZM)} (n : Nat) (hrec : ∀ (a : Int32 × Int32 × Int32 × ZM) (r : Unit × ZM), rec a = some r → zMet mkV l 0 129 θ y_Search_goOnOrder b_Search_goOnOrder 8 none (zrm (6 + 1 * n) (190 + 27 * n)) [.ref (za θ 7), .int a.1, .int a.2.1, .int a.2.2.1] a.2.2.2 r) {k37 : Int32 × Int32 × Int32 × Nat × Nat × Int32 × ZM → Option (Unit × ZM)} (hk37 : ∀ a : Int32 × Int32 × Int32 × Nat × Nat × Int32 × ZM, zR 0 129 a.2.2.2.1 17 0 = true → zR 0 129 a.2.2.2.2.1 17 0 = true → k37 a = some res → WZ l b_Search_goOnOrder 8 none "BakedBefore$Search" 0 129 θ (zrm (6 + 1 * (n + 1)) (190 + 27 * (n + 1))) (zQ mkV 0 129 θ res) a.2.2.2.2.2.2 [(0, .ref (za θ 7)), (1, .int a.1), (2, .int a.2.1), (3, .int a.2.2.1), (4, .ref (za θ a.2.2.2.1)), (5, .ref (za θ a.2.2.2.2.1)), (6, .int a.2.2.2.2.2.1)] 37 []) {x1 : Int32} {x2 : Int32} {x3 : Int32} {x4 : Nat} {x5 : Nat} {x6 : Int32} {σ : ZM} (hx4 : zR 0 129 x4 17 0 = true) (hx5 : zR 0 129 x5 17 0 = true) (h : f_Search_goOnOrder_130 rec k37 x1 x2 x3 x4 x5 x6 σ = some res) : WZ l b_Search_goOnOrder 8 none "BakedBefore$Search" 0 129 θ (zrm (6 + 1 * (n + 1)) (190 + 27 * (n + 1))) (zQ mkV 0 129 θ res) σ [(0, .ref (za θ 7)), (1, .int x1), (2, .int x2), (3, .int x3), (4, .ref (za θ x4)), (5, .ref (za θ x5)), (6, .int x6)] 130 [] := by
  unfold f_Search_goOnOrder_130 at h
  refine z_iinc (v := x6 + (1 : Int32)) 6 d_Search_goOnOrder_130 rfl rfl (by decide) rfl ?_
  refine z_goto (tgt := 37) d_Search_goOnOrder_133 (by decide) ?_
  refine z_sub [1, 2, 3, 4, 5, 6, 0] rfl ?_
  exact hk37 (x1, x2, x3, x4, x5, (x6 + (1 : Int32)), σ) hx4 hx5 h
theorem zb_Search_goOnOrder_127 {l : Launch} {θ : ZT} {res : Unit × ZM} {rec : Int32 × Int32 × Int32 × ZM → Option (Unit × ZM)} (n : Nat) (hrec : ∀ (a : Int32 × Int32 × Int32 × ZM) (r : Unit × ZM), rec a = some r → zMet mkV l 0 129 θ y_Search_goOnOrder b_Search_goOnOrder 8 none (zrm (6 + 1 * n) (190 + 27 * n)) [.ref (za θ 7), .int a.1, .int a.2.1, .int a.2.2.1] a.2.2.2 r) {k37 : Int32 × Int32 × Int32 × Nat × Nat × Int32 × ZM → Option (Unit × ZM)} (hk37 : ∀ a : Int32 × Int32 × Int32 × Nat × Nat × Int32 × ZM, zR 0 129 a.2.2.2.1 17 0 = true → zR 0 129 a.2.2.2.2.1 17 0 = true → k37 a = some res → WZ l b_Search_goOnOrder 8 none "BakedBefore$Search" 0 129 θ (zrm (6 + 1 * (n + 1)) (190 + 27 * (n + 1))) (zQ mkV 0 129 θ res) a.2.2.2.2.2.2 [(0, .ref (za θ 7)), (1, .int a.1), (2, .int a.2.1), (3, .int a.2.2.1), (4, .ref (za θ a.2.2.2.1)), (5, .ref (za θ a.2.2.2.2.1)), (6, .int a.2.2.2.2.2.1)] 37 []) {x1 : Int32} {x2 : Int32} {x3 : Int32} {x4 : Nat} {x5 : Nat} {x6 : Int32} {y0 : Int32} {y1 : Int32} {y2 : Int32} {σ : ZM} (hx4 : zR 0 129 x4 17 0 = true) (hx5 : zR 0 129 x5 17 0 = true) (h : f_Search_goOnOrder_127 rec k37 x1 x2 x3 x4 x5 x6 y0 y1 y2 σ = some res) : WZ l b_Search_goOnOrder 8 none "BakedBefore$Search" 0 129 θ (zrm (6 + 1 * (n + 1)) (190 + 27 * (n + 1))) (zQ mkV 0 129 θ res) σ [(0, .ref (za θ 7)), (1, .int x1), (2, .int x2), (3, .int x3), (4, .ref (za θ x4)), (5, .ref (za θ x5)), (6, .int x6)] 127 [.int y0, .int y1, .int y2, .ref (za θ 7)] := by
  unfold f_Search_goOnOrder_127 at h
  obtain ⟨⟨v1, s2⟩, e3, h⟩ := zbd_i h
  refine w_callS (As := [.ref (za θ 7), .int y2, .int y1, .int y0]) (hrec (y2, y1, y0, σ) _ e3) cf_Search_goOnOrder q_608 d_Search_goOnOrder_127 rfl rfl rfl (Nat.le_of_ble_eq_true rfl) rfl rfl ⟨by simp only [zrm]; omega, by simp only [zrm]; omega⟩ ?_
  exact zb_Search_goOnOrder_130 n hrec hk37 hx4 hx5 h
theorem zb_Search_goOnOrder_37 {l : Launch} {θ : ZT} {res : Unit × ZM} {rec : Int32 × Int32 × Int32 × ZM → Option (Unit × ZM)} (n : Nat) (hrec : ∀ (a : Int32 × Int32 × Int32 × ZM) (r : Unit × ZM), rec a = some r → zMet mkV l 0 129 θ y_Search_goOnOrder b_Search_goOnOrder 8 none (zrm (6 + 1 * n) (190 + 27 * n)) [.ref (za θ 7), .int a.1, .int a.2.1, .int a.2.2.1] a.2.2.2 r) {k37 : Int32 × Int32 × Int32 × Nat × Nat × Int32 × ZM → Option (Unit × ZM)} (hk37 : ∀ a : Int32 × Int32 × Int32 × Nat × Nat × Int32 × ZM, zR 0 129 a.2.2.2.1 17 0 = true → zR 0 129 a.2.2.2.2.1 17 0 = true → k37 a = some res → WZ l b_Search_goOnOrder 8 none "BakedBefore$Search" 0 129 θ (zrm (6 + 1 * (n + 1)) (190 + 27 * (n + 1))) (zQ mkV 0 129 θ res) a.2.2.2.2.2.2 [(0, .ref (za θ 7)), (1, .int a.1), (2, .int a.2.1), (3, .int a.2.2.1), (4, .ref (za θ a.2.2.2.1)), (5, .ref (za θ a.2.2.2.2.1)), (6, .int a.2.2.2.2.2.1)] 37 []) {x1 : Int32} {x2 : Int32} {x3 : Int32} {x4 : Nat} {x5 : Nat} {x6 : Int32} {σ : ZM} (hx4 : zR 0 129 x4 17 0 = true) (hx5 : zR 0 129 x5 17 0 = true) (h : f_Search_goOnOrder_37 rec k37 x1 x2 x3 x4 x5 x6 σ = some res) : WZ l b_Search_goOnOrder 8 none "BakedBefore$Search" 0 129 θ (zrm (6 + 1 * (n + 1)) (190 + 27 * (n + 1))) (zQ mkV 0 129 θ res) σ [(0, .ref (za θ 7)), (1, .int x1), (2, .int x2), (3, .int x3), (4, .ref (za θ x4)), (5, .ref (za θ x5)), (6, .int x6)] 37 [] := by
  unfold f_Search_goOnOrder_37 at h
  refine z_iload 6 d_Search_goOnOrder_37 rfl ?_
  refine z_aload_n 0 d_Search_goOnOrder_39 rfl rfl ?_
  refine gf_Search_now zl_7 d_Search_goOnOrder_40 q_244 ?_
  refine gf_Stand_many zl_1 d_Search_goOnOrder_43 q_127 ?_
  refine z_icmp_ge (tgt := 136) d_Search_goOnOrder_46 (by decide) (fun c1 => ?_) (fun c1 => ?_)
  · have h := (if_pos c1).symm.trans h
    exact z_vret d_Search_goOnOrder_136 h
  · have h := (if_neg c1).symm.trans h
    refine z_iload_n 3 d_Search_goOnOrder_49 rfl rfl ?_
    refine z_aload_n 0 d_Search_goOnOrder_50 rfl rfl ?_
    refine gf_Search_fewest zl_7 d_Search_goOnOrder_51 q_252 ?_
    refine z_icmp_ge (tgt := 136) d_Search_goOnOrder_54 (by decide) (fun c2 => ?_) (fun c2 => ?_)
    · have h := (if_pos c2).symm.trans h
      exact z_vret d_Search_goOnOrder_136 h
    · have h := (if_neg c2).symm.trans h
      refine z_iload_n 1 d_Search_goOnOrder_57 rfl rfl ?_
      refine z_iload 6 d_Search_goOnOrder_58 rfl ?_
      refine z_ishr d_Search_goOnOrder_60 ?_
      refine z_iconst (v := 1) d_Search_goOnOrder_61 (by decide) ?_
      refine z_iand d_Search_goOnOrder_62 ?_
      refine z_iconst (v := 1) d_Search_goOnOrder_63 (by decide) ?_
      refine z_icmp_ne (tgt := 130) d_Search_goOnOrder_64 (by decide) (fun c3 => ?_) (fun c3 => ?_)
      · have h := (if_neg c3).symm.trans h
        exact zb_Search_goOnOrder_130 n hrec hk37 hx4 hx5 h
      · have h := (if_pos c3).symm.trans h
        refine z_aload 5 d_Search_goOnOrder_67 rfl ?_
        refine z_aload 4 d_Search_goOnOrder_69 rfl ?_
        obtain ⟨⟨v4, s5⟩, e6, h⟩ := zbd_i h
        refine w_callV (As := [.ref (za θ x4)]) (kc := 17) (ci := 7) (c_Oven_become l θ e6) cf_Oven_become q_607 d_Search_goOnOrder_71 hx5 rfl rfl rfl rfl rfl rfl (Nat.le_of_ble_eq_true rfl) rfl rfl ⟨by simp only [zrm]; omega, by simp only [zrm]; omega⟩ ?_
        refine z_aload_n 0 d_Search_goOnOrder_74 rfl rfl ?_
        refine gf_Search_row zl_7 d_Search_goOnOrder_75 q_247 ?_
        refine z_iload_n 2 d_Search_goOnOrder_78 rfl rfl ?_
        refine z_iload 6 d_Search_goOnOrder_79 rfl ?_
        obtain ⟨c7, h⟩ := zck_i h
        refine w_iast zl_22 c7 d_Search_goOnOrder_81 ?_
        refine z_aload_n 0 d_Search_goOnOrder_82 rfl rfl ?_
        refine gf_Search_baker zl_7 d_Search_goOnOrder_83 q_245 ?_
        refine z_aload 5 d_Search_goOnOrder_86 rfl ?_
        refine z_aload_n 0 d_Search_goOnOrder_88 rfl rfl ?_
        refine gf_Search_now zl_7 d_Search_goOnOrder_89 q_244 ?_
        refine gf_Stand_loaves (o2 := 25) zl_1 rfl d_Search_goOnOrder_92 q_117 ?_
        refine z_iload 6 d_Search_goOnOrder_95 rfl ?_
        obtain ⟨c8, h⟩ := zck_i h
        refine w_aald3 zl_25 c8 d_Search_goOnOrder_97 ?_
        obtain ⟨c9, h⟩ := zck_i h
        obtain ⟨⟨v10, s11⟩, e12, h⟩ := zbd_i h
        refine w_callV (As := [.ref (za θ x5), .ref (za θ (zel 25 x6.toNatClampNeg))]) (kc := 13) (ci := 3) (c_Baker_bakeIn l θ e12) cf_Baker_bakeIn q_615 d_Search_goOnOrder_98 zl_5 rfl rfl rfl rfl rfl rfl (Nat.le_of_ble_eq_true rfl) rfl rfl ⟨by simp only [zrm]; omega, by simp only [zrm]; omega⟩ ?_
        refine z_istore d_Search_goOnOrder_101 (by decide) rfl ?_
        refine z_aload_n 1 d_Search_goOnOrder_103 rfl rfl ?_
        refine z_iload_n 2 d_Search_goOnOrder_104 rfl rfl ?_
        refine z_iconst (v := 1) d_Search_goOnOrder_105 (by decide) ?_
        refine z_iload 7 d_Search_goOnOrder_106 rfl ?_
        refine z_ishl d_Search_goOnOrder_108 ?_
        refine z_iconst (v := -1) d_Search_goOnOrder_109 (by decide) ?_
        refine z_ixor d_Search_goOnOrder_110 ?_
        refine z_iand d_Search_goOnOrder_111 ?_
        refine z_iload_n 3 d_Search_goOnOrder_112 rfl rfl ?_
        refine z_iconst (v := 1) d_Search_goOnOrder_113 (by decide) ?_
        refine z_iadd d_Search_goOnOrder_114 ?_
        refine z_iload 0 d_Search_goOnOrder_115 rfl ?_
        refine z_if_eq (tgt := 126) d_Search_goOnOrder_117 (by decide) (fun c13 => ?_) (fun c13 => ?_)
        · have h := (if_pos c13).symm.trans h
          refine z_iload_n 4 d_Search_goOnOrder_126 rfl rfl ?_
          refine z_sub [1, 2, 3, 4, 5, 6, 7] rfl ?_
          exact zb_Search_goOnOrder_127 n hrec hk37 hx4 hx5 h
        · have h := (if_neg c13).symm.trans h
          refine z_iload_n 4 d_Search_goOnOrder_120 rfl rfl ?_
          refine z_iconst (v := 1) d_Search_goOnOrder_121 (by decide) ?_
          refine z_iadd d_Search_goOnOrder_122 ?_
          refine z_goto (tgt := 127) d_Search_goOnOrder_123 (by decide) ?_
          refine z_sub [1, 2, 3, 4, 5, 6, 7] rfl ?_
          exact zb_Search_goOnOrder_127 n hrec hk37 hx4 hx5 h
theorem zl_Search_goOnOrder_37 {l : Launch} {θ : ZT} {res : Unit × ZM} {rec : Int32 × Int32 × Int32 × ZM → Option (Unit × ZM)} (n : Nat) (hrec : ∀ (a : Int32 × Int32 × Int32 × ZM) (r : Unit × ZM), rec a = some r → zMet mkV l 0 129 θ y_Search_goOnOrder b_Search_goOnOrder 8 none (zrm (6 + 1 * n) (190 + 27 * n)) [.ref (za θ 7), .int a.1, .int a.2.1, .int a.2.2.1] a.2.2.2 r) : ∀ (N : Nat) (a : Int32 × Int32 × Int32 × Nat × Nat × Int32 × ZM), zR 0 129 a.2.2.2.1 17 0 = true → zR 0 129 a.2.2.2.2.1 17 0 = true → F_Search_goOnOrder_37 rec N a = some res → WZ l b_Search_goOnOrder 8 none "BakedBefore$Search" 0 129 θ (zrm (6 + 1 * (n + 1)) (190 + 27 * (n + 1))) (zQ mkV 0 129 θ res) a.2.2.2.2.2.2 [(0, .ref (za θ 7)), (1, .int a.1), (2, .int a.2.1), (3, .int a.2.2.1), (4, .ref (za θ a.2.2.2.1)), (5, .ref (za θ a.2.2.2.2.1)), (6, .int a.2.2.2.2.2.1)] 37 [] := by
  intro N
  induction N with
  | zero => intro a hx4 hx5 h; cases (show (none : Option (Unit × ZM)) = some res from h)
  | succ N ih => intro a hx4 hx5 h; exact zb_Search_goOnOrder_37 n hrec ih hx4 hx5 (show f_Search_goOnOrder_37 rec (F_Search_goOnOrder_37 rec N) a.1 a.2.1 a.2.2.1 a.2.2.2.1 a.2.2.2.2.1 a.2.2.2.2.2.1 a.2.2.2.2.2.2 = some res from h)
theorem c_Search_goOnOrder (l : Launch) (θ : ZT) {rec : Int32 × Int32 × Int32 × ZM → Option (Unit × ZM)} (n : Nat) (hrec : ∀ (a : Int32 × Int32 × Int32 × ZM) (r : Unit × ZM), rec a = some r → zMet mkV l 0 129 θ y_Search_goOnOrder b_Search_goOnOrder 8 none (zrm (6 + 1 * n) (190 + 27 * n)) [.ref (za θ 7), .int a.1, .int a.2.1, .int a.2.2.1] a.2.2.2 r) {x1 : Int32} {x2 : Int32} {x3 : Int32} {σ : ZM} {res : Unit × ZM} (h : f_Search_goOnOrder rec x1 x2 x3 σ = some res) : zMet mkV l 0 129 θ y_Search_goOnOrder b_Search_goOnOrder 8 none (zrm (6 + 1 * (n + 1)) (190 + 27 * (n + 1))) [.ref (za θ 7), .int x1, .int x2, .int x3] σ res := by
  unfold f_Search_goOnOrder at h
  refine z_met (lv := [(0, .ref (za θ 7)), (1, .int x1), (2, .int x2), (3, .int x3)]) (by decide +kernel) rfl (Nat.le_of_ble_eq_true rfl) (by decide) ?_
  refine z_iload_n 1 d_Search_goOnOrder_0 rfl rfl ?_
  refine z_if_ne (tgt := 10) d_Search_goOnOrder_1 (by decide) (fun c1 => ?_) (fun c1 => ?_)
  · have h := (if_neg c1).symm.trans h
    refine z_iload_n 2 d_Search_goOnOrder_10 rfl rfl ?_
    refine z_iconst (v := 5) d_Search_goOnOrder_11 (by decide) ?_
    refine z_icmp_lt (tgt := 16) d_Search_goOnOrder_12 (by decide) (fun c2 => ?_) (fun c2 => ?_)
    · have h := (if_pos c2).symm.trans h
      refine z_aload_n 0 d_Search_goOnOrder_16 rfl rfl ?_
      refine gf_Search_ovens zl_7 d_Search_goOnOrder_17 q_246 ?_
      refine z_iload_n 2 d_Search_goOnOrder_20 rfl rfl ?_
      obtain ⟨c3, h⟩ := zck_i h
      refine w_aald4 zl_24 c3 d_Search_goOnOrder_21 ?_
      obtain ⟨c4, h⟩ := zck_i h
      refine z_astore d_Search_goOnOrder_22 (by decide) rfl ?_
      refine z_aload_n 1 d_Search_goOnOrder_24 rfl rfl ?_
      refine gf_Search_ovens zl_7 d_Search_goOnOrder_25 q_246 ?_
      refine z_iload_n 3 d_Search_goOnOrder_28 rfl rfl ?_
      refine z_iconst (v := 1) d_Search_goOnOrder_29 (by decide) ?_
      refine z_iadd d_Search_goOnOrder_30 ?_
      obtain ⟨c5, h⟩ := zck_i h
      refine w_aald4 zl_24 c5 d_Search_goOnOrder_31 ?_
      obtain ⟨c6, h⟩ := zck_i h
      refine z_astore d_Search_goOnOrder_32 (by decide) rfl ?_
      refine z_iconst (v := 0) d_Search_goOnOrder_34 (by decide) ?_
      refine z_istore d_Search_goOnOrder_35 (by decide) rfl ?_
      refine z_sub [3, 4, 5, 6, 2, 1, 0] rfl ?_
      exact zl_Search_goOnOrder_37 n hrec 2000 (x1, x2, x3, (zel 24 x2.toNatClampNeg), (zel 24 (x2 + (1 : Int32)).toNatClampNeg), (0 : Int32), σ) c4 c6 h
    · have h := (if_neg c2).symm.trans h
      exact z_vret d_Search_goOnOrder_15 h
  · have h := (if_pos c1).symm.trans h
    refine z_aload_n 0 d_Search_goOnOrder_4 rfl rfl ?_
    refine z_iload_n 3 d_Search_goOnOrder_5 rfl rfl ?_
    obtain ⟨⟨v7, s8⟩, e9, h⟩ := zbd_i h
    refine w_callV (As := [.int x3]) (kc := 19) (ci := 9) (c_Search_keep l θ e9) cf_Search_keep q_611 d_Search_goOnOrder_6 zl_7 rfl rfl rfl rfl rfl rfl (Nat.le_of_ble_eq_true rfl) rfl rfl ⟨by simp only [zrm]; omega, by simp only [zrm]; omega⟩ ?_
    exact z_vret d_Search_goOnOrder_9 h
theorem cn_Search_goOnOrder (l : Launch) (θ : ZT) : ∀ (n : Nat) (a : Int32 × Int32 × Int32 × ZM) (r : Unit × ZM), F_Search_goOnOrder n a = some r → zMet mkV l 0 129 θ y_Search_goOnOrder b_Search_goOnOrder 8 none (zrm (6 + 1 * n) (190 + 27 * n)) [.ref (za θ 7), .int a.1, .int a.2.1, .int a.2.2.1] a.2.2.2 r := by
  intro n
  induction n with
  | zero => intro a r h; cases (show (none : Option (Unit × ZM)) = some r from h)
  | succ n ih => intro a r h; exact c_Search_goOnOrder l θ n ih (show f_Search_goOnOrder (F_Search_goOnOrder n) a.1 a.2.1 a.2.2.1 a.2.2.2 = some r from h)
theorem d_Search_seekOrder_0 : decode b_Search_seekOrder 0 = .ok (.aload_n 0, 1) := by decide +kernel
theorem d_Search_seekOrder_1 : decode b_Search_seekOrder 1 = .ok (.iload_n 1, 1) := by decide +kernel
theorem d_Search_seekOrder_2 : decode b_Search_seekOrder 2 = .ok (.invokestatic 33, 3) := by decide +kernel
theorem d_Search_seekOrder_5 : decode b_Search_seekOrder 5 = .ok (.putfield 39, 3) := by decide +kernel
theorem d_Search_seekOrder_8 : decode b_Search_seekOrder 8 = .ok (.aload_n 0, 1) := by decide +kernel
theorem d_Search_seekOrder_9 : decode b_Search_seekOrder 9 = .ok (.bipush (6), 2) := by decide +kernel
theorem d_Search_seekOrder_11 : decode b_Search_seekOrder 11 = .ok (.putfield 43, 3) := by decide +kernel
theorem d_Search_seekOrder_14 : decode b_Search_seekOrder 14 = .ok (.aload_n 0, 1) := by decide +kernel
theorem d_Search_seekOrder_15 : decode b_Search_seekOrder 15 = .ok (.getfield 13, 3) := by decide +kernel
theorem d_Search_seekOrder_18 : decode b_Search_seekOrder 18 = .ok (.iconst (0), 1) := by decide +kernel
theorem d_Search_seekOrder_19 : decode b_Search_seekOrder 19 = .ok (.aaload, 1) := by decide +kernel
theorem d_Search_seekOrder_20 : decode b_Search_seekOrder 20 = .ok (.aload_n 0, 1) := by decide +kernel
theorem d_Search_seekOrder_21 : decode b_Search_seekOrder 21 = .ok (.getfield 24, 3) := by decide +kernel
theorem d_Search_seekOrder_24 : decode b_Search_seekOrder 24 = .ok (.getfield 46, 3) := by decide +kernel
theorem d_Search_seekOrder_27 : decode b_Search_seekOrder 27 = .ok (.invokevirtual 52, 3) := by decide +kernel
theorem d_Search_seekOrder_30 : decode b_Search_seekOrder 30 = .ok (.aload_n 0, 1) := by decide +kernel
theorem d_Search_seekOrder_31 : decode b_Search_seekOrder 31 = .ok (.iload_n 1, 1) := by decide +kernel
theorem d_Search_seekOrder_32 : decode b_Search_seekOrder 32 = .ok (.iconst (0), 1) := by decide +kernel
theorem d_Search_seekOrder_33 : decode b_Search_seekOrder 33 = .ok (.iconst (0), 1) := by decide +kernel
theorem d_Search_seekOrder_34 : decode b_Search_seekOrder 34 = .ok (.invokestatic 56, 3) := by decide +kernel
theorem d_Search_seekOrder_37 : decode b_Search_seekOrder 37 = .ok (.return_, 1) := by decide +kernel
theorem c_Search_seekOrder (l : Launch) (θ : ZT) {x1 : Int32} {σ : ZM} {res : Unit × ZM} (h : f_Search_seekOrder x1 σ = some res) : zMet mkV l 0 129 θ y_Search_seekOrder b_Search_seekOrder 2 none (zrm 15 433) [.ref (za θ 7), .int x1] σ res := by
  unfold f_Search_seekOrder at h
  refine z_met (lv := [(0, .ref (za θ 7)), (1, .int x1)]) (by decide +kernel) rfl (Nat.le_of_ble_eq_true rfl) (by decide) ?_
  refine z_aload_n 0 d_Search_seekOrder_0 rfl rfl ?_
  refine z_iload_n 1 d_Search_seekOrder_1 rfl rfl ?_
  obtain ⟨⟨v1, s2⟩, e3, h⟩ := zbd_i h
  refine w_callS (As := [.int x1]) (c_Integer_bitCount l θ e3) cf_Integer_bitCount q_606 d_Search_seekOrder_2 rfl rfl rfl (Nat.le_of_ble_eq_true rfl) rfl rfl ⟨Nat.le_of_ble_eq_true rfl, Nat.le_of_ble_eq_true rfl⟩ ?_
  refine pf_Search_length zl_7 d_Search_seekOrder_5 q_250 ?_
  refine z_aload_n 0 d_Search_seekOrder_8 rfl rfl ?_
  refine z_bipush (v := 6) d_Search_seekOrder_9 (by decide) ?_
  refine pf_Search_fewest zl_7 d_Search_seekOrder_11 q_252 ?_
  refine z_aload_n 0 d_Search_seekOrder_14 rfl rfl ?_
  refine gf_Search_ovens zl_7 d_Search_seekOrder_15 q_246 ?_
  refine z_iconst (v := 0) d_Search_seekOrder_18 (by decide) ?_
  obtain ⟨c4, h⟩ := zck_i h
  refine w_aald4 zl_24 c4 d_Search_seekOrder_19 ?_
  obtain ⟨c5, h⟩ := zck_i h
  refine z_aload_n 0 d_Search_seekOrder_20 rfl rfl ?_
  refine gf_Search_now zl_7 d_Search_seekOrder_21 q_244 ?_
  refine gf_Stand_oven (o2 := 33) zl_1 rfl d_Search_seekOrder_24 q_120 ?_
  obtain ⟨⟨v6, s7⟩, e8, h⟩ := zbd_i h
  refine w_callV (As := [.ref (za θ 33)]) (kc := 17) (ci := 7) (c_Oven_become l θ e8) cf_Oven_become q_607 d_Search_seekOrder_27 c5 rfl rfl rfl rfl rfl rfl (Nat.le_of_ble_eq_true rfl) rfl rfl ⟨Nat.le_of_ble_eq_true rfl, Nat.le_of_ble_eq_true rfl⟩ ?_
  refine z_aload_n 0 d_Search_seekOrder_30 rfl rfl ?_
  refine z_iload_n 1 d_Search_seekOrder_31 rfl rfl ?_
  refine z_iconst (v := 0) d_Search_seekOrder_32 (by decide) ?_
  refine z_iconst (v := 0) d_Search_seekOrder_33 (by decide) ?_
  obtain ⟨⟨v9, s10⟩, e11, h⟩ := zbd_i h
  refine w_callS (As := [.ref (za θ 7), .int x1, .int (0 : Int32), .int (0 : Int32)]) (cn_Search_goOnOrder l θ 8 (x1, (0 : Int32), (0 : Int32), s7) _ e11) cf_Search_goOnOrder q_608 d_Search_seekOrder_34 rfl rfl rfl (Nat.le_of_ble_eq_true rfl) rfl rfl ⟨Nat.le_of_ble_eq_true rfl, Nat.le_of_ble_eq_true rfl⟩ ?_
  exact z_vret d_Search_seekOrder_37 h
theorem d_BB_order_0 : decode b_BB_order 0 = .ok (.iload_n 2, 1) := by decide +kernel
theorem d_BB_order_1 : decode b_BB_order 1 = .ok (.iconst (-1), 1) := by decide +kernel
theorem d_BB_order_2 : decode b_BB_order 2 = .ok (.if_icmp .lt (8), 3) := by decide +kernel
theorem d_BB_order_5 : decode b_BB_order 5 = .ok (.iload_n 2, 1) := by decide +kernel
theorem d_BB_order_6 : decode b_BB_order 6 = .ok (.iconst (5), 1) := by decide +kernel
theorem d_BB_order_7 : decode b_BB_order 7 = .ok (.if_icmp .le (5), 3) := by decide +kernel
theorem d_BB_order_10 : decode b_BB_order 10 = .ok (.iconst (-1), 1) := by decide +kernel
theorem d_BB_order_11 : decode b_BB_order 11 = .ok (.ireturn, 1) := by decide +kernel
theorem d_BB_order_12 : decode b_BB_order 12 = .ok (.aload_n 0, 1) := by decide +kernel
theorem d_BB_order_13 : decode b_BB_order 13 = .ok (.iload_n 1, 1) := by decide +kernel
theorem d_BB_order_14 : decode b_BB_order 14 = .ok (.iconst (5), 1) := by decide +kernel
theorem d_BB_order_15 : decode b_BB_order 15 = .ok (.invokevirtual 179, 3) := by decide +kernel
theorem d_BB_order_18 : decode b_BB_order 18 = .ok (.ifCond .ne (6), 3) := by decide +kernel
theorem d_BB_order_21 : decode b_BB_order 21 = .ok (.bipush (-2), 2) := by decide +kernel
theorem d_BB_order_23 : decode b_BB_order 23 = .ok (.ireturn, 1) := by decide +kernel
theorem d_BB_order_24 : decode b_BB_order 24 = .ok (.aload_n 0, 1) := by decide +kernel
theorem d_BB_order_25 : decode b_BB_order 25 = .ok (.getfield 60, 3) := by decide +kernel
theorem d_BB_order_28 : decode b_BB_order 28 = .ok (.iload_n 1, 1) := by decide +kernel
theorem d_BB_order_29 : decode b_BB_order 29 = .ok (.invokevirtual 183, 3) := by decide +kernel
theorem d_BB_order_32 : decode b_BB_order 32 = .ok (.iload_n 2, 1) := by decide +kernel
theorem d_BB_order_33 : decode b_BB_order 33 = .ok (.iconst (-1), 1) := by decide +kernel
theorem d_BB_order_34 : decode b_BB_order 34 = .ok (.if_icmp .ne (11), 3) := by decide +kernel
theorem d_BB_order_37 : decode b_BB_order 37 = .ok (.aload_n 0, 1) := by decide +kernel
theorem d_BB_order_38 : decode b_BB_order 38 = .ok (.getfield 60, 3) := by decide +kernel
theorem d_BB_order_41 : decode b_BB_order 41 = .ok (.getfield 187, 3) := by decide +kernel
theorem d_BB_order_44 : decode b_BB_order 44 = .ok (.ireturn, 1) := by decide +kernel
theorem d_BB_order_45 : decode b_BB_order 45 = .ok (.iload_n 2, 1) := by decide +kernel
theorem d_BB_order_46 : decode b_BB_order 46 = .ok (.aload_n 0, 1) := by decide +kernel
theorem d_BB_order_47 : decode b_BB_order 47 = .ok (.getfield 60, 3) := by decide +kernel
theorem d_BB_order_50 : decode b_BB_order 50 = .ok (.getfield 190, 3) := by decide +kernel
theorem d_BB_order_53 : decode b_BB_order 53 = .ok (.if_icmp .ge (15), 3) := by decide +kernel
theorem d_BB_order_56 : decode b_BB_order 56 = .ok (.aload_n 0, 1) := by decide +kernel
theorem d_BB_order_57 : decode b_BB_order 57 = .ok (.getfield 60, 3) := by decide +kernel
theorem d_BB_order_60 : decode b_BB_order 60 = .ok (.getfield 193, 3) := by decide +kernel
theorem d_BB_order_63 : decode b_BB_order 63 = .ok (.iload_n 2, 1) := by decide +kernel
theorem d_BB_order_64 : decode b_BB_order 64 = .ok (.iaload, 1) := by decide +kernel
theorem d_BB_order_65 : decode b_BB_order 65 = .ok (.goto (5), 3) := by decide +kernel
theorem d_BB_order_68 : decode b_BB_order 68 = .ok (.bipush (-5), 2) := by decide +kernel
theorem d_BB_order_70 : decode b_BB_order 70 = .ok (.ireturn, 1) := by decide +kernel
theorem c_BB_order (l : Launch) (θ : ZT) {x1 : Int32} {x2 : Int32} {σ : ZM} {res : Int32 × ZM} (h : f_BB_order x1 x2 σ = some res) : zMet mkI l 0 129 θ y_BB_order b_BB_order 3 (some .int) (zrm 16 454) [.ref (za θ 0), .int x1, .int x2] σ res := by
  unfold f_BB_order at h
  refine z_met (lv := [(0, .ref (za θ 0)), (1, .int x1), (2, .int x2)]) (by decide +kernel) rfl (Nat.le_of_ble_eq_true rfl) (by decide) ?_
  refine z_iload_n 2 d_BB_order_0 rfl rfl ?_
  refine z_iconst (v := -1) d_BB_order_1 (by decide) ?_
  refine z_icmp_lt (tgt := 10) d_BB_order_2 (by decide) (fun c1 => ?_) (fun c1 => ?_)
  · have h := (if_pos c1).symm.trans h
    refine z_iconst (v := -1) d_BB_order_10 (by decide) ?_
    exact z_iret d_BB_order_11 h
  · have h := (if_neg c1).symm.trans h
    refine z_iload_n 2 d_BB_order_5 rfl rfl ?_
    refine z_iconst (v := 5) d_BB_order_6 (by decide) ?_
    refine z_icmp_le (tgt := 12) d_BB_order_7 (by decide) (fun c2 => ?_) (fun c2 => ?_)
    · have h := (if_pos c2).symm.trans h
      refine z_aload_n 0 d_BB_order_12 rfl rfl ?_
      refine z_iload_n 1 d_BB_order_13 rfl rfl ?_
      refine z_iconst (v := 5) d_BB_order_14 (by decide) ?_
      obtain ⟨⟨v3, s4⟩, e5, h⟩ := zbd_i h
      refine w_callV (As := [.int x1, .int (5 : Int32)]) (kc := 10) (ci := 0) (c_BB_isSet l θ e5) cf_BB_isSet q_592 d_BB_order_15 zl_0 rfl rfl rfl rfl rfl rfl (Nat.le_of_ble_eq_true rfl) rfl rfl ⟨Nat.le_of_ble_eq_true rfl, Nat.le_of_ble_eq_true rfl⟩ ?_
      refine z_if_ne (tgt := 24) d_BB_order_18 (by decide) (fun c6 => ?_) (fun c6 => ?_)
      · have h := (if_neg c6).symm.trans h
        refine z_aload_n 0 d_BB_order_24 rfl rfl ?_
        refine gf_BB_search zl_0 d_BB_order_25 q_310 ?_
        refine z_iload_n 1 d_BB_order_28 rfl rfl ?_
        obtain ⟨⟨v7, s8⟩, e9, h⟩ := zbd_i h
        refine w_callV (As := [.int x1]) (kc := 19) (ci := 9) (c_Search_seekOrder l θ e9) cf_Search_seekOrder q_602 d_BB_order_29 zl_7 rfl rfl rfl rfl rfl rfl (Nat.le_of_ble_eq_true rfl) rfl rfl ⟨Nat.le_of_ble_eq_true rfl, Nat.le_of_ble_eq_true rfl⟩ ?_
        refine z_iload_n 2 d_BB_order_32 rfl rfl ?_
        refine z_iconst (v := -1) d_BB_order_33 (by decide) ?_
        refine z_icmp_ne (tgt := 45) d_BB_order_34 (by decide) (fun c10 => ?_) (fun c10 => ?_)
        · have h := (if_neg c10).symm.trans h
          refine z_iload_n 2 d_BB_order_45 rfl rfl ?_
          refine z_aload_n 0 d_BB_order_46 rfl rfl ?_
          refine gf_BB_search zl_0 d_BB_order_47 q_310 ?_
          refine gf_Search_length zl_7 d_BB_order_50 q_251 ?_
          refine z_icmp_ge (tgt := 68) d_BB_order_53 (by decide) (fun c11 => ?_) (fun c11 => ?_)
          · have h := (if_pos c11).symm.trans h
            refine z_bipush (v := -5) d_BB_order_68 (by decide) ?_
            exact z_iret d_BB_order_70 h
          · have h := (if_neg c11).symm.trans h
            refine z_aload_n 0 d_BB_order_56 rfl rfl ?_
            refine gf_BB_search zl_0 d_BB_order_57 q_310 ?_
            refine gf_Search_best zl_7 d_BB_order_60 q_249 ?_
            refine z_iload_n 2 d_BB_order_63 rfl rfl ?_
            obtain ⟨c12, h⟩ := zck_i h
            refine w_iald zl_23 c12 d_BB_order_64 ?_
            refine z_goto (tgt := 70) d_BB_order_65 (by decide) ?_
            exact z_iret d_BB_order_70 h
        · have h := (if_pos c10).symm.trans h
          refine z_aload_n 0 d_BB_order_37 rfl rfl ?_
          refine gf_BB_search zl_0 d_BB_order_38 q_310 ?_
          refine gf_Search_fewest zl_7 d_BB_order_41 q_253 ?_
          exact z_iret d_BB_order_44 h
      · have h := (if_pos c6).symm.trans h
        refine z_bipush (v := -2) d_BB_order_21 (by decide) ?_
        exact z_iret d_BB_order_23 h
    · have h := (if_neg c2).symm.trans h
      refine z_iconst (v := -1) d_BB_order_10 (by decide) ?_
      exact z_iret d_BB_order_11 h
theorem d_Search_lowestOf_0 : decode b_Search_lowestOf 0 = .ok (.iconst (0), 1) := by decide +kernel
theorem d_Search_lowestOf_1 : decode b_Search_lowestOf 1 = .ok (.istore_n 1, 1) := by decide +kernel
theorem d_Search_lowestOf_2 : decode b_Search_lowestOf 2 = .ok (.iload_n 1, 1) := by decide +kernel
theorem d_Search_lowestOf_3 : decode b_Search_lowestOf 3 = .ok (.iconst (5), 1) := by decide +kernel
theorem d_Search_lowestOf_4 : decode b_Search_lowestOf 4 = .ok (.if_icmp .ge (17), 3) := by decide +kernel
theorem d_Search_lowestOf_7 : decode b_Search_lowestOf 7 = .ok (.iload_n 0, 1) := by decide +kernel
theorem d_Search_lowestOf_8 : decode b_Search_lowestOf 8 = .ok (.iload_n 1, 1) := by decide +kernel
theorem d_Search_lowestOf_9 : decode b_Search_lowestOf 9 = .ok (.ishr, 1) := by decide +kernel
theorem d_Search_lowestOf_10 : decode b_Search_lowestOf 10 = .ok (.iconst (1), 1) := by decide +kernel
theorem d_Search_lowestOf_11 : decode b_Search_lowestOf 11 = .ok (.iand, 1) := by decide +kernel
theorem d_Search_lowestOf_12 : decode b_Search_lowestOf 12 = .ok (.ifCond .ne (9), 3) := by decide +kernel
theorem d_Search_lowestOf_15 : decode b_Search_lowestOf 15 = .ok (.iinc 1 (1), 3) := by decide +kernel
theorem d_Search_lowestOf_18 : decode b_Search_lowestOf 18 = .ok (.goto (-16), 3) := by decide +kernel
theorem d_Search_lowestOf_21 : decode b_Search_lowestOf 21 = .ok (.iload_n 1, 1) := by decide +kernel
theorem d_Search_lowestOf_22 : decode b_Search_lowestOf 22 = .ok (.ireturn, 1) := by decide +kernel
theorem zb_Search_lowestOf_2 {l : Launch} {θ : ZT} {res : Int32 × ZM} {k2 : Int32 × Int32 × ZM → Option (Int32 × ZM)} (hk2 : ∀ a : Int32 × Int32 × ZM, k2 a = some res → WZ l b_Search_lowestOf 2 (some .int) "BakedBefore$Search" 0 129 θ (zrm 1 60) (zQ mkI 0 129 θ res) a.2.2 [(0, .int a.1), (1, .int a.2.1)] 2 []) {x0 : Int32} {x1 : Int32} {σ : ZM} (h : f_Search_lowestOf_2 k2 x0 x1 σ = some res) : WZ l b_Search_lowestOf 2 (some .int) "BakedBefore$Search" 0 129 θ (zrm 1 60) (zQ mkI 0 129 θ res) σ [(0, .int x0), (1, .int x1)] 2 [] := by
  unfold f_Search_lowestOf_2 at h
  refine z_iload_n 1 d_Search_lowestOf_2 rfl rfl ?_
  refine z_iconst (v := 5) d_Search_lowestOf_3 (by decide) ?_
  refine z_icmp_ge (tgt := 21) d_Search_lowestOf_4 (by decide) (fun c1 => ?_) (fun c1 => ?_)
  · have h := (if_pos c1).symm.trans h
    refine z_iload_n 1 d_Search_lowestOf_21 rfl rfl ?_
    exact z_iret d_Search_lowestOf_22 h
  · have h := (if_neg c1).symm.trans h
    refine z_iload_n 0 d_Search_lowestOf_7 rfl rfl ?_
    refine z_iload_n 1 d_Search_lowestOf_8 rfl rfl ?_
    refine z_ishr d_Search_lowestOf_9 ?_
    refine z_iconst (v := 1) d_Search_lowestOf_10 (by decide) ?_
    refine z_iand d_Search_lowestOf_11 ?_
    refine z_if_ne (tgt := 21) d_Search_lowestOf_12 (by decide) (fun c2 => ?_) (fun c2 => ?_)
    · have h := (if_neg c2).symm.trans h
      refine z_iload_n 1 d_Search_lowestOf_21 rfl rfl ?_
      exact z_iret d_Search_lowestOf_22 h
    · have h := (if_pos c2).symm.trans h
      refine z_iinc (v := x1 + (1 : Int32)) 1 d_Search_lowestOf_15 rfl rfl (by decide) rfl ?_
      refine z_goto (tgt := 2) d_Search_lowestOf_18 (by decide) ?_
      refine z_sub [1, 0] rfl ?_
      exact hk2 (x0, (x1 + (1 : Int32)), σ) h
theorem zl_Search_lowestOf_2 {l : Launch} {θ : ZT} {res : Int32 × ZM} : ∀ (N : Nat) (a : Int32 × Int32 × ZM), F_Search_lowestOf_2 N a = some res → WZ l b_Search_lowestOf 2 (some .int) "BakedBefore$Search" 0 129 θ (zrm 1 60) (zQ mkI 0 129 θ res) a.2.2 [(0, .int a.1), (1, .int a.2.1)] 2 [] := by
  intro N
  induction N with
  | zero => intro a  h; cases (show (none : Option (Int32 × ZM)) = some res from h)
  | succ N ih => intro a  h; exact zb_Search_lowestOf_2 ih (show f_Search_lowestOf_2 (F_Search_lowestOf_2 N) a.1 a.2.1 a.2.2 = some res from h)
theorem c_Search_lowestOf (l : Launch) (θ : ZT) {x0 : Int32} {σ : ZM} {res : Int32 × ZM} (h : f_Search_lowestOf x0 σ = some res) : zMet mkI l 0 129 θ y_Search_lowestOf b_Search_lowestOf 2 (some .int) (zrm 1 60) [.int x0] σ res := by
  unfold f_Search_lowestOf at h
  refine z_met (lv := [(0, .int x0)]) (by decide +kernel) rfl (Nat.le_of_ble_eq_true rfl) (by decide) ?_
  refine z_iconst (v := 0) d_Search_lowestOf_0 (by decide) ?_
  refine z_istore_n d_Search_lowestOf_1 rfl (by decide) rfl ?_
  refine z_sub [1, 0] rfl ?_
  exact zl_Search_lowestOf_2 2000 (x0, (0 : Int32), σ) h
theorem d_Search_goOnColds_0 : decode b_Search_goOnColds 0 = .ok (.iload_n 1, 1) := by decide +kernel
theorem d_Search_goOnColds_1 : decode b_Search_goOnColds 1 = .ok (.ifCond .ne (9), 3) := by decide +kernel
theorem d_Search_goOnColds_4 : decode b_Search_goOnColds 4 = .ok (.aload_n 0, 1) := by decide +kernel
theorem d_Search_goOnColds_5 : decode b_Search_goOnColds 5 = .ok (.iload_n 3, 1) := by decide +kernel
theorem d_Search_goOnColds_6 : decode b_Search_goOnColds 6 = .ok (.invokevirtual 60, 3) := by decide +kernel
theorem d_Search_goOnColds_9 : decode b_Search_goOnColds 9 = .ok (.return_, 1) := by decide +kernel
theorem d_Search_goOnColds_10 : decode b_Search_goOnColds 10 = .ok (.iload_n 2, 1) := by decide +kernel
theorem d_Search_goOnColds_11 : decode b_Search_goOnColds 11 = .ok (.iconst (5), 1) := by decide +kernel
theorem d_Search_goOnColds_12 : decode b_Search_goOnColds 12 = .ok (.if_icmp .lt (4), 3) := by decide +kernel
theorem d_Search_goOnColds_15 : decode b_Search_goOnColds 15 = .ok (.return_, 1) := by decide +kernel
theorem d_Search_goOnColds_16 : decode b_Search_goOnColds 16 = .ok (.aload_n 0, 1) := by decide +kernel
theorem d_Search_goOnColds_17 : decode b_Search_goOnColds 17 = .ok (.getfield 13, 3) := by decide +kernel
theorem d_Search_goOnColds_20 : decode b_Search_goOnColds 20 = .ok (.iload_n 2, 1) := by decide +kernel
theorem d_Search_goOnColds_21 : decode b_Search_goOnColds 21 = .ok (.aaload, 1) := by decide +kernel
theorem d_Search_goOnColds_22 : decode b_Search_goOnColds 22 = .ok (.astore 4, 2) := by decide +kernel
theorem d_Search_goOnColds_24 : decode b_Search_goOnColds 24 = .ok (.aload_n 0, 1) := by decide +kernel
theorem d_Search_goOnColds_25 : decode b_Search_goOnColds 25 = .ok (.getfield 13, 3) := by decide +kernel
theorem d_Search_goOnColds_28 : decode b_Search_goOnColds 28 = .ok (.iload_n 2, 1) := by decide +kernel
theorem d_Search_goOnColds_29 : decode b_Search_goOnColds 29 = .ok (.iconst (1), 1) := by decide +kernel
theorem d_Search_goOnColds_30 : decode b_Search_goOnColds 30 = .ok (.iadd, 1) := by decide +kernel
theorem d_Search_goOnColds_31 : decode b_Search_goOnColds 31 = .ok (.aaload, 1) := by decide +kernel
theorem d_Search_goOnColds_32 : decode b_Search_goOnColds 32 = .ok (.astore 5, 2) := by decide +kernel
theorem d_Search_goOnColds_34 : decode b_Search_goOnColds 34 = .ok (.iload_n 1, 1) := by decide +kernel
theorem d_Search_goOnColds_35 : decode b_Search_goOnColds 35 = .ok (.invokestatic 80, 3) := by decide +kernel
theorem d_Search_goOnColds_38 : decode b_Search_goOnColds 38 = .ok (.istore 6, 2) := by decide +kernel
theorem d_Search_goOnColds_40 : decode b_Search_goOnColds 40 = .ok (.iconst (0), 1) := by decide +kernel
theorem d_Search_goOnColds_41 : decode b_Search_goOnColds 41 = .ok (.istore 7, 2) := by decide +kernel
theorem d_Search_goOnColds_43 : decode b_Search_goOnColds 43 = .ok (.iload 7, 2) := by decide +kernel
theorem d_Search_goOnColds_45 : decode b_Search_goOnColds 45 = .ok (.iconst (4), 1) := by decide +kernel
theorem d_Search_goOnColds_46 : decode b_Search_goOnColds 46 = .ok (.if_icmp .gt (90), 3) := by decide +kernel
theorem d_Search_goOnColds_49 : decode b_Search_goOnColds 49 = .ok (.iload_n 3, 1) := by decide +kernel
theorem d_Search_goOnColds_50 : decode b_Search_goOnColds 50 = .ok (.iload 7, 2) := by decide +kernel
theorem d_Search_goOnColds_52 : decode b_Search_goOnColds 52 = .ok (.iadd, 1) := by decide +kernel
theorem d_Search_goOnColds_53 : decode b_Search_goOnColds 53 = .ok (.aload_n 0, 1) := by decide +kernel
theorem d_Search_goOnColds_54 : decode b_Search_goOnColds 54 = .ok (.getfield 43, 3) := by decide +kernel
theorem d_Search_goOnColds_57 : decode b_Search_goOnColds 57 = .ok (.if_icmp .ge (79), 3) := by decide +kernel
theorem d_Search_goOnColds_60 : decode b_Search_goOnColds 60 = .ok (.iload 7, 2) := by decide +kernel
theorem d_Search_goOnColds_62 : decode b_Search_goOnColds 62 = .ok (.ifCond .le (12), 3) := by decide +kernel
theorem d_Search_goOnColds_65 : decode b_Search_goOnColds 65 = .ok (.aload_n 0, 1) := by decide +kernel
theorem d_Search_goOnColds_66 : decode b_Search_goOnColds 66 = .ok (.getfield 28, 3) := by decide +kernel
theorem d_Search_goOnColds_69 : decode b_Search_goOnColds 69 = .ok (.aload 4, 2) := by decide +kernel
theorem d_Search_goOnColds_71 : decode b_Search_goOnColds 71 = .ok (.invokevirtual 83, 3) := by decide +kernel
theorem d_Search_goOnColds_74 : decode b_Search_goOnColds 74 = .ok (.aload 5, 2) := by decide +kernel
theorem d_Search_goOnColds_76 : decode b_Search_goOnColds 76 = .ok (.aload 4, 2) := by decide +kernel
theorem d_Search_goOnColds_78 : decode b_Search_goOnColds 78 = .ok (.invokevirtual 52, 3) := by decide +kernel
theorem d_Search_goOnColds_81 : decode b_Search_goOnColds 81 = .ok (.aload_n 0, 1) := by decide +kernel
theorem d_Search_goOnColds_82 : decode b_Search_goOnColds 82 = .ok (.getfield 17, 3) := by decide +kernel
theorem d_Search_goOnColds_85 : decode b_Search_goOnColds 85 = .ok (.iload_n 2, 1) := by decide +kernel
theorem d_Search_goOnColds_86 : decode b_Search_goOnColds 86 = .ok (.iload 7, 2) := by decide +kernel
theorem d_Search_goOnColds_88 : decode b_Search_goOnColds 88 = .ok (.iastore, 1) := by decide +kernel
theorem d_Search_goOnColds_89 : decode b_Search_goOnColds 89 = .ok (.aload_n 0, 1) := by decide +kernel
theorem d_Search_goOnColds_90 : decode b_Search_goOnColds 90 = .ok (.getfield 28, 3) := by decide +kernel
theorem d_Search_goOnColds_93 : decode b_Search_goOnColds 93 = .ok (.aload 5, 2) := by decide +kernel
theorem d_Search_goOnColds_95 : decode b_Search_goOnColds 95 = .ok (.aload_n 0, 1) := by decide +kernel
theorem d_Search_goOnColds_96 : decode b_Search_goOnColds 96 = .ok (.getfield 24, 3) := by decide +kernel
theorem d_Search_goOnColds_99 : decode b_Search_goOnColds 99 = .ok (.getfield 67, 3) := by decide +kernel
theorem d_Search_goOnColds_102 : decode b_Search_goOnColds 102 = .ok (.iload 6, 2) := by decide +kernel
theorem d_Search_goOnColds_104 : decode b_Search_goOnColds 104 = .ok (.aaload, 1) := by decide +kernel
theorem d_Search_goOnColds_105 : decode b_Search_goOnColds 105 = .ok (.invokevirtual 71, 3) := by decide +kernel
theorem d_Search_goOnColds_108 : decode b_Search_goOnColds 108 = .ok (.ifCond .ne (22), 3) := by decide +kernel
theorem d_Search_goOnColds_111 : decode b_Search_goOnColds 111 = .ok (.aload_n 0, 1) := by decide +kernel
theorem d_Search_goOnColds_112 : decode b_Search_goOnColds 112 = .ok (.iload_n 1, 1) := by decide +kernel
theorem d_Search_goOnColds_113 : decode b_Search_goOnColds 113 = .ok (.iconst (1), 1) := by decide +kernel
theorem d_Search_goOnColds_114 : decode b_Search_goOnColds 114 = .ok (.iload 6, 2) := by decide +kernel
theorem d_Search_goOnColds_116 : decode b_Search_goOnColds 116 = .ok (.ishl, 1) := by decide +kernel
theorem d_Search_goOnColds_117 : decode b_Search_goOnColds 117 = .ok (.iconst (-1), 1) := by decide +kernel
theorem d_Search_goOnColds_118 : decode b_Search_goOnColds 118 = .ok (.ixor, 1) := by decide +kernel
theorem d_Search_goOnColds_119 : decode b_Search_goOnColds 119 = .ok (.iand, 1) := by decide +kernel
theorem d_Search_goOnColds_120 : decode b_Search_goOnColds 120 = .ok (.iload_n 2, 1) := by decide +kernel
theorem d_Search_goOnColds_121 : decode b_Search_goOnColds 121 = .ok (.iconst (1), 1) := by decide +kernel
theorem d_Search_goOnColds_122 : decode b_Search_goOnColds 122 = .ok (.iadd, 1) := by decide +kernel
theorem d_Search_goOnColds_123 : decode b_Search_goOnColds 123 = .ok (.iload_n 3, 1) := by decide +kernel
theorem d_Search_goOnColds_124 : decode b_Search_goOnColds 124 = .ok (.iload 7, 2) := by decide +kernel
theorem d_Search_goOnColds_126 : decode b_Search_goOnColds 126 = .ok (.iadd, 1) := by decide +kernel
theorem d_Search_goOnColds_127 : decode b_Search_goOnColds 127 = .ok (.invokestatic 77, 3) := by decide +kernel
theorem d_Search_goOnColds_130 : decode b_Search_goOnColds 130 = .ok (.iinc 7 (1), 3) := by decide +kernel
theorem d_Search_goOnColds_133 : decode b_Search_goOnColds 133 = .ok (.goto (-90), 3) := by decide +kernel
theorem d_Search_goOnColds_136 : decode b_Search_goOnColds 136 = .ok (.return_, 1) := by decide +kernel
theorem zb_Search_goOnColds_130 {l : Launch} {θ : ZT} {res : Unit × ZM} {rec : Int32 × Int32 × Int32 × ZM → Option (Unit × ZM)} (n : Nat) (hrec : ∀ (a : Int32 × Int32 × Int32 × ZM) (r : Unit × ZM), rec a = some r → zMet mkV l 0 129 θ y_Search_goOnColds b_Search_goOnColds 8 none (zrm (6 + 1 * n) (190 + 27 * n)) [.ref (za θ 7), .int a.1, .int a.2.1, .int a.2.2.1] a.2.2.2 r) {k43 : Int32 × Int32 × Int32 × Nat × Nat × Int32 × Int32 × ZM → Option (Unit × ZM)} (hk43 : ∀ a : Int32 × Int32 × Int32 × Nat × Nat × Int32 × Int32 × ZM, zR 0 129 a.2.2.2.1 17 0 = true → zR 0 129 a.2.2.2.2.1 17 0 = true → k43 a = some res → WZ l b_Search_goOnColds 8 none "BakedBefore$Search" 0 129 θ (zrm (6 + 1 * (n + 1)) (190 + 27 * (n + 1))) (zQ mkV 0 129 θ res) a.2.2.2.2.2.2.2 [(0, .ref (za θ 7)), (1, .int a.1), (2, .int a.2.1), (3, .int a.2.2.1), (4, .ref (za θ a.2.2.2.1)), (5, .ref (za θ a.2.2.2.2.1)), (6, .int a.2.2.2.2.2.1), (7, .int a.2.2.2.2.2.2.1)] 43 []) {x1 : Int32} {x2 : Int32} {x3 : Int32} {x4 : Nat} {x5 : Nat} {x6 : Int32} {x7 : Int32} {σ : ZM} (hx4 : zR 0 129 x4 17 0 = true) (hx5 : zR 0 129 x5 17 0 = true) (h : f_Search_goOnColds_130 rec k43 x1 x2 x3 x4 x5 x6 x7 σ = some res) : WZ l b_Search_goOnColds 8 none "BakedBefore$Search" 0 129 θ (zrm (6 + 1 * (n + 1)) (190 + 27 * (n + 1))) (zQ mkV 0 129 θ res) σ [(0, .ref (za θ 7)), (1, .int x1), (2, .int x2), (3, .int x3), (4, .ref (za θ x4)), (5, .ref (za θ x5)), (6, .int x6), (7, .int x7)] 130 [] := by
  unfold f_Search_goOnColds_130 at h
  refine z_iinc (v := x7 + (1 : Int32)) 7 d_Search_goOnColds_130 rfl rfl (by decide) rfl ?_
  refine z_goto (tgt := 43) d_Search_goOnColds_133 (by decide) ?_
  refine z_sub [1, 2, 3, 4, 5, 6, 7, 0] rfl ?_
  exact hk43 (x1, x2, x3, x4, x5, x6, (x7 + (1 : Int32)), σ) hx4 hx5 h
theorem zb_Search_goOnColds_74 {l : Launch} {θ : ZT} {res : Unit × ZM} {rec : Int32 × Int32 × Int32 × ZM → Option (Unit × ZM)} (n : Nat) (hrec : ∀ (a : Int32 × Int32 × Int32 × ZM) (r : Unit × ZM), rec a = some r → zMet mkV l 0 129 θ y_Search_goOnColds b_Search_goOnColds 8 none (zrm (6 + 1 * n) (190 + 27 * n)) [.ref (za θ 7), .int a.1, .int a.2.1, .int a.2.2.1] a.2.2.2 r) {k43 : Int32 × Int32 × Int32 × Nat × Nat × Int32 × Int32 × ZM → Option (Unit × ZM)} (hk43 : ∀ a : Int32 × Int32 × Int32 × Nat × Nat × Int32 × Int32 × ZM, zR 0 129 a.2.2.2.1 17 0 = true → zR 0 129 a.2.2.2.2.1 17 0 = true → k43 a = some res → WZ l b_Search_goOnColds 8 none "BakedBefore$Search" 0 129 θ (zrm (6 + 1 * (n + 1)) (190 + 27 * (n + 1))) (zQ mkV 0 129 θ res) a.2.2.2.2.2.2.2 [(0, .ref (za θ 7)), (1, .int a.1), (2, .int a.2.1), (3, .int a.2.2.1), (4, .ref (za θ a.2.2.2.1)), (5, .ref (za θ a.2.2.2.2.1)), (6, .int a.2.2.2.2.2.1), (7, .int a.2.2.2.2.2.2.1)] 43 []) {x1 : Int32} {x2 : Int32} {x3 : Int32} {x4 : Nat} {x5 : Nat} {x6 : Int32} {x7 : Int32} {σ : ZM} (hx4 : zR 0 129 x4 17 0 = true) (hx5 : zR 0 129 x5 17 0 = true) (h : f_Search_goOnColds_74 rec k43 x1 x2 x3 x4 x5 x6 x7 σ = some res) : WZ l b_Search_goOnColds 8 none "BakedBefore$Search" 0 129 θ (zrm (6 + 1 * (n + 1)) (190 + 27 * (n + 1))) (zQ mkV 0 129 θ res) σ [(0, .ref (za θ 7)), (1, .int x1), (2, .int x2), (3, .int x3), (4, .ref (za θ x4)), (5, .ref (za θ x5)), (6, .int x6), (7, .int x7)] 74 [] := by
  unfold f_Search_goOnColds_74 at h
  refine z_aload 5 d_Search_goOnColds_74 rfl ?_
  refine z_aload 4 d_Search_goOnColds_76 rfl ?_
  obtain ⟨⟨v1, s2⟩, e3, h⟩ := zbd_i h
  refine w_callV (As := [.ref (za θ x4)]) (kc := 17) (ci := 7) (c_Oven_become l θ e3) cf_Oven_become q_607 d_Search_goOnColds_78 hx5 rfl rfl rfl rfl rfl rfl (Nat.le_of_ble_eq_true rfl) rfl rfl ⟨by simp only [zrm]; omega, by simp only [zrm]; omega⟩ ?_
  refine z_aload_n 0 d_Search_goOnColds_81 rfl rfl ?_
  refine gf_Search_row zl_7 d_Search_goOnColds_82 q_247 ?_
  refine z_iload_n 2 d_Search_goOnColds_85 rfl rfl ?_
  refine z_iload 7 d_Search_goOnColds_86 rfl ?_
  obtain ⟨c4, h⟩ := zck_i h
  refine w_iast zl_22 c4 d_Search_goOnColds_88 ?_
  refine z_aload_n 0 d_Search_goOnColds_89 rfl rfl ?_
  refine gf_Search_baker zl_7 d_Search_goOnColds_90 q_245 ?_
  refine z_aload 5 d_Search_goOnColds_93 rfl ?_
  refine z_aload_n 0 d_Search_goOnColds_95 rfl rfl ?_
  refine gf_Search_now zl_7 d_Search_goOnColds_96 q_244 ?_
  refine gf_Stand_loaves (o2 := 25) zl_1 rfl d_Search_goOnColds_99 q_117 ?_
  refine z_iload 6 d_Search_goOnColds_102 rfl ?_
  obtain ⟨c5, h⟩ := zck_i h
  refine w_aald3 zl_25 c5 d_Search_goOnColds_104 ?_
  obtain ⟨c6, h⟩ := zck_i h
  obtain ⟨⟨v7, s8⟩, e9, h⟩ := zbd_i h
  refine w_callV (As := [.ref (za θ x5), .ref (za θ (zel 25 x6.toNatClampNeg))]) (kc := 13) (ci := 3) (c_Baker_bakeIn l θ e9) cf_Baker_bakeIn q_615 d_Search_goOnColds_105 zl_5 rfl rfl rfl rfl rfl rfl (Nat.le_of_ble_eq_true rfl) rfl rfl ⟨by simp only [zrm]; omega, by simp only [zrm]; omega⟩ ?_
  refine z_if_ne (tgt := 130) d_Search_goOnColds_108 (by decide) (fun c10 => ?_) (fun c10 => ?_)
  · have h := (if_neg c10).symm.trans h
    exact zb_Search_goOnColds_130 n hrec hk43 hx4 hx5 h
  · have h := (if_pos c10).symm.trans h
    refine z_aload_n 0 d_Search_goOnColds_111 rfl rfl ?_
    refine z_iload_n 1 d_Search_goOnColds_112 rfl rfl ?_
    refine z_iconst (v := 1) d_Search_goOnColds_113 (by decide) ?_
    refine z_iload 6 d_Search_goOnColds_114 rfl ?_
    refine z_ishl d_Search_goOnColds_116 ?_
    refine z_iconst (v := -1) d_Search_goOnColds_117 (by decide) ?_
    refine z_ixor d_Search_goOnColds_118 ?_
    refine z_iand d_Search_goOnColds_119 ?_
    refine z_iload_n 2 d_Search_goOnColds_120 rfl rfl ?_
    refine z_iconst (v := 1) d_Search_goOnColds_121 (by decide) ?_
    refine z_iadd d_Search_goOnColds_122 ?_
    refine z_iload_n 3 d_Search_goOnColds_123 rfl rfl ?_
    refine z_iload 7 d_Search_goOnColds_124 rfl ?_
    refine z_iadd d_Search_goOnColds_126 ?_
    obtain ⟨⟨v11, s12⟩, e13, h⟩ := zbd_i h
    refine w_callS (As := [.ref (za θ 7), .int (x1 &&& (((1 : Int32) <<< (x6 &&& 31)) ^^^ (-1 : Int32))), .int (x2 + (1 : Int32)), .int (x3 + x7)]) (hrec ((x1 &&& (((1 : Int32) <<< (x6 &&& 31)) ^^^ (-1 : Int32))), (x2 + (1 : Int32)), (x3 + x7), s8) _ e13) cf_Search_goOnColds q_624 d_Search_goOnColds_127 rfl rfl rfl (Nat.le_of_ble_eq_true rfl) rfl rfl ⟨by simp only [zrm]; omega, by simp only [zrm]; omega⟩ ?_
    exact zb_Search_goOnColds_130 n hrec hk43 hx4 hx5 h
theorem zb_Search_goOnColds_43 {l : Launch} {θ : ZT} {res : Unit × ZM} {rec : Int32 × Int32 × Int32 × ZM → Option (Unit × ZM)} (n : Nat) (hrec : ∀ (a : Int32 × Int32 × Int32 × ZM) (r : Unit × ZM), rec a = some r → zMet mkV l 0 129 θ y_Search_goOnColds b_Search_goOnColds 8 none (zrm (6 + 1 * n) (190 + 27 * n)) [.ref (za θ 7), .int a.1, .int a.2.1, .int a.2.2.1] a.2.2.2 r) {k43 : Int32 × Int32 × Int32 × Nat × Nat × Int32 × Int32 × ZM → Option (Unit × ZM)} (hk43 : ∀ a : Int32 × Int32 × Int32 × Nat × Nat × Int32 × Int32 × ZM, zR 0 129 a.2.2.2.1 17 0 = true → zR 0 129 a.2.2.2.2.1 17 0 = true → k43 a = some res → WZ l b_Search_goOnColds 8 none "BakedBefore$Search" 0 129 θ (zrm (6 + 1 * (n + 1)) (190 + 27 * (n + 1))) (zQ mkV 0 129 θ res) a.2.2.2.2.2.2.2 [(0, .ref (za θ 7)), (1, .int a.1), (2, .int a.2.1), (3, .int a.2.2.1), (4, .ref (za θ a.2.2.2.1)), (5, .ref (za θ a.2.2.2.2.1)), (6, .int a.2.2.2.2.2.1), (7, .int a.2.2.2.2.2.2.1)] 43 []) {x1 : Int32} {x2 : Int32} {x3 : Int32} {x4 : Nat} {x5 : Nat} {x6 : Int32} {x7 : Int32} {σ : ZM} (hx4 : zR 0 129 x4 17 0 = true) (hx5 : zR 0 129 x5 17 0 = true) (h : f_Search_goOnColds_43 rec k43 x1 x2 x3 x4 x5 x6 x7 σ = some res) : WZ l b_Search_goOnColds 8 none "BakedBefore$Search" 0 129 θ (zrm (6 + 1 * (n + 1)) (190 + 27 * (n + 1))) (zQ mkV 0 129 θ res) σ [(0, .ref (za θ 7)), (1, .int x1), (2, .int x2), (3, .int x3), (4, .ref (za θ x4)), (5, .ref (za θ x5)), (6, .int x6), (7, .int x7)] 43 [] := by
  unfold f_Search_goOnColds_43 at h
  refine z_iload 7 d_Search_goOnColds_43 rfl ?_
  refine z_iconst (v := 4) d_Search_goOnColds_45 (by decide) ?_
  refine z_icmp_gt (tgt := 136) d_Search_goOnColds_46 (by decide) (fun c1 => ?_) (fun c1 => ?_)
  · have h := (if_pos c1).symm.trans h
    exact z_vret d_Search_goOnColds_136 h
  · have h := (if_neg c1).symm.trans h
    refine z_iload_n 3 d_Search_goOnColds_49 rfl rfl ?_
    refine z_iload 7 d_Search_goOnColds_50 rfl ?_
    refine z_iadd d_Search_goOnColds_52 ?_
    refine z_aload_n 0 d_Search_goOnColds_53 rfl rfl ?_
    refine gf_Search_fewest zl_7 d_Search_goOnColds_54 q_252 ?_
    refine z_icmp_ge (tgt := 136) d_Search_goOnColds_57 (by decide) (fun c2 => ?_) (fun c2 => ?_)
    · have h := (if_pos c2).symm.trans h
      exact z_vret d_Search_goOnColds_136 h
    · have h := (if_neg c2).symm.trans h
      refine z_iload 7 d_Search_goOnColds_60 rfl ?_
      refine z_if_le (tgt := 74) d_Search_goOnColds_62 (by decide) (fun c3 => ?_) (fun c3 => ?_)
      · have h := (if_pos c3).symm.trans h
        exact zb_Search_goOnColds_74 n hrec hk43 hx4 hx5 h
      · have h := (if_neg c3).symm.trans h
        refine z_aload_n 0 d_Search_goOnColds_65 rfl rfl ?_
        refine gf_Search_baker zl_7 d_Search_goOnColds_66 q_245 ?_
        refine z_aload 4 d_Search_goOnColds_69 rfl ?_
        obtain ⟨⟨v4, s5⟩, e6, h⟩ := zbd_i h
        refine w_callV (As := [.ref (za θ x4)]) (kc := 13) (ci := 3) (c_Baker_chill l θ e6) cf_Baker_chill q_630 d_Search_goOnColds_71 zl_5 rfl rfl rfl rfl rfl rfl (Nat.le_of_ble_eq_true rfl) rfl rfl ⟨by simp only [zrm]; omega, by simp only [zrm]; omega⟩ ?_
        exact zb_Search_goOnColds_74 n hrec hk43 hx4 hx5 h
theorem zl_Search_goOnColds_43 {l : Launch} {θ : ZT} {res : Unit × ZM} {rec : Int32 × Int32 × Int32 × ZM → Option (Unit × ZM)} (n : Nat) (hrec : ∀ (a : Int32 × Int32 × Int32 × ZM) (r : Unit × ZM), rec a = some r → zMet mkV l 0 129 θ y_Search_goOnColds b_Search_goOnColds 8 none (zrm (6 + 1 * n) (190 + 27 * n)) [.ref (za θ 7), .int a.1, .int a.2.1, .int a.2.2.1] a.2.2.2 r) : ∀ (N : Nat) (a : Int32 × Int32 × Int32 × Nat × Nat × Int32 × Int32 × ZM), zR 0 129 a.2.2.2.1 17 0 = true → zR 0 129 a.2.2.2.2.1 17 0 = true → F_Search_goOnColds_43 rec N a = some res → WZ l b_Search_goOnColds 8 none "BakedBefore$Search" 0 129 θ (zrm (6 + 1 * (n + 1)) (190 + 27 * (n + 1))) (zQ mkV 0 129 θ res) a.2.2.2.2.2.2.2 [(0, .ref (za θ 7)), (1, .int a.1), (2, .int a.2.1), (3, .int a.2.2.1), (4, .ref (za θ a.2.2.2.1)), (5, .ref (za θ a.2.2.2.2.1)), (6, .int a.2.2.2.2.2.1), (7, .int a.2.2.2.2.2.2.1)] 43 [] := by
  intro N
  induction N with
  | zero => intro a hx4 hx5 h; cases (show (none : Option (Unit × ZM)) = some res from h)
  | succ N ih => intro a hx4 hx5 h; exact zb_Search_goOnColds_43 n hrec ih hx4 hx5 (show f_Search_goOnColds_43 rec (F_Search_goOnColds_43 rec N) a.1 a.2.1 a.2.2.1 a.2.2.2.1 a.2.2.2.2.1 a.2.2.2.2.2.1 a.2.2.2.2.2.2.1 a.2.2.2.2.2.2.2 = some res from h)
theorem c_Search_goOnColds (l : Launch) (θ : ZT) {rec : Int32 × Int32 × Int32 × ZM → Option (Unit × ZM)} (n : Nat) (hrec : ∀ (a : Int32 × Int32 × Int32 × ZM) (r : Unit × ZM), rec a = some r → zMet mkV l 0 129 θ y_Search_goOnColds b_Search_goOnColds 8 none (zrm (6 + 1 * n) (190 + 27 * n)) [.ref (za θ 7), .int a.1, .int a.2.1, .int a.2.2.1] a.2.2.2 r) {x1 : Int32} {x2 : Int32} {x3 : Int32} {σ : ZM} {res : Unit × ZM} (h : f_Search_goOnColds rec x1 x2 x3 σ = some res) : zMet mkV l 0 129 θ y_Search_goOnColds b_Search_goOnColds 8 none (zrm (6 + 1 * (n + 1)) (190 + 27 * (n + 1))) [.ref (za θ 7), .int x1, .int x2, .int x3] σ res := by
  unfold f_Search_goOnColds at h
  refine z_met (lv := [(0, .ref (za θ 7)), (1, .int x1), (2, .int x2), (3, .int x3)]) (by decide +kernel) rfl (Nat.le_of_ble_eq_true rfl) (by decide) ?_
  refine z_iload_n 1 d_Search_goOnColds_0 rfl rfl ?_
  refine z_if_ne (tgt := 10) d_Search_goOnColds_1 (by decide) (fun c1 => ?_) (fun c1 => ?_)
  · have h := (if_neg c1).symm.trans h
    refine z_iload_n 2 d_Search_goOnColds_10 rfl rfl ?_
    refine z_iconst (v := 5) d_Search_goOnColds_11 (by decide) ?_
    refine z_icmp_lt (tgt := 16) d_Search_goOnColds_12 (by decide) (fun c2 => ?_) (fun c2 => ?_)
    · have h := (if_pos c2).symm.trans h
      refine z_aload_n 0 d_Search_goOnColds_16 rfl rfl ?_
      refine gf_Search_ovens zl_7 d_Search_goOnColds_17 q_246 ?_
      refine z_iload_n 2 d_Search_goOnColds_20 rfl rfl ?_
      obtain ⟨c3, h⟩ := zck_i h
      refine w_aald4 zl_24 c3 d_Search_goOnColds_21 ?_
      obtain ⟨c4, h⟩ := zck_i h
      refine z_astore d_Search_goOnColds_22 (by decide) rfl ?_
      refine z_aload_n 1 d_Search_goOnColds_24 rfl rfl ?_
      refine gf_Search_ovens zl_7 d_Search_goOnColds_25 q_246 ?_
      refine z_iload_n 3 d_Search_goOnColds_28 rfl rfl ?_
      refine z_iconst (v := 1) d_Search_goOnColds_29 (by decide) ?_
      refine z_iadd d_Search_goOnColds_30 ?_
      obtain ⟨c5, h⟩ := zck_i h
      refine w_aald4 zl_24 c5 d_Search_goOnColds_31 ?_
      obtain ⟨c6, h⟩ := zck_i h
      refine z_astore d_Search_goOnColds_32 (by decide) rfl ?_
      refine z_iload_n 3 d_Search_goOnColds_34 rfl rfl ?_
      obtain ⟨⟨v7, s8⟩, e9, h⟩ := zbd_i h
      refine w_callS (As := [.int x1]) (c_Search_lowestOf l θ e9) cf_Search_lowestOf q_627 d_Search_goOnColds_35 rfl rfl rfl (Nat.le_of_ble_eq_true rfl) rfl rfl ⟨by simp only [zrm]; omega, by simp only [zrm]; omega⟩ ?_
      refine z_istore d_Search_goOnColds_38 (by decide) rfl ?_
      refine z_iconst (v := 0) d_Search_goOnColds_40 (by decide) ?_
      refine z_istore d_Search_goOnColds_41 (by decide) rfl ?_
      refine z_sub [4, 5, 6, 7, 3, 2, 1, 0] rfl ?_
      exact zl_Search_goOnColds_43 n hrec 2000 (x1, x2, x3, (zel 24 x2.toNatClampNeg), (zel 24 (x2 + (1 : Int32)).toNatClampNeg), v7, (0 : Int32), s8) c4 c6 h
    · have h := (if_neg c2).symm.trans h
      exact z_vret d_Search_goOnColds_15 h
  · have h := (if_pos c1).symm.trans h
    refine z_aload_n 0 d_Search_goOnColds_4 rfl rfl ?_
    refine z_iload_n 3 d_Search_goOnColds_5 rfl rfl ?_
    obtain ⟨⟨v10, s11⟩, e12, h⟩ := zbd_i h
    refine w_callV (As := [.int x3]) (kc := 19) (ci := 9) (c_Search_keep l θ e12) cf_Search_keep q_611 d_Search_goOnColds_6 zl_7 rfl rfl rfl rfl rfl rfl (Nat.le_of_ble_eq_true rfl) rfl rfl ⟨by simp only [zrm]; omega, by simp only [zrm]; omega⟩ ?_
    exact z_vret d_Search_goOnColds_9 h
theorem cn_Search_goOnColds (l : Launch) (θ : ZT) : ∀ (n : Nat) (a : Int32 × Int32 × Int32 × ZM) (r : Unit × ZM), F_Search_goOnColds n a = some r → zMet mkV l 0 129 θ y_Search_goOnColds b_Search_goOnColds 8 none (zrm (6 + 1 * n) (190 + 27 * n)) [.ref (za θ 7), .int a.1, .int a.2.1, .int a.2.2.1] a.2.2.2 r := by
  intro n
  induction n with
  | zero => intro a r h; cases (show (none : Option (Unit × ZM)) = some r from h)
  | succ n ih => intro a r h; exact c_Search_goOnColds l θ n ih (show f_Search_goOnColds (F_Search_goOnColds n) a.1 a.2.1 a.2.2.1 a.2.2.2 = some r from h)
theorem d_Search_seekColds_0 : decode b_Search_seekColds 0 = .ok (.bipush (20), 2) := by decide +kernel
theorem d_Search_seekColds_2 : decode b_Search_seekColds 2 = .ok (.istore_n 2, 1) := by decide +kernel
theorem d_Search_seekColds_3 : decode b_Search_seekColds 3 = .ok (.aload_n 0, 1) := by decide +kernel
theorem d_Search_seekColds_4 : decode b_Search_seekColds 4 = .ok (.iload_n 1, 1) := by decide +kernel
theorem d_Search_seekColds_5 : decode b_Search_seekColds 5 = .ok (.invokestatic 33, 3) := by decide +kernel
theorem d_Search_seekColds_8 : decode b_Search_seekColds 8 = .ok (.putfield 39, 3) := by decide +kernel
theorem d_Search_seekColds_11 : decode b_Search_seekColds 11 = .ok (.aload_n 0, 1) := by decide +kernel
theorem d_Search_seekColds_12 : decode b_Search_seekColds 12 = .ok (.iload_n 2, 1) := by decide +kernel
theorem d_Search_seekColds_13 : decode b_Search_seekColds 13 = .ok (.iconst (1), 1) := by decide +kernel
theorem d_Search_seekColds_14 : decode b_Search_seekColds 14 = .ok (.iadd, 1) := by decide +kernel
theorem d_Search_seekColds_15 : decode b_Search_seekColds 15 = .ok (.putfield 43, 3) := by decide +kernel
theorem d_Search_seekColds_18 : decode b_Search_seekColds 18 = .ok (.aload_n 0, 1) := by decide +kernel
theorem d_Search_seekColds_19 : decode b_Search_seekColds 19 = .ok (.getfield 13, 3) := by decide +kernel
theorem d_Search_seekColds_22 : decode b_Search_seekColds 22 = .ok (.iconst (0), 1) := by decide +kernel
theorem d_Search_seekColds_23 : decode b_Search_seekColds 23 = .ok (.aaload, 1) := by decide +kernel
theorem d_Search_seekColds_24 : decode b_Search_seekColds 24 = .ok (.aload_n 0, 1) := by decide +kernel
theorem d_Search_seekColds_25 : decode b_Search_seekColds 25 = .ok (.getfield 24, 3) := by decide +kernel
theorem d_Search_seekColds_28 : decode b_Search_seekColds 28 = .ok (.getfield 46, 3) := by decide +kernel
theorem d_Search_seekColds_31 : decode b_Search_seekColds 31 = .ok (.invokevirtual 52, 3) := by decide +kernel
theorem d_Search_seekColds_34 : decode b_Search_seekColds 34 = .ok (.aload_n 0, 1) := by decide +kernel
theorem d_Search_seekColds_35 : decode b_Search_seekColds 35 = .ok (.iload_n 1, 1) := by decide +kernel
theorem d_Search_seekColds_36 : decode b_Search_seekColds 36 = .ok (.iconst (0), 1) := by decide +kernel
theorem d_Search_seekColds_37 : decode b_Search_seekColds 37 = .ok (.iconst (0), 1) := by decide +kernel
theorem d_Search_seekColds_38 : decode b_Search_seekColds 38 = .ok (.invokestatic 77, 3) := by decide +kernel
theorem d_Search_seekColds_41 : decode b_Search_seekColds 41 = .ok (.aload_n 0, 1) := by decide +kernel
theorem d_Search_seekColds_42 : decode b_Search_seekColds 42 = .ok (.getfield 43, 3) := by decide +kernel
theorem d_Search_seekColds_45 : decode b_Search_seekColds 45 = .ok (.iload_n 2, 1) := by decide +kernel
theorem d_Search_seekColds_46 : decode b_Search_seekColds 46 = .ok (.if_icmp .gt (7), 3) := by decide +kernel
theorem d_Search_seekColds_49 : decode b_Search_seekColds 49 = .ok (.iconst (1), 1) := by decide +kernel
theorem d_Search_seekColds_50 : decode b_Search_seekColds 50 = .ok (.goto (4), 3) := by decide +kernel
theorem d_Search_seekColds_53 : decode b_Search_seekColds 53 = .ok (.iconst (0), 1) := by decide +kernel
theorem d_Search_seekColds_54 : decode b_Search_seekColds 54 = .ok (.ireturn, 1) := by decide +kernel
theorem c_Search_seekColds (l : Launch) (θ : ZT) {x1 : Int32} {σ : ZM} {res : Int32 × ZM} (h : f_Search_seekColds x1 σ = some res) : zMet mkI l 0 129 θ y_Search_seekColds b_Search_seekColds 3 (some .boolean) (zrm 15 433) [.ref (za θ 7), .int x1] σ res := by
  unfold f_Search_seekColds at h
  refine z_met (lv := [(0, .ref (za θ 7)), (1, .int x1)]) (by decide +kernel) rfl (Nat.le_of_ble_eq_true rfl) (by decide) ?_
  refine z_bipush (v := 20) d_Search_seekColds_0 (by decide) ?_
  refine z_istore_n d_Search_seekColds_2 rfl (by decide) rfl ?_
  refine z_aload_n 1 d_Search_seekColds_3 rfl rfl ?_
  refine z_iload_n 2 d_Search_seekColds_4 rfl rfl ?_
  obtain ⟨⟨v1, s2⟩, e3, h⟩ := zbd_i h
  refine w_callS (As := [.int x1]) (c_Integer_bitCount l θ e3) cf_Integer_bitCount q_606 d_Search_seekColds_5 rfl rfl rfl (Nat.le_of_ble_eq_true rfl) rfl rfl ⟨Nat.le_of_ble_eq_true rfl, Nat.le_of_ble_eq_true rfl⟩ ?_
  refine pf_Search_length zl_7 d_Search_seekColds_8 q_250 ?_
  refine z_aload_n 1 d_Search_seekColds_11 rfl rfl ?_
  refine z_iload_n 0 d_Search_seekColds_12 rfl rfl ?_
  refine z_iconst (v := 1) d_Search_seekColds_13 (by decide) ?_
  refine z_iadd d_Search_seekColds_14 ?_
  refine pf_Search_fewest zl_7 d_Search_seekColds_15 q_252 ?_
  refine z_aload_n 1 d_Search_seekColds_18 rfl rfl ?_
  refine gf_Search_ovens zl_7 d_Search_seekColds_19 q_246 ?_
  refine z_iconst (v := 0) d_Search_seekColds_22 (by decide) ?_
  obtain ⟨c4, h⟩ := zck_i h
  refine w_aald4 zl_24 c4 d_Search_seekColds_23 ?_
  obtain ⟨c5, h⟩ := zck_i h
  refine z_aload_n 1 d_Search_seekColds_24 rfl rfl ?_
  refine gf_Search_now zl_7 d_Search_seekColds_25 q_244 ?_
  refine gf_Stand_oven (o2 := 33) zl_1 rfl d_Search_seekColds_28 q_120 ?_
  obtain ⟨⟨v6, s7⟩, e8, h⟩ := zbd_i h
  refine w_callV (As := [.ref (za θ 33)]) (kc := 17) (ci := 7) (c_Oven_become l θ e8) cf_Oven_become q_607 d_Search_seekColds_31 c5 rfl rfl rfl rfl rfl rfl (Nat.le_of_ble_eq_true rfl) rfl rfl ⟨Nat.le_of_ble_eq_true rfl, Nat.le_of_ble_eq_true rfl⟩ ?_
  refine z_aload_n 1 d_Search_seekColds_34 rfl rfl ?_
  refine z_iload_n 2 d_Search_seekColds_35 rfl rfl ?_
  refine z_iconst (v := 0) d_Search_seekColds_36 (by decide) ?_
  refine z_iconst (v := 0) d_Search_seekColds_37 (by decide) ?_
  obtain ⟨⟨v9, s10⟩, e11, h⟩ := zbd_i h
  refine w_callS (As := [.ref (za θ 7), .int x1, .int (0 : Int32), .int (0 : Int32)]) (cn_Search_goOnColds l θ 8 (x1, (0 : Int32), (0 : Int32), s7) _ e11) cf_Search_goOnColds q_624 d_Search_seekColds_38 rfl rfl rfl (Nat.le_of_ble_eq_true rfl) rfl rfl ⟨Nat.le_of_ble_eq_true rfl, Nat.le_of_ble_eq_true rfl⟩ ?_
  refine z_aload_n 1 d_Search_seekColds_41 rfl rfl ?_
  refine gf_Search_fewest zl_7 d_Search_seekColds_42 q_252 ?_
  refine z_iload_n 0 d_Search_seekColds_45 rfl rfl ?_
  refine z_icmp_gt (tgt := 53) d_Search_seekColds_46 (by decide) (fun c12 => ?_) (fun c12 => ?_)
  · have h := (if_pos c12).symm.trans h
    refine z_iconst (v := 0) d_Search_seekColds_53 (by decide) ?_
    exact z_zret d_Search_seekColds_54 (by decide) h
  · have h := (if_neg c12).symm.trans h
    refine z_iconst (v := 1) d_Search_seekColds_49 (by decide) ?_
    refine z_goto (tgt := 54) d_Search_seekColds_50 (by decide) ?_
    exact z_zret d_Search_seekColds_54 (by decide) h
theorem d_BB_colds_0 : decode b_BB_colds 0 = .ok (.iload_n 2, 1) := by decide +kernel
theorem d_BB_colds_1 : decode b_BB_colds 1 = .ok (.iconst (-1), 1) := by decide +kernel
theorem d_BB_colds_2 : decode b_BB_colds 2 = .ok (.if_icmp .lt (8), 3) := by decide +kernel
theorem d_BB_colds_5 : decode b_BB_colds 5 = .ok (.iload_n 2, 1) := by decide +kernel
theorem d_BB_colds_6 : decode b_BB_colds 6 = .ok (.iconst (5), 1) := by decide +kernel
theorem d_BB_colds_7 : decode b_BB_colds 7 = .ok (.if_icmp .le (5), 3) := by decide +kernel
theorem d_BB_colds_10 : decode b_BB_colds 10 = .ok (.iconst (-1), 1) := by decide +kernel
theorem d_BB_colds_11 : decode b_BB_colds 11 = .ok (.ireturn, 1) := by decide +kernel
theorem d_BB_colds_12 : decode b_BB_colds 12 = .ok (.aload_n 0, 1) := by decide +kernel
theorem d_BB_colds_13 : decode b_BB_colds 13 = .ok (.iload_n 1, 1) := by decide +kernel
theorem d_BB_colds_14 : decode b_BB_colds 14 = .ok (.iconst (4), 1) := by decide +kernel
theorem d_BB_colds_15 : decode b_BB_colds 15 = .ok (.invokevirtual 179, 3) := by decide +kernel
theorem d_BB_colds_18 : decode b_BB_colds 18 = .ok (.ifCond .ne (6), 3) := by decide +kernel
theorem d_BB_colds_21 : decode b_BB_colds 21 = .ok (.bipush (-2), 2) := by decide +kernel
theorem d_BB_colds_23 : decode b_BB_colds 23 = .ok (.ireturn, 1) := by decide +kernel
theorem d_BB_colds_24 : decode b_BB_colds 24 = .ok (.aload_n 0, 1) := by decide +kernel
theorem d_BB_colds_25 : decode b_BB_colds 25 = .ok (.getfield 60, 3) := by decide +kernel
theorem d_BB_colds_28 : decode b_BB_colds 28 = .ok (.iload_n 1, 1) := by decide +kernel
theorem d_BB_colds_29 : decode b_BB_colds 29 = .ok (.invokevirtual 196, 3) := by decide +kernel
theorem d_BB_colds_32 : decode b_BB_colds 32 = .ok (.ifCond .ne (6), 3) := by decide +kernel
theorem d_BB_colds_35 : decode b_BB_colds 35 = .ok (.bipush (-5), 2) := by decide +kernel
theorem d_BB_colds_37 : decode b_BB_colds 37 = .ok (.ireturn, 1) := by decide +kernel
theorem d_BB_colds_38 : decode b_BB_colds 38 = .ok (.iload_n 2, 1) := by decide +kernel
theorem d_BB_colds_39 : decode b_BB_colds 39 = .ok (.iconst (-1), 1) := by decide +kernel
theorem d_BB_colds_40 : decode b_BB_colds 40 = .ok (.if_icmp .ne (11), 3) := by decide +kernel
theorem d_BB_colds_43 : decode b_BB_colds 43 = .ok (.aload_n 0, 1) := by decide +kernel
theorem d_BB_colds_44 : decode b_BB_colds 44 = .ok (.getfield 60, 3) := by decide +kernel
theorem d_BB_colds_47 : decode b_BB_colds 47 = .ok (.getfield 187, 3) := by decide +kernel
theorem d_BB_colds_50 : decode b_BB_colds 50 = .ok (.ireturn, 1) := by decide +kernel
theorem d_BB_colds_51 : decode b_BB_colds 51 = .ok (.iload_n 2, 1) := by decide +kernel
theorem d_BB_colds_52 : decode b_BB_colds 52 = .ok (.aload_n 0, 1) := by decide +kernel
theorem d_BB_colds_53 : decode b_BB_colds 53 = .ok (.getfield 60, 3) := by decide +kernel
theorem d_BB_colds_56 : decode b_BB_colds 56 = .ok (.getfield 190, 3) := by decide +kernel
theorem d_BB_colds_59 : decode b_BB_colds 59 = .ok (.if_icmp .ge (15), 3) := by decide +kernel
theorem d_BB_colds_62 : decode b_BB_colds 62 = .ok (.aload_n 0, 1) := by decide +kernel
theorem d_BB_colds_63 : decode b_BB_colds 63 = .ok (.getfield 60, 3) := by decide +kernel
theorem d_BB_colds_66 : decode b_BB_colds 66 = .ok (.getfield 193, 3) := by decide +kernel
theorem d_BB_colds_69 : decode b_BB_colds 69 = .ok (.iload_n 2, 1) := by decide +kernel
theorem d_BB_colds_70 : decode b_BB_colds 70 = .ok (.iaload, 1) := by decide +kernel
theorem d_BB_colds_71 : decode b_BB_colds 71 = .ok (.goto (5), 3) := by decide +kernel
theorem d_BB_colds_74 : decode b_BB_colds 74 = .ok (.bipush (-5), 2) := by decide +kernel
theorem d_BB_colds_76 : decode b_BB_colds 76 = .ok (.ireturn, 1) := by decide +kernel
theorem c_BB_colds (l : Launch) (θ : ZT) {x1 : Int32} {x2 : Int32} {σ : ZM} {res : Int32 × ZM} (h : f_BB_colds x1 x2 σ = some res) : zMet mkI l 0 129 θ y_BB_colds b_BB_colds 3 (some .int) (zrm 16 455) [.ref (za θ 0), .int x1, .int x2] σ res := by
  unfold f_BB_colds at h
  refine z_met (lv := [(0, .ref (za θ 0)), (1, .int x1), (2, .int x2)]) (by decide +kernel) rfl (Nat.le_of_ble_eq_true rfl) (by decide) ?_
  refine z_iload_n 2 d_BB_colds_0 rfl rfl ?_
  refine z_iconst (v := -1) d_BB_colds_1 (by decide) ?_
  refine z_icmp_lt (tgt := 10) d_BB_colds_2 (by decide) (fun c1 => ?_) (fun c1 => ?_)
  · have h := (if_pos c1).symm.trans h
    refine z_iconst (v := -1) d_BB_colds_10 (by decide) ?_
    exact z_iret d_BB_colds_11 h
  · have h := (if_neg c1).symm.trans h
    refine z_iload_n 2 d_BB_colds_5 rfl rfl ?_
    refine z_iconst (v := 5) d_BB_colds_6 (by decide) ?_
    refine z_icmp_le (tgt := 12) d_BB_colds_7 (by decide) (fun c2 => ?_) (fun c2 => ?_)
    · have h := (if_pos c2).symm.trans h
      refine z_aload_n 0 d_BB_colds_12 rfl rfl ?_
      refine z_iload_n 1 d_BB_colds_13 rfl rfl ?_
      refine z_iconst (v := 4) d_BB_colds_14 (by decide) ?_
      obtain ⟨⟨v3, s4⟩, e5, h⟩ := zbd_i h
      refine w_callV (As := [.int x1, .int (4 : Int32)]) (kc := 10) (ci := 0) (c_BB_isSet l θ e5) cf_BB_isSet q_592 d_BB_colds_15 zl_0 rfl rfl rfl rfl rfl rfl (Nat.le_of_ble_eq_true rfl) rfl rfl ⟨Nat.le_of_ble_eq_true rfl, Nat.le_of_ble_eq_true rfl⟩ ?_
      refine z_if_ne (tgt := 24) d_BB_colds_18 (by decide) (fun c6 => ?_) (fun c6 => ?_)
      · have h := (if_neg c6).symm.trans h
        refine z_aload_n 0 d_BB_colds_24 rfl rfl ?_
        refine gf_BB_search zl_0 d_BB_colds_25 q_310 ?_
        refine z_iload_n 1 d_BB_colds_28 rfl rfl ?_
        obtain ⟨⟨v7, s8⟩, e9, h⟩ := zbd_i h
        refine w_callV (As := [.int x1]) (kc := 19) (ci := 9) (c_Search_seekColds l θ e9) cf_Search_seekColds q_620 d_BB_colds_29 zl_7 rfl rfl rfl rfl rfl rfl (Nat.le_of_ble_eq_true rfl) rfl rfl ⟨Nat.le_of_ble_eq_true rfl, Nat.le_of_ble_eq_true rfl⟩ ?_
        refine z_if_ne (tgt := 38) d_BB_colds_32 (by decide) (fun c10 => ?_) (fun c10 => ?_)
        · have h := (if_neg c10).symm.trans h
          refine z_iload_n 2 d_BB_colds_38 rfl rfl ?_
          refine z_iconst (v := -1) d_BB_colds_39 (by decide) ?_
          refine z_icmp_ne (tgt := 51) d_BB_colds_40 (by decide) (fun c11 => ?_) (fun c11 => ?_)
          · have h := (if_neg c11).symm.trans h
            refine z_iload_n 2 d_BB_colds_51 rfl rfl ?_
            refine z_aload_n 0 d_BB_colds_52 rfl rfl ?_
            refine gf_BB_search zl_0 d_BB_colds_53 q_310 ?_
            refine gf_Search_length zl_7 d_BB_colds_56 q_251 ?_
            refine z_icmp_ge (tgt := 74) d_BB_colds_59 (by decide) (fun c12 => ?_) (fun c12 => ?_)
            · have h := (if_pos c12).symm.trans h
              refine z_bipush (v := -5) d_BB_colds_74 (by decide) ?_
              exact z_iret d_BB_colds_76 h
            · have h := (if_neg c12).symm.trans h
              refine z_aload_n 0 d_BB_colds_62 rfl rfl ?_
              refine gf_BB_search zl_0 d_BB_colds_63 q_310 ?_
              refine gf_Search_best zl_7 d_BB_colds_66 q_249 ?_
              refine z_iload_n 2 d_BB_colds_69 rfl rfl ?_
              obtain ⟨c13, h⟩ := zck_i h
              refine w_iald zl_23 c13 d_BB_colds_70 ?_
              refine z_goto (tgt := 76) d_BB_colds_71 (by decide) ?_
              exact z_iret d_BB_colds_76 h
          · have h := (if_pos c11).symm.trans h
            refine z_aload_n 0 d_BB_colds_43 rfl rfl ?_
            refine gf_BB_search zl_0 d_BB_colds_44 q_310 ?_
            refine gf_Search_fewest zl_7 d_BB_colds_47 q_253 ?_
            exact z_iret d_BB_colds_50 h
        · have h := (if_pos c10).symm.trans h
          refine z_bipush (v := -5) d_BB_colds_35 (by decide) ?_
          exact z_iret d_BB_colds_37 h
      · have h := (if_pos c6).symm.trans h
        refine z_bipush (v := -2) d_BB_colds_21 (by decide) ?_
        exact z_iret d_BB_colds_23 h
    · have h := (if_neg c2).symm.trans h
      refine z_iconst (v := -1) d_BB_colds_10 (by decide) ?_
      exact z_iret d_BB_colds_11 h
theorem d_Baker_takesOfAll_0 : decode b_Baker_takesOfAll 0 = .ok (.iconst (0), 1) := by decide +kernel
theorem d_Baker_takesOfAll_1 : decode b_Baker_takesOfAll 1 = .ok (.istore_n 3, 1) := by decide +kernel
theorem d_Baker_takesOfAll_2 : decode b_Baker_takesOfAll 2 = .ok (.iconst (0), 1) := by decide +kernel
theorem d_Baker_takesOfAll_3 : decode b_Baker_takesOfAll 3 = .ok (.istore 4, 2) := by decide +kernel
theorem d_Baker_takesOfAll_5 : decode b_Baker_takesOfAll 5 = .ok (.iload 4, 2) := by decide +kernel
theorem d_Baker_takesOfAll_7 : decode b_Baker_takesOfAll 7 = .ok (.iconst (4), 1) := by decide +kernel
theorem d_Baker_takesOfAll_8 : decode b_Baker_takesOfAll 8 = .ok (.if_icmp .ge (20), 3) := by decide +kernel
theorem d_Baker_takesOfAll_11 : decode b_Baker_takesOfAll 11 = .ok (.iload_n 3, 1) := by decide +kernel
theorem d_Baker_takesOfAll_12 : decode b_Baker_takesOfAll 12 = .ok (.aload_n 0, 1) := by decide +kernel
theorem d_Baker_takesOfAll_13 : decode b_Baker_takesOfAll 13 = .ok (.aload_n 1, 1) := by decide +kernel
theorem d_Baker_takesOfAll_14 : decode b_Baker_takesOfAll 14 = .ok (.iload 4, 2) := by decide +kernel
theorem d_Baker_takesOfAll_16 : decode b_Baker_takesOfAll 16 = .ok (.aload_n 2, 1) := by decide +kernel
theorem d_Baker_takesOfAll_17 : decode b_Baker_takesOfAll 17 = .ok (.invokevirtual 65, 3) := by decide +kernel
theorem d_Baker_takesOfAll_20 : decode b_Baker_takesOfAll 20 = .ok (.iadd, 1) := by decide +kernel
theorem d_Baker_takesOfAll_21 : decode b_Baker_takesOfAll 21 = .ok (.istore_n 3, 1) := by decide +kernel
theorem d_Baker_takesOfAll_22 : decode b_Baker_takesOfAll 22 = .ok (.iinc 4 (1), 3) := by decide +kernel
theorem d_Baker_takesOfAll_25 : decode b_Baker_takesOfAll 25 = .ok (.goto (-20), 3) := by decide +kernel
theorem d_Baker_takesOfAll_28 : decode b_Baker_takesOfAll 28 = .ok (.iload_n 3, 1) := by decide +kernel
theorem d_Baker_takesOfAll_29 : decode b_Baker_takesOfAll 29 = .ok (.ireturn, 1) := by decide +kernel
theorem zb_Baker_takesOfAll_5 {l : Launch} {θ : ZT} {res : Int32 × ZM} {k5 : Nat × Nat × Int32 × Int32 × ZM → Option (Int32 × ZM)} (hk5 : ∀ a : Nat × Nat × Int32 × Int32 × ZM, zR 0 129 a.1 16 0 = true → zR 0 129 a.2.1 17 0 = true → k5 a = some res → WZ l b_Baker_takesOfAll 5 (some .int) "BakedBefore$Bake\x72" 0 129 θ (zrm 5 164) (zQ mkI 0 129 θ res) a.2.2.2.2 [(0, .ref (za θ 5)), (1, .ref (za θ a.1)), (2, .ref (za θ a.2.1)), (3, .int a.2.2.1), (4, .int a.2.2.2.1)] 5 []) {x1 : Nat} {x2 : Nat} {x3 : Int32} {x4 : Int32} {σ : ZM} (hx1 : zR 0 129 x1 16 0 = true) (hx2 : zR 0 129 x2 17 0 = true) (h : f_Baker_takesOfAll_5 k5 x1 x2 x3 x4 σ = some res) : WZ l b_Baker_takesOfAll 5 (some .int) "BakedBefore$Bake\x72" 0 129 θ (zrm 5 164) (zQ mkI 0 129 θ res) σ [(0, .ref (za θ 5)), (1, .ref (za θ x1)), (2, .ref (za θ x2)), (3, .int x3), (4, .int x4)] 5 [] := by
  unfold f_Baker_takesOfAll_5 at h
  refine z_iload 4 d_Baker_takesOfAll_5 rfl ?_
  refine z_iconst (v := 4) d_Baker_takesOfAll_7 (by decide) ?_
  refine z_icmp_ge (tgt := 28) d_Baker_takesOfAll_8 (by decide) (fun c1 => ?_) (fun c1 => ?_)
  · have h := (if_pos c1).symm.trans h
    refine z_iload_n 3 d_Baker_takesOfAll_28 rfl rfl ?_
    exact z_iret d_Baker_takesOfAll_29 h
  · have h := (if_neg c1).symm.trans h
    refine z_iload_n 3 d_Baker_takesOfAll_11 rfl rfl ?_
    refine z_aload_n 0 d_Baker_takesOfAll_12 rfl rfl ?_
    refine z_aload_n 1 d_Baker_takesOfAll_13 rfl rfl ?_
    refine z_iload 4 d_Baker_takesOfAll_14 rfl ?_
    refine z_aload_n 2 d_Baker_takesOfAll_16 rfl rfl ?_
    obtain ⟨⟨v2, s3⟩, e4, h⟩ := zbd_i h
    refine w_callV (As := [.ref (za θ x1), .int x4, .ref (za θ x2)]) (kc := 13) (ci := 3) (c_Baker_takes l θ e4) cf_Baker_takes q_384 d_Baker_takesOfAll_17 zl_5 rfl rfl rfl rfl rfl rfl (Nat.le_of_ble_eq_true rfl) rfl rfl ⟨Nat.le_of_ble_eq_true rfl, Nat.le_of_ble_eq_true rfl⟩ ?_
    refine z_iadd d_Baker_takesOfAll_20 ?_
    refine z_istore_n d_Baker_takesOfAll_21 rfl (by decide) rfl ?_
    refine z_iinc (v := x4 + (1 : Int32)) 4 d_Baker_takesOfAll_22 rfl rfl (by decide) rfl ?_
    refine z_goto (tgt := 5) d_Baker_takesOfAll_25 (by decide) ?_
    refine z_sub [2, 3, 4, 1, 0] rfl ?_
    exact hk5 (x1, x2, (x3 + v2), (x4 + (1 : Int32)), s3) hx1 hx2 h
theorem zl_Baker_takesOfAll_5 {l : Launch} {θ : ZT} {res : Int32 × ZM} : ∀ (N : Nat) (a : Nat × Nat × Int32 × Int32 × ZM), zR 0 129 a.1 16 0 = true → zR 0 129 a.2.1 17 0 = true → F_Baker_takesOfAll_5 N a = some res → WZ l b_Baker_takesOfAll 5 (some .int) "BakedBefore$Bake\x72" 0 129 θ (zrm 5 164) (zQ mkI 0 129 θ res) a.2.2.2.2 [(0, .ref (za θ 5)), (1, .ref (za θ a.1)), (2, .ref (za θ a.2.1)), (3, .int a.2.2.1), (4, .int a.2.2.2.1)] 5 [] := by
  intro N
  induction N with
  | zero => intro a hx1 hx2 h; cases (show (none : Option (Int32 × ZM)) = some res from h)
  | succ N ih => intro a hx1 hx2 h; exact zb_Baker_takesOfAll_5 ih hx1 hx2 (show f_Baker_takesOfAll_5 (F_Baker_takesOfAll_5 N) a.1 a.2.1 a.2.2.1 a.2.2.2.1 a.2.2.2.2 = some res from h)
theorem c_Baker_takesOfAll (l : Launch) (θ : ZT) {x1 : Nat} {x2 : Nat} {σ : ZM} {res : Int32 × ZM} (h : f_Baker_takesOfAll x1 x2 σ = some res) : zMet mkI l 0 129 θ y_Baker_takesOfAll b_Baker_takesOfAll 5 (some .int) (zrm 5 164) [.ref (za θ 5), .ref (za θ x1), .ref (za θ x2)] σ res := by
  unfold f_Baker_takesOfAll at h
  obtain ⟨hx1, h⟩ := zck_i h
  obtain ⟨hx2, h⟩ := zck_i h
  refine z_met (lv := [(0, .ref (za θ 5)), (1, .ref (za θ x1)), (2, .ref (za θ x2))]) (by decide +kernel) rfl (Nat.le_of_ble_eq_true rfl) (by decide) ?_
  refine z_iconst (v := 0) d_Baker_takesOfAll_0 (by decide) ?_
  refine z_istore_n d_Baker_takesOfAll_1 rfl (by decide) rfl ?_
  refine z_iconst (v := 0) d_Baker_takesOfAll_2 (by decide) ?_
  refine z_istore d_Baker_takesOfAll_3 (by decide) rfl ?_
  refine z_sub [2, 3, 4, 1, 0] rfl ?_
  exact zl_Baker_takesOfAll_5 2000 (x1, x2, (0 : Int32), (0 : Int32), σ) hx1 hx2 h
