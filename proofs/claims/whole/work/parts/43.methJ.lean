theorem ky_Jxf58ca_isNaN_12338 : ka_y yJxf58ca_isNaN_12338 1 := by unfold ka_y; decide +kernel
set_option maxHeartbeats 4000000 in
set_option maxRecDepth 100000 in
theorem m_Jxf58ca_isNaN_12338 {G : ka_G} (hG : ka_AD G) {V : ka_W} {x : UInt32}  : ka_M G yJxf58ca_isNaN_12338 cJxf58ca_isNaN_12338 1 (some FieldType.boolean) 0 [.float x] (V) (some (.int (ka_b (rx_nan x)))) (V) := by
  refine ka_entryF hG (by decide +kernel) (ka_cat1 rfl) (Nat.le_of_ble_eq_true rfl) (fun X hC hR => ?_)
  refine ka_fload_n hC dJxf58ca_isNaN_12338_0 rfl ?_
  refine ka_fload_n hC dJxf58ca_isNaN_12338_1 rfl ?_
  refine ka_fcmp hC dJxf58ca_isNaN_12338_2 ?_
  refine ka_if_eq (tgt := 10) hC dJxf58ca_isNaN_12338_3 (by decide) (fun c3 => ?_) (fun c3 => ?_)
  · skip
    refine ka_iconst (v := 0) hC dJxf58ca_isNaN_12338_10 rfl ?_
    exact ka_bret hC hR dJxf58ca_isNaN_12338_11 (by first | with_reducible rfl | (simp only [rx_nan, ka_b, c3]; done) | (simp only [rx_nan, ka_b, if_pos c3, if_neg (not_not_intro c3)]; done) | (simp [rx_nan, ka_b, c3]; done) | (simp [rx_nan, ka_b, if_pos c3, if_neg (not_not_intro c3)]; done) | contradiction | rfl) rfl (by first | with_reducible rfl | (simp only [rx_nan, ka_b, c3]; done) | (simp only [rx_nan, ka_b, if_pos c3, if_neg (not_not_intro c3)]; done) | (simp [rx_nan, ka_b, c3]; done) | (simp [rx_nan, ka_b, if_pos c3, if_neg (not_not_intro c3)]; done) | contradiction | rfl)
  · skip
    refine ka_iconst (v := 1) hC dJxf58ca_isNaN_12338_6 rfl ?_
    refine ka_goto (tgt := 11) hC dJxf58ca_isNaN_12338_7 (by decide) ?_
    exact ka_bret hC hR dJxf58ca_isNaN_12338_11 (by first | with_reducible rfl | (simp only [rx_nan, ka_b, c3]; done) | (simp only [rx_nan, ka_b, if_neg c3, if_pos c3]; done) | (simp [rx_nan, ka_b, c3]; done) | (simp [rx_nan, ka_b, if_neg c3, if_pos c3]; done) | contradiction | rfl) rfl (by first | with_reducible rfl | (simp only [rx_nan, ka_b, c3]; done) | (simp only [rx_nan, ka_b, if_neg c3, if_pos c3]; done) | (simp [rx_nan, ka_b, c3]; done) | (simp [rx_nan, ka_b, if_neg c3, if_pos c3]; done) | contradiction | rfl)
theorem ky_Jxf58ca_floatToIntBits_5c35a : ka_y yJxf58ca_floatToIntBits_5c35a 1 := by unfold ka_y; decide +kernel
set_option maxHeartbeats 4000000 in
set_option maxRecDepth 100000 in
theorem m_Jxf58ca_floatToIntBits_5c35a {G : ka_G} (hG : ka_AD G) {V : ka_W} {x : UInt32}  : ka_M G yJxf58ca_floatToIntBits_5c35a cJxf58ca_floatToIntBits_5c35a 1 (some FieldType.int) 1 [.float x] (V) (some (.int (rx_bits x))) (V) := by
  refine ka_entryF hG (by decide +kernel) (ka_cat1 rfl) (Nat.le_of_ble_eq_true rfl) (fun X hC hR => ?_)
  refine ka_fload_n hC dJxf58ca_floatToIntBits_5c35a_0 rfl ?_
  refine ka_callS hC (m_Jxf58ca_isNaN_12338 hG) ka_q_ml_Jxf58ca_59 ka_q_st_Jxf58ca_isNaN_12338 ka_q_in_Jxf58ca ka_q_co_Jxf58ca_isNaN_12338 ky_Jxf58ca_isNaN_12338 (by decide) (by decide) (Nat.le_of_ble_eq_true rfl) rfl dJxf58ca_floatToIntBits_5c35a_1 ?_
  refine ka_if_ne_b (tgt := 12) hC dJxf58ca_floatToIntBits_5c35a_4 (by decide) (fun c4 => ?_) (fun c4 => ?_)
  · skip
    refine ka_ldc hC ka_q_cn_Jxf58ca_77 dJxf58ca_floatToIntBits_5c35a_12 ?_
    exact ka_iret hC hR dJxf58ca_floatToIntBits_5c35a_14 (by first | with_reducible rfl | (simp only [rx_bits, c4]; done) | (simp only [rx_bits, c4]; done) | (simp [rx_bits, c4]; done) | (simp [rx_bits, c4]; done) | contradiction | rfl) (by first | with_reducible rfl | (simp only [rx_bits, c4]; done) | (simp only [rx_bits, c4]; done) | (simp [rx_bits, c4]; done) | (simp [rx_bits, c4]; done) | contradiction | rfl)
  · skip
    refine ka_fload_n hC dJxf58ca_floatToIntBits_5c35a_7 rfl ?_
    refine ka_f2ib hC ka_q_ml_Jxf58ca_74 ka_q_na_java_lang_Float_floatToRawIntBits ka_q_st_java_lang_Float_floatToRawIntBits ka_q_in_Jxf58ca (Nat.le_of_ble_eq_true rfl) (by decide) dJxf58ca_floatToIntBits_5c35a_8 ?_
    exact ka_iret hC hR dJxf58ca_floatToIntBits_5c35a_11 (by first | with_reducible rfl | (simp only [rx_bits, c4]; done) | (simp only [rx_bits, c4]; done) | (simp [rx_bits, c4]; done) | (simp [rx_bits, c4]; done) | contradiction | rfl) (by first | with_reducible rfl | (simp only [rx_bits, c4]; done) | (simp only [rx_bits, c4]; done) | (simp [rx_bits, c4]; done) | (simp [rx_bits, c4]; done) | contradiction | rfl)
theorem ky_X6_bitsOfShare : ka_y yX6_bitsOfShare 1 := by unfold ka_y; decide +kernel
set_option maxHeartbeats 4000000 in
set_option maxRecDepth 100000 in
theorem m_X6_bitsOfShare {G : ka_G} (hG : ka_AD G) {V : ka_W} {x : UInt32} (hx : sp_bsOK x)  : ka_M G yX6_bitsOfShare cX6_bitsOfShare 4 (some FieldType.int) 0 [.float x] (V) (some (.int (sp_bits x))) (V) := by
  refine ka_entry hG ka_pn_X6 (ka_cat1 rfl) (Nat.le_of_ble_eq_true rfl) (fun X hC hR => ?_)
  refine ka_fload_n hC dX6_bitsOfShare_0 rfl ?_
  refine ka_fconst0 hC dX6_bitsOfShare_1 ?_
  refine ka_fcmp hC dX6_bitsOfShare_2 ?_
  refine ka_if_gt (tgt := 8) hC dX6_bitsOfShare_3 (by decide) (fun c3 => ?_) (fun c3 => ?_)
  · skip
    refine ka_fload_n hC dX6_bitsOfShare_8 rfl ?_
    refine ka_fstore_n_p1 hC dX6_bitsOfShare_9 (by decide) ?_
    refine ka_bipush (v := 127) hC dX6_bitsOfShare_10 rfl ?_
    refine ka_istore_n_p2 hC dX6_bitsOfShare_12 (by decide) ?_
    suffices H13 : ∀ jj i : Nat, i ≤ 126 → 126 - i < jj → (sp_bsX x i).2 = sp_bsE i → ka_I G X (V) 13 [.float x, .float (sp_bsX x i).1, .int (sp_bsX x i).2] [] from ka_I.back 3 (by rfl) (by rfl) (H13 (126 + 1) 0 (by omega) (by omega) (show (127 : Int32) = sp_bsE 0 from by decide))
    intro j13
    induction j13 with
    | zero => intro i h1 h2 hv; exact absurd h2 (Nat.not_lt_zero _)
    | succ j13 ih13 =>
      intro i hle13 hlt13 hv
      refine ka_fload_n hC dX6_bitsOfShare_13 rfl ?_
      refine ka_fconst1 hC dX6_bitsOfShare_14 ?_
      refine ka_fcmp hC dX6_bitsOfShare_15 ?_
      refine ka_if_ge (tgt := 34) hC dX6_bitsOfShare_16 (by decide) (fun c16 => ?_) (fun c16 => ?_)
      · skip
        have e126 : sp_bsX x 126 = (sp_bsX x i) := sp_bsX_stop (Or.inl c16) hle13
        refine ka_fload_n hC dX6_bitsOfShare_34 rfl ?_
        refine ka_ldcf hC ka_q_cf_X6_175 dX6_bitsOfShare_35 ?_
        refine ka_fmul hC dX6_bitsOfShare_37 (by rw [← e126]; exact (hx.2 c3).2) ?_
        refine ka_f2i hC dX6_bitsOfShare_38 ?_
        refine ka_ldc hC ka_q_cn_X6_176 dX6_bitsOfShare_39 ?_
        refine ka_isub hC dX6_bitsOfShare_41 ?_
        refine ka_istore_n_p3 hC dX6_bitsOfShare_42 (by decide) ?_
        refine ka_iload_n hC dX6_bitsOfShare_43 rfl ?_
        refine ka_bipush (v := 23) hC dX6_bitsOfShare_44 rfl ?_
        refine ka_ishl hC dX6_bitsOfShare_46 ?_
        refine ka_iload_n hC dX6_bitsOfShare_47 rfl ?_
        refine ka_iadd hC dX6_bitsOfShare_48 ?_
        exact ka_iret hC hR dX6_bitsOfShare_49 (by unfold sp_bits; rw [if_pos c3, e126]) (by first | with_reducible rfl | (simp only [c3, c16, e126]; done) | (simp only [if_pos c3, if_neg (not_not_intro c3), if_neg c16, if_pos c16, e126]; done) | (simp [c3, c16, e126]; done) | (simp [if_pos c3, if_neg (not_not_intro c3), if_neg c16, if_pos c16, e126]; done) | contradiction | rfl)
      · skip
        refine ka_iload_n hC dX6_bitsOfShare_19 rfl ?_
        refine ka_iconst (v := 1) hC dX6_bitsOfShare_20 rfl ?_
        refine ka_icmp_le (tgt := 34) hC dX6_bitsOfShare_21 (by decide) (fun c21 => ?_) (fun c21 => ?_)
        · skip
          have e126 : sp_bsX x 126 = (sp_bsX x i) := sp_bsX_stop (Or.inr c21) hle13
          refine ka_fload_n hC dX6_bitsOfShare_34 rfl ?_
          refine ka_ldcf hC ka_q_cf_X6_175 dX6_bitsOfShare_35 ?_
          refine ka_fmul hC dX6_bitsOfShare_37 (by rw [← e126]; exact (hx.2 c3).2) ?_
          refine ka_f2i hC dX6_bitsOfShare_38 ?_
          refine ka_ldc hC ka_q_cn_X6_176 dX6_bitsOfShare_39 ?_
          refine ka_isub hC dX6_bitsOfShare_41 ?_
          refine ka_istore_n_p3 hC dX6_bitsOfShare_42 (by decide) ?_
          refine ka_iload_n hC dX6_bitsOfShare_43 rfl ?_
          refine ka_bipush (v := 23) hC dX6_bitsOfShare_44 rfl ?_
          refine ka_ishl hC dX6_bitsOfShare_46 ?_
          refine ka_iload_n hC dX6_bitsOfShare_47 rfl ?_
          refine ka_iadd hC dX6_bitsOfShare_48 ?_
          exact ka_iret hC hR dX6_bitsOfShare_49 (by unfold sp_bits; rw [if_pos c3, e126]) (by first | with_reducible rfl | (simp only [c3, c16, c21, e126]; done) | (simp only [if_pos c3, if_neg (not_not_intro c3), if_pos c16, if_neg (not_not_intro c16), if_neg c21, if_pos c21, e126]; done) | (simp [c3, c16, c21, e126]; done) | (simp [if_pos c3, if_neg (not_not_intro c3), if_pos c16, if_neg (not_not_intro c16), if_neg c21, if_pos c21, e126]; done) | contradiction | rfl)
        · skip
          have hi : i < 126 := sp_bsE_lt hle13 (by rw [← hv]; exact c21)
          have e := sp_bsX_go c16 c21
          refine ka_fload_n hC dX6_bitsOfShare_24 rfl ?_
          refine ka_fconst2 hC dX6_bitsOfShare_25 ?_
          refine ka_fmul hC dX6_bitsOfShare_26 ((hx.2 c3).1 i hi) ?_
          refine ka_fstore_n_s1 hC dX6_bitsOfShare_27 (by decide) ?_
          refine ka_iinc_2 (v := (-1)) hC dX6_bitsOfShare_28 rfl (by decide) ?_
          refine ka_goto (tgt := 13) hC dX6_bitsOfShare_31 (by decide) ?_
          exact ka_I.back 3 (by rfl) (by rw [e]; rfl) (ih13 (i + 1) (by omega) (by omega) (by rw [e, hv]; exact sp_bsE_s))
  · skip
    refine ka_iconst (v := 0) hC dX6_bitsOfShare_6 rfl ?_
    exact ka_iret hC hR dX6_bitsOfShare_7 (by unfold sp_bits; rw [if_neg c3]) (by first | with_reducible rfl | (simp only [c3]; done) | (simp only [if_neg c3, if_pos c3]; done) | (simp [c3]; done) | (simp [if_neg c3, if_pos c3]; done) | contradiction | rfl)
theorem ky_X6_share : ka_y yX6_share 1 := by unfold ka_y; decide +kernel
set_option maxHeartbeats 4000000 in
set_option maxRecDepth 100000 in
theorem m_X6_share {G : ka_G} (hG : ka_AD G) {V : ka_W} {a : Int32} (hq : sp_isMine (V 0) a = true → ¬ sp_ownedBy (V 0) a = 0 → sp_bsOK (sp_share0 (V 0) a))  : ka_M G yX6_share cX6_share 3 (some FieldType.int) 3 [.ref (ka_ad G 8 0), .int a] (V) (some (.int (sp_share (V 0) a))) (V) := by
  refine ka_entry hG ka_pn_X6 (ka_cat1 rfl) (Nat.le_of_ble_eq_true rfl) (fun X hC hR => ?_)
  refine ka_I.eqW (ka_sp_self (r := 0)).symm ?_
  refine ka_aload_n hC dX6_share_0 rfl ?_
  refine kg_X6_10  hC dX6_share_1 ?_
  refine ka_iload_n hC dX6_share_4 rfl ?_
  refine ka_callV hC (m_X3_isMine hG (by first | assumption | decide | exact wgIx_lt _ | exact plIx_lt _ | exact sp_recQ_lt | omega)) (ka_Rc_pool (by first | assumption | decide | exact wgIx_lt _ | exact plIx_lt _ | exact sp_recQ_lt | omega)) rfl ka_q_ml_X6_99 ka_q_im_X3_isMine ka_q_se_X3_isMine ka_q_in_X3 ka_q_co_X3_isMine ky_X3_isMine (by decide) (by decide) (Nat.le_of_ble_eq_true rfl) rfl dX6_share_5 ?_
  refine ka_if_ne_b (tgt := 14) hC dX6_share_8 (by decide) (fun c8 => ?_) (fun c8 => ?_)
  · skip
    refine ka_aload_n hC dX6_share_14 rfl ?_
    refine kg_X6_10  hC dX6_share_15 ?_
    refine ka_iload_n hC dX6_share_18 rfl ?_
    refine ka_callV hC (m_X3_ownedBy hG (by first | assumption | decide | exact wgIx_lt _ | exact plIx_lt _ | exact sp_recQ_lt | omega)) (ka_Rc_pool (by first | assumption | decide | exact wgIx_lt _ | exact plIx_lt _ | exact sp_recQ_lt | omega)) rfl ka_q_ml_X6_121 ka_q_im_X3_ownedBy ka_q_se_X3_ownedBy ka_q_in_X3 ka_q_co_X3_ownedBy ky_X3_ownedBy (by decide) (by decide) (Nat.le_of_ble_eq_true rfl) rfl dX6_share_19 ?_
    refine ka_istore_n_p2 hC dX6_share_22 (by decide) ?_
    refine ka_iload_n hC dX6_share_23 rfl ?_
    refine ka_if_ne (tgt := 30) hC dX6_share_24 (by decide) (fun c24 => ?_) (fun c24 => ?_)
    · skip
      refine ka_aload_n hC dX6_share_30 rfl ?_
      refine kg_X6_10  hC dX6_share_31 ?_
      refine ka_iload_n hC dX6_share_34 rfl ?_
      refine ka_callV hC (m_X3_loadedOf hG (by first | assumption | decide | exact wgIx_lt _ | exact plIx_lt _ | exact sp_recQ_lt | omega)) (ka_Rc_pool (by first | assumption | decide | exact wgIx_lt _ | exact plIx_lt _ | exact sp_recQ_lt | omega)) rfl ka_q_ml_X6_124 ka_q_im_X3_loadedOf ka_q_se_X3_loadedOf ka_q_in_X3 ka_q_co_X3_loadedOf ky_X3_loadedOf (by decide) (by decide) (Nat.le_of_ble_eq_true rfl) rfl dX6_share_35 ?_
      refine ka_i2f hC dX6_share_38 ?_
      refine ka_iload_n hC dX6_share_39 rfl ?_
      refine ka_i2f hC dX6_share_40 ?_
      refine ka_fdiv hC dX6_share_41 (hq c8 c24).1 ?_
      refine ka_callS hC (m_X6_bitsOfShare hG (hq c8 c24)) ka_q_ml_X6_127 ka_q_st_X6_bitsOfShare ka_q_in_X6 ka_q_co_X6_bitsOfShare ky_X6_bitsOfShare (by decide) (by decide) (Nat.le_of_ble_eq_true rfl) rfl dX6_share_42 ?_
      exact ka_iret hC hR dX6_share_45 (by unfold sp_share; rw [if_neg (by rw [c8]; decide), if_neg c24]) (by exact ka_sp_self)
    · skip
      refine ka_ldc hC ka_q_cn_X6_112 dX6_share_27 ?_
      exact ka_iret hC hR dX6_share_29 (by first | with_reducible rfl | (simp only [sp_share, c8, c24]; done) | (simp only [sp_share, c8, if_pos c24, if_neg (not_not_intro c24)]; done) | (simp [sp_share, c8, c24]; done) | (simp [sp_share, c8, if_pos c24, if_neg (not_not_intro c24)]; done) | contradiction | rfl) (by exact ka_sp_self)
  · skip
    refine ka_ldc hC ka_q_cn_X6_84 dX6_share_11 ?_
    exact ka_iret hC hR dX6_share_13 (by first | with_reducible rfl | (simp only [sp_share, c8]; done) | (simp only [sp_share, c8]; done) | (simp [sp_share, c8]; done) | (simp [sp_share, c8]; done) | contradiction | rfl) (by exact ka_sp_self)
theorem ky_X7_share : ka_y yX7_share 1 := by unfold ka_y; decide +kernel
set_option maxHeartbeats 4000000 in
set_option maxRecDepth 100000 in
theorem m_X7_share {G : ka_G} (hG : ka_AD G) {V : ka_W} {M : ka_P} {S : ka_F} {D : Nat} (hM : MK D S) {x : Int32} (hq : rf_isMine S x = true → ¬ rf_allOX S x (cn (S 1)) = 0 → vf_n32 (rf_share0 S x))  : ka_M G yX7_share cX7_share 6 (some FieldType.int) 2 [.ref (ka_ad G 9 0), .int x] (ka_ms V M S) (some (.int (rf_share S x))) (ka_ms V M S) := by
  refine ka_entry hG ka_pn_X7 (ka_cat1 rfl) (Nat.le_of_ble_eq_true rfl) (fun X hC hR => ?_)
  refine ka_aload_n hC dX7_share_0 rfl ?_
  refine ka_iload_n hC dX7_share_1 rfl ?_
  refine ka_callV hC (m_X7_isMine hG) (ka_Rc_model ) rfl ka_q_ml_X7_82 ka_q_im_X7_isMine ka_q_se_X7_isMine ka_q_in_X7 ka_q_co_X7_isMine ky_X7_isMine (by decide) (by decide) (Nat.le_of_ble_eq_true rfl) rfl dX7_share_2 ?_
  refine ka_if_ne_b (tgt := 11) hC dX7_share_5 (by decide) (fun c5 => ?_) (fun c5 => ?_)
  · skip
    refine ka_iconst (v := 0) hC dX7_share_11 rfl ?_
    refine ka_istore_n_p2 hC dX7_share_12 (by decide) ?_
    refine ka_iconst (v := 0) hC dX7_share_13 rfl ?_
    refine ka_istore_n_p3 hC dX7_share_14 (by decide) ?_
    refine ka_iconst (v := 0) hC dX7_share_15 rfl ?_
    refine ka_istore_p4 hC dX7_share_16 (by decide) ?_
    suffices H18 : ∀ jj i : Nat, i ≤ cn (S 1) → cn (S 1) - i < jj → ka_I G X (ka_ms V M S) 18 [.ref (ka_ad G 9 0), .int x, .int (rf_allOX S x i), .int (rf_fulOX S x i), .int (nI i)] [] from ka_I.back 5 (by rfl) (by rfl) (H18 (cn (S 1) + 1) 0 (by omega) (by omega))
    intro j18
    induction j18 with
    | zero => intro i h1 h2 ; exact absurd h2 (Nat.not_lt_zero _)
    | succ j18 ih18 =>
      intro i hle18 hlt18 
      have hn := hM.n
      refine ka_iload hC dX7_share_18 rfl ?_
      refine ka_aload_n hC dX7_share_20 rfl ?_
      refine kg_X7_7  hC dX7_share_21 ?_
      refine ka_iconst (v := 1) hC dX7_share_24 rfl ?_
      refine km_ld 1 (by decide) rfl hC dX7_share_25 ?_
      refine ka_icmp_ge (tgt := 85) hC dX7_share_26 (by decide) (fun c26 => ?_) (fun c26 => ?_)
      · skip
        obtain rfl : i = cn (S 1) := nlt_cn hle18 c26
        refine ka_iload_n hC dX7_share_85 rfl ?_
        refine ka_if_ne (tgt := 92) hC dX7_share_86 (by decide) (fun c86 => ?_) (fun c86 => ?_)
        · skip
          refine ka_iload_n hC dX7_share_92 rfl ?_
          refine ka_i2f hC dX7_share_93 ?_
          refine ka_fstore_s4 hC dX7_share_94 (by decide) ?_
          refine ka_iload_n hC dX7_share_96 rfl ?_
          refine ka_i2f hC dX7_share_97 ?_
          refine ka_fstore_p5 hC dX7_share_98 (by decide) ?_
          refine ka_fload hC dX7_share_100 rfl ?_
          refine ka_fload hC dX7_share_102 rfl ?_
          refine ka_fdiv hC dX7_share_104 (hq c5 c86) ?_
          refine ka_callS hC (m_Jxf58ca_floatToIntBits_5c35a hG) ka_q_ml_X7_154 ka_q_st_Jxf58ca_floatToIntBits_5c35a ka_q_in_Jxf58ca ka_q_co_Jxf58ca_floatToIntBits_5c35a ky_Jxf58ca_floatToIntBits_5c35a (by decide) (by decide) (Nat.le_of_ble_eq_true rfl) rfl dX7_share_105 ?_
          exact ka_iret hC hR dX7_share_108 (by unfold rf_share; rw [if_neg (by rw [c5]; decide), if_neg c86]; rfl) (by first | with_reducible rfl | (simp only [rf_share, rf_allOX_0, rf_allOX_s, rf_allOAt, rf_fulOX_0, rf_fulOX_s, rf_fulOAt, nI_1, c5, c26, c86]; done) | (simp only [rf_share, rf_allOX_0, rf_allOX_s, rf_allOAt, rf_fulOX_0, rf_fulOX_s, rf_fulOAt, nI_1, c5, if_neg c26, if_pos c26, if_neg c86, if_pos c86]; done) | (simp [rf_share, rf_allOX_0, rf_allOX_s, rf_allOAt, rf_fulOX_0, rf_fulOX_s, rf_fulOAt, nI_1, c5, c26, c86]; done) | (simp [rf_share, rf_allOX_0, rf_allOX_s, rf_allOAt, rf_fulOX_0, rf_fulOX_s, rf_fulOAt, nI_1, c5, if_neg c26, if_pos c26, if_neg c86, if_pos c86]; done) | contradiction | rfl)
        · skip
          refine ka_ldc hC ka_q_cn_X7_132 dX7_share_89 ?_
          exact ka_iret hC hR dX7_share_91 (by first | with_reducible rfl | (simp only [rf_share, rf_allOX_0, rf_allOX_s, rf_allOAt, rf_fulOX_0, rf_fulOX_s, rf_fulOAt, nI_1, c5, c26, c86]; done) | (simp only [rf_share, rf_allOX_0, rf_allOX_s, rf_allOAt, rf_fulOX_0, rf_fulOX_s, rf_fulOAt, nI_1, c5, if_neg c26, if_pos c26, if_pos c86, if_neg (not_not_intro c86)]; done) | (simp [rf_share, rf_allOX_0, rf_allOX_s, rf_allOAt, rf_fulOX_0, rf_fulOX_s, rf_fulOAt, nI_1, c5, c26, c86]; done) | (simp [rf_share, rf_allOX_0, rf_allOX_s, rf_allOAt, rf_fulOX_0, rf_fulOX_s, rf_fulOAt, nI_1, c5, if_neg c26, if_pos c26, if_pos c86, if_neg (not_not_intro c86)]; done) | contradiction | rfl) (by first | with_reducible rfl | (simp only [rf_share, rf_allOX_0, rf_allOX_s, rf_allOAt, rf_fulOX_0, rf_fulOX_s, rf_fulOAt, nI_1, c5, c26, c86]; done) | (simp only [rf_share, rf_allOX_0, rf_allOX_s, rf_allOAt, rf_fulOX_0, rf_fulOX_s, rf_fulOAt, nI_1, c5, if_neg c26, if_pos c26, if_pos c86, if_neg (not_not_intro c86)]; done) | (simp [rf_share, rf_allOX_0, rf_allOX_s, rf_allOAt, rf_fulOX_0, rf_fulOX_s, rf_fulOAt, nI_1, c5, c26, c86]; done) | (simp [rf_share, rf_allOX_0, rf_allOX_s, rf_allOAt, rf_fulOX_0, rf_fulOX_s, rf_fulOAt, nI_1, c5, if_neg c26, if_pos c26, if_pos c86, if_neg (not_not_intro c86)]; done) | contradiction | rfl)
      · skip
        have hi : i < cn (S 1) := lt_cn hle18 c26
        have hi20 : i < 20 := Nat.lt_of_lt_of_le hi hn
        refine ka_aload_n hC dX7_share_29 rfl ?_
        refine ka_iload hC dX7_share_30 rfl ?_
        refine ka_iconst (v := 0) hC dX7_share_32 rfl ?_
        refine ka_callV hC (m_X7_of hG i 0 hi20 (by decide) rfl rfl) (ka_Rc_model ) rfl ka_q_ml_X7_40 ka_q_im_X7_of ka_q_se_X7_of ka_q_in_X7 ka_q_co_X7_of ky_X7_of (by decide) (by decide) (Nat.le_of_ble_eq_true rfl) rfl dX7_share_33 ?_
        refine ka_iload_n hC dX7_share_36 rfl ?_
        refine ka_icmp_ne (tgt := 44) hC dX7_share_37 (by decide) (fun c37 => ?_) (fun c37 => ?_)
        · skip
          refine ka_iconst (v := 0) hC dX7_share_44 rfl ?_
          refine ka_istore_p5 hC dX7_share_45 (by decide) ?_
          refine ka_iload_n hC dX7_share_47 rfl ?_
          refine ka_iload hC dX7_share_48 rfl ?_
          refine ka_if_eq (tgt := 57) hC dX7_share_50 (by decide) (fun _ => ?_) (fun h => absurd h (by decide))
          refine ka_iconst (v := 0) hC dX7_share_57 rfl ?_
          refine ka_iadd hC dX7_share_58 ?_
          refine ka_istore_n_s2 hC dX7_share_59 (by decide) ?_
          refine ka_iload_n hC dX7_share_60 rfl ?_
          refine ka_iload hC dX7_share_61 rfl ?_
          refine ka_if_eq (tgt := 76) hC dX7_share_63 (by decide) (fun _ => ?_) (fun h => absurd h (by decide))
          refine ka_iconst (v := 0) hC dX7_share_76 rfl ?_
          refine ka_iadd hC dX7_share_77 ?_
          refine ka_istore_n_s3 hC dX7_share_78 (by decide) ?_
          refine ka_iinc_4 (v := 1) hC dX7_share_79 rfl (by decide) ?_
          refine ka_goto (tgt := 18) hC dX7_share_82 (by decide) ?_
          exact ka_I.back 5 (by first | with_reducible rfl | (simp only [rf_share, rf_allOX_0, rf_allOX_s, rf_allOAt, rf_fulOX_0, rf_fulOX_s, rf_fulOAt, nI_1, c5, c26, c37]; done) | (simp only [rf_share, rf_allOX_0, rf_allOX_s, rf_allOAt, rf_fulOX_0, rf_fulOX_s, rf_fulOAt, nI_1, c5, if_pos c26, if_neg (not_not_intro c26), if_neg c37, if_pos c37]; done) | (simp [rf_share, rf_allOX_0, rf_allOX_s, rf_allOAt, rf_fulOX_0, rf_fulOX_s, rf_fulOAt, nI_1, c5, c26, c37]; done) | (simp [rf_share, rf_allOX_0, rf_allOX_s, rf_allOAt, rf_fulOX_0, rf_fulOX_s, rf_fulOAt, nI_1, c5, if_pos c26, if_neg (not_not_intro c26), if_neg c37, if_pos c37]; done) | contradiction | rfl) (by first | with_reducible rfl | (simp only [rf_share, rf_allOX_0, rf_allOX_s, rf_allOAt, rf_fulOX_0, rf_fulOX_s, rf_fulOAt, nI_1, c5, c26, c37]; done) | (simp only [rf_share, rf_allOX_0, rf_allOX_s, rf_allOAt, rf_fulOX_0, rf_fulOX_s, rf_fulOAt, nI_1, c5, if_pos c26, if_neg (not_not_intro c26), if_neg c37, if_pos c37]; done) | (simp [rf_share, rf_allOX_0, rf_allOX_s, rf_allOAt, rf_fulOX_0, rf_fulOX_s, rf_fulOAt, nI_1, c5, c26, c37]; done) | (simp [rf_share, rf_allOX_0, rf_allOX_s, rf_allOAt, rf_fulOX_0, rf_fulOX_s, rf_fulOAt, nI_1, c5, if_pos c26, if_neg (not_not_intro c26), if_neg c37, if_pos c37]; done) | contradiction | rfl) (ih18 (i + 1) (by omega) (by omega))
        · skip
          refine ka_iconst (v := 1) hC dX7_share_40 rfl ?_
          refine ka_goto (tgt := 45) hC dX7_share_41 (by decide) ?_
          refine ka_istore_p5 hC dX7_share_45 (by decide) ?_
          refine ka_iload_n hC dX7_share_47 rfl ?_
          refine ka_iload hC dX7_share_48 rfl ?_
          refine ka_if_eq (tgt := 57) hC dX7_share_50 (by decide) (fun h => absurd h (by decide)) (fun _ => ?_)
          refine ka_iconst (v := 1) hC dX7_share_53 rfl ?_
          refine ka_goto (tgt := 58) hC dX7_share_54 (by decide) ?_
          refine ka_iadd hC dX7_share_58 ?_
          refine ka_istore_n_s2 hC dX7_share_59 (by decide) ?_
          refine ka_iload_n hC dX7_share_60 rfl ?_
          refine ka_iload hC dX7_share_61 rfl ?_
          refine ka_if_eq (tgt := 76) hC dX7_share_63 (by decide) (fun h => absurd h (by decide)) (fun _ => ?_)
          refine ka_aload_n hC dX7_share_66 rfl ?_
          refine ka_iload hC dX7_share_67 rfl ?_
          refine ka_iconst (v := 2) hC dX7_share_69 rfl ?_
          refine ka_callV hC (m_X7_of hG i 2 hi20 (by decide) rfl rfl) (ka_Rc_model ) rfl ka_q_ml_X7_40 ka_q_im_X7_of ka_q_se_X7_of ka_q_in_X7 ka_q_co_X7_of ky_X7_of (by decide) (by decide) (Nat.le_of_ble_eq_true rfl) rfl dX7_share_70 ?_
          refine ka_goto (tgt := 77) hC dX7_share_73 (by decide) ?_
          refine ka_iadd hC dX7_share_77 ?_
          refine ka_istore_n_s3 hC dX7_share_78 (by decide) ?_
          refine ka_iinc_4 (v := 1) hC dX7_share_79 rfl (by decide) ?_
          refine ka_goto (tgt := 18) hC dX7_share_82 (by decide) ?_
          exact ka_I.back 5 (by first | with_reducible rfl | (simp only [rf_share, rf_allOX_0, rf_allOX_s, rf_allOAt, rf_fulOX_0, rf_fulOX_s, rf_fulOAt, nI_1, c5, c26, c37]; done) | (simp only [rf_share, rf_allOX_0, rf_allOX_s, rf_allOAt, rf_fulOX_0, rf_fulOX_s, rf_fulOAt, nI_1, c5, if_pos c26, if_neg (not_not_intro c26), if_pos c37, if_neg (not_not_intro c37)]; done) | (simp [rf_share, rf_allOX_0, rf_allOX_s, rf_allOAt, rf_fulOX_0, rf_fulOX_s, rf_fulOAt, nI_1, c5, c26, c37]; done) | (simp [rf_share, rf_allOX_0, rf_allOX_s, rf_allOAt, rf_fulOX_0, rf_fulOX_s, rf_fulOAt, nI_1, c5, if_pos c26, if_neg (not_not_intro c26), if_pos c37, if_neg (not_not_intro c37)]; done) | contradiction | rfl) (by first | with_reducible rfl | (simp only [rf_share, rf_allOX_0, rf_allOX_s, rf_allOAt, rf_fulOX_0, rf_fulOX_s, rf_fulOAt, nI_1, c5, c26, c37]; done) | (simp only [rf_share, rf_allOX_0, rf_allOX_s, rf_allOAt, rf_fulOX_0, rf_fulOX_s, rf_fulOAt, nI_1, c5, if_pos c26, if_neg (not_not_intro c26), if_pos c37, if_neg (not_not_intro c37)]; done) | (simp [rf_share, rf_allOX_0, rf_allOX_s, rf_allOAt, rf_fulOX_0, rf_fulOX_s, rf_fulOAt, nI_1, c5, c26, c37]; done) | (simp [rf_share, rf_allOX_0, rf_allOX_s, rf_allOAt, rf_fulOX_0, rf_fulOX_s, rf_fulOAt, nI_1, c5, if_pos c26, if_neg (not_not_intro c26), if_pos c37, if_neg (not_not_intro c37)]; done) | contradiction | rfl) (ih18 (i + 1) (by omega) (by omega))
  · skip
    refine ka_ldc hC ka_q_cn_X7_28 dX7_share_8 ?_
    exact ka_iret hC hR dX7_share_10 (by first | with_reducible rfl | (simp only [rf_share, rf_allOX_0, rf_allOX_s, rf_allOAt, rf_fulOX_0, rf_fulOX_s, rf_fulOAt, nI_1, c5]; done) | (simp only [rf_share, rf_allOX_0, rf_allOX_s, rf_allOAt, rf_fulOX_0, rf_fulOX_s, rf_fulOAt, nI_1, c5]; done) | (simp [rf_share, rf_allOX_0, rf_allOX_s, rf_allOAt, rf_fulOX_0, rf_fulOX_s, rf_fulOAt, nI_1, c5]; done) | (simp [rf_share, rf_allOX_0, rf_allOX_s, rf_allOAt, rf_fulOX_0, rf_fulOX_s, rf_fulOAt, nI_1, c5]; done) | contradiction | rfl) (by first | with_reducible rfl | (simp only [rf_share, rf_allOX_0, rf_allOX_s, rf_allOAt, rf_fulOX_0, rf_fulOX_s, rf_fulOAt, nI_1, c5]; done) | (simp only [rf_share, rf_allOX_0, rf_allOX_s, rf_allOAt, rf_fulOX_0, rf_fulOX_s, rf_fulOAt, nI_1, c5]; done) | (simp [rf_share, rf_allOX_0, rf_allOX_s, rf_allOAt, rf_fulOX_0, rf_fulOX_s, rf_fulOAt, nI_1, c5]; done) | (simp [rf_share, rf_allOX_0, rf_allOX_s, rf_allOAt, rf_fulOX_0, rf_fulOX_s, rf_fulOAt, nI_1, c5]; done) | contradiction | rfl)
