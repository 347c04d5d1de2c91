theorem ky_X7_begins : ka_y yX7_begins 0 := by unfold ka_y; decide +kernel
set_option maxHeartbeats 4000000 in
set_option maxRecDepth 100000 in
theorem m_X7_begins {G : ka_G} (hG : ka_AD G) {V : ka_W} {M : ka_P} {S : ka_F}  : ka_M G yX7_begins cX7_begins 2 none 0 [.ref (ka_ad G 9 0)] (ka_ms V M S) none (ka_ms V (rf_beg M S) S) := by
  refine ka_entry hG ka_pn_X7 (ka_cat1 rfl) (Nat.le_of_ble_eq_true rfl) (fun X hC hR => ?_)
  refine ka_iconst (v := 0) hC dX7_begins_0 rfl ?_
  refine ka_istore_n_p1 hC dX7_begins_1 (by decide) ?_
  suffices H2 : ∀ jj i : Nat, i ≤ 269 → 269 - i < jj → ka_I G X (ka_ms V (ka_s2 M 2 (cpF i S (M 2))) S) 2 [.ref (ka_ad G 9 0), .int (nI i)] [] from ka_I.back 2 (by rw [cpF_0, ka_s2_self]) (by first | with_reducible rfl | (simp only []; done) | (simp only []; done) | (simp []; done) | (simp []; done) | contradiction | rfl) (H2 (269 + 1) 0 (by omega) (by omega))
  intro j2
  induction j2 with
  | zero => intro i h1 h2 ; exact absurd h2 (Nat.not_lt_zero _)
  | succ j2 ih2 =>
    intro i hle2 hlt2 
    refine ka_iload_n hC dX7_begins_2 rfl ?_
    refine ka_sipush (v := 269) hC dX7_begins_3 rfl ?_
    refine ka_icmp_ge (tgt := 27) hC dX7_begins_6 (by decide) (fun c6 => ?_) (fun c6 => ?_)
    · skip
      obtain rfl : i = 269 := nlt_nI (by decide) hle2 c6
      exact ka_vret hC hR dX7_begins_27 rfl (by rfl)
    · skip
      have hi : i < 269 := lt_nI (by decide) hle2 c6
      refine ka_aload_n hC dX7_begins_9 rfl ?_
      refine kg_X7_13  hC dX7_begins_10 ?_
      refine ka_iload_n hC dX7_begins_13 rfl ?_
      refine ka_aload_n hC dX7_begins_14 rfl ?_
      refine kg_X7_7  hC dX7_begins_15 ?_
      refine ka_iload_n hC dX7_begins_18 rfl ?_
      refine km_ld i (Nat.lt_of_lt_of_le hi (by decide)) rfl hC dX7_begins_19 ?_
      refine kms_mbegun i (Nat.lt_of_lt_of_le hi (by decide)) rfl hC dX7_begins_20 ?_
      refine ka_iinc_1 (v := 1) hC dX7_begins_21 rfl (by decide) ?_
      refine ka_goto (tgt := 2) hC dX7_begins_24 (by decide) ?_
      exact ka_I.back 2 (by unfold pU; rw [ka_s2_s2, ka_s2_s, cpF_s]) (by rw [← nI_1]; rfl) (ih2 (i + 1) (by omega) (by omega))
theorem ky_X7_returns : ka_y yX7_returns 0 := by unfold ka_y; decide +kernel
set_option maxHeartbeats 4000000 in
set_option maxRecDepth 100000 in
theorem m_X7_returns {G : ka_G} (hG : ka_AD G) {V : ka_W} {M : ka_P} {S : ka_F}  : ka_M G yX7_returns cX7_returns 2 none 0 [.ref (ka_ad G 9 0)] (ka_ms V M S) none (ka_ms V M (cpF 269 (M 2) S)) := by
  refine ka_entry hG ka_pn_X7 (ka_cat1 rfl) (Nat.le_of_ble_eq_true rfl) (fun X hC hR => ?_)
  refine ka_iconst (v := 0) hC dX7_returns_0 rfl ?_
  refine ka_istore_n_p1 hC dX7_returns_1 (by decide) ?_
  suffices H2 : ∀ jj i : Nat, i ≤ 269 → 269 - i < jj → ka_I G X (ka_ms V M (cpF i (M 2) S)) 2 [.ref (ka_ad G 9 0), .int (nI i)] [] from ka_I.back 2 (by rw [cpF_0]) (by first | with_reducible rfl | (simp only []; done) | (simp only []; done) | (simp []; done) | (simp []; done) | contradiction | rfl) (H2 (269 + 1) 0 (by omega) (by omega))
  intro j2
  induction j2 with
  | zero => intro i h1 h2 ; exact absurd h2 (Nat.not_lt_zero _)
  | succ j2 ih2 =>
    intro i hle2 hlt2 
    refine ka_iload_n hC dX7_returns_2 rfl ?_
    refine ka_sipush (v := 269) hC dX7_returns_3 rfl ?_
    refine ka_icmp_ge (tgt := 27) hC dX7_returns_6 (by decide) (fun c6 => ?_) (fun c6 => ?_)
    · skip
      obtain rfl : i = 269 := nlt_nI (by decide) hle2 c6
      exact ka_vret hC hR dX7_returns_27 rfl (by first | with_reducible rfl | (simp only [c6]; done) | (simp only [if_neg c6, if_pos c6]; done) | (simp [c6]; done) | (simp [if_neg c6, if_pos c6]; done) | contradiction | rfl)
    · skip
      have hi : i < 269 := lt_nI (by decide) hle2 c6
      refine ka_aload_n hC dX7_returns_9 rfl ?_
      refine kg_X7_7  hC dX7_returns_10 ?_
      refine ka_iload_n hC dX7_returns_13 rfl ?_
      refine ka_aload_n hC dX7_returns_14 rfl ?_
      refine kg_X7_13  hC dX7_returns_15 ?_
      refine ka_iload_n hC dX7_returns_18 rfl ?_
      refine kmi_mbegun i (Nat.lt_of_lt_of_le hi (by decide)) rfl hC dX7_returns_19 ?_
      refine km_st i (Nat.lt_of_lt_of_le hi (by decide)) rfl hC dX7_returns_20 ?_
      refine ka_iinc_1 (v := 1) hC dX7_returns_21 rfl (by decide) ?_
      refine ka_goto (tgt := 2) hC dX7_returns_24 (by decide) ?_
      exact ka_I.back 2 (by rw [cpF_s]) (by rw [← nI_1]; rfl) (ih2 (i + 1) (by omega) (by omega))
theorem ky_X7_acted : ka_y yX7_acted 1 := by unfold ka_y; decide +kernel
set_option maxHeartbeats 4000000 in
set_option maxRecDepth 100000 in
theorem m_X7_acted {G : ka_G} (hG : ka_AD G) {V : ka_W} {M : ka_P} {S : ka_F} (ht : ub 4 (M 0 4)) {x : Int32}  : ka_M G yX7_acted cX7_acted 3 (some FieldType.int) 1 [.ref (ka_ad G 9 0), .int x] (ka_ms V M S) (some (.int (x))) (ka_ms V (rf_actM M x) (rf_actS M S x)) := by
  refine ka_entry hG ka_pn_X7 (ka_cat1 rfl) (Nat.le_of_ble_eq_true rfl) (fun X hC hR => ?_)
  refine ka_iload_n hC dX7_acted_0 rfl ?_
  refine ka_ldc hC ka_q_cn_X7_28 dX7_acted_1 ?_
  refine ka_icmp_gt (tgt := 12) hC dX7_acted_3 (by decide) (fun c3 => ?_) (fun c3 => ?_)
  · skip
    refine ka_aload_n hC dX7_acted_12 rfl ?_
    refine kmg_X7_32  hC dX7_acted_13 ?_
    refine ka_iconst (v := 4) hC dX7_acted_16 rfl ?_
    refine ka_icmp_ne (tgt := 61) hC dX7_acted_17 (by decide) (fun c17 => ?_) (fun c17 => ?_)
    · skip
      refine ka_I.eqW (V' := ka_ms V (rf_sv1 M) S) (by first | (unfold rf_sv1; rw [if_pos c17]; rfl) | (unfold rf_sv1; rw [if_neg c17])) ?_
      have ht3 := rf_sv1_t ht
      refine ka_iconst (v := 0) hC dX7_acted_61 rfl ?_
      refine ka_istore_n_p2 hC dX7_acted_62 (by decide) ?_
      suffices H63 : ∀ jj i : Nat, i ≤ 269 → 269 - i < jj → ka_I G X (ka_ms V (rf_sv2 (rf_sv1 M) i) S) 63 [.ref (ka_ad G 9 0), .int x, .int (nI i)] [] from ka_I.back 3 (by rw [rf_sv2_0]) (by rfl) (H63 (269 + 1) 0 (by omega) (by omega))
      intro j63
      induction j63 with
      | zero => intro i h1 h2 ; exact absurd h2 (Nat.not_lt_zero _)
      | succ j63 ih63 =>
        intro i hle63 hlt63 
        refine ka_iload_n hC dX7_acted_63 rfl ?_
        refine ka_sipush (v := 269) hC dX7_acted_64 rfl ?_
        refine ka_icmp_ge (tgt := 97) hC dX7_acted_67 (by decide) (fun c67 => ?_) (fun c67 => ?_)
        · skip
          obtain rfl : i = 269 := nlt_nI (by decide) hle63 c67
          refine ka_aload_n hC dX7_acted_97 rfl ?_
          refine ka_dup hC dX7_acted_98 rfl ?_
          refine kmg_X7_32  hC dX7_acted_99 ?_
          refine ka_iconst (v := 1) hC dX7_acted_102 rfl ?_
          refine ka_iadd hC dX7_acted_103 ?_
          refine kmp_X7_32  hC dX7_acted_104 ?_
          refine ka_iload_n hC dX7_acted_107 rfl ?_
          exact ka_iret hC hR dX7_acted_108 (by first | with_reducible rfl | (simp only [rf_actM, rf_actS, c3, c17, c67]; done) | (simp only [rf_actM, rf_actS, if_pos c3, if_neg (not_not_intro c3), if_neg c17, if_pos c17, if_neg c67, if_pos c67]; done) | (simp [rf_actM, rf_actS, c3, c17, c67]; done) | (simp [rf_actM, rf_actS, if_pos c3, if_neg (not_not_intro c3), if_neg c17, if_pos c17, if_neg c67, if_pos c67]; done) | contradiction | rfl) (by unfold rf_actM rf_actS; rw [if_pos c3, if_pos c3]; rfl)
        · skip
          have hi : i < 269 := lt_nI (by decide) hle63 c67
          refine ka_aload_n hC dX7_acted_70 rfl ?_
          refine kg_X7_19  hC dX7_acted_71 ?_
          refine ka_sipush (v := 269) hC dX7_acted_74 rfl ?_
          refine ka_aload_n hC dX7_acted_77 rfl ?_
          refine kmg_X7_32  hC dX7_acted_78 ?_
          refine ka_imul hC dX7_acted_81 ?_
          refine ka_iload_n hC dX7_acted_82 rfl ?_
          refine ka_iadd hC dX7_acted_83 ?_
          refine ka_aload_n hC dX7_acted_84 rfl ?_
          refine kg_X7_13  hC dX7_acted_85 ?_
          refine ka_iload_n hC dX7_acted_88 rfl ?_
          refine kmi_mbegun i (Nat.lt_of_lt_of_le hi (by decide)) rfl hC dX7_acted_89 ?_
          refine kms_mpast (269 * cn (rf_sv1 M 0 4) + i) (by have := ht3.2; omega) (ix_b _ _ (by rw [rf_sv2_n (by decide)]; exact ht3.1) rfl) hC dX7_acted_90 ?_
          refine ka_iinc_2 (v := 1) hC dX7_acted_91 rfl (by decide) ?_
          refine ka_goto (tgt := 63) hC dX7_acted_94 (by decide) ?_
          exact ka_I.back 3 (by rw [← rf_sv2_s, rf_sv2_n (by decide)]) (by rw [← nI_1]; rfl) (ih63 (i + 1) (by omega) (by omega))
    · skip
      refine ka_iconst (v := 0) hC dX7_acted_20 rfl ?_
      refine ka_istore_n_p2 hC dX7_acted_21 (by decide) ?_
      suffices H22 : ∀ jj i : Nat, i ≤ 807 → 807 - i < jj → ka_I G X (ka_ms V (ka_s2 M 4 (shF i (M 4))) S) 22 [.ref (ka_ad G 9 0), .int x, .int (nI i)] [] from ka_I.back 3 (by rw [shF_0, ka_s2_self]) (by rfl) (H22 (807 + 1) 0 (by omega) (by omega))
      intro j22
      induction j22 with
      | zero => intro i h1 h2 ; exact absurd h2 (Nat.not_lt_zero _)
      | succ j22 ih22 =>
        intro i hle22 hlt22 
        refine ka_iload_n hC dX7_acted_22 rfl ?_
        refine ka_sipush (v := 807) hC dX7_acted_23 rfl ?_
        refine ka_icmp_ge (tgt := 51) hC dX7_acted_26 (by decide) (fun c26 => ?_) (fun c26 => ?_)
        · skip
          obtain rfl : i = 807 := nlt_nI (by decide) hle22 c26
          refine ka_aload_n hC dX7_acted_51 rfl ?_
          refine ka_dup hC dX7_acted_52 rfl ?_
          refine kmg_X7_32  hC dX7_acted_53 ?_
          refine ka_iconst (v := 1) hC dX7_acted_56 rfl ?_
          refine ka_isub hC dX7_acted_57 ?_
          refine kmp_X7_32  hC dX7_acted_58 ?_
          refine ka_I.eqW (V' := ka_ms V (rf_sv1 M) S) (by first | (unfold rf_sv1; rw [if_pos c17]; rfl) | (unfold rf_sv1; rw [if_neg c17])) ?_
          have ht3 := rf_sv1_t ht
          refine ka_iconst (v := 0) hC dX7_acted_61 rfl ?_
          refine ka_istore_n_s2 hC dX7_acted_62 (by decide) ?_
          suffices H63 : ∀ jj i : Nat, i ≤ 269 → 269 - i < jj → ka_I G X (ka_ms V (rf_sv2 (rf_sv1 M) i) S) 63 [.ref (ka_ad G 9 0), .int x, .int (nI i)] [] from ka_I.back 3 (by rw [rf_sv2_0]) (by rfl) (H63 (269 + 1) 0 (by omega) (by omega))
          intro j63
          induction j63 with
          | zero => intro i h1 h2 ; exact absurd h2 (Nat.not_lt_zero _)
          | succ j63 ih63 =>
            intro i hle63 hlt63 
            refine ka_iload_n hC dX7_acted_63 rfl ?_
            refine ka_sipush (v := 269) hC dX7_acted_64 rfl ?_
            refine ka_icmp_ge (tgt := 97) hC dX7_acted_67 (by decide) (fun c67 => ?_) (fun c67 => ?_)
            · skip
              obtain rfl : i = 269 := nlt_nI (by decide) hle63 c67
              refine ka_aload_n hC dX7_acted_97 rfl ?_
              refine ka_dup hC dX7_acted_98 rfl ?_
              refine kmg_X7_32  hC dX7_acted_99 ?_
              refine ka_iconst (v := 1) hC dX7_acted_102 rfl ?_
              refine ka_iadd hC dX7_acted_103 ?_
              refine kmp_X7_32  hC dX7_acted_104 ?_
              refine ka_iload_n hC dX7_acted_107 rfl ?_
              exact ka_iret hC hR dX7_acted_108 (by first | with_reducible rfl | (simp only [rf_actM, rf_actS, c3, c17, c26, c67]; done) | (simp only [rf_actM, rf_actS, if_pos c3, if_neg (not_not_intro c3), if_pos c17, if_neg (not_not_intro c17), if_neg c26, if_pos c26, if_neg c67, if_pos c67]; done) | (simp [rf_actM, rf_actS, c3, c17, c26, c67]; done) | (simp [rf_actM, rf_actS, if_pos c3, if_neg (not_not_intro c3), if_pos c17, if_neg (not_not_intro c17), if_neg c26, if_pos c26, if_neg c67, if_pos c67]; done) | contradiction | rfl) (by unfold rf_actM rf_actS; rw [if_pos c3, if_pos c3]; rfl)
            · skip
              have hi : i < 269 := lt_nI (by decide) hle63 c67
              refine ka_aload_n hC dX7_acted_70 rfl ?_
              refine kg_X7_19  hC dX7_acted_71 ?_
              refine ka_sipush (v := 269) hC dX7_acted_74 rfl ?_
              refine ka_aload_n hC dX7_acted_77 rfl ?_
              refine kmg_X7_32  hC dX7_acted_78 ?_
              refine ka_imul hC dX7_acted_81 ?_
              refine ka_iload_n hC dX7_acted_82 rfl ?_
              refine ka_iadd hC dX7_acted_83 ?_
              refine ka_aload_n hC dX7_acted_84 rfl ?_
              refine kg_X7_13  hC dX7_acted_85 ?_
              refine ka_iload_n hC dX7_acted_88 rfl ?_
              refine kmi_mbegun i (Nat.lt_of_lt_of_le hi (by decide)) rfl hC dX7_acted_89 ?_
              refine kms_mpast (269 * cn (rf_sv1 M 0 4) + i) (by have := ht3.2; omega) (ix_b _ _ (by rw [rf_sv2_n (by decide)]; exact ht3.1) rfl) hC dX7_acted_90 ?_
              refine ka_iinc_2 (v := 1) hC dX7_acted_91 rfl (by decide) ?_
              refine ka_goto (tgt := 63) hC dX7_acted_94 (by decide) ?_
              exact ka_I.back 3 (by rw [← rf_sv2_s, rf_sv2_n (by decide)]) (by rw [← nI_1]; rfl) (ih63 (i + 1) (by omega) (by omega))
        · skip
          have hi : i < 807 := lt_nI (by decide) hle22 c26
          refine ka_aload_n hC dX7_acted_29 rfl ?_
          refine kg_X7_19  hC dX7_acted_30 ?_
          refine ka_iload_n hC dX7_acted_33 rfl ?_
          refine ka_aload_n hC dX7_acted_34 rfl ?_
          refine kg_X7_19  hC dX7_acted_35 ?_
          refine ka_iload_n hC dX7_acted_38 rfl ?_
          refine ka_sipush (v := 269) hC dX7_acted_39 rfl ?_
          refine ka_iadd hC dX7_acted_42 ?_
          refine kmi_mpast (i + 269) (by omega) (nI_add i 269) hC dX7_acted_43 ?_
          refine kms_mpast i (by omega) rfl hC dX7_acted_44 ?_
          refine ka_iinc_2 (v := 1) hC dX7_acted_45 rfl (by decide) ?_
          refine ka_goto (tgt := 22) hC dX7_acted_48 (by decide) ?_
          exact ka_I.back 3 (by unfold pU; rw [ka_s2_s2, ka_s2_s, shF_s]) (by rw [← nI_1]; rfl) (ih22 (i + 1) (by omega) (by omega))
  · skip
    refine ka_aload_n hC dX7_acted_6 rfl ?_
    refine ka_callV hC (m_X7_returns hG) (ka_Rc_model ) rfl ka_q_ml_X7_29 ka_q_im_X7_returns ka_q_se_X7_returns ka_q_in_X7 ka_q_co_X7_returns ky_X7_returns (by decide) (by decide) (Nat.le_of_ble_eq_true rfl) rfl dX7_acted_7 ?_
    refine ka_iload_n hC dX7_acted_10 rfl ?_
    exact ka_iret hC hR dX7_acted_11 (by first | with_reducible rfl | (simp only [rf_actM, rf_actS, c3]; done) | (simp only [rf_actM, rf_actS, if_neg c3, if_pos c3]; done) | (simp [rf_actM, rf_actS, c3]; done) | (simp [rf_actM, rf_actS, if_neg c3, if_pos c3]; done) | contradiction | rfl) (by unfold rf_actM rf_actS; rw [if_neg c3, if_neg c3])
theorem ky_X7_mine : ka_y yX7_mine 1 := by unfold ka_y; decide +kernel
set_option maxHeartbeats 4000000 in
set_option maxRecDepth 100000 in
theorem m_X7_mine {G : ka_G} (hG : ka_AD G) {V : ka_W} {M : ka_P} {S : ka_F} {D : Nat} (hM : MK D S) (ht : ub 4 (M 0 4)) {x : Int32}  : ka_M G yX7_mine cX7_mine 2 (some FieldType.int) 2 [.ref (ka_ad G 9 0), .int x] (ka_ms V M S) (some (.int ((rf_mine S x).1))) (rf_fin V M S (rf_mine S x)) := by
  refine ka_entry hG ka_pn_X7 (ka_cat1 rfl) (Nat.le_of_ble_eq_true rfl) (fun X hC hR => ?_)
  refine ka_aload_n hC dX7_mine_0 rfl ?_
  refine ka_callV hC (m_X7_begins hG) (ka_Rc_model ) rfl ka_q_ml_X7_104 ka_q_im_X7_begins ka_q_se_X7_begins ka_q_in_X7 ka_q_co_X7_begins ky_X7_begins (by decide) (by decide) (Nat.le_of_ble_eq_true rfl) rfl dX7_mine_1 ?_
  refine ka_iload_n hC dX7_mine_4 rfl ?_
  refine ka_iconst (v := 0) hC dX7_mine_5 rfl ?_
  refine ka_bipush (v := 90) hC dX7_mine_6 rfl ?_
  refine ka_callS hC (m_X7_in hG) ka_q_ml_X7_36 ka_q_st_X7_in ka_q_in_X7 ka_q_co_X7_in ky_X7_in (by decide) (by decide) (Nat.le_of_ble_eq_true rfl) rfl dX7_mine_8 ?_
  refine ka_if_ne_b (tgt := 17) hC dX7_mine_11 (by decide) (fun c11 => ?_) (fun c11 => ?_)
  · skip
    refine ka_aload_n hC dX7_mine_17 rfl ?_
    refine kg_X7_7  hC dX7_mine_18 ?_
    refine ka_iconst (v := 0) hC dX7_mine_21 rfl ?_
    refine km_ld 0 (by decide) rfl hC dX7_mine_22 ?_
    refine ka_iconst (v := 4) hC dX7_mine_23 rfl ?_
    refine ka_icmp_ne (tgt := 30) hC dX7_mine_24 (by decide) (fun c24 => ?_) (fun c24 => ?_)
    · skip
      have h3 : cn (S 0) ≤ 3 := rf_lt4 hM c24
      refine ka_aload_n hC dX7_mine_30 rfl ?_
      refine kg_X7_7  hC dX7_mine_31 ?_
      refine ka_iconst (v := 0) hC dX7_mine_34 rfl ?_
      refine ka_dup2 hC dX7_mine_35 rfl rfl ?_
      refine km_ld 0 (by decide) rfl hC dX7_mine_36 ?_
      refine ka_iconst (v := 1) hC dX7_mine_37 rfl ?_
      refine ka_iadd hC dX7_mine_38 ?_
      refine km_st 0 (by decide) rfl hC dX7_mine_39 ?_
      refine ka_aload_n hC dX7_mine_40 rfl ?_
      refine kg_X7_7  hC dX7_mine_41 ?_
      refine ka_bipush (v := 39) hC dX7_mine_44 rfl ?_
      refine ka_bipush (v := 6) hC dX7_mine_46 rfl ?_
      refine ka_aload_n hC dX7_mine_48 rfl ?_
      refine kg_X7_7  hC dX7_mine_49 ?_
      refine ka_iconst (v := 0) hC dX7_mine_52 rfl ?_
      refine km_ld 0 (by decide) rfl hC dX7_mine_53 ?_
      refine ka_imul hC dX7_mine_54 ?_
      refine ka_iadd hC dX7_mine_55 ?_
      refine ka_iconst (v := 1) hC dX7_mine_56 rfl ?_
      refine ka_iadd hC dX7_mine_57 ?_
      refine ka_iload_n hC dX7_mine_58 rfl ?_
      refine km_st (39 + 6 * (cn (S 0) + 1) + 1) (by omega) (ix_p _ 1 (by rw [pk_us, hM.1.1, nI_1, cn_nI (by omega)]) rfl) hC dX7_mine_59 ?_
      refine ka_I.eqW (V' := ka_ms V (rf_beg M S) (rf_mine1 S x)) rfl ?_
      refine ka_aload_n hC dX7_mine_60 rfl ?_
      refine ka_aload_n hC dX7_mine_61 rfl ?_
      refine kg_X7_7  hC dX7_mine_62 ?_
      refine ka_iconst (v := 0) hC dX7_mine_65 rfl ?_
      refine km_ld 0 (by decide) rfl hC dX7_mine_66 ?_
      refine ka_callV hC (m_X7_acted hG (by rw [rf_beg_n (by decide)]; exact ht)) (ka_Rc_model ) rfl ka_q_ml_X7_107 ka_q_im_X7_acted ka_q_se_X7_acted ka_q_in_X7 ka_q_co_X7_acted ky_X7_acted (by decide) (by decide) (Nat.le_of_ble_eq_true rfl) rfl dX7_mine_67 ?_
      exact ka_iret hC hR dX7_mine_70 (by unfold rf_mine; rw [if_neg (by rw [c11]; decide), if_neg c24]) (by unfold rf_mine; rw [if_neg (by rw [c11]; decide), if_neg c24]; rfl)
    · skip
      refine ka_ldc hC ka_q_cn_X7_85 dX7_mine_27 ?_
      exact ka_iret hC hR dX7_mine_29 (by first | with_reducible rfl | (simp only [rf_mine, c11, c24]; done) | (simp only [rf_mine, c11, if_pos c24, if_neg (not_not_intro c24)]; done) | (simp [rf_mine, c11, c24]; done) | (simp [rf_mine, c11, if_pos c24, if_neg (not_not_intro c24)]; done) | contradiction | rfl) (by rw [rf_fin_err (e := -2000000003) (by decide)]; unfold rf_mine; rw [if_neg (by rw [c11]; decide), if_pos c24])
  · skip
    refine ka_ldc hC ka_q_cn_X7_28 dX7_mine_14 ?_
    exact ka_iret hC hR dX7_mine_16 (by first | with_reducible rfl | (simp only [rf_mine, c11]; done) | (simp only [rf_mine, c11]; done) | (simp [rf_mine, c11]; done) | (simp [rf_mine, c11]; done) | contradiction | rfl) (by rw [rf_fin_err (e := -2000000001) (by decide)]; unfold rf_mine; rw [if_pos c11])
theorem ky_X7_leg : ka_y yX7_leg 3 := by unfold ka_y; decide +kernel
set_option maxHeartbeats 4000000 in
set_option maxRecDepth 100000 in
theorem m_X7_leg {G : ka_G} (hG : ka_AD G) {V : ka_W} {M : ka_P} {S : ka_F} {D : Nat} (hM : MK D S) (ht : ub 4 (M 0 4)) {x y v : Int32}  : ka_M G yX7_leg cX7_leg 5 (some FieldType.int) 2 [.ref (ka_ad G 9 0), .int x, .int y, .int v] (ka_ms V M S) (some (.int ((rf_legs S x y v).1))) (rf_fin V M S (rf_legs S x y v)) := by
  refine ka_entry hG ka_pn_X7 (ka_cat1 rfl) (Nat.le_of_ble_eq_true rfl) (fun X hC hR => ?_)
  refine ka_aload_n hC dX7_leg_0 rfl ?_
  refine ka_callV hC (m_X7_begins hG) (ka_Rc_model ) rfl ka_q_ml_X7_104 ka_q_im_X7_begins ka_q_se_X7_begins ka_q_in_X7 ka_q_co_X7_begins ky_X7_begins (by decide) (by decide) (Nat.le_of_ble_eq_true rfl) rfl dX7_leg_1 ?_
  refine ka_aload_n hC dX7_leg_4 rfl ?_
  refine ka_iload_n hC dX7_leg_5 rfl ?_
  refine ka_callV hC (m_X7_isPlace hG) (ka_Rc_model ) rfl ka_q_ml_X7_98 ka_q_im_X7_isPlace ka_q_se_X7_isPlace ka_q_in_X7 ka_q_co_X7_isPlace ky_X7_isPlace (by decide) (by decide) (Nat.le_of_ble_eq_true rfl) rfl dX7_leg_6 ?_
  refine ka_if_eq_b (tgt := 35) hC dX7_leg_9 (by decide) (fun c9 => ?_) (fun c9 => ?_)
  · skip
    refine ka_ldc hC ka_q_cn_X7_28 dX7_leg_35 ?_
    exact ka_iret hC hR dX7_leg_37 (by first | with_reducible rfl | (simp only [rf_legs, c9]; done) | (simp only [rf_legs, c9]; done) | (simp [rf_legs, c9]; done) | (simp [rf_legs, c9]; done) | contradiction | rfl) (by rw [rf_fin_err (e := -2000000001) (by decide)]; congr 1; simp [rf_legs, c9])
  · skip
    obtain ⟨a, ha, rfl⟩ := rf_isPlace_of hM c9
    have ea : cn (nI a) = a := cn_nI (by omega)
    refine ka_aload_n hC dX7_leg_12 rfl ?_
    refine ka_iload_n hC dX7_leg_13 rfl ?_
    refine ka_callV hC (m_X7_isPlace hG) (ka_Rc_model ) rfl ka_q_ml_X7_98 ka_q_im_X7_isPlace ka_q_se_X7_isPlace ka_q_in_X7 ka_q_co_X7_isPlace ky_X7_isPlace (by decide) (by decide) (Nat.le_of_ble_eq_true rfl) rfl dX7_leg_14 ?_
    refine ka_if_eq_b (tgt := 35) hC dX7_leg_17 (by decide) (fun c17 => ?_) (fun c17 => ?_)
    · skip
      refine ka_ldc hC ka_q_cn_X7_28 dX7_leg_35 ?_
      exact ka_iret hC hR dX7_leg_37 (by first | with_reducible rfl | (simp only [rf_legs, c9, ea, c17]; done) | (simp only [rf_legs, c9, ea, c17]; done) | (simp [rf_legs, c9, ea, c17]; done) | (simp [rf_legs, c9, ea, c17]; done) | contradiction | rfl) (by rw [rf_fin_err (e := -2000000001) (by decide)]; congr 1; simp [rf_legs, c9, ea, c17])
    · skip
      obtain ⟨b, hb, rfl⟩ := rf_isPlace_of hM c17
      have eb : cn (nI b) = b := cn_nI (by omega)
      refine ka_iload_n hC dX7_leg_20 rfl ?_
      refine ka_iload_n hC dX7_leg_21 rfl ?_
      refine ka_icmp_eq (tgt := 35) hC dX7_leg_22 (by decide) (fun c22 => ?_) (fun c22 => ?_)
      · skip
        refine ka_ldc hC ka_q_cn_X7_28 dX7_leg_35 ?_
        exact ka_iret hC hR dX7_leg_37 (by first | with_reducible rfl | (simp only [rf_legs, c9, ea, c17, eb, c22]; done) | (simp only [rf_legs, c9, ea, c17, eb, if_pos c22, if_neg (not_not_intro c22)]; done) | (simp [rf_legs, c9, ea, c17, eb, c22]; done) | (simp [rf_legs, c9, ea, c17, eb, if_pos c22, if_neg (not_not_intro c22)]; done) | contradiction | rfl) (by rw [rf_fin_err (e := -2000000001) (by decide)]; congr 1; simp [rf_legs, c9, ea, c17, eb, c22])
      · skip
        refine ka_iload_n hC dX7_leg_25 rfl ?_
        refine ka_iconst (v := 1) hC dX7_leg_26 rfl ?_
        refine ka_bipush (v := 9) hC dX7_leg_27 rfl ?_
        refine ka_callS hC (m_X7_in hG) ka_q_ml_X7_36 ka_q_st_X7_in ka_q_in_X7 ka_q_co_X7_in ky_X7_in (by decide) (by decide) (Nat.le_of_ble_eq_true rfl) rfl dX7_leg_29 ?_
        refine ka_if_ne_b (tgt := 38) hC dX7_leg_32 (by decide) (fun c32 => ?_) (fun c32 => ?_)
        · skip
          refine ka_aload_n hC dX7_leg_38 rfl ?_
          refine kg_X7_7  hC dX7_leg_39 ?_
          refine ka_bipush (v := 14) hC dX7_leg_42 rfl ?_
          refine ka_iconst (v := 5) hC dX7_leg_44 rfl ?_
          refine ka_iload_n hC dX7_leg_45 rfl ?_
          refine ka_imul hC dX7_leg_46 ?_
          refine ka_iadd hC dX7_leg_47 ?_
          refine ka_iload_n hC dX7_leg_48 rfl ?_
          refine ka_iadd hC dX7_leg_49 ?_
          refine km_ld (14 + 5 * a + b) (by omega) (ix_l a b rfl rfl) hC dX7_leg_50 ?_
          refine ka_istore_p4 hC dX7_leg_51 (by decide) ?_
          refine ka_aload_n hC dX7_leg_53 rfl ?_
          refine kg_X7_7  hC dX7_leg_54 ?_
          refine ka_bipush (v := 14) hC dX7_leg_57 rfl ?_
          refine ka_iconst (v := 5) hC dX7_leg_59 rfl ?_
          refine ka_iload_n hC dX7_leg_60 rfl ?_
          refine ka_imul hC dX7_leg_61 ?_
          refine ka_iadd hC dX7_leg_62 ?_
          refine ka_iload_n hC dX7_leg_63 rfl ?_
          refine ka_iadd hC dX7_leg_64 ?_
          refine ka_iload_n hC dX7_leg_65 rfl ?_
          refine km_st (14 + 5 * a + b) (by omega) (ix_l a b rfl rfl) hC dX7_leg_66 ?_
          refine ka_aload_n hC dX7_leg_67 rfl ?_
          refine kg_X7_7  hC dX7_leg_68 ?_
          refine ka_bipush (v := 14) hC dX7_leg_71 rfl ?_
          refine ka_iconst (v := 5) hC dX7_leg_73 rfl ?_
          refine ka_iload_n hC dX7_leg_74 rfl ?_
          refine ka_imul hC dX7_leg_75 ?_
          refine ka_iadd hC dX7_leg_76 ?_
          refine ka_iload_n hC dX7_leg_77 rfl ?_
          refine ka_iadd hC dX7_leg_78 ?_
          refine ka_iload_n hC dX7_leg_79 rfl ?_
          refine km_st (14 + 5 * b + a) (by omega) (ix_l b a rfl rfl) hC dX7_leg_80 ?_
          refine ka_I.eqW (V' := ka_ms V (rf_beg M S) (rf_legs1 S a b v)) rfl ?_
          refine ka_aload_n hC dX7_leg_81 rfl ?_
          refine ka_iload hC dX7_leg_82 rfl ?_
          refine ka_callV hC (m_X7_acted hG (by rw [rf_beg_n (by decide)]; exact ht)) (ka_Rc_model ) rfl ka_q_ml_X7_107 ka_q_im_X7_acted ka_q_se_X7_acted ka_q_in_X7 ka_q_co_X7_acted ky_X7_acted (by decide) (by decide) (Nat.le_of_ble_eq_true rfl) rfl dX7_leg_84 ?_
          exact ka_iret hC hR dX7_leg_87 (by first | with_reducible rfl | (simp only [rf_legs, c9, ea, c17, eb, c22, c32]; done) | (simp only [rf_legs, c9, ea, c17, eb, if_neg c22, if_pos c22, c32]; done) | (simp [rf_legs, c9, ea, c17, eb, c22, c32]; done) | (simp [rf_legs, c9, ea, c17, eb, if_neg c22, if_pos c22, c32]; done) | contradiction | rfl) (by simp only [rf_legs, c9, ea, c17, eb, c22, c32]; first | rfl | (simp; rfl))
        · skip
          refine ka_ldc hC ka_q_cn_X7_28 dX7_leg_35 ?_
          exact ka_iret hC hR dX7_leg_37 (by first | with_reducible rfl | (simp only [rf_legs, c9, ea, c17, eb, c22, c32]; done) | (simp only [rf_legs, c9, ea, c17, eb, if_neg c22, if_pos c22, c32]; done) | (simp [rf_legs, c9, ea, c17, eb, c22, c32]; done) | (simp [rf_legs, c9, ea, c17, eb, if_neg c22, if_pos c22, c32]; done) | contradiction | rfl) (by rw [rf_fin_err (e := -2000000001) (by decide)]; congr 1; simp [rf_legs, c9, ea, c17, eb, c22, c32])
theorem ky_X7_wagon : ka_y yX7_wagon 1 := by unfold ka_y; decide +kernel
set_option maxHeartbeats 4000000 in
set_option maxRecDepth 100000 in
theorem m_X7_wagon {G : ka_G} (hG : ka_AD G) {V : ka_W} {M : ka_P} {S : ka_F} {D : Nat} (hM : MK D S) (ht : ub 4 (M 0 4)) (hD : D < 9000) {x : Int32}  : ka_M G yX7_wagon cX7_wagon 2 (some FieldType.int) 3 [.ref (ka_ad G 9 0), .int x] (ka_ms V M S) (some (.int ((rf_joins S x).1))) (rf_fin V M S (rf_joins S x)) := by
  refine ka_entry hG ka_pn_X7 (ka_cat1 rfl) (Nat.le_of_ble_eq_true rfl) (fun X hC hR => ?_)
  refine ka_aload_n hC dX7_wagon_0 rfl ?_
  refine ka_callV hC (m_X7_begins hG) (ka_Rc_model ) rfl ka_q_ml_X7_104 ka_q_im_X7_begins ka_q_se_X7_begins ka_q_in_X7 ka_q_co_X7_begins ky_X7_begins (by decide) (by decide) (Nat.le_of_ble_eq_true rfl) rfl dX7_wagon_1 ?_
  refine ka_aload_n hC dX7_wagon_4 rfl ?_
  refine ka_aload_n hC dX7_wagon_5 rfl ?_
  refine ka_iload_n hC dX7_wagon_6 rfl ?_
  refine ka_callV hC (m_X7_joins hG hM) (ka_Rc_model ) rfl ka_q_ml_X7_110 ka_q_im_X7_joins ka_q_se_X7_joins ka_q_in_X7 ka_q_co_X7_joins ky_X7_joins (by decide) (by decide) (Nat.le_of_ble_eq_true rfl) rfl dX7_wagon_7 ?_
  refine ka_callV hC (m_X7_acted hG (by rw [rf_beg_n (by decide)]; exact ht)) (ka_Rc_model ) rfl ka_q_ml_X7_107 ka_q_im_X7_acted ka_q_se_X7_acted ka_q_in_X7 ka_q_co_X7_acted ky_X7_acted (by decide) (by decide) (Nat.le_of_ble_eq_true rfl) rfl dX7_wagon_10 ?_
  exact ka_iret hC hR dX7_wagon_13 (by rfl) (by rfl)
theorem ky_X7_load : ka_y yX7_load 1 := by unfold ka_y; decide +kernel
set_option maxHeartbeats 4000000 in
set_option maxRecDepth 100000 in
theorem m_X7_load {G : ka_G} (hG : ka_AD G) {V : ka_W} {M : ka_P} {S : ka_F} {D : Nat} (hM : MK D S) (ht : ub 4 (M 0 4)) (hD : D < 9000) {x : Int32}  : ka_M G yX7_load cX7_load 2 (some FieldType.int) 4 [.ref (ka_ad G 9 0), .int x] (ka_ms V M S) (some (.int ((rf_loads S x).1))) (rf_fin V M S (rf_loads S x)) := by
  refine ka_entry hG ka_pn_X7 (ka_cat1 rfl) (Nat.le_of_ble_eq_true rfl) (fun X hC hR => ?_)
  refine ka_aload_n hC dX7_load_0 rfl ?_
  refine ka_callV hC (m_X7_begins hG) (ka_Rc_model ) rfl ka_q_ml_X7_104 ka_q_im_X7_begins ka_q_se_X7_begins ka_q_in_X7 ka_q_co_X7_begins ky_X7_begins (by decide) (by decide) (Nat.le_of_ble_eq_true rfl) rfl dX7_load_1 ?_
  refine ka_aload_n hC dX7_load_4 rfl ?_
  refine ka_aload_n hC dX7_load_5 rfl ?_
  refine ka_iload_n hC dX7_load_6 rfl ?_
  refine ka_callV hC (m_X7_loads hG hM) (ka_Rc_model ) rfl ka_q_ml_X7_113 ka_q_im_X7_loads ka_q_se_X7_loads ka_q_in_X7 ka_q_co_X7_loads ky_X7_loads (by decide) (by decide) (Nat.le_of_ble_eq_true rfl) rfl dX7_load_7 ?_
  refine ka_callV hC (m_X7_acted hG (by rw [rf_beg_n (by decide)]; exact ht)) (ka_Rc_model ) rfl ka_q_ml_X7_107 ka_q_im_X7_acted ka_q_se_X7_acted ka_q_in_X7 ka_q_co_X7_acted ky_X7_acted (by decide) (by decide) (Nat.le_of_ble_eq_true rfl) rfl dX7_load_10 ?_
  exact ka_iret hC hR dX7_load_13 (by rfl) (by rfl)
theorem ky_X7_unload : ka_y yX7_unload 1 := by unfold ka_y; decide +kernel
set_option maxHeartbeats 4000000 in
set_option maxRecDepth 100000 in
theorem m_X7_unload {G : ka_G} (hG : ka_AD G) {V : ka_W} {M : ka_P} {S : ka_F} {D : Nat} (hM : MK D S) (ht : ub 4 (M 0 4)) (hD : D < 9000) {x : Int32}  : ka_M G yX7_unload cX7_unload 2 (some FieldType.int) 3 [.ref (ka_ad G 9 0), .int x] (ka_ms V M S) (some (.int ((rf_unloads S x).1))) (rf_fin V M S (rf_unloads S x)) := by
  refine ka_entry hG ka_pn_X7 (ka_cat1 rfl) (Nat.le_of_ble_eq_true rfl) (fun X hC hR => ?_)
  refine ka_aload_n hC dX7_unload_0 rfl ?_
  refine ka_callV hC (m_X7_begins hG) (ka_Rc_model ) rfl ka_q_ml_X7_104 ka_q_im_X7_begins ka_q_se_X7_begins ka_q_in_X7 ka_q_co_X7_begins ky_X7_begins (by decide) (by decide) (Nat.le_of_ble_eq_true rfl) rfl dX7_unload_1 ?_
  refine ka_aload_n hC dX7_unload_4 rfl ?_
  refine ka_aload_n hC dX7_unload_5 rfl ?_
  refine ka_iload_n hC dX7_unload_6 rfl ?_
  refine ka_callV hC (m_X7_unloads hG hM) (ka_Rc_model ) rfl ka_q_ml_X7_116 ka_q_im_X7_unloads ka_q_se_X7_unloads ka_q_in_X7 ka_q_co_X7_unloads ky_X7_unloads (by decide) (by decide) (Nat.le_of_ble_eq_true rfl) rfl dX7_unload_7 ?_
  refine ka_callV hC (m_X7_acted hG (by rw [rf_beg_n (by decide)]; exact ht)) (ka_Rc_model ) rfl ka_q_ml_X7_107 ka_q_im_X7_acted ka_q_se_X7_acted ka_q_in_X7 ka_q_co_X7_acted ky_X7_acted (by decide) (by decide) (Nat.le_of_ble_eq_true rfl) rfl dX7_unload_10 ?_
  exact ka_iret hC hR dX7_unload_13 (by rfl) (by rfl)
theorem ky_X7_repair : ka_y yX7_repair 1 := by unfold ka_y; decide +kernel
set_option maxHeartbeats 4000000 in
set_option maxRecDepth 100000 in
theorem m_X7_repair {G : ka_G} (hG : ka_AD G) {V : ka_W} {M : ka_P} {S : ka_F} {D : Nat} (hM : MK D S) (ht : ub 4 (M 0 4)) (hD : D < 9000) {x : Int32}  : ka_M G yX7_repair cX7_repair 2 (some FieldType.int) 4 [.ref (ka_ad G 9 0), .int x] (ka_ms V M S) (some (.int ((rf_sends S x).1))) (rf_fin V M S (rf_sends S x)) := by
  refine ka_entry hG ka_pn_X7 (ka_cat1 rfl) (Nat.le_of_ble_eq_true rfl) (fun X hC hR => ?_)
  refine ka_aload_n hC dX7_repair_0 rfl ?_
  refine ka_callV hC (m_X7_begins hG) (ka_Rc_model ) rfl ka_q_ml_X7_104 ka_q_im_X7_begins ka_q_se_X7_begins ka_q_in_X7 ka_q_co_X7_begins ky_X7_begins (by decide) (by decide) (Nat.le_of_ble_eq_true rfl) rfl dX7_repair_1 ?_
  refine ka_aload_n hC dX7_repair_4 rfl ?_
  refine ka_aload_n hC dX7_repair_5 rfl ?_
  refine ka_iload_n hC dX7_repair_6 rfl ?_
  refine ka_callV hC (m_X7_sends hG hM (Nat.lt_of_lt_of_le hD (by decide))) (ka_Rc_model ) rfl ka_q_ml_X7_119 ka_q_im_X7_sends ka_q_se_X7_sends ka_q_in_X7 ka_q_co_X7_sends ky_X7_sends (by decide) (by decide) (Nat.le_of_ble_eq_true rfl) rfl dX7_repair_7 ?_
  refine ka_callV hC (m_X7_acted hG (by rw [rf_beg_n (by decide)]; exact ht)) (ka_Rc_model ) rfl ka_q_ml_X7_107 ka_q_im_X7_acted ka_q_se_X7_acted ka_q_in_X7 ka_q_co_X7_acted ky_X7_acted (by decide) (by decide) (Nat.le_of_ble_eq_true rfl) rfl dX7_repair_10 ?_
  exact ka_iret hC hR dX7_repair_13 (by rfl) (by rfl)
theorem ky_X7_train : ka_y yX7_train 4 := by unfold ka_y; decide +kernel
set_option maxHeartbeats 4000000 in
set_option maxRecDepth 100000 in
theorem m_X7_train {G : ka_G} (hG : ka_AD G) {V : ka_W} {M : ka_P} {S : ka_F} {D : Nat} (hM : MK D S) (ht : ub 4 (M 0 4)) (hD : D < 9000) {x y kd mn : Int32}  : ka_M G yX7_train cX7_train 5 (some FieldType.int) 3 [.ref (ka_ad G 9 0), .int x, .int y, .int kd, .int mn] (ka_ms V M S) (some (.int ((rf_trains S x y kd mn).1))) (rf_fin V M S (rf_trains S x y kd mn)) := by
  refine ka_entry hG ka_pn_X7 (ka_cat1 rfl) (Nat.le_of_ble_eq_true rfl) (fun X hC hR => ?_)
  refine ka_aload_n hC dX7_train_0 rfl ?_
  refine ka_callV hC (m_X7_begins hG) (ka_Rc_model ) rfl ka_q_ml_X7_104 ka_q_im_X7_begins ka_q_se_X7_begins ka_q_in_X7 ka_q_co_X7_begins ky_X7_begins (by decide) (by decide) (Nat.le_of_ble_eq_true rfl) rfl dX7_train_1 ?_
  refine ka_aload_n hC dX7_train_4 rfl ?_
  refine ka_aload_n hC dX7_train_5 rfl ?_
  refine ka_iload_n hC dX7_train_6 rfl ?_
  refine ka_iload_n hC dX7_train_7 rfl ?_
  refine ka_iload_n hC dX7_train_8 rfl ?_
  refine ka_iload hC dX7_train_9 rfl ?_
  refine ka_callV hC (m_X7_trains hG hM) (ka_Rc_model ) rfl ka_q_ml_X7_122 ka_q_im_X7_trains ka_q_se_X7_trains ka_q_in_X7 ka_q_co_X7_trains ky_X7_trains (by decide) (by decide) (Nat.le_of_ble_eq_true rfl) rfl dX7_train_11 ?_
  refine ka_callV hC (m_X7_acted hG (by rw [rf_beg_n (by decide)]; exact ht)) (ka_Rc_model ) rfl ka_q_ml_X7_107 ka_q_im_X7_acted ka_q_se_X7_acted ka_q_in_X7 ka_q_co_X7_acted ky_X7_acted (by decide) (by decide) (Nat.le_of_ble_eq_true rfl) rfl dX7_train_14 ?_
  exact ka_iret hC hR dX7_train_17 (by rfl) (by rfl)
theorem ky_X7_pass : ka_y yX7_pass 1 := by unfold ka_y; decide +kernel
set_option maxHeartbeats 4000000 in
set_option maxRecDepth 100000 in
theorem m_X7_pass {G : ka_G} (hG : ka_AD G) {V : ka_W} {M : ka_P} {S : ka_F} {D : Nat} (hM : MK D S) (ht : ub 4 (M 0 4)) (hD : D < 9000) {x : Int32}  : ka_M G yX7_pass cX7_pass 2 (some FieldType.int) 6 [.ref (ka_ad G 9 0), .int x] (ka_ms V M S) (some (.int ((rf_passes S x).1))) (rf_fin V M S (rf_passes S x)) := by
  refine ka_entry hG ka_pn_X7 (ka_cat1 rfl) (Nat.le_of_ble_eq_true rfl) (fun X hC hR => ?_)
  refine ka_aload_n hC dX7_pass_0 rfl ?_
  refine ka_callV hC (m_X7_begins hG) (ka_Rc_model ) rfl ka_q_ml_X7_104 ka_q_im_X7_begins ka_q_se_X7_begins ka_q_in_X7 ka_q_co_X7_begins ky_X7_begins (by decide) (by decide) (Nat.le_of_ble_eq_true rfl) rfl dX7_pass_1 ?_
  refine ka_aload_n hC dX7_pass_4 rfl ?_
  refine ka_aload_n hC dX7_pass_5 rfl ?_
  refine ka_iload_n hC dX7_pass_6 rfl ?_
  refine ka_callV hC (m_X7_passes hG hM (Nat.lt_of_lt_of_le hD (by decide))) (ka_Rc_model ) rfl ka_q_ml_X7_126 ka_q_im_X7_passes ka_q_se_X7_passes ka_q_in_X7 ka_q_co_X7_passes ky_X7_passes (by decide) (by decide) (Nat.le_of_ble_eq_true rfl) rfl dX7_pass_7 ?_
  refine ka_callV hC (m_X7_acted hG (by rw [rf_beg_n (by decide)]; exact ht)) (ka_Rc_model ) rfl ka_q_ml_X7_107 ka_q_im_X7_acted ka_q_se_X7_acted ka_q_in_X7 ka_q_co_X7_acted ky_X7_acted (by decide) (by decide) (Nat.le_of_ble_eq_true rfl) rfl dX7_pass_10 ?_
  exact ka_iret hC hR dX7_pass_13 (by rfl) (by rfl)
theorem ky_X7_isSetting : ka_y yX7_isSetting 2 := by unfold ka_y; decide +kernel
set_option maxHeartbeats 4000000 in
set_option maxRecDepth 100000 in
theorem m_X7_isSetting {G : ka_G} (hG : ka_AD G) {V : ka_W} {a v : Int32}  : ka_M G yX7_isSetting cX7_isSetting 2 (some FieldType.boolean) 1 [.int a, .int v] (V) (some (.int (ka_b (rf_isSet a v)))) (V) := by
  refine ka_entry hG ka_pn_X7 (ka_cat1 rfl) (Nat.le_of_ble_eq_true rfl) (fun X hC hR => ?_)
  refine ka_iload_n hC dX7_isSetting_0 rfl ?_
  by_cases c1_0 : a = 0
  · skip
    refine ka_ls (tgt := 36) hC dX7_isSetting_1 (by decide) (by first | (rw [c1_0]; rfl) | rw [c1_0]) (by decide) ?_
    refine ka_iload_n hC dX7_isSetting_36 rfl ?_
    refine ka_iconst (v := 0) hC dX7_isSetting_37 rfl ?_
    refine ka_bipush (v := 30) hC dX7_isSetting_38 rfl ?_
    refine ka_callS hC (m_X7_in hG) ka_q_ml_X7_36 ka_q_st_X7_in ka_q_in_X7 ka_q_co_X7_in ky_X7_in (by decide) (by decide) (Nat.le_of_ble_eq_true rfl) rfl dX7_isSetting_40 ?_
    exact ka_bret hC hR dX7_isSetting_43 (by first | with_reducible rfl | (simp only [rf_isSet, ka_b, c1_0]; done) | (simp only [rf_isSet, ka_b, if_pos c1_0, if_neg (not_not_intro c1_0)]; done) | (simp [rf_isSet, ka_b, c1_0]; done) | (simp [rf_isSet, ka_b, if_pos c1_0, if_neg (not_not_intro c1_0)]; done) | contradiction | rfl) rfl (by first | with_reducible rfl | (simp only [rf_isSet, ka_b, c1_0]; done) | (simp only [rf_isSet, ka_b, if_pos c1_0, if_neg (not_not_intro c1_0)]; done) | (simp [rf_isSet, ka_b, c1_0]; done) | (simp [rf_isSet, ka_b, if_pos c1_0, if_neg (not_not_intro c1_0)]; done) | contradiction | rfl)
  by_cases c1_3 : a = 3
  · skip
    refine ka_ls (tgt := 44) hC dX7_isSetting_1 (by decide) (by first | (rw [c1_3]; rfl) | rw [c1_3]) (by decide) ?_
    refine ka_iload_n hC dX7_isSetting_44 rfl ?_
    refine ka_iconst (v := 1) hC dX7_isSetting_45 rfl ?_
    refine ka_bipush (v := 99) hC dX7_isSetting_46 rfl ?_
    refine ka_callS hC (m_X7_in hG) ka_q_ml_X7_36 ka_q_st_X7_in ka_q_in_X7 ka_q_co_X7_in ky_X7_in (by decide) (by decide) (Nat.le_of_ble_eq_true rfl) rfl dX7_isSetting_48 ?_
    exact ka_bret hC hR dX7_isSetting_51 (by first | with_reducible rfl | (simp only [rf_isSet, ka_b, c1_0, c1_3]; done) | (simp only [rf_isSet, ka_b, if_neg c1_0, if_pos c1_0, if_pos c1_3, if_neg (not_not_intro c1_3)]; done) | (simp [rf_isSet, ka_b, c1_0, c1_3]; done) | (simp [rf_isSet, ka_b, if_neg c1_0, if_pos c1_0, if_pos c1_3, if_neg (not_not_intro c1_3)]; done) | contradiction | rfl) rfl (by first | with_reducible rfl | (simp only [rf_isSet, ka_b, c1_0, c1_3]; done) | (simp only [rf_isSet, ka_b, if_neg c1_0, if_pos c1_0, if_pos c1_3, if_neg (not_not_intro c1_3)]; done) | (simp [rf_isSet, ka_b, c1_0, c1_3]; done) | (simp [rf_isSet, ka_b, if_neg c1_0, if_pos c1_0, if_pos c1_3, if_neg (not_not_intro c1_3)]; done) | contradiction | rfl)
  by_cases c1_6 : a = 6
  · skip
    refine ka_ls (tgt := 52) hC dX7_isSetting_1 (by decide) (by first | (rw [c1_6]; rfl) | rw [c1_6]) (by decide) ?_
    refine ka_iload_n hC dX7_isSetting_52 rfl ?_
    refine ka_iconst (v := 1) hC dX7_isSetting_53 rfl ?_
    refine ka_bipush (v := 30) hC dX7_isSetting_54 rfl ?_
    refine ka_callS hC (m_X7_in hG) ka_q_ml_X7_36 ka_q_st_X7_in ka_q_in_X7 ka_q_co_X7_in ky_X7_in (by decide) (by decide) (Nat.le_of_ble_eq_true rfl) rfl dX7_isSetting_56 ?_
    exact ka_bret hC hR dX7_isSetting_59 (by first | with_reducible rfl | (simp only [rf_isSet, ka_b, c1_0, c1_3, c1_6]; done) | (simp only [rf_isSet, ka_b, if_neg c1_0, if_pos c1_0, if_neg c1_3, if_pos c1_3, if_pos c1_6, if_neg (not_not_intro c1_6)]; done) | (simp [rf_isSet, ka_b, c1_0, c1_3, c1_6]; done) | (simp [rf_isSet, ka_b, if_neg c1_0, if_pos c1_0, if_neg c1_3, if_pos c1_3, if_pos c1_6, if_neg (not_not_intro c1_6)]; done) | contradiction | rfl) rfl (by first | with_reducible rfl | (simp only [rf_isSet, ka_b, c1_0, c1_3, c1_6]; done) | (simp only [rf_isSet, ka_b, if_neg c1_0, if_pos c1_0, if_neg c1_3, if_pos c1_3, if_pos c1_6, if_neg (not_not_intro c1_6)]; done) | (simp [rf_isSet, ka_b, c1_0, c1_3, c1_6]; done) | (simp [rf_isSet, ka_b, if_neg c1_0, if_pos c1_0, if_neg c1_3, if_pos c1_3, if_pos c1_6, if_neg (not_not_intro c1_6)]; done) | contradiction | rfl)
  refine ka_ls (off := 59) (tgt := 60) hC dX7_isSetting_1 (by decide) (by
      have t1_0 : ¬ (a).toInt = 0 := fun e => c1_0 (Int32.toInt_inj.mp (e.trans (by decide)))
      have t1_3 : ¬ (a).toInt = 3 := fun e => c1_3 (Int32.toInt_inj.mp (e.trans (by decide)))
      have t1_6 : ¬ (a).toInt = 6 := fun e => c1_6 (Int32.toInt_inj.mp (e.trans (by decide)))
      have u1_0 : ¬ 0 = (a).toInt := fun e => t1_0 e.symm
      have u1_3 : ¬ 3 = (a).toInt := fun e => t1_3 e.symm
      have u1_6 : ¬ 6 = (a).toInt := fun e => t1_6 e.symm
      simp [Op.lookupswitch.offset, t1_0, u1_0, t1_3, u1_3, t1_6, u1_6]) (by decide) ?_
  refine ka_iload_n hC dX7_isSetting_60 rfl ?_
  refine ka_iconst (v := 0) hC dX7_isSetting_61 rfl ?_
  refine ka_bipush (v := 6) hC dX7_isSetting_62 rfl ?_
  refine ka_callS hC (m_X7_in hG) ka_q_ml_X7_36 ka_q_st_X7_in ka_q_in_X7 ka_q_co_X7_in ky_X7_in (by decide) (by decide) (Nat.le_of_ble_eq_true rfl) rfl dX7_isSetting_64 ?_
  refine ka_if_eq_b (tgt := 84) hC dX7_isSetting_67 (by decide) (fun c67 => ?_) (fun c67 => ?_)
  · skip
    refine ka_iconst (v := 0) hC dX7_isSetting_84 rfl ?_
    exact ka_bret hC hR dX7_isSetting_85 (by first | with_reducible rfl | (simp only [rf_isSet, ka_b, c1_0, c1_3, c1_6, c67]; done) | (simp only [rf_isSet, ka_b, if_neg c1_0, if_pos c1_0, if_neg c1_3, if_pos c1_3, if_neg c1_6, if_pos c1_6, c67]; done) | (simp [rf_isSet, ka_b, c1_0, c1_3, c1_6, c67]; done) | (simp [rf_isSet, ka_b, if_neg c1_0, if_pos c1_0, if_neg c1_3, if_pos c1_3, if_neg c1_6, if_pos c1_6, c67]; done) | contradiction | rfl) rfl (by first | with_reducible rfl | (simp only [rf_isSet, ka_b, c1_0, c1_3, c1_6, c67]; done) | (simp only [rf_isSet, ka_b, if_neg c1_0, if_pos c1_0, if_neg c1_3, if_pos c1_3, if_neg c1_6, if_pos c1_6, c67]; done) | (simp [rf_isSet, ka_b, c1_0, c1_3, c1_6, c67]; done) | (simp [rf_isSet, ka_b, if_neg c1_0, if_pos c1_0, if_neg c1_3, if_pos c1_3, if_neg c1_6, if_pos c1_6, c67]; done) | contradiction | rfl)
  · skip
    refine ka_iload_n hC dX7_isSetting_70 rfl ?_
    refine ka_iconst (v := 0) hC dX7_isSetting_71 rfl ?_
    refine ka_bipush (v := 99) hC dX7_isSetting_72 rfl ?_
    refine ka_callS hC (m_X7_in hG) ka_q_ml_X7_36 ka_q_st_X7_in ka_q_in_X7 ka_q_co_X7_in ky_X7_in (by decide) (by decide) (Nat.le_of_ble_eq_true rfl) rfl dX7_isSetting_74 ?_
    refine ka_if_eq_b (tgt := 84) hC dX7_isSetting_77 (by decide) (fun c77 => ?_) (fun c77 => ?_)
    · skip
      refine ka_iconst (v := 0) hC dX7_isSetting_84 rfl ?_
      exact ka_bret hC hR dX7_isSetting_85 (by first | with_reducible rfl | (simp only [rf_isSet, ka_b, c1_0, c1_3, c1_6, c67, c77]; done) | (simp only [rf_isSet, ka_b, if_neg c1_0, if_pos c1_0, if_neg c1_3, if_pos c1_3, if_neg c1_6, if_pos c1_6, c67, c77]; done) | (simp [rf_isSet, ka_b, c1_0, c1_3, c1_6, c67, c77]; done) | (simp [rf_isSet, ka_b, if_neg c1_0, if_pos c1_0, if_neg c1_3, if_pos c1_3, if_neg c1_6, if_pos c1_6, c67, c77]; done) | contradiction | rfl) rfl (by first | with_reducible rfl | (simp only [rf_isSet, ka_b, c1_0, c1_3, c1_6, c67, c77]; done) | (simp only [rf_isSet, ka_b, if_neg c1_0, if_pos c1_0, if_neg c1_3, if_pos c1_3, if_neg c1_6, if_pos c1_6, c67, c77]; done) | (simp [rf_isSet, ka_b, c1_0, c1_3, c1_6, c67, c77]; done) | (simp [rf_isSet, ka_b, if_neg c1_0, if_pos c1_0, if_neg c1_3, if_pos c1_3, if_neg c1_6, if_pos c1_6, c67, c77]; done) | contradiction | rfl)
    · skip
      refine ka_iconst (v := 1) hC dX7_isSetting_80 rfl ?_
      refine ka_goto (tgt := 85) hC dX7_isSetting_81 (by decide) ?_
      exact ka_bret hC hR dX7_isSetting_85 (by first | with_reducible rfl | (simp only [rf_isSet, ka_b, c1_0, c1_3, c1_6, c67, c77]; done) | (simp only [rf_isSet, ka_b, if_neg c1_0, if_pos c1_0, if_neg c1_3, if_pos c1_3, if_neg c1_6, if_pos c1_6, c67, c77]; done) | (simp [rf_isSet, ka_b, c1_0, c1_3, c1_6, c67, c77]; done) | (simp [rf_isSet, ka_b, if_neg c1_0, if_pos c1_0, if_neg c1_3, if_pos c1_3, if_neg c1_6, if_pos c1_6, c67, c77]; done) | contradiction | rfl) rfl (by first | with_reducible rfl | (simp only [rf_isSet, ka_b, c1_0, c1_3, c1_6, c67, c77]; done) | (simp only [rf_isSet, ka_b, if_neg c1_0, if_pos c1_0, if_neg c1_3, if_pos c1_3, if_neg c1_6, if_pos c1_6, c67, c77]; done) | (simp [rf_isSet, ka_b, c1_0, c1_3, c1_6, c67, c77]; done) | (simp [rf_isSet, ka_b, if_neg c1_0, if_pos c1_0, if_neg c1_3, if_pos c1_3, if_neg c1_6, if_pos c1_6, c67, c77]; done) | contradiction | rfl)
theorem ky_X7_set : ka_y yX7_set 2 := by unfold ka_y; decide +kernel
set_option maxHeartbeats 4000000 in
set_option maxRecDepth 100000 in
theorem m_X7_set {G : ka_G} (hG : ka_AD G) {V : ka_W} {M : ka_P} {S : ka_F} {D : Nat} (hM : MK D S) (ht : ub 4 (M 0 4)) {x v : Int32}  : ka_M G yX7_set cX7_set 4 (some FieldType.int) 2 [.ref (ka_ad G 9 0), .int x, .int v] (ka_ms V M S) (some (.int ((rf_set S x v).1))) (rf_fin V M S (rf_set S x v)) := by
  refine ka_entry hG ka_pn_X7 (ka_cat1 rfl) (Nat.le_of_ble_eq_true rfl) (fun X hC hR => ?_)
  refine ka_aload_n hC dX7_set_0 rfl ?_
  refine ka_callV hC (m_X7_begins hG) (ka_Rc_model ) rfl ka_q_ml_X7_104 ka_q_im_X7_begins ka_q_se_X7_begins ka_q_in_X7 ka_q_co_X7_begins ky_X7_begins (by decide) (by decide) (Nat.le_of_ble_eq_true rfl) rfl dX7_set_1 ?_
  refine ka_iload_n hC dX7_set_4 rfl ?_
  refine ka_iload_n hC dX7_set_5 rfl ?_
  refine ka_callS hC (m_X7_isSetting hG) ka_q_ml_X7_129 ka_q_st_X7_isSetting ka_q_in_X7 ka_q_co_X7_isSetting ky_X7_isSetting (by decide) (by decide) (Nat.le_of_ble_eq_true rfl) rfl dX7_set_6 ?_
  refine ka_if_ne_b (tgt := 15) hC dX7_set_9 (by decide) (fun c9 => ?_) (fun c9 => ?_)
  · skip
    obtain ⟨j, hj, rfl⟩ := rf_isSet_of c9
    have ej : cn (nI j) = j := cn_nI (by omega)
    refine ka_aload_n hC dX7_set_15 rfl ?_
    refine kg_X7_7  hC dX7_set_16 ?_
    refine ka_bipush (v := 7) hC dX7_set_19 rfl ?_
    refine ka_iload_n hC dX7_set_21 rfl ?_
    refine ka_iadd hC dX7_set_22 ?_
    refine km_ld (7 + j) (by omega) (ix_s j rfl) hC dX7_set_23 ?_
    refine ka_istore_n_p3 hC dX7_set_24 (by decide) ?_
    refine ka_aload_n hC dX7_set_25 rfl ?_
    refine kg_X7_7  hC dX7_set_26 ?_
    refine ka_bipush (v := 7) hC dX7_set_29 rfl ?_
    refine ka_iload_n hC dX7_set_31 rfl ?_
    refine ka_iadd hC dX7_set_32 ?_
    refine ka_iload_n hC dX7_set_33 rfl ?_
    refine km_st (7 + j) (by omega) (ix_s j rfl) hC dX7_set_34 ?_
    refine ka_aload_n hC dX7_set_35 rfl ?_
    refine ka_iload_n hC dX7_set_36 rfl ?_
    refine ka_callV hC (m_X7_acted hG (by rw [rf_beg_n (by decide)]; exact ht)) (ka_Rc_model ) rfl ka_q_ml_X7_107 ka_q_im_X7_acted ka_q_se_X7_acted ka_q_in_X7 ka_q_co_X7_acted ky_X7_acted (by decide) (by decide) (Nat.le_of_ble_eq_true rfl) rfl dX7_set_37 ?_
    exact ka_iret hC hR dX7_set_40 (by unfold rf_set; rw [if_neg (by rw [c9]; decide), ej]) (by unfold rf_set; rw [if_neg (by rw [c9]; decide), ej]; rfl)
  · skip
    refine ka_ldc hC ka_q_cn_X7_28 dX7_set_12 ?_
    exact ka_iret hC hR dX7_set_14 (by first | with_reducible rfl | (simp only [rf_set, c9]; done) | (simp only [rf_set, c9]; done) | (simp [rf_set, c9]; done) | (simp [rf_set, c9]; done) | contradiction | rfl) (by rw [rf_fin_err (e := -2000000001) (by decide)]; unfold rf_set; rw [if_pos c9])
theorem ky_X7_daysOf : ka_y yX7_daysOf 1 := by unfold ka_y; decide +kernel
set_option maxHeartbeats 4000000 in
set_option maxRecDepth 100000 in
theorem m_X7_daysOf {G : ka_G} (hG : ka_AD G) {V : ka_W} {M : ka_P} {S : ka_F} {w : Nat} (hw : w < 20)  : ka_M G yX7_daysOf cX7_daysOf 2 (some FieldType.int) 1 [.ref (ka_ad G 9 0), .int (nI w)] (ka_ms V M S) (some (.int (rf_daysOf S w))) (ka_ms V M S) := by
  refine ka_entry hG ka_pn_X7 (ka_cat1 rfl) (Nat.le_of_ble_eq_true rfl) (fun X hC hR => ?_)
  refine ka_aload_n hC dX7_daysOf_0 rfl ?_
  refine ka_iload_n hC dX7_daysOf_1 rfl ?_
  refine ka_iconst (v := 3) hC dX7_daysOf_2 rfl ?_
  refine ka_callV hC (m_X7_of hG w 3 hw (by decide) rfl rfl) (ka_Rc_model ) rfl ka_q_ml_X7_40 ka_q_im_X7_of ka_q_se_X7_of ka_q_in_X7 ka_q_co_X7_of ky_X7_of (by decide) (by decide) (Nat.le_of_ble_eq_true rfl) rfl dX7_daysOf_3 ?_
  refine ka_if_eq (tgt := 19) hC dX7_daysOf_6 (by decide) (fun c6 => ?_) (fun c6 => ?_)
  · skip
    refine ka_ldc hC ka_q_cn_X7_132 dX7_daysOf_19 ?_
    refine ka_goto (tgt := 38) hC dX7_daysOf_21 (by decide) ?_
    exact ka_iret hC hR dX7_daysOf_38 (by first | with_reducible rfl | (simp only [rf_daysOf, c6]; done) | (simp only [rf_daysOf, if_pos c6, if_neg (not_not_intro c6)]; done) | (simp [rf_daysOf, c6]; done) | (simp [rf_daysOf, if_pos c6, if_neg (not_not_intro c6)]; done) | contradiction | rfl) (by first | with_reducible rfl | (simp only [rf_daysOf, c6]; done) | (simp only [rf_daysOf, if_pos c6, if_neg (not_not_intro c6)]; done) | (simp [rf_daysOf, c6]; done) | (simp [rf_daysOf, if_pos c6, if_neg (not_not_intro c6)]; done) | contradiction | rfl)
  · skip
    refine ka_aload_n hC dX7_daysOf_9 rfl ?_
    refine ka_iload_n hC dX7_daysOf_10 rfl ?_
    refine ka_bipush (v := 6) hC dX7_daysOf_11 rfl ?_
    refine ka_callV hC (m_X7_of hG w 6 hw (by decide) rfl rfl) (ka_Rc_model ) rfl ka_q_ml_X7_40 ka_q_im_X7_of ka_q_se_X7_of ka_q_in_X7 ka_q_co_X7_of ky_X7_of (by decide) (by decide) (Nat.le_of_ble_eq_true rfl) rfl dX7_daysOf_13 ?_
    refine ka_if_ge (tgt := 24) hC dX7_daysOf_16 (by decide) (fun c16 => ?_) (fun c16 => ?_)
    · skip
      refine ka_aload_n hC dX7_daysOf_24 rfl ?_
      refine ka_iload_n hC dX7_daysOf_25 rfl ?_
      refine ka_bipush (v := 6) hC dX7_daysOf_26 rfl ?_
      refine ka_callV hC (m_X7_of hG w 6 hw (by decide) rfl rfl) (ka_Rc_model ) rfl ka_q_ml_X7_40 ka_q_im_X7_of ka_q_se_X7_of ka_q_in_X7 ka_q_co_X7_of ky_X7_of (by decide) (by decide) (Nat.le_of_ble_eq_true rfl) rfl dX7_daysOf_28 ?_
      refine ka_aload_n hC dX7_daysOf_31 rfl ?_
      refine kg_X7_7  hC dX7_daysOf_32 ?_
      refine ka_iconst (v := 2) hC dX7_daysOf_35 rfl ?_
      refine km_ld 2 (by decide) rfl hC dX7_daysOf_36 ?_
      refine ka_isub hC dX7_daysOf_37 ?_
      exact ka_iret hC hR dX7_daysOf_38 (by first | with_reducible rfl | (simp only [rf_daysOf, c6, c16]; done) | (simp only [rf_daysOf, if_neg c6, if_pos c6, if_neg c16, if_pos c16]; done) | (simp [rf_daysOf, c6, c16]; done) | (simp [rf_daysOf, if_neg c6, if_pos c6, if_neg c16, if_pos c16]; done) | contradiction | rfl) (by first | with_reducible rfl | (simp only [rf_daysOf, c6, c16]; done) | (simp only [rf_daysOf, if_neg c6, if_pos c6, if_neg c16, if_pos c16]; done) | (simp [rf_daysOf, c6, c16]; done) | (simp [rf_daysOf, if_neg c6, if_pos c6, if_neg c16, if_pos c16]; done) | contradiction | rfl)
    · skip
      refine ka_ldc hC ka_q_cn_X7_132 dX7_daysOf_19 ?_
      refine ka_goto (tgt := 38) hC dX7_daysOf_21 (by decide) ?_
      exact ka_iret hC hR dX7_daysOf_38 (by first | with_reducible rfl | (simp only [rf_daysOf, c6, c16]; done) | (simp only [rf_daysOf, if_neg c6, if_pos c6, if_pos c16, if_neg (not_not_intro c16)]; done) | (simp [rf_daysOf, c6, c16]; done) | (simp [rf_daysOf, if_neg c6, if_pos c6, if_pos c16, if_neg (not_not_intro c16)]; done) | contradiction | rfl) (by first | with_reducible rfl | (simp only [rf_daysOf, c6, c16]; done) | (simp only [rf_daysOf, if_neg c6, if_pos c6, if_pos c16, if_neg (not_not_intro c16)]; done) | (simp [rf_daysOf, c6, c16]; done) | (simp [rf_daysOf, if_neg c6, if_pos c6, if_pos c16, if_neg (not_not_intro c16)]; done) | contradiction | rfl)
theorem ky_X7_wagonOf : ka_y yX7_wagonOf 2 := by unfold ka_y; decide +kernel
set_option maxHeartbeats 4000000 in
set_option maxRecDepth 100000 in
theorem m_X7_wagonOf {G : ka_G} (hG : ka_AD G) {V : ka_W} {M : ka_P} {S : ka_F} {D : Nat} (hM : MK D S) {x y : Int32}  : ka_M G yX7_wagonOf cX7_wagonOf 3 (some FieldType.int) 3 [.ref (ka_ad G 9 0), .int x, .int y] (ka_ms V M S) (some (.int (rf_wagonOf S x y))) (ka_ms V M S) := by
  refine ka_entry hG ka_pn_X7 (ka_cat1 rfl) (Nat.le_of_ble_eq_true rfl) (fun X hC hR => ?_)
  refine ka_aload_n hC dX7_wagonOf_0 rfl ?_
  refine ka_iload_n hC dX7_wagonOf_1 rfl ?_
  refine ka_callV hC (m_X7_isWagon hG) (ka_Rc_model ) rfl ka_q_ml_X7_86 ka_q_im_X7_isWagon ka_q_se_X7_isWagon ka_q_in_X7 ka_q_co_X7_isWagon ky_X7_isWagon (by decide) (by decide) (Nat.le_of_ble_eq_true rfl) rfl dX7_wagonOf_2 ?_
  refine ka_if_eq_b (tgt := 18) hC dX7_wagonOf_5 (by decide) (fun c5 => ?_) (fun c5 => ?_)
  · skip
    refine ka_ldc hC ka_q_cn_X7_28 dX7_wagonOf_18 ?_
    exact ka_iret hC hR dX7_wagonOf_20 (by first | with_reducible rfl | (simp only [rf_wagonOf, c5]; done) | (simp only [rf_wagonOf, c5]; done) | (simp [rf_wagonOf, c5]; done) | (simp [rf_wagonOf, c5]; done) | contradiction | rfl) (by first | with_reducible rfl | (simp only [rf_wagonOf, c5]; done) | (simp only [rf_wagonOf, c5]; done) | (simp [rf_wagonOf, c5]; done) | (simp [rf_wagonOf, c5]; done) | contradiction | rfl)
  · skip
    obtain ⟨w, hwn, hw, rfl⟩ := rf_isWagon_of hM c5
    have ew : cn (nI w) = w := cn_nI (by omega)
    refine ka_iload_n hC dX7_wagonOf_8 rfl ?_
    refine ka_iconst (v := 0) hC dX7_wagonOf_9 rfl ?_
    refine ka_bipush (v := 8) hC dX7_wagonOf_10 rfl ?_
    refine ka_callS hC (m_X7_in hG) ka_q_ml_X7_36 ka_q_st_X7_in ka_q_in_X7 ka_q_co_X7_in ky_X7_in (by decide) (by decide) (Nat.le_of_ble_eq_true rfl) rfl dX7_wagonOf_12 ?_
    refine ka_if_ne_b (tgt := 21) hC dX7_wagonOf_15 (by decide) (fun c15 => ?_) (fun c15 => ?_)
    · skip
      obtain ⟨j, hj, ey⟩ := kw_nat (n := 8) (by decide) c15
      have ej : cn y = j := by rw [ey]; exact cn_nI (by omega)
      refine ka_iload_n hC dX7_wagonOf_21 rfl ?_
      by_cases c22_5 : y = 5
      · skip
        refine ka_tsIn (tgt := 52) hC dX7_wagonOf_22 (by rw [c22_5]; decide) (by rw [c22_5]; decide) (by rw [c22_5]; rfl) (by decide) ?_
        refine ka_aload_n hC dX7_wagonOf_52 rfl ?_
        refine ka_iload_n hC dX7_wagonOf_53 rfl ?_
        refine ka_iconst (v := 3) hC dX7_wagonOf_54 rfl ?_
        refine ka_callV hC (m_X7_of hG w 3 hw (by decide) rfl rfl) (ka_Rc_model ) rfl ka_q_ml_X7_40 ka_q_im_X7_of ka_q_se_X7_of ka_q_in_X7 ka_q_co_X7_of ky_X7_of (by decide) (by decide) (Nat.le_of_ble_eq_true rfl) rfl dX7_wagonOf_55 ?_
        refine ka_if_ne (tgt := 70) hC dX7_wagonOf_58 (by decide) (fun c58 => ?_) (fun c58 => ?_)
        · skip
          refine ka_ldc hC ka_q_cn_X7_132 dX7_wagonOf_70 ?_
          exact ka_iret hC hR dX7_wagonOf_72 (by first | with_reducible rfl | (simp only [rf_wagonOf, c5, ew, c15, ej, c22_5, c58]; done) | (simp only [rf_wagonOf, c5, ew, c15, ej, if_pos c22_5, if_neg (not_not_intro c22_5), if_neg c58, if_pos c58]; done) | (simp [rf_wagonOf, c5, ew, c15, ej, c22_5, c58]; done) | (simp [rf_wagonOf, c5, ew, c15, ej, if_pos c22_5, if_neg (not_not_intro c22_5), if_neg c58, if_pos c58]; done) | contradiction | rfl) (by first | with_reducible rfl | (simp only [rf_wagonOf, c5, ew, c15, ej, c22_5, c58]; done) | (simp only [rf_wagonOf, c5, ew, c15, ej, if_pos c22_5, if_neg (not_not_intro c22_5), if_neg c58, if_pos c58]; done) | (simp [rf_wagonOf, c5, ew, c15, ej, c22_5, c58]; done) | (simp [rf_wagonOf, c5, ew, c15, ej, if_pos c22_5, if_neg (not_not_intro c22_5), if_neg c58, if_pos c58]; done) | contradiction | rfl)
        · skip
          refine ka_aload_n hC dX7_wagonOf_61 rfl ?_
          refine ka_iload_n hC dX7_wagonOf_62 rfl ?_
          refine ka_iconst (v := 5) hC dX7_wagonOf_63 rfl ?_
          refine ka_callV hC (m_X7_of hG w 5 hw (by decide) rfl rfl) (ka_Rc_model ) rfl ka_q_ml_X7_40 ka_q_im_X7_of ka_q_se_X7_of ka_q_in_X7 ka_q_co_X7_of ky_X7_of (by decide) (by decide) (Nat.le_of_ble_eq_true rfl) rfl dX7_wagonOf_64 ?_
          refine ka_goto (tgt := 72) hC dX7_wagonOf_67 (by decide) ?_
          exact ka_iret hC hR dX7_wagonOf_72 (by first | with_reducible rfl | (simp only [rf_wagonOf, c5, ew, c15, ej, c22_5, c58]; done) | (simp only [rf_wagonOf, c5, ew, c15, ej, if_pos c22_5, if_neg (not_not_intro c22_5), if_pos c58, if_neg (not_not_intro c58)]; done) | (simp [rf_wagonOf, c5, ew, c15, ej, c22_5, c58]; done) | (simp [rf_wagonOf, c5, ew, c15, ej, if_pos c22_5, if_neg (not_not_intro c22_5), if_pos c58, if_neg (not_not_intro c58)]; done) | contradiction | rfl) (by first | with_reducible rfl | (simp only [rf_wagonOf, c5, ew, c15, ej, c22_5, c58]; done) | (simp only [rf_wagonOf, c5, ew, c15, ej, if_pos c22_5, if_neg (not_not_intro c22_5), if_pos c58, if_neg (not_not_intro c58)]; done) | (simp [rf_wagonOf, c5, ew, c15, ej, c22_5, c58]; done) | (simp [rf_wagonOf, c5, ew, c15, ej, if_pos c22_5, if_neg (not_not_intro c22_5), if_pos c58, if_neg (not_not_intro c58)]; done) | contradiction | rfl)
      by_cases c22_6 : y = 6
      · skip
        refine ka_tsIn (tgt := 73) hC dX7_wagonOf_22 (by rw [c22_6]; decide) (by rw [c22_6]; decide) (by rw [c22_6]; rfl) (by decide) ?_
        refine ka_aload_n hC dX7_wagonOf_73 rfl ?_
        refine ka_iload_n hC dX7_wagonOf_74 rfl ?_
        refine ka_callV hC (m_X7_daysOf hG (by first | assumption | decide | exact wgIx_lt _ | exact plIx_lt _ | exact sp_recQ_lt | omega)) (ka_Rc_model ) rfl ka_q_ml_X7_133 ka_q_im_X7_daysOf ka_q_se_X7_daysOf ka_q_in_X7 ka_q_co_X7_daysOf ky_X7_daysOf (by decide) (by decide) (Nat.le_of_ble_eq_true rfl) rfl dX7_wagonOf_75 ?_
        exact ka_iret hC hR dX7_wagonOf_78 (by first | with_reducible rfl | (simp only [rf_wagonOf, c5, ew, c15, ej, c22_5, c22_6]; done) | (simp only [rf_wagonOf, c5, ew, c15, ej, if_neg c22_5, if_pos c22_5, if_pos c22_6, if_neg (not_not_intro c22_6)]; done) | (simp [rf_wagonOf, c5, ew, c15, ej, c22_5, c22_6]; done) | (simp [rf_wagonOf, c5, ew, c15, ej, if_neg c22_5, if_pos c22_5, if_pos c22_6, if_neg (not_not_intro c22_6)]; done) | contradiction | rfl) (by first | with_reducible rfl | (simp only [rf_wagonOf, c5, ew, c15, ej, c22_5, c22_6]; done) | (simp only [rf_wagonOf, c5, ew, c15, ej, if_neg c22_5, if_pos c22_5, if_pos c22_6, if_neg (not_not_intro c22_6)]; done) | (simp [rf_wagonOf, c5, ew, c15, ej, c22_5, c22_6]; done) | (simp [rf_wagonOf, c5, ew, c15, ej, if_neg c22_5, if_pos c22_5, if_pos c22_6, if_neg (not_not_intro c22_6)]; done) | contradiction | rfl)
      by_cases c22_7 : y = 7
      · skip
        refine ka_tsIn (tgt := 79) hC dX7_wagonOf_22 (by rw [c22_7]; decide) (by rw [c22_7]; decide) (by rw [c22_7]; rfl) (by decide) ?_
        refine ka_aload_n hC dX7_wagonOf_79 rfl ?_
        refine ka_iload_n hC dX7_wagonOf_80 rfl ?_
        refine ka_callV hC (m_X7_whyNot hG (by first | assumption | decide | exact wgIx_lt _ | exact plIx_lt _ | exact sp_recQ_lt | omega) (by first | assumption | decide | exact wgIx_lt _ | exact plIx_lt _ | exact sp_recQ_lt | omega)) (ka_Rc_model ) rfl ka_q_ml_X7_89 ka_q_im_X7_whyNot ka_q_se_X7_whyNot ka_q_in_X7 ka_q_co_X7_whyNot ky_X7_whyNot (by decide) (by decide) (Nat.le_of_ble_eq_true rfl) rfl dX7_wagonOf_81 ?_
        exact ka_iret hC hR dX7_wagonOf_84 (by first | with_reducible rfl | (simp only [rf_wagonOf, c5, ew, c15, ej, c22_5, c22_6, c22_7]; done) | (simp only [rf_wagonOf, c5, ew, c15, ej, if_neg c22_5, if_pos c22_5, if_neg c22_6, if_pos c22_6, if_pos c22_7, if_neg (not_not_intro c22_7)]; done) | (simp [rf_wagonOf, c5, ew, c15, ej, c22_5, c22_6, c22_7]; done) | (simp [rf_wagonOf, c5, ew, c15, ej, if_neg c22_5, if_pos c22_5, if_neg c22_6, if_pos c22_6, if_pos c22_7, if_neg (not_not_intro c22_7)]; done) | contradiction | rfl) (by first | with_reducible rfl | (simp only [rf_wagonOf, c5, ew, c15, ej, c22_5, c22_6, c22_7]; done) | (simp only [rf_wagonOf, c5, ew, c15, ej, if_neg c22_5, if_pos c22_5, if_neg c22_6, if_pos c22_6, if_pos c22_7, if_neg (not_not_intro c22_7)]; done) | (simp [rf_wagonOf, c5, ew, c15, ej, c22_5, c22_6, c22_7]; done) | (simp [rf_wagonOf, c5, ew, c15, ej, if_neg c22_5, if_pos c22_5, if_neg c22_6, if_pos c22_6, if_pos c22_7, if_neg (not_not_intro c22_7)]; done) | contradiction | rfl)
      by_cases c22_8 : y = 8
      · skip
        refine ka_tsIn (tgt := 85) hC dX7_wagonOf_22 (by rw [c22_8]; decide) (by rw [c22_8]; decide) (by rw [c22_8]; rfl) (by decide) ?_
        refine ka_aload_n hC dX7_wagonOf_85 rfl ?_
        refine ka_iload_n hC dX7_wagonOf_86 rfl ?_
        refine ka_bipush (v := 7) hC dX7_wagonOf_87 rfl ?_
        refine ka_callV hC (m_X7_of hG w 7 hw (by decide) rfl rfl) (ka_Rc_model ) rfl ka_q_ml_X7_40 ka_q_im_X7_of ka_q_se_X7_of ka_q_in_X7 ka_q_co_X7_of ky_X7_of (by decide) (by decide) (Nat.le_of_ble_eq_true rfl) rfl dX7_wagonOf_89 ?_
        exact ka_iret hC hR dX7_wagonOf_92 (by first | with_reducible rfl | (simp only [rf_wagonOf, c5, ew, c15, ej, c22_5, c22_6, c22_7, c22_8]; done) | (simp only [rf_wagonOf, c5, ew, c15, ej, if_neg c22_5, if_pos c22_5, if_neg c22_6, if_pos c22_6, if_neg c22_7, if_pos c22_7, if_pos c22_8, if_neg (not_not_intro c22_8)]; done) | (simp [rf_wagonOf, c5, ew, c15, ej, c22_5, c22_6, c22_7, c22_8]; done) | (simp [rf_wagonOf, c5, ew, c15, ej, if_neg c22_5, if_pos c22_5, if_neg c22_6, if_pos c22_6, if_neg c22_7, if_pos c22_7, if_pos c22_8, if_neg (not_not_intro c22_8)]; done) | contradiction | rfl) (by first | with_reducible rfl | (simp only [rf_wagonOf, c5, ew, c15, ej, c22_5, c22_6, c22_7, c22_8]; done) | (simp only [rf_wagonOf, c5, ew, c15, ej, if_neg c22_5, if_pos c22_5, if_neg c22_6, if_pos c22_6, if_neg c22_7, if_pos c22_7, if_pos c22_8, if_neg (not_not_intro c22_8)]; done) | (simp [rf_wagonOf, c5, ew, c15, ej, c22_5, c22_6, c22_7, c22_8]; done) | (simp [rf_wagonOf, c5, ew, c15, ej, if_neg c22_5, if_pos c22_5, if_neg c22_6, if_pos c22_6, if_neg c22_7, if_pos c22_7, if_pos c22_8, if_neg (not_not_intro c22_8)]; done) | contradiction | rfl)
      refine ka_tsOut (tgt := 93) hC dX7_wagonOf_22 (by
          have t22_5 : ¬ (y).toInt = 5 := fun e => c22_5 (Int32.toInt_inj.mp (e.trans (by decide)))
          have t22_6 : ¬ (y).toInt = 6 := fun e => c22_6 (Int32.toInt_inj.mp (e.trans (by decide)))
          have t22_7 : ¬ (y).toInt = 7 := fun e => c22_7 (Int32.toInt_inj.mp (e.trans (by decide)))
          have t22_8 : ¬ (y).toInt = 8 := fun e => c22_8 (Int32.toInt_inj.mp (e.trans (by decide)))
          omega) (by decide) ?_
      refine ka_aload_n hC dX7_wagonOf_93 rfl ?_
      refine ka_iload_n hC dX7_wagonOf_94 rfl ?_
      refine ka_iload_n hC dX7_wagonOf_95 rfl ?_
      refine ka_callV hC (m_X7_of hG w j hw (by omega) rfl ey) (ka_Rc_model ) rfl ka_q_ml_X7_40 ka_q_im_X7_of ka_q_se_X7_of ka_q_in_X7 ka_q_co_X7_of ky_X7_of (by decide) (by decide) (Nat.le_of_ble_eq_true rfl) rfl dX7_wagonOf_96 ?_
      exact ka_iret hC hR dX7_wagonOf_99 (by first | with_reducible rfl | (simp only [rf_wagonOf, c5, ew, c15, ej, c22_5, c22_6, c22_7, c22_8]; done) | (simp only [rf_wagonOf, c5, ew, c15, ej, if_neg c22_5, if_pos c22_5, if_neg c22_6, if_pos c22_6, if_neg c22_7, if_pos c22_7, if_neg c22_8, if_pos c22_8]; done) | (simp [rf_wagonOf, c5, ew, c15, ej, c22_5, c22_6, c22_7, c22_8]; done) | (simp [rf_wagonOf, c5, ew, c15, ej, if_neg c22_5, if_pos c22_5, if_neg c22_6, if_pos c22_6, if_neg c22_7, if_pos c22_7, if_neg c22_8, if_pos c22_8]; done) | contradiction | rfl) (by first | with_reducible rfl | (simp only [rf_wagonOf, c5, ew, c15, ej, c22_5, c22_6, c22_7, c22_8]; done) | (simp only [rf_wagonOf, c5, ew, c15, ej, if_neg c22_5, if_pos c22_5, if_neg c22_6, if_pos c22_6, if_neg c22_7, if_pos c22_7, if_neg c22_8, if_pos c22_8]; done) | (simp [rf_wagonOf, c5, ew, c15, ej, c22_5, c22_6, c22_7, c22_8]; done) | (simp [rf_wagonOf, c5, ew, c15, ej, if_neg c22_5, if_pos c22_5, if_neg c22_6, if_pos c22_6, if_neg c22_7, if_pos c22_7, if_neg c22_8, if_pos c22_8]; done) | contradiction | rfl)
    · skip
      refine ka_ldc hC ka_q_cn_X7_28 dX7_wagonOf_18 ?_
      exact ka_iret hC hR dX7_wagonOf_20 (by first | with_reducible rfl | (simp only [rf_wagonOf, c5, ew, c15]; done) | (simp only [rf_wagonOf, c5, ew, c15]; done) | (simp [rf_wagonOf, c5, ew, c15]; done) | (simp [rf_wagonOf, c5, ew, c15]; done) | contradiction | rfl) (by first | with_reducible rfl | (simp only [rf_wagonOf, c5, ew, c15]; done) | (simp only [rf_wagonOf, c5, ew, c15]; done) | (simp [rf_wagonOf, c5, ew, c15]; done) | (simp [rf_wagonOf, c5, ew, c15]; done) | contradiction | rfl)
theorem ky_X7_standing : ka_y yX7_standing 2 := by unfold ka_y; decide +kernel
set_option maxHeartbeats 4000000 in
set_option maxRecDepth 100000 in
theorem m_X7_standing {G : ka_G} (hG : ka_AD G) {V : ka_W} {M : ka_P} {S : ka_F} (hn : cn (S 1) ≤ 20) {p l : Int32}  : ka_M G yX7_standing cX7_standing 5 (some FieldType.int) 2 [.ref (ka_ad G 9 0), .int p, .int l] (ka_ms V M S) (some (.int (rf_standX S p l (cn (S 1))))) (ka_ms V M S) := by
  refine ka_entry hG ka_pn_X7 (ka_cat1 rfl) (Nat.le_of_ble_eq_true rfl) (fun X hC hR => ?_)
  refine ka_iconst (v := 0) hC dX7_standing_0 rfl ?_
  refine ka_istore_n_p3 hC dX7_standing_1 (by decide) ?_
  refine ka_iconst (v := 0) hC dX7_standing_2 rfl ?_
  refine ka_istore_p4 hC dX7_standing_3 (by decide) ?_
  suffices H5 : ∀ jj i : Nat, i ≤ cn (S 1) → cn (S 1) - i < jj → ka_I G X (ka_ms V M S) 5 [.ref (ka_ad G 9 0), .int p, .int l, .int (rf_standX S p l i), .int (nI i)] [] from ka_I.back 5 (by first | with_reducible rfl | (simp only [rf_standX_0, rf_standX_s, rf_standAt, nI_1]; done) | (simp only [rf_standX_0, rf_standX_s, rf_standAt, nI_1]; done) | (simp [rf_standX_0, rf_standX_s, rf_standAt, nI_1]; done) | (simp [rf_standX_0, rf_standX_s, rf_standAt, nI_1]; done) | contradiction | rfl) (by first | with_reducible rfl | (simp only [rf_standX_0, rf_standX_s, rf_standAt, nI_1]; done) | (simp only [rf_standX_0, rf_standX_s, rf_standAt, nI_1]; done) | (simp [rf_standX_0, rf_standX_s, rf_standAt, nI_1]; done) | (simp [rf_standX_0, rf_standX_s, rf_standAt, nI_1]; done) | contradiction | rfl) (H5 (cn (S 1) + 1) 0 (by omega) (by omega))
  intro j5
  induction j5 with
  | zero => intro i h1 h2 ; exact absurd h2 (Nat.not_lt_zero _)
  | succ j5 ih5 =>
    intro i hle5 hlt5 
    refine ka_iload hC dX7_standing_5 rfl ?_
    refine ka_aload_n hC dX7_standing_7 rfl ?_
    refine kg_X7_7  hC dX7_standing_8 ?_
    refine ka_iconst (v := 1) hC dX7_standing_11 rfl ?_
    refine km_ld 1 (by decide) rfl hC dX7_standing_12 ?_
    refine ka_icmp_ge (tgt := 54) hC dX7_standing_13 (by decide) (fun c13 => ?_) (fun c13 => ?_)
    · skip
      obtain rfl : i = cn (S 1) := nlt_cn hle5 c13
      refine ka_iload_n hC dX7_standing_54 rfl ?_
      exact ka_iret hC hR dX7_standing_55 (by first | with_reducible rfl | (simp only [rf_standX_0, rf_standX_s, rf_standAt, nI_1, c13]; done) | (simp only [rf_standX_0, rf_standX_s, rf_standAt, nI_1, if_neg c13, if_pos c13]; done) | (simp [rf_standX_0, rf_standX_s, rf_standAt, nI_1, c13]; done) | (simp [rf_standX_0, rf_standX_s, rf_standAt, nI_1, if_neg c13, if_pos c13]; done) | contradiction | rfl) (by first | with_reducible rfl | (simp only [rf_standX_0, rf_standX_s, rf_standAt, nI_1, c13]; done) | (simp only [rf_standX_0, rf_standX_s, rf_standAt, nI_1, if_neg c13, if_pos c13]; done) | (simp [rf_standX_0, rf_standX_s, rf_standAt, nI_1, c13]; done) | (simp [rf_standX_0, rf_standX_s, rf_standAt, nI_1, if_neg c13, if_pos c13]; done) | contradiction | rfl)
    · skip
      have hi : i < cn (S 1) := lt_cn hle5 c13
      have hi20 : i < 20 := Nat.lt_of_lt_of_le hi hn
      refine ka_iload_n hC dX7_standing_16 rfl ?_
      refine ka_aload_n hC dX7_standing_17 rfl ?_
      refine ka_iload hC dX7_standing_18 rfl ?_
      refine ka_iload_n hC dX7_standing_20 rfl ?_
      refine ka_callV hC (m_X7_stands hG (by first | assumption | decide | exact wgIx_lt _ | exact plIx_lt _ | exact sp_recQ_lt | omega)) (ka_Rc_model ) rfl ka_q_ml_X7_94 ka_q_im_X7_stands ka_q_se_X7_stands ka_q_in_X7 ka_q_co_X7_stands ky_X7_stands (by decide) (by decide) (Nat.le_of_ble_eq_true rfl) rfl dX7_standing_21 ?_
      refine ka_if_eq_b (tgt := 45) hC dX7_standing_24 (by decide) (fun c24 => ?_) (fun c24 => ?_)
      · skip
        refine ka_iconst (v := 0) hC dX7_standing_45 rfl ?_
        refine ka_ior hC dX7_standing_46 ?_
        refine ka_istore_n_s3 hC dX7_standing_47 (by decide) ?_
        refine ka_iinc_4 (v := 1) hC dX7_standing_48 rfl (by decide) ?_
        refine ka_goto (tgt := 5) hC dX7_standing_51 (by decide) ?_
        exact ka_I.back 5 (by first | with_reducible rfl | (simp only [rf_standX_0, rf_standX_s, rf_standAt, nI_1, c13, c24]; done) | (simp only [rf_standX_0, rf_standX_s, rf_standAt, nI_1, if_pos c13, if_neg (not_not_intro c13), c24]; done) | (simp [rf_standX_0, rf_standX_s, rf_standAt, nI_1, c13, c24]; done) | (simp [rf_standX_0, rf_standX_s, rf_standAt, nI_1, if_pos c13, if_neg (not_not_intro c13), c24]; done) | contradiction | rfl) (by first | with_reducible rfl | (simp only [rf_standX_0, rf_standX_s, rf_standAt, nI_1, c13, c24]; done) | (simp only [rf_standX_0, rf_standX_s, rf_standAt, nI_1, if_pos c13, if_neg (not_not_intro c13), c24]; done) | (simp [rf_standX_0, rf_standX_s, rf_standAt, nI_1, c13, c24]; done) | (simp [rf_standX_0, rf_standX_s, rf_standAt, nI_1, if_pos c13, if_neg (not_not_intro c13), c24]; done) | contradiction | rfl) (ih5 (i + 1) (by omega) (by omega))
      · skip
        refine ka_aload_n hC dX7_standing_27 rfl ?_
        refine ka_iload hC dX7_standing_28 rfl ?_
        refine ka_iconst (v := 2) hC dX7_standing_30 rfl ?_
        refine ka_callV hC (m_X7_of hG i 2 hi20 (by decide) rfl rfl) (ka_Rc_model ) rfl ka_q_ml_X7_40 ka_q_im_X7_of ka_q_se_X7_of ka_q_in_X7 ka_q_co_X7_of ky_X7_of (by decide) (by decide) (Nat.le_of_ble_eq_true rfl) rfl dX7_standing_31 ?_
        refine ka_iload_n hC dX7_standing_34 rfl ?_
        refine ka_icmp_ne (tgt := 45) hC dX7_standing_35 (by decide) (fun c35 => ?_) (fun c35 => ?_)
        · skip
          refine ka_iconst (v := 0) hC dX7_standing_45 rfl ?_
          refine ka_ior hC dX7_standing_46 ?_
          refine ka_istore_n_s3 hC dX7_standing_47 (by decide) ?_
          refine ka_iinc_4 (v := 1) hC dX7_standing_48 rfl (by decide) ?_
          refine ka_goto (tgt := 5) hC dX7_standing_51 (by decide) ?_
          exact ka_I.back 5 (by first | with_reducible rfl | (simp only [rf_standX_0, rf_standX_s, rf_standAt, nI_1, c13, c24, c35]; done) | (simp only [rf_standX_0, rf_standX_s, rf_standAt, nI_1, if_pos c13, if_neg (not_not_intro c13), c24, if_neg c35, if_pos c35]; done) | (simp [rf_standX_0, rf_standX_s, rf_standAt, nI_1, c13, c24, c35]; done) | (simp [rf_standX_0, rf_standX_s, rf_standAt, nI_1, if_pos c13, if_neg (not_not_intro c13), c24, if_neg c35, if_pos c35]; done) | contradiction | rfl) (by first | with_reducible rfl | (simp only [rf_standX_0, rf_standX_s, rf_standAt, nI_1, c13, c24, c35]; done) | (simp only [rf_standX_0, rf_standX_s, rf_standAt, nI_1, if_pos c13, if_neg (not_not_intro c13), c24, if_neg c35, if_pos c35]; done) | (simp [rf_standX_0, rf_standX_s, rf_standAt, nI_1, c13, c24, c35]; done) | (simp [rf_standX_0, rf_standX_s, rf_standAt, nI_1, if_pos c13, if_neg (not_not_intro c13), c24, if_neg c35, if_pos c35]; done) | contradiction | rfl) (ih5 (i + 1) (by omega) (by omega))
        · skip
          refine ka_iconst (v := 1) hC dX7_standing_38 rfl ?_
          refine ka_iload hC dX7_standing_39 rfl ?_
          refine ka_ishl hC dX7_standing_41 ?_
          refine ka_goto (tgt := 46) hC dX7_standing_42 (by decide) ?_
          refine ka_ior hC dX7_standing_46 ?_
          refine ka_istore_n_s3 hC dX7_standing_47 (by decide) ?_
          refine ka_iinc_4 (v := 1) hC dX7_standing_48 rfl (by decide) ?_
          refine ka_goto (tgt := 5) hC dX7_standing_51 (by decide) ?_
          exact ka_I.back 5 (by first | with_reducible rfl | (simp only [rf_standX_0, rf_standX_s, rf_standAt, nI_1, c13, c24, c35]; done) | (simp only [rf_standX_0, rf_standX_s, rf_standAt, nI_1, if_pos c13, if_neg (not_not_intro c13), c24, if_pos c35, if_neg (not_not_intro c35)]; done) | (simp [rf_standX_0, rf_standX_s, rf_standAt, nI_1, c13, c24, c35]; done) | (simp [rf_standX_0, rf_standX_s, rf_standAt, nI_1, if_pos c13, if_neg (not_not_intro c13), c24, if_pos c35, if_neg (not_not_intro c35)]; done) | contradiction | rfl) (by first | with_reducible rfl | (simp only [rf_standX_0, rf_standX_s, rf_standAt, nI_1, c13, c24, c35]; done) | (simp only [rf_standX_0, rf_standX_s, rf_standAt, nI_1, if_pos c13, if_neg (not_not_intro c13), c24, if_pos c35, if_neg (not_not_intro c35)]; done) | (simp [rf_standX_0, rf_standX_s, rf_standAt, nI_1, c13, c24, c35]; done) | (simp [rf_standX_0, rf_standX_s, rf_standAt, nI_1, if_pos c13, if_neg (not_not_intro c13), c24, if_pos c35, if_neg (not_not_intro c35)]; done) | contradiction | rfl) (ih5 (i + 1) (by omega) (by omega))
theorem ky_X7_going : ka_y yX7_going 1 := by unfold ka_y; decide +kernel
set_option maxHeartbeats 4000000 in
set_option maxRecDepth 100000 in
theorem m_X7_going {G : ka_G} (hG : ka_AD G) {V : ka_W} {M : ka_P} {S : ka_F} (hn : cn (S 1) ≤ 20) {p : Int32}  : ka_M G yX7_going cX7_going 4 (some FieldType.int) 1 [.ref (ka_ad G 9 0), .int p] (ka_ms V M S) (some (.int (rf_goX S p (cn (S 1))))) (ka_ms V M S) := by
  refine ka_entry hG ka_pn_X7 (ka_cat1 rfl) (Nat.le_of_ble_eq_true rfl) (fun X hC hR => ?_)
  refine ka_iconst (v := 0) hC dX7_going_0 rfl ?_
  refine ka_istore_n_p2 hC dX7_going_1 (by decide) ?_
  refine ka_iconst (v := 0) hC dX7_going_2 rfl ?_
  refine ka_istore_n_p3 hC dX7_going_3 (by decide) ?_
  suffices H4 : ∀ jj i : Nat, i ≤ cn (S 1) → cn (S 1) - i < jj → ka_I G X (ka_ms V M S) 4 [.ref (ka_ad G 9 0), .int p, .int (rf_goX S p i), .int (nI i)] [] from ka_I.back 4 (by first | with_reducible rfl | (simp only [rf_goX_0, rf_goX_s, rf_goAt, nI_1]; done) | (simp only [rf_goX_0, rf_goX_s, rf_goAt, nI_1]; done) | (simp [rf_goX_0, rf_goX_s, rf_goAt, nI_1]; done) | (simp [rf_goX_0, rf_goX_s, rf_goAt, nI_1]; done) | contradiction | rfl) (by first | with_reducible rfl | (simp only [rf_goX_0, rf_goX_s, rf_goAt, nI_1]; done) | (simp only [rf_goX_0, rf_goX_s, rf_goAt, nI_1]; done) | (simp [rf_goX_0, rf_goX_s, rf_goAt, nI_1]; done) | (simp [rf_goX_0, rf_goX_s, rf_goAt, nI_1]; done) | contradiction | rfl) (H4 (cn (S 1) + 1) 0 (by omega) (by omega))
  intro j4
  induction j4 with
  | zero => intro i h1 h2 ; exact absurd h2 (Nat.not_lt_zero _)
  | succ j4 ih4 =>
    intro i hle4 hlt4 
    refine ka_iload_n hC dX7_going_4 rfl ?_
    refine ka_aload_n hC dX7_going_5 rfl ?_
    refine kg_X7_7  hC dX7_going_6 ?_
    refine ka_iconst (v := 1) hC dX7_going_9 rfl ?_
    refine km_ld 1 (by decide) rfl hC dX7_going_10 ?_
    refine ka_icmp_ge (tgt := 50) hC dX7_going_11 (by decide) (fun c11 => ?_) (fun c11 => ?_)
    · skip
      obtain rfl : i = cn (S 1) := nlt_cn hle4 c11
      refine ka_iload_n hC dX7_going_50 rfl ?_
      exact ka_iret hC hR dX7_going_51 (by first | with_reducible rfl | (simp only [rf_goX_0, rf_goX_s, rf_goAt, nI_1, c11]; done) | (simp only [rf_goX_0, rf_goX_s, rf_goAt, nI_1, if_neg c11, if_pos c11]; done) | (simp [rf_goX_0, rf_goX_s, rf_goAt, nI_1, c11]; done) | (simp [rf_goX_0, rf_goX_s, rf_goAt, nI_1, if_neg c11, if_pos c11]; done) | contradiction | rfl) (by first | with_reducible rfl | (simp only [rf_goX_0, rf_goX_s, rf_goAt, nI_1, c11]; done) | (simp only [rf_goX_0, rf_goX_s, rf_goAt, nI_1, if_neg c11, if_pos c11]; done) | (simp [rf_goX_0, rf_goX_s, rf_goAt, nI_1, c11]; done) | (simp [rf_goX_0, rf_goX_s, rf_goAt, nI_1, if_neg c11, if_pos c11]; done) | contradiction | rfl)
    · skip
      have hi : i < cn (S 1) := lt_cn hle4 c11
      have hi20 : i < 20 := Nat.lt_of_lt_of_le hi hn
      refine ka_iload_n hC dX7_going_14 rfl ?_
      refine ka_aload_n hC dX7_going_15 rfl ?_
      refine ka_iload_n hC dX7_going_16 rfl ?_
      refine ka_iconst (v := 3) hC dX7_going_17 rfl ?_
      refine ka_callV hC (m_X7_of hG i 3 hi20 (by decide) rfl rfl) (ka_Rc_model ) rfl ka_q_ml_X7_40 ka_q_im_X7_of ka_q_se_X7_of ka_q_in_X7 ka_q_co_X7_of ky_X7_of (by decide) (by decide) (Nat.le_of_ble_eq_true rfl) rfl dX7_going_18 ?_
      refine ka_iconst (v := 1) hC dX7_going_21 rfl ?_
      refine ka_icmp_ne (tgt := 41) hC dX7_going_22 (by decide) (fun c22 => ?_) (fun c22 => ?_)
      · skip
        refine ka_iconst (v := 0) hC dX7_going_41 rfl ?_
        refine ka_ior hC dX7_going_42 ?_
        refine ka_istore_n_s2 hC dX7_going_43 (by decide) ?_
        refine ka_iinc_3 (v := 1) hC dX7_going_44 rfl (by decide) ?_
        refine ka_goto (tgt := 4) hC dX7_going_47 (by decide) ?_
        exact ka_I.back 4 (by first | with_reducible rfl | (simp only [rf_goX_0, rf_goX_s, rf_goAt, nI_1, c11, c22]; done) | (simp only [rf_goX_0, rf_goX_s, rf_goAt, nI_1, if_pos c11, if_neg (not_not_intro c11), if_neg c22, if_pos c22]; done) | (simp [rf_goX_0, rf_goX_s, rf_goAt, nI_1, c11, c22]; done) | (simp [rf_goX_0, rf_goX_s, rf_goAt, nI_1, if_pos c11, if_neg (not_not_intro c11), if_neg c22, if_pos c22]; done) | contradiction | rfl) (by first | with_reducible rfl | (simp only [rf_goX_0, rf_goX_s, rf_goAt, nI_1, c11, c22]; done) | (simp only [rf_goX_0, rf_goX_s, rf_goAt, nI_1, if_pos c11, if_neg (not_not_intro c11), if_neg c22, if_pos c22]; done) | (simp [rf_goX_0, rf_goX_s, rf_goAt, nI_1, c11, c22]; done) | (simp [rf_goX_0, rf_goX_s, rf_goAt, nI_1, if_pos c11, if_neg (not_not_intro c11), if_neg c22, if_pos c22]; done) | contradiction | rfl) (ih4 (i + 1) (by omega) (by omega))
      · skip
        refine ka_aload_n hC dX7_going_25 rfl ?_
        refine ka_iload_n hC dX7_going_26 rfl ?_
        refine ka_iconst (v := 1) hC dX7_going_27 rfl ?_
        refine ka_callV hC (m_X7_of hG i 1 hi20 (by decide) rfl rfl) (ka_Rc_model ) rfl ka_q_ml_X7_40 ka_q_im_X7_of ka_q_se_X7_of ka_q_in_X7 ka_q_co_X7_of ky_X7_of (by decide) (by decide) (Nat.le_of_ble_eq_true rfl) rfl dX7_going_28 ?_
        refine ka_iload_n hC dX7_going_31 rfl ?_
        refine ka_icmp_ne (tgt := 41) hC dX7_going_32 (by decide) (fun c32 => ?_) (fun c32 => ?_)
        · skip
          refine ka_iconst (v := 0) hC dX7_going_41 rfl ?_
          refine ka_ior hC dX7_going_42 ?_
          refine ka_istore_n_s2 hC dX7_going_43 (by decide) ?_
          refine ka_iinc_3 (v := 1) hC dX7_going_44 rfl (by decide) ?_
          refine ka_goto (tgt := 4) hC dX7_going_47 (by decide) ?_
          exact ka_I.back 4 (by first | with_reducible rfl | (simp only [rf_goX_0, rf_goX_s, rf_goAt, nI_1, c11, c22, c32]; done) | (simp only [rf_goX_0, rf_goX_s, rf_goAt, nI_1, if_pos c11, if_neg (not_not_intro c11), if_pos c22, if_neg (not_not_intro c22), if_neg c32, if_pos c32]; done) | (simp [rf_goX_0, rf_goX_s, rf_goAt, nI_1, c11, c22, c32]; done) | (simp [rf_goX_0, rf_goX_s, rf_goAt, nI_1, if_pos c11, if_neg (not_not_intro c11), if_pos c22, if_neg (not_not_intro c22), if_neg c32, if_pos c32]; done) | contradiction | rfl) (by first | with_reducible rfl | (simp only [rf_goX_0, rf_goX_s, rf_goAt, nI_1, c11, c22, c32]; done) | (simp only [rf_goX_0, rf_goX_s, rf_goAt, nI_1, if_pos c11, if_neg (not_not_intro c11), if_pos c22, if_neg (not_not_intro c22), if_neg c32, if_pos c32]; done) | (simp [rf_goX_0, rf_goX_s, rf_goAt, nI_1, c11, c22, c32]; done) | (simp [rf_goX_0, rf_goX_s, rf_goAt, nI_1, if_pos c11, if_neg (not_not_intro c11), if_pos c22, if_neg (not_not_intro c22), if_neg c32, if_pos c32]; done) | contradiction | rfl) (ih4 (i + 1) (by omega) (by omega))
        · skip
          refine ka_iconst (v := 1) hC dX7_going_35 rfl ?_
          refine ka_iload_n hC dX7_going_36 rfl ?_
          refine ka_ishl hC dX7_going_37 ?_
          refine ka_goto (tgt := 42) hC dX7_going_38 (by decide) ?_
          refine ka_ior hC dX7_going_42 ?_
          refine ka_istore_n_s2 hC dX7_going_43 (by decide) ?_
          refine ka_iinc_3 (v := 1) hC dX7_going_44 rfl (by decide) ?_
          refine ka_goto (tgt := 4) hC dX7_going_47 (by decide) ?_
          exact ka_I.back 4 (by first | with_reducible rfl | (simp only [rf_goX_0, rf_goX_s, rf_goAt, nI_1, c11, c22, c32]; done) | (simp only [rf_goX_0, rf_goX_s, rf_goAt, nI_1, if_pos c11, if_neg (not_not_intro c11), if_pos c22, if_neg (not_not_intro c22), if_pos c32, if_neg (not_not_intro c32)]; done) | (simp [rf_goX_0, rf_goX_s, rf_goAt, nI_1, c11, c22, c32]; done) | (simp [rf_goX_0, rf_goX_s, rf_goAt, nI_1, if_pos c11, if_neg (not_not_intro c11), if_pos c22, if_neg (not_not_intro c22), if_pos c32, if_neg (not_not_intro c32)]; done) | contradiction | rfl) (by first | with_reducible rfl | (simp only [rf_goX_0, rf_goX_s, rf_goAt, nI_1, c11, c22, c32]; done) | (simp only [rf_goX_0, rf_goX_s, rf_goAt, nI_1, if_pos c11, if_neg (not_not_intro c11), if_pos c22, if_neg (not_not_intro c22), if_pos c32, if_neg (not_not_intro c32)]; done) | (simp [rf_goX_0, rf_goX_s, rf_goAt, nI_1, c11, c22, c32]; done) | (simp [rf_goX_0, rf_goX_s, rf_goAt, nI_1, if_pos c11, if_neg (not_not_intro c11), if_pos c22, if_neg (not_not_intro c22), if_pos c32, if_neg (not_not_intro c32)]; done) | contradiction | rfl) (ih4 (i + 1) (by omega) (by omega))
theorem ky_X7_owned : ka_y yX7_owned 1 := by unfold ka_y; decide +kernel
set_option maxHeartbeats 4000000 in
set_option maxRecDepth 100000 in
theorem m_X7_owned {G : ka_G} (hG : ka_AD G) {V : ka_W} {M : ka_P} {S : ka_F} (hn : cn (S 1) ≤ 20) {p : Int32}  : ka_M G yX7_owned cX7_owned 4 (some FieldType.int) 1 [.ref (ka_ad G 9 0), .int p] (ka_ms V M S) (some (.int (rf_ownX S p (cn (S 1))))) (ka_ms V M S) := by
  refine ka_entry hG ka_pn_X7 (ka_cat1 rfl) (Nat.le_of_ble_eq_true rfl) (fun X hC hR => ?_)
  refine ka_iconst (v := 0) hC dX7_owned_0 rfl ?_
  refine ka_istore_n_p2 hC dX7_owned_1 (by decide) ?_
  refine ka_iconst (v := 0) hC dX7_owned_2 rfl ?_
  refine ka_istore_n_p3 hC dX7_owned_3 (by decide) ?_
  suffices H4 : ∀ jj i : Nat, i ≤ cn (S 1) → cn (S 1) - i < jj → ka_I G X (ka_ms V M S) 4 [.ref (ka_ad G 9 0), .int p, .int (rf_ownX S p i), .int (nI i)] [] from ka_I.back 4 (by first | with_reducible rfl | (simp only [rf_ownX_0, rf_ownX_s, rf_ownAt, nI_1]; done) | (simp only [rf_ownX_0, rf_ownX_s, rf_ownAt, nI_1]; done) | (simp [rf_ownX_0, rf_ownX_s, rf_ownAt, nI_1]; done) | (simp [rf_ownX_0, rf_ownX_s, rf_ownAt, nI_1]; done) | contradiction | rfl) (by first | with_reducible rfl | (simp only [rf_ownX_0, rf_ownX_s, rf_ownAt, nI_1]; done) | (simp only [rf_ownX_0, rf_ownX_s, rf_ownAt, nI_1]; done) | (simp [rf_ownX_0, rf_ownX_s, rf_ownAt, nI_1]; done) | (simp [rf_ownX_0, rf_ownX_s, rf_ownAt, nI_1]; done) | contradiction | rfl) (H4 (cn (S 1) + 1) 0 (by omega) (by omega))
  intro j4
  induction j4 with
  | zero => intro i h1 h2 ; exact absurd h2 (Nat.not_lt_zero _)
  | succ j4 ih4 =>
    intro i hle4 hlt4 
    refine ka_iload_n hC dX7_owned_4 rfl ?_
    refine ka_aload_n hC dX7_owned_5 rfl ?_
    refine kg_X7_7  hC dX7_owned_6 ?_
    refine ka_iconst (v := 1) hC dX7_owned_9 rfl ?_
    refine km_ld 1 (by decide) rfl hC dX7_owned_10 ?_
    refine ka_icmp_ge (tgt := 40) hC dX7_owned_11 (by decide) (fun c11 => ?_) (fun c11 => ?_)
    · skip
      obtain rfl : i = cn (S 1) := nlt_cn hle4 c11
      refine ka_iload_n hC dX7_owned_40 rfl ?_
      exact ka_iret hC hR dX7_owned_41 (by first | with_reducible rfl | (simp only [rf_ownX_0, rf_ownX_s, rf_ownAt, nI_1, c11]; done) | (simp only [rf_ownX_0, rf_ownX_s, rf_ownAt, nI_1, if_neg c11, if_pos c11]; done) | (simp [rf_ownX_0, rf_ownX_s, rf_ownAt, nI_1, c11]; done) | (simp [rf_ownX_0, rf_ownX_s, rf_ownAt, nI_1, if_neg c11, if_pos c11]; done) | contradiction | rfl) (by first | with_reducible rfl | (simp only [rf_ownX_0, rf_ownX_s, rf_ownAt, nI_1, c11]; done) | (simp only [rf_ownX_0, rf_ownX_s, rf_ownAt, nI_1, if_neg c11, if_pos c11]; done) | (simp [rf_ownX_0, rf_ownX_s, rf_ownAt, nI_1, c11]; done) | (simp [rf_ownX_0, rf_ownX_s, rf_ownAt, nI_1, if_neg c11, if_pos c11]; done) | contradiction | rfl)
    · skip
      have hi : i < cn (S 1) := lt_cn hle4 c11
      have hi20 : i < 20 := Nat.lt_of_lt_of_le hi hn
      refine ka_iload_n hC dX7_owned_14 rfl ?_
      refine ka_aload_n hC dX7_owned_15 rfl ?_
      refine ka_iload_n hC dX7_owned_16 rfl ?_
      refine ka_iconst (v := 0) hC dX7_owned_17 rfl ?_
      refine ka_callV hC (m_X7_of hG i 0 hi20 (by decide) rfl rfl) (ka_Rc_model ) rfl ka_q_ml_X7_40 ka_q_im_X7_of ka_q_se_X7_of ka_q_in_X7 ka_q_co_X7_of ky_X7_of (by decide) (by decide) (Nat.le_of_ble_eq_true rfl) rfl dX7_owned_18 ?_
      refine ka_iload_n hC dX7_owned_21 rfl ?_
      refine ka_icmp_ne (tgt := 31) hC dX7_owned_22 (by decide) (fun c22 => ?_) (fun c22 => ?_)
      · skip
        refine ka_iconst (v := 0) hC dX7_owned_31 rfl ?_
        refine ka_ior hC dX7_owned_32 ?_
        refine ka_istore_n_s2 hC dX7_owned_33 (by decide) ?_
        refine ka_iinc_3 (v := 1) hC dX7_owned_34 rfl (by decide) ?_
        refine ka_goto (tgt := 4) hC dX7_owned_37 (by decide) ?_
        exact ka_I.back 4 (by first | with_reducible rfl | (simp only [rf_ownX_0, rf_ownX_s, rf_ownAt, nI_1, c11, c22]; done) | (simp only [rf_ownX_0, rf_ownX_s, rf_ownAt, nI_1, if_pos c11, if_neg (not_not_intro c11), if_neg c22, if_pos c22]; done) | (simp [rf_ownX_0, rf_ownX_s, rf_ownAt, nI_1, c11, c22]; done) | (simp [rf_ownX_0, rf_ownX_s, rf_ownAt, nI_1, if_pos c11, if_neg (not_not_intro c11), if_neg c22, if_pos c22]; done) | contradiction | rfl) (by first | with_reducible rfl | (simp only [rf_ownX_0, rf_ownX_s, rf_ownAt, nI_1, c11, c22]; done) | (simp only [rf_ownX_0, rf_ownX_s, rf_ownAt, nI_1, if_pos c11, if_neg (not_not_intro c11), if_neg c22, if_pos c22]; done) | (simp [rf_ownX_0, rf_ownX_s, rf_ownAt, nI_1, c11, c22]; done) | (simp [rf_ownX_0, rf_ownX_s, rf_ownAt, nI_1, if_pos c11, if_neg (not_not_intro c11), if_neg c22, if_pos c22]; done) | contradiction | rfl) (ih4 (i + 1) (by omega) (by omega))
      · skip
        refine ka_iconst (v := 1) hC dX7_owned_25 rfl ?_
        refine ka_iload_n hC dX7_owned_26 rfl ?_
        refine ka_ishl hC dX7_owned_27 ?_
        refine ka_goto (tgt := 32) hC dX7_owned_28 (by decide) ?_
        refine ka_ior hC dX7_owned_32 ?_
        refine ka_istore_n_s2 hC dX7_owned_33 (by decide) ?_
        refine ka_iinc_3 (v := 1) hC dX7_owned_34 rfl (by decide) ?_
        refine ka_goto (tgt := 4) hC dX7_owned_37 (by decide) ?_
        exact ka_I.back 4 (by first | with_reducible rfl | (simp only [rf_ownX_0, rf_ownX_s, rf_ownAt, nI_1, c11, c22]; done) | (simp only [rf_ownX_0, rf_ownX_s, rf_ownAt, nI_1, if_pos c11, if_neg (not_not_intro c11), if_pos c22, if_neg (not_not_intro c22)]; done) | (simp [rf_ownX_0, rf_ownX_s, rf_ownAt, nI_1, c11, c22]; done) | (simp [rf_ownX_0, rf_ownX_s, rf_ownAt, nI_1, if_pos c11, if_neg (not_not_intro c11), if_pos c22, if_neg (not_not_intro c22)]; done) | contradiction | rfl) (by first | with_reducible rfl | (simp only [rf_ownX_0, rf_ownX_s, rf_ownAt, nI_1, c11, c22]; done) | (simp only [rf_ownX_0, rf_ownX_s, rf_ownAt, nI_1, if_pos c11, if_neg (not_not_intro c11), if_pos c22, if_neg (not_not_intro c22)]; done) | (simp [rf_ownX_0, rf_ownX_s, rf_ownAt, nI_1, c11, c22]; done) | (simp [rf_ownX_0, rf_ownX_s, rf_ownAt, nI_1, if_pos c11, if_neg (not_not_intro c11), if_pos c22, if_neg (not_not_intro c22)]; done) | contradiction | rfl) (ih4 (i + 1) (by omega) (by omega))
theorem ky_X7_placeOf : ka_y yX7_placeOf 2 := by unfold ka_y; decide +kernel
set_option maxHeartbeats 4000000 in
set_option maxRecDepth 100000 in
theorem m_X7_placeOf {G : ka_G} (hG : ka_AD G) {V : ka_W} {M : ka_P} {S : ka_F} {D : Nat} (hM : MK D S) {x y : Int32}  : ka_M G yX7_placeOf cX7_placeOf 3 (some FieldType.int) 3 [.ref (ka_ad G 9 0), .int x, .int y] (ka_ms V M S) (some (.int (rf_placeOf S x y))) (ka_ms V M S) := by
  refine ka_entry hG ka_pn_X7 (ka_cat1 rfl) (Nat.le_of_ble_eq_true rfl) (fun X hC hR => ?_)
  refine ka_aload_n hC dX7_placeOf_0 rfl ?_
  refine ka_iload_n hC dX7_placeOf_1 rfl ?_
  refine ka_callV hC (m_X7_isPlace hG) (ka_Rc_model ) rfl ka_q_ml_X7_98 ka_q_im_X7_isPlace ka_q_se_X7_isPlace ka_q_in_X7 ka_q_co_X7_isPlace ky_X7_isPlace (by decide) (by decide) (Nat.le_of_ble_eq_true rfl) rfl dX7_placeOf_2 ?_
  refine ka_if_eq_b (tgt := 18) hC dX7_placeOf_5 (by decide) (fun c5 => ?_) (fun c5 => ?_)
  · skip
    refine ka_ldc hC ka_q_cn_X7_28 dX7_placeOf_18 ?_
    exact ka_iret hC hR dX7_placeOf_20 (by first | with_reducible rfl | (simp only [rf_placeOf, rf_placeOf2, c5]; done) | (simp only [rf_placeOf, rf_placeOf2, c5]; done) | (simp [rf_placeOf, rf_placeOf2, c5]; done) | (simp [rf_placeOf, rf_placeOf2, c5]; done) | contradiction | rfl) (by first | with_reducible rfl | (simp only [rf_placeOf, rf_placeOf2, c5]; done) | (simp only [rf_placeOf, rf_placeOf2, c5]; done) | (simp [rf_placeOf, rf_placeOf2, c5]; done) | (simp [rf_placeOf, rf_placeOf2, c5]; done) | contradiction | rfl)
  · skip
    obtain ⟨a, ha, rfl⟩ := rf_isPlace_of hM c5
    have ea : cn (nI a) = a := cn_nI (by omega)
    refine ka_iload_n hC dX7_placeOf_8 rfl ?_
    refine ka_iconst (v := 0) hC dX7_placeOf_9 rfl ?_
    refine ka_bipush (v := 9) hC dX7_placeOf_10 rfl ?_
    refine ka_callS hC (m_X7_in hG) ka_q_ml_X7_36 ka_q_st_X7_in ka_q_in_X7 ka_q_co_X7_in ky_X7_in (by decide) (by decide) (Nat.le_of_ble_eq_true rfl) rfl dX7_placeOf_12 ?_
    refine ka_if_ne_b (tgt := 21) hC dX7_placeOf_15 (by decide) (fun c15 => ?_) (fun c15 => ?_)
    · skip
      obtain ⟨j, hj, ey⟩ := kw_nat (n := 9) (by decide) c15
      refine ka_iload_n hC dX7_placeOf_21 rfl ?_
      refine ka_if_ne (tgt := 44) hC dX7_placeOf_22 (by decide) (fun c22 => ?_) (fun c22 => ?_)
      · skip
        refine ka_iload_n hC dX7_placeOf_44 rfl ?_
        by_cases c45_0 : y = 0
        · skip
          refine ka_tsIn (tgt := 105) hC dX7_placeOf_45 (by rw [c45_0]; decide) (by rw [c45_0]; decide) (by rw [c45_0]; rfl) (by decide) ?_
          have q := (rfl : (0:Nat) = 0)
          refine ka_aload_n hC dX7_placeOf_105 rfl ?_
          refine ka_iload_n hC dX7_placeOf_106 rfl ?_
          refine ka_iload_n hC dX7_placeOf_107 rfl ?_
          refine ka_callV hC (m_X7_has hG a (cn y) ha (rf_y01 ey (by first | exact Or.inl c45_0 | exact Or.inr c45_1)) rfl (rf_yc ey hj)) (ka_Rc_model ) rfl ka_q_ml_X7_48 ka_q_im_X7_has ka_q_se_X7_has ka_q_in_X7 ka_q_co_X7_has ky_X7_has (by decide) (by decide) (Nat.le_of_ble_eq_true rfl) rfl dX7_placeOf_108 ?_
          exact ka_iret hC hR dX7_placeOf_111 (by first | with_reducible rfl | (simp only [rf_placeOf, rf_placeOf2, c5, ea, c15, c22, c45_0]; done) | (simp only [rf_placeOf, rf_placeOf2, c5, ea, c15, if_neg c22, if_pos c22, if_pos c45_0, if_neg (not_not_intro c45_0)]; done) | (simp [rf_placeOf, rf_placeOf2, c5, ea, c15, c22, c45_0]; done) | (simp [rf_placeOf, rf_placeOf2, c5, ea, c15, if_neg c22, if_pos c22, if_pos c45_0, if_neg (not_not_intro c45_0)]; done) | contradiction | rfl) (by first | with_reducible rfl | (simp only [rf_placeOf, rf_placeOf2, c5, ea, c15, c22, c45_0]; done) | (simp only [rf_placeOf, rf_placeOf2, c5, ea, c15, if_neg c22, if_pos c22, if_pos c45_0, if_neg (not_not_intro c45_0)]; done) | (simp [rf_placeOf, rf_placeOf2, c5, ea, c15, c22, c45_0]; done) | (simp [rf_placeOf, rf_placeOf2, c5, ea, c15, if_neg c22, if_pos c22, if_pos c45_0, if_neg (not_not_intro c45_0)]; done) | contradiction | rfl)
        by_cases c45_1 : y = 1
        · skip
          refine ka_tsIn (tgt := 105) hC dX7_placeOf_45 (by rw [c45_1]; decide) (by rw [c45_1]; decide) (by rw [c45_1]; rfl) (by decide) ?_
          refine ka_aload_n hC dX7_placeOf_105 rfl ?_
          refine ka_iload_n hC dX7_placeOf_106 rfl ?_
          refine ka_iload_n hC dX7_placeOf_107 rfl ?_
          refine ka_callV hC (m_X7_has hG a (cn y) ha (rf_y01 ey (by first | exact Or.inl c45_0 | exact Or.inr c45_1)) rfl (rf_yc ey hj)) (ka_Rc_model ) rfl ka_q_ml_X7_48 ka_q_im_X7_has ka_q_se_X7_has ka_q_in_X7 ka_q_co_X7_has ky_X7_has (by decide) (by decide) (Nat.le_of_ble_eq_true rfl) rfl dX7_placeOf_108 ?_
          exact ka_iret hC hR dX7_placeOf_111 (by first | with_reducible rfl | (simp only [rf_placeOf, rf_placeOf2, c5, ea, c15, c22, c45_0, c45_1]; done) | (simp only [rf_placeOf, rf_placeOf2, c5, ea, c15, if_neg c22, if_pos c22, if_neg c45_0, if_pos c45_0, if_pos c45_1, if_neg (not_not_intro c45_1)]; done) | (simp [rf_placeOf, rf_placeOf2, c5, ea, c15, c22, c45_0, c45_1]; done) | (simp [rf_placeOf, rf_placeOf2, c5, ea, c15, if_neg c22, if_pos c22, if_neg c45_0, if_pos c45_0, if_pos c45_1, if_neg (not_not_intro c45_1)]; done) | contradiction | rfl) (by first | with_reducible rfl | (simp only [rf_placeOf, rf_placeOf2, c5, ea, c15, c22, c45_0, c45_1]; done) | (simp only [rf_placeOf, rf_placeOf2, c5, ea, c15, if_neg c22, if_pos c22, if_neg c45_0, if_pos c45_0, if_pos c45_1, if_neg (not_not_intro c45_1)]; done) | (simp [rf_placeOf, rf_placeOf2, c5, ea, c15, c22, c45_0, c45_1]; done) | (simp [rf_placeOf, rf_placeOf2, c5, ea, c15, if_neg c22, if_pos c22, if_neg c45_0, if_pos c45_0, if_pos c45_1, if_neg (not_not_intro c45_1)]; done) | contradiction | rfl)
        by_cases c45_2 : y = 2
        · skip
          refine ka_tsIn (tgt := 84) hC dX7_placeOf_45 (by rw [c45_2]; decide) (by rw [c45_2]; decide) (by rw [c45_2]; rfl) (by decide) ?_
          refine ka_aload_n hC dX7_placeOf_84 rfl ?_
          refine ka_iload_n hC dX7_placeOf_85 rfl ?_
          refine ka_iload_n hC dX7_placeOf_86 rfl ?_
          refine ka_iconst (v := 2) hC dX7_placeOf_87 rfl ?_
          refine ka_isub hC dX7_placeOf_88 ?_
          refine ka_callV hC (m_X7_standing hG hM.n) (ka_Rc_model ) rfl ka_q_ml_X7_136 ka_q_im_X7_standing ka_q_se_X7_standing ka_q_in_X7 ka_q_co_X7_standing ky_X7_standing (by decide) (by decide) (Nat.le_of_ble_eq_true rfl) rfl dX7_placeOf_89 ?_
          exact ka_iret hC hR dX7_placeOf_92 (by first | with_reducible rfl | (simp only [rf_placeOf, rf_placeOf2, c5, ea, c15, c22, c45_0, c45_1, c45_2]; done) | (simp only [rf_placeOf, rf_placeOf2, c5, ea, c15, if_neg c22, if_pos c22, if_neg c45_0, if_pos c45_0, if_neg c45_1, if_pos c45_1, if_pos c45_2, if_neg (not_not_intro c45_2)]; done) | (simp [rf_placeOf, rf_placeOf2, c5, ea, c15, c22, c45_0, c45_1, c45_2]; done) | (simp [rf_placeOf, rf_placeOf2, c5, ea, c15, if_neg c22, if_pos c22, if_neg c45_0, if_pos c45_0, if_neg c45_1, if_pos c45_1, if_pos c45_2, if_neg (not_not_intro c45_2)]; done) | contradiction | rfl) (by first | with_reducible rfl | (simp only [rf_placeOf, rf_placeOf2, c5, ea, c15, c22, c45_0, c45_1, c45_2]; done) | (simp only [rf_placeOf, rf_placeOf2, c5, ea, c15, if_neg c22, if_pos c22, if_neg c45_0, if_pos c45_0, if_neg c45_1, if_pos c45_1, if_pos c45_2, if_neg (not_not_intro c45_2)]; done) | (simp [rf_placeOf, rf_placeOf2, c5, ea, c15, c22, c45_0, c45_1, c45_2]; done) | (simp [rf_placeOf, rf_placeOf2, c5, ea, c15, if_neg c22, if_pos c22, if_neg c45_0, if_pos c45_0, if_neg c45_1, if_pos c45_1, if_pos c45_2, if_neg (not_not_intro c45_2)]; done) | contradiction | rfl)
        by_cases c45_3 : y = 3
        · skip
          refine ka_tsIn (tgt := 84) hC dX7_placeOf_45 (by rw [c45_3]; decide) (by rw [c45_3]; decide) (by rw [c45_3]; rfl) (by decide) ?_
          refine ka_aload_n hC dX7_placeOf_84 rfl ?_
          refine ka_iload_n hC dX7_placeOf_85 rfl ?_
          refine ka_iload_n hC dX7_placeOf_86 rfl ?_
          refine ka_iconst (v := 2) hC dX7_placeOf_87 rfl ?_
          refine ka_isub hC dX7_placeOf_88 ?_
          refine ka_callV hC (m_X7_standing hG hM.n) (ka_Rc_model ) rfl ka_q_ml_X7_136 ka_q_im_X7_standing ka_q_se_X7_standing ka_q_in_X7 ka_q_co_X7_standing ky_X7_standing (by decide) (by decide) (Nat.le_of_ble_eq_true rfl) rfl dX7_placeOf_89 ?_
          exact ka_iret hC hR dX7_placeOf_92 (by first | with_reducible rfl | (simp only [rf_placeOf, rf_placeOf2, c5, ea, c15, c22, c45_0, c45_1, c45_2, c45_3]; done) | (simp only [rf_placeOf, rf_placeOf2, c5, ea, c15, if_neg c22, if_pos c22, if_neg c45_0, if_pos c45_0, if_neg c45_1, if_pos c45_1, if_neg c45_2, if_pos c45_2, if_pos c45_3, if_neg (not_not_intro c45_3)]; done) | (simp [rf_placeOf, rf_placeOf2, c5, ea, c15, c22, c45_0, c45_1, c45_2, c45_3]; done) | (simp [rf_placeOf, rf_placeOf2, c5, ea, c15, if_neg c22, if_pos c22, if_neg c45_0, if_pos c45_0, if_neg c45_1, if_pos c45_1, if_neg c45_2, if_pos c45_2, if_pos c45_3, if_neg (not_not_intro c45_3)]; done) | contradiction | rfl) (by first | with_reducible rfl | (simp only [rf_placeOf, rf_placeOf2, c5, ea, c15, c22, c45_0, c45_1, c45_2, c45_3]; done) | (simp only [rf_placeOf, rf_placeOf2, c5, ea, c15, if_neg c22, if_pos c22, if_neg c45_0, if_pos c45_0, if_neg c45_1, if_pos c45_1, if_neg c45_2, if_pos c45_2, if_pos c45_3, if_neg (not_not_intro c45_3)]; done) | (simp [rf_placeOf, rf_placeOf2, c5, ea, c15, c22, c45_0, c45_1, c45_2, c45_3]; done) | (simp [rf_placeOf, rf_placeOf2, c5, ea, c15, if_neg c22, if_pos c22, if_neg c45_0, if_pos c45_0, if_neg c45_1, if_pos c45_1, if_neg c45_2, if_pos c45_2, if_pos c45_3, if_neg (not_not_intro c45_3)]; done) | contradiction | rfl)
        by_cases c45_4 : y = 4
        · skip
          refine ka_tsIn (tgt := 93) hC dX7_placeOf_45 (by rw [c45_4]; decide) (by rw [c45_4]; decide) (by rw [c45_4]; rfl) (by decide) ?_
          refine ka_aload_n hC dX7_placeOf_93 rfl ?_
          refine ka_iload_n hC dX7_placeOf_94 rfl ?_
          refine ka_callV hC (m_X7_going hG hM.n) (ka_Rc_model ) rfl ka_q_ml_X7_139 ka_q_im_X7_going ka_q_se_X7_going ka_q_in_X7 ka_q_co_X7_going ky_X7_going (by decide) (by decide) (Nat.le_of_ble_eq_true rfl) rfl dX7_placeOf_95 ?_
          exact ka_iret hC hR dX7_placeOf_98 (by first | with_reducible rfl | (simp only [rf_placeOf, rf_placeOf2, c5, ea, c15, c22, c45_0, c45_1, c45_2, c45_3, c45_4]; done) | (simp only [rf_placeOf, rf_placeOf2, c5, ea, c15, if_neg c22, if_pos c22, if_neg c45_0, if_pos c45_0, if_neg c45_1, if_pos c45_1, if_neg c45_2, if_pos c45_2, if_neg c45_3, if_pos c45_3, if_pos c45_4, if_neg (not_not_intro c45_4)]; done) | (simp [rf_placeOf, rf_placeOf2, c5, ea, c15, c22, c45_0, c45_1, c45_2, c45_3, c45_4]; done) | (simp [rf_placeOf, rf_placeOf2, c5, ea, c15, if_neg c22, if_pos c22, if_neg c45_0, if_pos c45_0, if_neg c45_1, if_pos c45_1, if_neg c45_2, if_pos c45_2, if_neg c45_3, if_pos c45_3, if_pos c45_4, if_neg (not_not_intro c45_4)]; done) | contradiction | rfl) (by first | with_reducible rfl | (simp only [rf_placeOf, rf_placeOf2, c5, ea, c15, c22, c45_0, c45_1, c45_2, c45_3, c45_4]; done) | (simp only [rf_placeOf, rf_placeOf2, c5, ea, c15, if_neg c22, if_pos c22, if_neg c45_0, if_pos c45_0, if_neg c45_1, if_pos c45_1, if_neg c45_2, if_pos c45_2, if_neg c45_3, if_pos c45_3, if_pos c45_4, if_neg (not_not_intro c45_4)]; done) | (simp [rf_placeOf, rf_placeOf2, c5, ea, c15, c22, c45_0, c45_1, c45_2, c45_3, c45_4]; done) | (simp [rf_placeOf, rf_placeOf2, c5, ea, c15, if_neg c22, if_pos c22, if_neg c45_0, if_pos c45_0, if_neg c45_1, if_pos c45_1, if_neg c45_2, if_pos c45_2, if_neg c45_3, if_pos c45_3, if_pos c45_4, if_neg (not_not_intro c45_4)]; done) | contradiction | rfl)
        by_cases c45_5 : y = 5
        · skip
          refine ka_tsIn (tgt := 99) hC dX7_placeOf_45 (by rw [c45_5]; decide) (by rw [c45_5]; decide) (by rw [c45_5]; rfl) (by decide) ?_
          refine ka_aload_n hC dX7_placeOf_99 rfl ?_
          refine ka_iload_n hC dX7_placeOf_100 rfl ?_
          refine ka_callV hC (m_X7_owned hG hM.n) (ka_Rc_model ) rfl ka_q_ml_X7_142 ka_q_im_X7_owned ka_q_se_X7_owned ka_q_in_X7 ka_q_co_X7_owned ky_X7_owned (by decide) (by decide) (Nat.le_of_ble_eq_true rfl) rfl dX7_placeOf_101 ?_
          exact ka_iret hC hR dX7_placeOf_104 (by first | with_reducible rfl | (simp only [rf_placeOf, rf_placeOf2, c5, ea, c15, c22, c45_0, c45_1, c45_2, c45_3, c45_4, c45_5]; done) | (simp only [rf_placeOf, rf_placeOf2, c5, ea, c15, if_neg c22, if_pos c22, if_neg c45_0, if_pos c45_0, if_neg c45_1, if_pos c45_1, if_neg c45_2, if_pos c45_2, if_neg c45_3, if_pos c45_3, if_neg c45_4, if_pos c45_4, if_pos c45_5, if_neg (not_not_intro c45_5)]; done) | (simp [rf_placeOf, rf_placeOf2, c5, ea, c15, c22, c45_0, c45_1, c45_2, c45_3, c45_4, c45_5]; done) | (simp [rf_placeOf, rf_placeOf2, c5, ea, c15, if_neg c22, if_pos c22, if_neg c45_0, if_pos c45_0, if_neg c45_1, if_pos c45_1, if_neg c45_2, if_pos c45_2, if_neg c45_3, if_pos c45_3, if_neg c45_4, if_pos c45_4, if_pos c45_5, if_neg (not_not_intro c45_5)]; done) | contradiction | rfl) (by first | with_reducible rfl | (simp only [rf_placeOf, rf_placeOf2, c5, ea, c15, c22, c45_0, c45_1, c45_2, c45_3, c45_4, c45_5]; done) | (simp only [rf_placeOf, rf_placeOf2, c5, ea, c15, if_neg c22, if_pos c22, if_neg c45_0, if_pos c45_0, if_neg c45_1, if_pos c45_1, if_neg c45_2, if_pos c45_2, if_neg c45_3, if_pos c45_3, if_neg c45_4, if_pos c45_4, if_pos c45_5, if_neg (not_not_intro c45_5)]; done) | (simp [rf_placeOf, rf_placeOf2, c5, ea, c15, c22, c45_0, c45_1, c45_2, c45_3, c45_4, c45_5]; done) | (simp [rf_placeOf, rf_placeOf2, c5, ea, c15, if_neg c22, if_pos c22, if_neg c45_0, if_pos c45_0, if_neg c45_1, if_pos c45_1, if_neg c45_2, if_pos c45_2, if_neg c45_3, if_pos c45_3, if_neg c45_4, if_pos c45_4, if_pos c45_5, if_neg (not_not_intro c45_5)]; done) | contradiction | rfl)
        refine ka_tsOut (tgt := 112) hC dX7_placeOf_45 (by
            have t45_0 : ¬ (y).toInt = 0 := fun e => c45_0 (Int32.toInt_inj.mp (e.trans (by decide)))
            have t45_1 : ¬ (y).toInt = 1 := fun e => c45_1 (Int32.toInt_inj.mp (e.trans (by decide)))
            have t45_2 : ¬ (y).toInt = 2 := fun e => c45_2 (Int32.toInt_inj.mp (e.trans (by decide)))
            have t45_3 : ¬ (y).toInt = 3 := fun e => c45_3 (Int32.toInt_inj.mp (e.trans (by decide)))
            have t45_4 : ¬ (y).toInt = 4 := fun e => c45_4 (Int32.toInt_inj.mp (e.trans (by decide)))
            have t45_5 : ¬ (y).toInt = 5 := fun e => c45_5 (Int32.toInt_inj.mp (e.trans (by decide)))
            omega) (by decide) ?_
        refine ka_aload_n hC dX7_placeOf_112 rfl ?_
        refine ka_iload_n hC dX7_placeOf_113 rfl ?_
        refine ka_iload_n hC dX7_placeOf_114 rfl ?_
        refine ka_iconst (v := 4) hC dX7_placeOf_115 rfl ?_
        refine ka_isub hC dX7_placeOf_116 ?_
        refine ka_callV hC (m_X7_has hG a (cn (y - 4)) ha (rf_y69 ey hj c45_0 c45_1 c45_2 c45_3 c45_4 c45_5).1 rfl (rf_y69 ey hj c45_0 c45_1 c45_2 c45_3 c45_4 c45_5).2) (ka_Rc_model ) rfl ka_q_ml_X7_48 ka_q_im_X7_has ka_q_se_X7_has ka_q_in_X7 ka_q_co_X7_has ky_X7_has (by decide) (by decide) (Nat.le_of_ble_eq_true rfl) rfl dX7_placeOf_117 ?_
        exact ka_iret hC hR dX7_placeOf_120 (by first | with_reducible rfl | (simp only [rf_placeOf, rf_placeOf2, c5, ea, c15, c22, c45_0, c45_1, c45_2, c45_3, c45_4, c45_5]; done) | (simp only [rf_placeOf, rf_placeOf2, c5, ea, c15, if_neg c22, if_pos c22, if_neg c45_0, if_pos c45_0, if_neg c45_1, if_pos c45_1, if_neg c45_2, if_pos c45_2, if_neg c45_3, if_pos c45_3, if_neg c45_4, if_pos c45_4, if_neg c45_5, if_pos c45_5]; done) | (simp [rf_placeOf, rf_placeOf2, c5, ea, c15, c22, c45_0, c45_1, c45_2, c45_3, c45_4, c45_5]; done) | (simp [rf_placeOf, rf_placeOf2, c5, ea, c15, if_neg c22, if_pos c22, if_neg c45_0, if_pos c45_0, if_neg c45_1, if_pos c45_1, if_neg c45_2, if_pos c45_2, if_neg c45_3, if_pos c45_3, if_neg c45_4, if_pos c45_4, if_neg c45_5, if_pos c45_5]; done) | contradiction | rfl) (by first | with_reducible rfl | (simp only [rf_placeOf, rf_placeOf2, c5, ea, c15, c22, c45_0, c45_1, c45_2, c45_3, c45_4, c45_5]; done) | (simp only [rf_placeOf, rf_placeOf2, c5, ea, c15, if_neg c22, if_pos c22, if_neg c45_0, if_pos c45_0, if_neg c45_1, if_pos c45_1, if_neg c45_2, if_pos c45_2, if_neg c45_3, if_pos c45_3, if_neg c45_4, if_pos c45_4, if_neg c45_5, if_pos c45_5]; done) | (simp [rf_placeOf, rf_placeOf2, c5, ea, c15, c22, c45_0, c45_1, c45_2, c45_3, c45_4, c45_5]; done) | (simp [rf_placeOf, rf_placeOf2, c5, ea, c15, if_neg c22, if_pos c22, if_neg c45_0, if_pos c45_0, if_neg c45_1, if_pos c45_1, if_neg c45_2, if_pos c45_2, if_neg c45_3, if_pos c45_3, if_neg c45_4, if_pos c45_4, if_neg c45_5, if_pos c45_5]; done) | contradiction | rfl)
      · skip
        refine ka_iload_n hC dX7_placeOf_25 rfl ?_
        refine ka_iconst (v := 2) hC dX7_placeOf_26 rfl ?_
        refine ka_icmp_lt (tgt := 41) hC dX7_placeOf_27 (by decide) (fun c27 => ?_) (fun c27 => ?_)
        · skip
          refine ka_ldc hC ka_q_cn_X7_132 dX7_placeOf_41 ?_
          exact ka_iret hC hR dX7_placeOf_43 (by first | with_reducible rfl | (simp only [rf_placeOf, rf_placeOf2, c5, ea, c15, c22, c27]; done) | (simp only [rf_placeOf, rf_placeOf2, c5, ea, c15, if_pos c22, if_neg (not_not_intro c22), if_pos c27, if_neg (not_not_intro c27)]; done) | (simp [rf_placeOf, rf_placeOf2, c5, ea, c15, c22, c27]; done) | (simp [rf_placeOf, rf_placeOf2, c5, ea, c15, if_pos c22, if_neg (not_not_intro c22), if_pos c27, if_neg (not_not_intro c27)]; done) | contradiction | rfl) (by first | with_reducible rfl | (simp only [rf_placeOf, rf_placeOf2, c5, ea, c15, c22, c27]; done) | (simp only [rf_placeOf, rf_placeOf2, c5, ea, c15, if_pos c22, if_neg (not_not_intro c22), if_pos c27, if_neg (not_not_intro c27)]; done) | (simp [rf_placeOf, rf_placeOf2, c5, ea, c15, c22, c27]; done) | (simp [rf_placeOf, rf_placeOf2, c5, ea, c15, if_pos c22, if_neg (not_not_intro c22), if_pos c27, if_neg (not_not_intro c27)]; done) | contradiction | rfl)
        · skip
          refine ka_iload_n hC dX7_placeOf_30 rfl ?_
          refine ka_iconst (v := 5) hC dX7_placeOf_31 rfl ?_
          refine ka_icmp_eq (tgt := 41) hC dX7_placeOf_32 (by decide) (fun c32 => ?_) (fun c32 => ?_)
          · skip
            refine ka_ldc hC ka_q_cn_X7_132 dX7_placeOf_41 ?_
            exact ka_iret hC hR dX7_placeOf_43 (by first | with_reducible rfl | (simp only [rf_placeOf, rf_placeOf2, c5, ea, c15, c22, c27, c32]; done) | (simp only [rf_placeOf, rf_placeOf2, c5, ea, c15, if_pos c22, if_neg (not_not_intro c22), if_neg c27, if_pos c27, if_pos c32, if_neg (not_not_intro c32)]; done) | (simp [rf_placeOf, rf_placeOf2, c5, ea, c15, c22, c27, c32]; done) | (simp [rf_placeOf, rf_placeOf2, c5, ea, c15, if_pos c22, if_neg (not_not_intro c22), if_neg c27, if_pos c27, if_pos c32, if_neg (not_not_intro c32)]; done) | contradiction | rfl) (by first | with_reducible rfl | (simp only [rf_placeOf, rf_placeOf2, c5, ea, c15, c22, c27, c32]; done) | (simp only [rf_placeOf, rf_placeOf2, c5, ea, c15, if_pos c22, if_neg (not_not_intro c22), if_neg c27, if_pos c27, if_pos c32, if_neg (not_not_intro c32)]; done) | (simp [rf_placeOf, rf_placeOf2, c5, ea, c15, c22, c27, c32]; done) | (simp [rf_placeOf, rf_placeOf2, c5, ea, c15, if_pos c22, if_neg (not_not_intro c22), if_neg c27, if_pos c27, if_pos c32, if_neg (not_not_intro c32)]; done) | contradiction | rfl)
          · skip
            refine ka_iload_n hC dX7_placeOf_35 rfl ?_
            refine ka_bipush (v := 8) hC dX7_placeOf_36 rfl ?_
            refine ka_icmp_ne (tgt := 44) hC dX7_placeOf_38 (by decide) (fun c38 => ?_) (fun c38 => ?_)
            · skip
              refine ka_iload_n hC dX7_placeOf_44 rfl ?_
              by_cases c45_0 : y = 0
              · skip
                refine ka_tsIn (tgt := 105) hC dX7_placeOf_45 (by rw [c45_0]; decide) (by rw [c45_0]; decide) (by rw [c45_0]; rfl) (by decide) ?_
                have q := (rfl : (0:Nat) = 0)
                refine ka_aload_n hC dX7_placeOf_105 rfl ?_
                refine ka_iload_n hC dX7_placeOf_106 rfl ?_
                refine ka_iload_n hC dX7_placeOf_107 rfl ?_
                refine ka_callV hC (m_X7_has hG a (cn y) ha (rf_y01 ey (by first | exact Or.inl c45_0 | exact Or.inr c45_1)) rfl (rf_yc ey hj)) (ka_Rc_model ) rfl ka_q_ml_X7_48 ka_q_im_X7_has ka_q_se_X7_has ka_q_in_X7 ka_q_co_X7_has ky_X7_has (by decide) (by decide) (Nat.le_of_ble_eq_true rfl) rfl dX7_placeOf_108 ?_
                exact ka_iret hC hR dX7_placeOf_111 (by first | with_reducible rfl | (simp only [rf_placeOf, rf_placeOf2, c5, ea, c15, c22, c27, c32, c38, c45_0]; done) | (simp only [rf_placeOf, rf_placeOf2, c5, ea, c15, if_pos c22, if_neg (not_not_intro c22), if_neg c27, if_pos c27, if_neg c32, if_pos c32, if_neg c38, if_pos c38, if_pos c45_0, if_neg (not_not_intro c45_0)]; done) | (simp [rf_placeOf, rf_placeOf2, c5, ea, c15, c22, c27, c32, c38, c45_0]; done) | (simp [rf_placeOf, rf_placeOf2, c5, ea, c15, if_pos c22, if_neg (not_not_intro c22), if_neg c27, if_pos c27, if_neg c32, if_pos c32, if_neg c38, if_pos c38, if_pos c45_0, if_neg (not_not_intro c45_0)]; done) | contradiction | rfl) (by first | with_reducible rfl | (simp only [rf_placeOf, rf_placeOf2, c5, ea, c15, c22, c27, c32, c38, c45_0]; done) | (simp only [rf_placeOf, rf_placeOf2, c5, ea, c15, if_pos c22, if_neg (not_not_intro c22), if_neg c27, if_pos c27, if_neg c32, if_pos c32, if_neg c38, if_pos c38, if_pos c45_0, if_neg (not_not_intro c45_0)]; done) | (simp [rf_placeOf, rf_placeOf2, c5, ea, c15, c22, c27, c32, c38, c45_0]; done) | (simp [rf_placeOf, rf_placeOf2, c5, ea, c15, if_pos c22, if_neg (not_not_intro c22), if_neg c27, if_pos c27, if_neg c32, if_pos c32, if_neg c38, if_pos c38, if_pos c45_0, if_neg (not_not_intro c45_0)]; done) | contradiction | rfl)
              by_cases c45_1 : y = 1
              · skip
                refine ka_tsIn (tgt := 105) hC dX7_placeOf_45 (by rw [c45_1]; decide) (by rw [c45_1]; decide) (by rw [c45_1]; rfl) (by decide) ?_
                refine ka_aload_n hC dX7_placeOf_105 rfl ?_
                refine ka_iload_n hC dX7_placeOf_106 rfl ?_
                refine ka_iload_n hC dX7_placeOf_107 rfl ?_
                refine ka_callV hC (m_X7_has hG a (cn y) ha (rf_y01 ey (by first | exact Or.inl c45_0 | exact Or.inr c45_1)) rfl (rf_yc ey hj)) (ka_Rc_model ) rfl ka_q_ml_X7_48 ka_q_im_X7_has ka_q_se_X7_has ka_q_in_X7 ka_q_co_X7_has ky_X7_has (by decide) (by decide) (Nat.le_of_ble_eq_true rfl) rfl dX7_placeOf_108 ?_
                exact ka_iret hC hR dX7_placeOf_111 (by first | with_reducible rfl | (simp only [rf_placeOf, rf_placeOf2, c5, ea, c15, c22, c27, c32, c38, c45_0, c45_1]; done) | (simp only [rf_placeOf, rf_placeOf2, c5, ea, c15, if_pos c22, if_neg (not_not_intro c22), if_neg c27, if_pos c27, if_neg c32, if_pos c32, if_neg c38, if_pos c38, if_neg c45_0, if_pos c45_0, if_pos c45_1, if_neg (not_not_intro c45_1)]; done) | (simp [rf_placeOf, rf_placeOf2, c5, ea, c15, c22, c27, c32, c38, c45_0, c45_1]; done) | (simp [rf_placeOf, rf_placeOf2, c5, ea, c15, if_pos c22, if_neg (not_not_intro c22), if_neg c27, if_pos c27, if_neg c32, if_pos c32, if_neg c38, if_pos c38, if_neg c45_0, if_pos c45_0, if_pos c45_1, if_neg (not_not_intro c45_1)]; done) | contradiction | rfl) (by first | with_reducible rfl | (simp only [rf_placeOf, rf_placeOf2, c5, ea, c15, c22, c27, c32, c38, c45_0, c45_1]; done) | (simp only [rf_placeOf, rf_placeOf2, c5, ea, c15, if_pos c22, if_neg (not_not_intro c22), if_neg c27, if_pos c27, if_neg c32, if_pos c32, if_neg c38, if_pos c38, if_neg c45_0, if_pos c45_0, if_pos c45_1, if_neg (not_not_intro c45_1)]; done) | (simp [rf_placeOf, rf_placeOf2, c5, ea, c15, c22, c27, c32, c38, c45_0, c45_1]; done) | (simp [rf_placeOf, rf_placeOf2, c5, ea, c15, if_pos c22, if_neg (not_not_intro c22), if_neg c27, if_pos c27, if_neg c32, if_pos c32, if_neg c38, if_pos c38, if_neg c45_0, if_pos c45_0, if_pos c45_1, if_neg (not_not_intro c45_1)]; done) | contradiction | rfl)
              by_cases c45_2 : y = 2
              · skip
                refine ka_tsIn (tgt := 84) hC dX7_placeOf_45 (by rw [c45_2]; decide) (by rw [c45_2]; decide) (by rw [c45_2]; rfl) (by decide) ?_
                refine ka_aload_n hC dX7_placeOf_84 rfl ?_
                refine ka_iload_n hC dX7_placeOf_85 rfl ?_
                refine ka_iload_n hC dX7_placeOf_86 rfl ?_
                refine ka_iconst (v := 2) hC dX7_placeOf_87 rfl ?_
                refine ka_isub hC dX7_placeOf_88 ?_
                refine ka_callV hC (m_X7_standing hG hM.n) (ka_Rc_model ) rfl ka_q_ml_X7_136 ka_q_im_X7_standing ka_q_se_X7_standing ka_q_in_X7 ka_q_co_X7_standing ky_X7_standing (by decide) (by decide) (Nat.le_of_ble_eq_true rfl) rfl dX7_placeOf_89 ?_
                exact ka_iret hC hR dX7_placeOf_92 (by first | with_reducible rfl | (simp only [rf_placeOf, rf_placeOf2, c5, ea, c15, c22, c27, c32, c38, c45_0, c45_1, c45_2]; done) | (simp only [rf_placeOf, rf_placeOf2, c5, ea, c15, if_pos c22, if_neg (not_not_intro c22), if_neg c27, if_pos c27, if_neg c32, if_pos c32, if_neg c38, if_pos c38, if_neg c45_0, if_pos c45_0, if_neg c45_1, if_pos c45_1, if_pos c45_2, if_neg (not_not_intro c45_2)]; done) | (simp [rf_placeOf, rf_placeOf2, c5, ea, c15, c22, c27, c32, c38, c45_0, c45_1, c45_2]; done) | (simp [rf_placeOf, rf_placeOf2, c5, ea, c15, if_pos c22, if_neg (not_not_intro c22), if_neg c27, if_pos c27, if_neg c32, if_pos c32, if_neg c38, if_pos c38, if_neg c45_0, if_pos c45_0, if_neg c45_1, if_pos c45_1, if_pos c45_2, if_neg (not_not_intro c45_2)]; done) | contradiction | rfl) (by first | with_reducible rfl | (simp only [rf_placeOf, rf_placeOf2, c5, ea, c15, c22, c27, c32, c38, c45_0, c45_1, c45_2]; done) | (simp only [rf_placeOf, rf_placeOf2, c5, ea, c15, if_pos c22, if_neg (not_not_intro c22), if_neg c27, if_pos c27, if_neg c32, if_pos c32, if_neg c38, if_pos c38, if_neg c45_0, if_pos c45_0, if_neg c45_1, if_pos c45_1, if_pos c45_2, if_neg (not_not_intro c45_2)]; done) | (simp [rf_placeOf, rf_placeOf2, c5, ea, c15, c22, c27, c32, c38, c45_0, c45_1, c45_2]; done) | (simp [rf_placeOf, rf_placeOf2, c5, ea, c15, if_pos c22, if_neg (not_not_intro c22), if_neg c27, if_pos c27, if_neg c32, if_pos c32, if_neg c38, if_pos c38, if_neg c45_0, if_pos c45_0, if_neg c45_1, if_pos c45_1, if_pos c45_2, if_neg (not_not_intro c45_2)]; done) | contradiction | rfl)
              by_cases c45_3 : y = 3
              · skip
                refine ka_tsIn (tgt := 84) hC dX7_placeOf_45 (by rw [c45_3]; decide) (by rw [c45_3]; decide) (by rw [c45_3]; rfl) (by decide) ?_
                refine ka_aload_n hC dX7_placeOf_84 rfl ?_
                refine ka_iload_n hC dX7_placeOf_85 rfl ?_
                refine ka_iload_n hC dX7_placeOf_86 rfl ?_
                refine ka_iconst (v := 2) hC dX7_placeOf_87 rfl ?_
                refine ka_isub hC dX7_placeOf_88 ?_
                refine ka_callV hC (m_X7_standing hG hM.n) (ka_Rc_model ) rfl ka_q_ml_X7_136 ka_q_im_X7_standing ka_q_se_X7_standing ka_q_in_X7 ka_q_co_X7_standing ky_X7_standing (by decide) (by decide) (Nat.le_of_ble_eq_true rfl) rfl dX7_placeOf_89 ?_
                exact ka_iret hC hR dX7_placeOf_92 (by first | with_reducible rfl | (simp only [rf_placeOf, rf_placeOf2, c5, ea, c15, c22, c27, c32, c38, c45_0, c45_1, c45_2, c45_3]; done) | (simp only [rf_placeOf, rf_placeOf2, c5, ea, c15, if_pos c22, if_neg (not_not_intro c22), if_neg c27, if_pos c27, if_neg c32, if_pos c32, if_neg c38, if_pos c38, if_neg c45_0, if_pos c45_0, if_neg c45_1, if_pos c45_1, if_neg c45_2, if_pos c45_2, if_pos c45_3, if_neg (not_not_intro c45_3)]; done) | (simp [rf_placeOf, rf_placeOf2, c5, ea, c15, c22, c27, c32, c38, c45_0, c45_1, c45_2, c45_3]; done) | (simp [rf_placeOf, rf_placeOf2, c5, ea, c15, if_pos c22, if_neg (not_not_intro c22), if_neg c27, if_pos c27, if_neg c32, if_pos c32, if_neg c38, if_pos c38, if_neg c45_0, if_pos c45_0, if_neg c45_1, if_pos c45_1, if_neg c45_2, if_pos c45_2, if_pos c45_3, if_neg (not_not_intro c45_3)]; done) | contradiction | rfl) (by first | with_reducible rfl | (simp only [rf_placeOf, rf_placeOf2, c5, ea, c15, c22, c27, c32, c38, c45_0, c45_1, c45_2, c45_3]; done) | (simp only [rf_placeOf, rf_placeOf2, c5, ea, c15, if_pos c22, if_neg (not_not_intro c22), if_neg c27, if_pos c27, if_neg c32, if_pos c32, if_neg c38, if_pos c38, if_neg c45_0, if_pos c45_0, if_neg c45_1, if_pos c45_1, if_neg c45_2, if_pos c45_2, if_pos c45_3, if_neg (not_not_intro c45_3)]; done) | (simp [rf_placeOf, rf_placeOf2, c5, ea, c15, c22, c27, c32, c38, c45_0, c45_1, c45_2, c45_3]; done) | (simp [rf_placeOf, rf_placeOf2, c5, ea, c15, if_pos c22, if_neg (not_not_intro c22), if_neg c27, if_pos c27, if_neg c32, if_pos c32, if_neg c38, if_pos c38, if_neg c45_0, if_pos c45_0, if_neg c45_1, if_pos c45_1, if_neg c45_2, if_pos c45_2, if_pos c45_3, if_neg (not_not_intro c45_3)]; done) | contradiction | rfl)
              by_cases c45_4 : y = 4
              · skip
                refine ka_tsIn (tgt := 93) hC dX7_placeOf_45 (by rw [c45_4]; decide) (by rw [c45_4]; decide) (by rw [c45_4]; rfl) (by decide) ?_
                refine ka_aload_n hC dX7_placeOf_93 rfl ?_
                refine ka_iload_n hC dX7_placeOf_94 rfl ?_
                refine ka_callV hC (m_X7_going hG hM.n) (ka_Rc_model ) rfl ka_q_ml_X7_139 ka_q_im_X7_going ka_q_se_X7_going ka_q_in_X7 ka_q_co_X7_going ky_X7_going (by decide) (by decide) (Nat.le_of_ble_eq_true rfl) rfl dX7_placeOf_95 ?_
                exact ka_iret hC hR dX7_placeOf_98 (by first | with_reducible rfl | (simp only [rf_placeOf, rf_placeOf2, c5, ea, c15, c22, c27, c32, c38, c45_0, c45_1, c45_2, c45_3, c45_4]; done) | (simp only [rf_placeOf, rf_placeOf2, c5, ea, c15, if_pos c22, if_neg (not_not_intro c22), if_neg c27, if_pos c27, if_neg c32, if_pos c32, if_neg c38, if_pos c38, if_neg c45_0, if_pos c45_0, if_neg c45_1, if_pos c45_1, if_neg c45_2, if_pos c45_2, if_neg c45_3, if_pos c45_3, if_pos c45_4, if_neg (not_not_intro c45_4)]; done) | (simp [rf_placeOf, rf_placeOf2, c5, ea, c15, c22, c27, c32, c38, c45_0, c45_1, c45_2, c45_3, c45_4]; done) | (simp [rf_placeOf, rf_placeOf2, c5, ea, c15, if_pos c22, if_neg (not_not_intro c22), if_neg c27, if_pos c27, if_neg c32, if_pos c32, if_neg c38, if_pos c38, if_neg c45_0, if_pos c45_0, if_neg c45_1, if_pos c45_1, if_neg c45_2, if_pos c45_2, if_neg c45_3, if_pos c45_3, if_pos c45_4, if_neg (not_not_intro c45_4)]; done) | contradiction | rfl) (by first | with_reducible rfl | (simp only [rf_placeOf, rf_placeOf2, c5, ea, c15, c22, c27, c32, c38, c45_0, c45_1, c45_2, c45_3, c45_4]; done) | (simp only [rf_placeOf, rf_placeOf2, c5, ea, c15, if_pos c22, if_neg (not_not_intro c22), if_neg c27, if_pos c27, if_neg c32, if_pos c32, if_neg c38, if_pos c38, if_neg c45_0, if_pos c45_0, if_neg c45_1, if_pos c45_1, if_neg c45_2, if_pos c45_2, if_neg c45_3, if_pos c45_3, if_pos c45_4, if_neg (not_not_intro c45_4)]; done) | (simp [rf_placeOf, rf_placeOf2, c5, ea, c15, c22, c27, c32, c38, c45_0, c45_1, c45_2, c45_3, c45_4]; done) | (simp [rf_placeOf, rf_placeOf2, c5, ea, c15, if_pos c22, if_neg (not_not_intro c22), if_neg c27, if_pos c27, if_neg c32, if_pos c32, if_neg c38, if_pos c38, if_neg c45_0, if_pos c45_0, if_neg c45_1, if_pos c45_1, if_neg c45_2, if_pos c45_2, if_neg c45_3, if_pos c45_3, if_pos c45_4, if_neg (not_not_intro c45_4)]; done) | contradiction | rfl)
              by_cases c45_5 : y = 5
              · skip
                refine ka_tsIn (tgt := 99) hC dX7_placeOf_45 (by rw [c45_5]; decide) (by rw [c45_5]; decide) (by rw [c45_5]; rfl) (by decide) ?_
                refine ka_aload_n hC dX7_placeOf_99 rfl ?_
                refine ka_iload_n hC dX7_placeOf_100 rfl ?_
                refine ka_callV hC (m_X7_owned hG hM.n) (ka_Rc_model ) rfl ka_q_ml_X7_142 ka_q_im_X7_owned ka_q_se_X7_owned ka_q_in_X7 ka_q_co_X7_owned ky_X7_owned (by decide) (by decide) (Nat.le_of_ble_eq_true rfl) rfl dX7_placeOf_101 ?_
                exact ka_iret hC hR dX7_placeOf_104 (by first | with_reducible rfl | (simp only [rf_placeOf, rf_placeOf2, c5, ea, c15, c22, c27, c32, c38, c45_0, c45_1, c45_2, c45_3, c45_4, c45_5]; done) | (simp only [rf_placeOf, rf_placeOf2, c5, ea, c15, if_pos c22, if_neg (not_not_intro c22), if_neg c27, if_pos c27, if_neg c32, if_pos c32, if_neg c38, if_pos c38, if_neg c45_0, if_pos c45_0, if_neg c45_1, if_pos c45_1, if_neg c45_2, if_pos c45_2, if_neg c45_3, if_pos c45_3, if_neg c45_4, if_pos c45_4, if_pos c45_5, if_neg (not_not_intro c45_5)]; done) | (simp [rf_placeOf, rf_placeOf2, c5, ea, c15, c22, c27, c32, c38, c45_0, c45_1, c45_2, c45_3, c45_4, c45_5]; done) | (simp [rf_placeOf, rf_placeOf2, c5, ea, c15, if_pos c22, if_neg (not_not_intro c22), if_neg c27, if_pos c27, if_neg c32, if_pos c32, if_neg c38, if_pos c38, if_neg c45_0, if_pos c45_0, if_neg c45_1, if_pos c45_1, if_neg c45_2, if_pos c45_2, if_neg c45_3, if_pos c45_3, if_neg c45_4, if_pos c45_4, if_pos c45_5, if_neg (not_not_intro c45_5)]; done) | contradiction | rfl) (by first | with_reducible rfl | (simp only [rf_placeOf, rf_placeOf2, c5, ea, c15, c22, c27, c32, c38, c45_0, c45_1, c45_2, c45_3, c45_4, c45_5]; done) | (simp only [rf_placeOf, rf_placeOf2, c5, ea, c15, if_pos c22, if_neg (not_not_intro c22), if_neg c27, if_pos c27, if_neg c32, if_pos c32, if_neg c38, if_pos c38, if_neg c45_0, if_pos c45_0, if_neg c45_1, if_pos c45_1, if_neg c45_2, if_pos c45_2, if_neg c45_3, if_pos c45_3, if_neg c45_4, if_pos c45_4, if_pos c45_5, if_neg (not_not_intro c45_5)]; done) | (simp [rf_placeOf, rf_placeOf2, c5, ea, c15, c22, c27, c32, c38, c45_0, c45_1, c45_2, c45_3, c45_4, c45_5]; done) | (simp [rf_placeOf, rf_placeOf2, c5, ea, c15, if_pos c22, if_neg (not_not_intro c22), if_neg c27, if_pos c27, if_neg c32, if_pos c32, if_neg c38, if_pos c38, if_neg c45_0, if_pos c45_0, if_neg c45_1, if_pos c45_1, if_neg c45_2, if_pos c45_2, if_neg c45_3, if_pos c45_3, if_neg c45_4, if_pos c45_4, if_pos c45_5, if_neg (not_not_intro c45_5)]; done) | contradiction | rfl)
              refine ka_tsOut (tgt := 112) hC dX7_placeOf_45 (by
                  have t45_0 : ¬ (y).toInt = 0 := fun e => c45_0 (Int32.toInt_inj.mp (e.trans (by decide)))
                  have t45_1 : ¬ (y).toInt = 1 := fun e => c45_1 (Int32.toInt_inj.mp (e.trans (by decide)))
                  have t45_2 : ¬ (y).toInt = 2 := fun e => c45_2 (Int32.toInt_inj.mp (e.trans (by decide)))
                  have t45_3 : ¬ (y).toInt = 3 := fun e => c45_3 (Int32.toInt_inj.mp (e.trans (by decide)))
                  have t45_4 : ¬ (y).toInt = 4 := fun e => c45_4 (Int32.toInt_inj.mp (e.trans (by decide)))
                  have t45_5 : ¬ (y).toInt = 5 := fun e => c45_5 (Int32.toInt_inj.mp (e.trans (by decide)))
                  omega) (by decide) ?_
              refine ka_aload_n hC dX7_placeOf_112 rfl ?_
              refine ka_iload_n hC dX7_placeOf_113 rfl ?_
              refine ka_iload_n hC dX7_placeOf_114 rfl ?_
              refine ka_iconst (v := 4) hC dX7_placeOf_115 rfl ?_
              refine ka_isub hC dX7_placeOf_116 ?_
              refine ka_callV hC (m_X7_has hG a (cn (y - 4)) ha (rf_y69 ey hj c45_0 c45_1 c45_2 c45_3 c45_4 c45_5).1 rfl (rf_y69 ey hj c45_0 c45_1 c45_2 c45_3 c45_4 c45_5).2) (ka_Rc_model ) rfl ka_q_ml_X7_48 ka_q_im_X7_has ka_q_se_X7_has ka_q_in_X7 ka_q_co_X7_has ky_X7_has (by decide) (by decide) (Nat.le_of_ble_eq_true rfl) rfl dX7_placeOf_117 ?_
              exact ka_iret hC hR dX7_placeOf_120 (by first | with_reducible rfl | (simp only [rf_placeOf, rf_placeOf2, c5, ea, c15, c22, c27, c32, c38, c45_0, c45_1, c45_2, c45_3, c45_4, c45_5]; done) | (simp only [rf_placeOf, rf_placeOf2, c5, ea, c15, if_pos c22, if_neg (not_not_intro c22), if_neg c27, if_pos c27, if_neg c32, if_pos c32, if_neg c38, if_pos c38, if_neg c45_0, if_pos c45_0, if_neg c45_1, if_pos c45_1, if_neg c45_2, if_pos c45_2, if_neg c45_3, if_pos c45_3, if_neg c45_4, if_pos c45_4, if_neg c45_5, if_pos c45_5]; done) | (simp [rf_placeOf, rf_placeOf2, c5, ea, c15, c22, c27, c32, c38, c45_0, c45_1, c45_2, c45_3, c45_4, c45_5]; done) | (simp [rf_placeOf, rf_placeOf2, c5, ea, c15, if_pos c22, if_neg (not_not_intro c22), if_neg c27, if_pos c27, if_neg c32, if_pos c32, if_neg c38, if_pos c38, if_neg c45_0, if_pos c45_0, if_neg c45_1, if_pos c45_1, if_neg c45_2, if_pos c45_2, if_neg c45_3, if_pos c45_3, if_neg c45_4, if_pos c45_4, if_neg c45_5, if_pos c45_5]; done) | contradiction | rfl) (by first | with_reducible rfl | (simp only [rf_placeOf, rf_placeOf2, c5, ea, c15, c22, c27, c32, c38, c45_0, c45_1, c45_2, c45_3, c45_4, c45_5]; done) | (simp only [rf_placeOf, rf_placeOf2, c5, ea, c15, if_pos c22, if_neg (not_not_intro c22), if_neg c27, if_pos c27, if_neg c32, if_pos c32, if_neg c38, if_pos c38, if_neg c45_0, if_pos c45_0, if_neg c45_1, if_pos c45_1, if_neg c45_2, if_pos c45_2, if_neg c45_3, if_pos c45_3, if_neg c45_4, if_pos c45_4, if_neg c45_5, if_pos c45_5]; done) | (simp [rf_placeOf, rf_placeOf2, c5, ea, c15, c22, c27, c32, c38, c45_0, c45_1, c45_2, c45_3, c45_4, c45_5]; done) | (simp [rf_placeOf, rf_placeOf2, c5, ea, c15, if_pos c22, if_neg (not_not_intro c22), if_neg c27, if_pos c27, if_neg c32, if_pos c32, if_neg c38, if_pos c38, if_neg c45_0, if_pos c45_0, if_neg c45_1, if_pos c45_1, if_neg c45_2, if_pos c45_2, if_neg c45_3, if_pos c45_3, if_neg c45_4, if_pos c45_4, if_neg c45_5, if_pos c45_5]; done) | contradiction | rfl)
            · skip
              refine ka_ldc hC ka_q_cn_X7_132 dX7_placeOf_41 ?_
              exact ka_iret hC hR dX7_placeOf_43 (by first | with_reducible rfl | (simp only [rf_placeOf, rf_placeOf2, c5, ea, c15, c22, c27, c32, c38]; done) | (simp only [rf_placeOf, rf_placeOf2, c5, ea, c15, if_pos c22, if_neg (not_not_intro c22), if_neg c27, if_pos c27, if_neg c32, if_pos c32, if_pos c38, if_neg (not_not_intro c38)]; done) | (simp [rf_placeOf, rf_placeOf2, c5, ea, c15, c22, c27, c32, c38]; done) | (simp [rf_placeOf, rf_placeOf2, c5, ea, c15, if_pos c22, if_neg (not_not_intro c22), if_neg c27, if_pos c27, if_neg c32, if_pos c32, if_pos c38, if_neg (not_not_intro c38)]; done) | contradiction | rfl) (by first | with_reducible rfl | (simp only [rf_placeOf, rf_placeOf2, c5, ea, c15, c22, c27, c32, c38]; done) | (simp only [rf_placeOf, rf_placeOf2, c5, ea, c15, if_pos c22, if_neg (not_not_intro c22), if_neg c27, if_pos c27, if_neg c32, if_pos c32, if_pos c38, if_neg (not_not_intro c38)]; done) | (simp [rf_placeOf, rf_placeOf2, c5, ea, c15, c22, c27, c32, c38]; done) | (simp [rf_placeOf, rf_placeOf2, c5, ea, c15, if_pos c22, if_neg (not_not_intro c22), if_neg c27, if_pos c27, if_neg c32, if_pos c32, if_pos c38, if_neg (not_not_intro c38)]; done) | contradiction | rfl)
    · skip
      refine ka_ldc hC ka_q_cn_X7_28 dX7_placeOf_18 ?_
      exact ka_iret hC hR dX7_placeOf_20 (by first | with_reducible rfl | (simp only [rf_placeOf, rf_placeOf2, c5, ea, c15]; done) | (simp only [rf_placeOf, rf_placeOf2, c5, ea, c15]; done) | (simp [rf_placeOf, rf_placeOf2, c5, ea, c15]; done) | (simp [rf_placeOf, rf_placeOf2, c5, ea, c15]; done) | contradiction | rfl) (by first | with_reducible rfl | (simp only [rf_placeOf, rf_placeOf2, c5, ea, c15]; done) | (simp only [rf_placeOf, rf_placeOf2, c5, ea, c15]; done) | (simp [rf_placeOf, rf_placeOf2, c5, ea, c15]; done) | (simp [rf_placeOf, rf_placeOf2, c5, ea, c15]; done) | contradiction | rfl)
theorem ky_X7_days : ka_y yX7_days 2 := by unfold ka_y; decide +kernel
set_option maxHeartbeats 4000000 in
set_option maxRecDepth 100000 in
theorem m_X7_days {G : ka_G} (hG : ka_AD G) {V : ka_W} {M : ka_P} {S : ka_F} {D : Nat} (hM : MK D S) {x y : Int32}  : ka_M G yX7_days cX7_days 3 (some FieldType.int) 2 [.ref (ka_ad G 9 0), .int x, .int y] (ka_ms V M S) (some (.int (rf_daysT S x y))) (ka_ms V M S) := by
  refine ka_entry hG ka_pn_X7 (ka_cat1 rfl) (Nat.le_of_ble_eq_true rfl) (fun X hC hR => ?_)
  refine ka_aload_n hC dX7_days_0 rfl ?_
  refine ka_iload_n hC dX7_days_1 rfl ?_
  refine ka_callV hC (m_X7_isPlace hG) (ka_Rc_model ) rfl ka_q_ml_X7_98 ka_q_im_X7_isPlace ka_q_se_X7_isPlace ka_q_in_X7 ka_q_co_X7_isPlace ky_X7_isPlace (by decide) (by decide) (Nat.le_of_ble_eq_true rfl) rfl dX7_days_2 ?_
  refine ka_if_eq_b (tgt := 37) hC dX7_days_5 (by decide) (fun c5 => ?_) (fun c5 => ?_)
  · skip
    refine ka_ldc hC ka_q_cn_X7_28 dX7_days_37 ?_
    exact ka_iret hC hR dX7_days_39 (by first | with_reducible rfl | (simp only [rf_daysT, c5]; done) | (simp only [rf_daysT, c5]; done) | (simp [rf_daysT, c5]; done) | (simp [rf_daysT, c5]; done) | contradiction | rfl) (by first | with_reducible rfl | (simp only [rf_daysT, c5]; done) | (simp only [rf_daysT, c5]; done) | (simp [rf_daysT, c5]; done) | (simp [rf_daysT, c5]; done) | contradiction | rfl)
  · skip
    obtain ⟨a, ha, rfl⟩ := rf_isPlace_of hM c5
    have ea : cn (nI a) = a := cn_nI (by omega)
    refine ka_aload_n hC dX7_days_8 rfl ?_
    refine ka_iload_n hC dX7_days_9 rfl ?_
    refine ka_callV hC (m_X7_isPlace hG) (ka_Rc_model ) rfl ka_q_ml_X7_98 ka_q_im_X7_isPlace ka_q_se_X7_isPlace ka_q_in_X7 ka_q_co_X7_isPlace ky_X7_isPlace (by decide) (by decide) (Nat.le_of_ble_eq_true rfl) rfl dX7_days_10 ?_
    refine ka_if_eq_b (tgt := 37) hC dX7_days_13 (by decide) (fun c13 => ?_) (fun c13 => ?_)
    · skip
      refine ka_ldc hC ka_q_cn_X7_28 dX7_days_37 ?_
      exact ka_iret hC hR dX7_days_39 (by first | with_reducible rfl | (simp only [rf_daysT, c5, ea, c13]; done) | (simp only [rf_daysT, c5, ea, c13]; done) | (simp [rf_daysT, c5, ea, c13]; done) | (simp [rf_daysT, c5, ea, c13]; done) | contradiction | rfl) (by first | with_reducible rfl | (simp only [rf_daysT, c5, ea, c13]; done) | (simp only [rf_daysT, c5, ea, c13]; done) | (simp [rf_daysT, c5, ea, c13]; done) | (simp [rf_daysT, c5, ea, c13]; done) | contradiction | rfl)
    · skip
      obtain ⟨b, hb, rfl⟩ := rf_isPlace_of hM c13
      have eb : cn (nI b) = b := cn_nI (by omega)
      refine ka_iload_n hC dX7_days_16 rfl ?_
      refine ka_iload_n hC dX7_days_17 rfl ?_
      refine ka_icmp_eq (tgt := 37) hC dX7_days_18 (by decide) (fun c18 => ?_) (fun c18 => ?_)
      · skip
        refine ka_ldc hC ka_q_cn_X7_28 dX7_days_37 ?_
        exact ka_iret hC hR dX7_days_39 (by first | with_reducible rfl | (simp only [rf_daysT, c5, ea, c13, eb, c18]; done) | (simp only [rf_daysT, c5, ea, c13, eb, if_pos c18, if_neg (not_not_intro c18)]; done) | (simp [rf_daysT, c5, ea, c13, eb, c18]; done) | (simp [rf_daysT, c5, ea, c13, eb, if_pos c18, if_neg (not_not_intro c18)]; done) | contradiction | rfl) (by first | with_reducible rfl | (simp only [rf_daysT, c5, ea, c13, eb, c18]; done) | (simp only [rf_daysT, c5, ea, c13, eb, if_pos c18, if_neg (not_not_intro c18)]; done) | (simp [rf_daysT, c5, ea, c13, eb, c18]; done) | (simp [rf_daysT, c5, ea, c13, eb, if_pos c18, if_neg (not_not_intro c18)]; done) | contradiction | rfl)
      · skip
        refine ka_aload_n hC dX7_days_21 rfl ?_
        refine kg_X7_7  hC dX7_days_22 ?_
        refine ka_bipush (v := 14) hC dX7_days_25 rfl ?_
        refine ka_iconst (v := 5) hC dX7_days_27 rfl ?_
        refine ka_iload_n hC dX7_days_28 rfl ?_
        refine ka_imul hC dX7_days_29 ?_
        refine ka_iadd hC dX7_days_30 ?_
        refine ka_iload_n hC dX7_days_31 rfl ?_
        refine ka_iadd hC dX7_days_32 ?_
        refine km_ld (14 + 5 * a + b) (by omega) (ix_l a b rfl rfl) hC dX7_days_33 ?_
        refine ka_goto (tgt := 39) hC dX7_days_34 (by decide) ?_
        exact ka_iret hC hR dX7_days_39 (by first | with_reducible rfl | (simp only [rf_daysT, c5, ea, c13, eb, c18]; done) | (simp only [rf_daysT, c5, ea, c13, eb, if_neg c18, if_pos c18]; done) | (simp [rf_daysT, c5, ea, c13, eb, c18]; done) | (simp [rf_daysT, c5, ea, c13, eb, if_neg c18, if_pos c18]; done) | contradiction | rfl) (by first | with_reducible rfl | (simp only [rf_daysT, c5, ea, c13, eb, c18]; done) | (simp only [rf_daysT, c5, ea, c13, eb, if_neg c18, if_pos c18]; done) | (simp [rf_daysT, c5, ea, c13, eb, c18]; done) | (simp [rf_daysT, c5, ea, c13, eb, if_neg c18, if_pos c18]; done) | contradiction | rfl)
theorem ky_X7_would : ka_y yX7_would 2 := by unfold ka_y; decide +kernel
set_option maxHeartbeats 4000000 in
set_option maxRecDepth 100000 in
theorem m_X7_would {G : ka_G} (hG : ka_AD G) {V : ka_W} {M : ka_P} {S : ka_F} {D : Nat} (hM : MK D S) (hD : D < 9000) {x y : Int32}  : ka_M G yX7_would cX7_would 5 (some FieldType.int) 5 [.ref (ka_ad G 9 0), .int x, .int y] (ka_ms V M S) (some (.int (rf_wouldV S x y))) (rf_wouldW V M S x y) := by
  refine ka_entry hG ka_pn_X7 (ka_cat1 rfl) (Nat.le_of_ble_eq_true rfl) (fun X hC hR => ?_)
  refine ka_aload_n hC dX7_would_0 rfl ?_
  refine ka_iload_n hC dX7_would_1 rfl ?_
  refine ka_callV hC (m_X7_isPlace hG) (ka_Rc_model ) rfl ka_q_ml_X7_98 ka_q_im_X7_isPlace ka_q_se_X7_isPlace ka_q_in_X7 ka_q_co_X7_isPlace ky_X7_isPlace (by decide) (by decide) (Nat.le_of_ble_eq_true rfl) rfl dX7_would_2 ?_
  refine ka_if_eq_b (tgt := 18) hC dX7_would_5 (by decide) (fun c5 => ?_) (fun c5 => ?_)
  · skip
    refine ka_ldc hC ka_q_cn_X7_28 dX7_would_18 ?_
    exact ka_iret hC hR dX7_would_20 (by first | with_reducible rfl | (simp only [rf_wouldV, rf_wouldW, rf_would, c5]; done) | (simp only [rf_wouldV, rf_wouldW, rf_would, c5]; done) | (simp [rf_wouldV, rf_wouldW, rf_would, c5]; done) | (simp [rf_wouldV, rf_wouldW, rf_would, c5]; done) | contradiction | rfl) (by first | with_reducible rfl | (simp only [rf_wouldV, rf_wouldW, rf_would, c5]; done) | (simp only [rf_wouldV, rf_wouldW, rf_would, c5]; done) | (simp [rf_wouldV, rf_wouldW, rf_would, c5]; done) | (simp [rf_wouldV, rf_wouldW, rf_would, c5]; done) | contradiction | rfl)
  · skip
    obtain ⟨a, ha, rfl⟩ := rf_isPlace_of hM c5
    have ea : cn (nI a) = a := cn_nI (by omega)
    refine ka_iload_n hC dX7_would_8 rfl ?_
    refine ka_iconst (v := 0) hC dX7_would_9 rfl ?_
    refine ka_bipush (v := 99) hC dX7_would_10 rfl ?_
    refine ka_callS hC (m_X7_in hG) ka_q_ml_X7_36 ka_q_st_X7_in ka_q_in_X7 ka_q_co_X7_in ky_X7_in (by decide) (by decide) (Nat.le_of_ble_eq_true rfl) rfl dX7_would_12 ?_
    refine ka_if_ne_b (tgt := 21) hC dX7_would_15 (by decide) (fun c15 => ?_) (fun c15 => ?_)
    · skip
      have hy99 : cn y ≤ 99 := kw_cn (n := 99) (lo := 0) (by decide) (by decide) c15
      refine ka_iconst (v := 0) hC dX7_would_21 rfl ?_
      refine ka_istore_n_p3 hC dX7_would_22 (by decide) ?_
      suffices H23 : ∀ jj i : Nat, i ≤ 269 → 269 - i < jj → ka_I G X (ka_ms V (rf_aside M S i) S) 23 [.ref (ka_ad G 9 0), .int (nI a), .int y, .int (nI i)] [] from ka_I.back 4 (by rw [rf_aside_0]) (by rfl) (H23 (269 + 1) 0 (by omega) (by omega))
      intro j23
      induction j23 with
      | zero => intro i h1 h2 ; exact absurd h2 (Nat.not_lt_zero _)
      | succ j23 ih23 =>
        intro i hle23 hlt23 
        refine ka_iload_n hC dX7_would_23 rfl ?_
        refine ka_sipush (v := 269) hC dX7_would_24 rfl ?_
        refine ka_icmp_ge (tgt := 48) hC dX7_would_27 (by decide) (fun c27 => ?_) (fun c27 => ?_)
        · skip
          obtain rfl : i = 269 := nlt_nI (by decide) hle23 c27
          refine ka_iconst (v := 0) hC dX7_would_48 rfl ?_
          refine ka_istore_n_s3 hC dX7_would_49 (by decide) ?_
          suffices H50 : ∀ jj i : Nat, i ≤ cn y → cn y - i < jj → ka_I G X (ka_ms V (rf_aside M S 269) (rf_days S i).1) 50 [.ref (ka_ad G 9 0), .int (nI a), .int y, .int (nI i)] [] from ka_I.back 4 (by rw [rf_days_0]) (by rfl) (H50 (cn y + 1) 0 (by omega) (by omega))
          intro j50
          induction j50 with
          | zero => intro i h1 h2 ; exact absurd h2 (Nat.not_lt_zero _)
          | succ j50 ih50 =>
            intro i hle50 hlt50 
            refine ka_iload_n hC dX7_would_50 rfl ?_
            refine ka_iload_n hC dX7_would_51 rfl ?_
            refine ka_icmp_ge (tgt := 67) hC dX7_would_52 (by decide) (fun c52 => ?_) (fun c52 => ?_)
            · skip
              obtain rfl : i = cn y := nlt_cn hle50 c52
              refine ka_aload_n hC dX7_would_67 rfl ?_
              refine ka_iload_n hC dX7_would_68 rfl ?_
              refine ka_iconst (v := 2) hC dX7_would_69 rfl ?_
              refine ka_callV hC (m_X7_has hG a 2 ha (by decide) rfl rfl) (ka_Rc_model ) rfl ka_q_ml_X7_48 ka_q_im_X7_has ka_q_se_X7_has ka_q_in_X7 ka_q_co_X7_has ky_X7_has (by decide) (by decide) (Nat.le_of_ble_eq_true rfl) rfl dX7_would_70 ?_
              refine ka_istore_n_s3 hC dX7_would_73 (by decide) ?_
              refine ka_iconst (v := 0) hC dX7_would_74 rfl ?_
              refine ka_istore_p4 hC dX7_would_75 (by decide) ?_
              suffices H77 : ∀ jj i : Nat, i ≤ 269 → 269 - i < jj → ka_I G X (ka_ms V (rf_aside M S 269) (cpF i S (rf_days S (cn y)).1)) 77 [.ref (ka_ad G 9 0), .int (nI a), .int y, .int (pg (rf_days S (cn y)).1 a 2), .int (nI i)] [] from ka_I.back 5 (by rw [cpF_0]) (by rfl) (H77 (269 + 1) 0 (by omega) (by omega))
              intro j77
              induction j77 with
              | zero => intro i h1 h2 ; exact absurd h2 (Nat.not_lt_zero _)
              | succ j77 ih77 =>
                intro i hle77 hlt77 
                refine ka_iload hC dX7_would_77 rfl ?_
                refine ka_sipush (v := 269) hC dX7_would_79 rfl ?_
                refine ka_icmp_ge (tgt := 105) hC dX7_would_82 (by decide) (fun c82 => ?_) (fun c82 => ?_)
                · skip
                  obtain rfl : i = 269 := nlt_nI (by decide) hle77 c82
                  refine ka_iload_n hC dX7_would_105 rfl ?_
                  exact ka_iret hC hR dX7_would_106 (by first | with_reducible rfl | (simp only [rf_wouldV, rf_wouldW, rf_would, c5, ea, c15, c27, c52, c82]; done) | (simp only [rf_wouldV, rf_wouldW, rf_would, c5, ea, c15, if_neg c27, if_pos c27, if_neg c52, if_pos c52, if_neg c82, if_pos c82]; done) | (simp [rf_wouldV, rf_wouldW, rf_would, c5, ea, c15, c27, c52, c82]; done) | (simp [rf_wouldV, rf_wouldW, rf_would, c5, ea, c15, if_neg c27, if_pos c27, if_neg c52, if_pos c52, if_neg c82, if_pos c82]; done) | contradiction | rfl) (by first | with_reducible rfl | (simp only [rf_wouldV, rf_wouldW, rf_would, c5, ea, c15, c27, c52, c82]; done) | (simp only [rf_wouldV, rf_wouldW, rf_would, c5, ea, c15, if_neg c27, if_pos c27, if_neg c52, if_pos c52, if_neg c82, if_pos c82]; done) | (simp [rf_wouldV, rf_wouldW, rf_would, c5, ea, c15, c27, c52, c82]; done) | (simp [rf_wouldV, rf_wouldW, rf_would, c5, ea, c15, if_neg c27, if_pos c27, if_neg c52, if_pos c52, if_neg c82, if_pos c82]; done) | contradiction | rfl)
                · skip
                  have hi : i < 269 := lt_nI (by decide) hle77 c82
                  refine ka_aload_n hC dX7_would_85 rfl ?_
                  refine kg_X7_7  hC dX7_would_86 ?_
                  refine ka_iload hC dX7_would_89 rfl ?_
                  refine ka_aload_n hC dX7_would_91 rfl ?_
                  refine kg_X7_16  hC dX7_would_92 ?_
                  refine ka_iload hC dX7_would_95 rfl ?_
                  refine kmi_maside i (Nat.lt_of_lt_of_le hi (by decide)) rfl hC dX7_would_97 ?_
                  refine km_st i (Nat.lt_of_lt_of_le hi (by decide)) rfl hC dX7_would_98 ?_
                  refine ka_iinc_4 (v := 1) hC dX7_would_99 rfl (by decide) ?_
                  refine ka_goto (tgt := 77) hC dX7_would_102 (by decide) ?_
                  exact ka_I.back 5 (by rw [← cpF_s, rf_asd hi]) (by rw [← nI_1]; rfl) (ih77 (i + 1) (by omega) (by omega))
            · skip
              have hi : i < cn y := lt_cn hle50 c52
              refine ka_aload_n hC dX7_would_55 rfl ?_
              refine ka_callV hC (m_X7_day hG (hM.days i (by omega)) (by omega)) (ka_Rc_model ) rfl ka_q_ml_X7_101 ka_q_im_X7_day ka_q_se_X7_day ka_q_in_X7 ka_q_co_X7_day ky_X7_day (by decide) (by decide) (Nat.le_of_ble_eq_true rfl) rfl dX7_would_56 ?_
              refine ka_istore_p4 hC dX7_would_59 (by decide) ?_
              refine ka_iinc_3 (v := 1) hC dX7_would_61 rfl (by decide) ?_
              refine ka_goto (tgt := 50) hC dX7_would_64 (by decide) ?_
              exact ka_I.back 4 (by rw [rf_days_s]) (by rw [← nI_1]; rfl) (ih50 (i + 1) (by omega) (by omega))
        · skip
          have hi : i < 269 := lt_nI (by decide) hle23 c27
          refine ka_aload_n hC dX7_would_30 rfl ?_
          refine kg_X7_16  hC dX7_would_31 ?_
          refine ka_iload_n hC dX7_would_34 rfl ?_
          refine ka_aload_n hC dX7_would_35 rfl ?_
          refine kg_X7_7  hC dX7_would_36 ?_
          refine ka_iload_n hC dX7_would_39 rfl ?_
          refine km_ld i (Nat.lt_of_lt_of_le hi (by decide)) rfl hC dX7_would_40 ?_
          refine kms_maside i (Nat.lt_of_lt_of_le hi (by decide)) rfl hC dX7_would_41 ?_
          refine ka_iinc_3 (v := 1) hC dX7_would_42 rfl (by decide) ?_
          refine ka_goto (tgt := 23) hC dX7_would_45 (by decide) ?_
          exact ka_I.back 4 (by rw [rf_aside_s]) (by rw [← nI_1]; rfl) (ih23 (i + 1) (by omega) (by omega))
    · skip
      refine ka_ldc hC ka_q_cn_X7_28 dX7_would_18 ?_
      exact ka_iret hC hR dX7_would_20 (by first | with_reducible rfl | (simp only [rf_wouldV, rf_wouldW, rf_would, c5, ea, c15]; done) | (simp only [rf_wouldV, rf_wouldW, rf_would, c5, ea, c15]; done) | (simp [rf_wouldV, rf_wouldW, rf_would, c5, ea, c15]; done) | (simp [rf_wouldV, rf_wouldW, rf_would, c5, ea, c15]; done) | contradiction | rfl) (by first | with_reducible rfl | (simp only [rf_wouldV, rf_wouldW, rf_would, c5, ea, c15]; done) | (simp only [rf_wouldV, rf_wouldW, rf_would, c5, ea, c15]; done) | (simp [rf_wouldV, rf_wouldW, rf_would, c5, ea, c15]; done) | (simp [rf_wouldV, rf_wouldW, rf_would, c5, ea, c15]; done) | contradiction | rfl)
