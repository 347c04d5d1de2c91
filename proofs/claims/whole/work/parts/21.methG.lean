theorem ky_X7_ready : ka_y yX7_ready 1 := by unfold ka_y; decide +kernel
set_option maxHeartbeats 4000000 in
set_option maxRecDepth 100000 in
theorem m_X7_ready {G : ka_G} (hG : ka_AD G) {V : ka_W} {M : ka_P} {S : ka_F} (hn : cn (S 1) ≤ 20) {x : Int32}  : ka_M G yX7_ready cX7_ready 4 (some FieldType.int) 2 [.ref (ka_ad G 9 0), .int x] (ka_ms V M S) (some (.int (rf_ready S x))) (ka_ms V M S) := by
  refine ka_entry hG ka_pn_X7 (ka_cat1 rfl) (Nat.le_of_ble_eq_true rfl) (fun X hC hR => ?_)
  refine ka_iconst (v := 0) hC dX7_ready_0 rfl ?_
  refine ka_istore_n_p2 hC dX7_ready_1 (by decide) ?_
  refine ka_iconst (v := 0) hC dX7_ready_2 rfl ?_
  refine ka_istore_n_p3 hC dX7_ready_3 (by decide) ?_
  suffices H4 : ∀ jj i : Nat, i ≤ cn (S 1) → cn (S 1) - i < jj → ka_I G X (ka_ms V M S) 4 [.ref (ka_ad G 9 0), .int x, .int (rf_readyX S x i), .int (nI i)] [] from ka_I.back 4 (by first | with_reducible rfl | (simp only [rf_ready, rf_readyX_0, rf_readyX_s, rf_readyAt, nI_1]; done) | (simp only [rf_ready, rf_readyX_0, rf_readyX_s, rf_readyAt, nI_1]; done) | (simp [rf_ready, rf_readyX_0, rf_readyX_s, rf_readyAt, nI_1]; done) | (simp [rf_ready, rf_readyX_0, rf_readyX_s, rf_readyAt, nI_1]; done) | contradiction | rfl) (by first | with_reducible rfl | (simp only [rf_ready, rf_readyX_0, rf_readyX_s, rf_readyAt, nI_1]; done) | (simp only [rf_ready, rf_readyX_0, rf_readyX_s, rf_readyAt, nI_1]; done) | (simp [rf_ready, rf_readyX_0, rf_readyX_s, rf_readyAt, nI_1]; done) | (simp [rf_ready, rf_readyX_0, rf_readyX_s, rf_readyAt, nI_1]; done) | contradiction | rfl) (H4 (cn (S 1) + 1) 0 (by omega) (by omega))
  intro j4
  induction j4 with
  | zero => intro i h1 h2 ; exact absurd h2 (Nat.not_lt_zero _)
  | succ j4 ih4 =>
    intro i hle4 hlt4 
    refine ka_iload_n hC dX7_ready_4 rfl ?_
    refine ka_aload_n hC dX7_ready_5 rfl ?_
    refine kg_X7_7  hC dX7_ready_6 ?_
    refine ka_iconst (v := 1) hC dX7_ready_9 rfl ?_
    refine km_ld 1 (by decide) rfl hC dX7_ready_10 ?_
    refine ka_icmp_ge (tgt := 54) hC dX7_ready_11 (by decide) (fun c11 => ?_) (fun c11 => ?_)
    · skip
      obtain rfl : i = cn (S 1) := nlt_cn hle4 c11
      refine ka_iload_n hC dX7_ready_54 rfl ?_
      exact ka_iret hC hR dX7_ready_55 (by first | with_reducible rfl | (simp only [rf_ready, rf_readyX_0, rf_readyX_s, rf_readyAt, nI_1, c11]; done) | (simp only [rf_ready, rf_readyX_0, rf_readyX_s, rf_readyAt, nI_1, if_neg c11, if_pos c11]; done) | (simp [rf_ready, rf_readyX_0, rf_readyX_s, rf_readyAt, nI_1, c11]; done) | (simp [rf_ready, rf_readyX_0, rf_readyX_s, rf_readyAt, nI_1, if_neg c11, if_pos c11]; done) | contradiction | rfl) (by first | with_reducible rfl | (simp only [rf_ready, rf_readyX_0, rf_readyX_s, rf_readyAt, nI_1, c11]; done) | (simp only [rf_ready, rf_readyX_0, rf_readyX_s, rf_readyAt, nI_1, if_neg c11, if_pos c11]; done) | (simp [rf_ready, rf_readyX_0, rf_readyX_s, rf_readyAt, nI_1, c11]; done) | (simp [rf_ready, rf_readyX_0, rf_readyX_s, rf_readyAt, nI_1, if_neg c11, if_pos c11]; done) | contradiction | rfl)
    · skip
      have hi : i < cn (S 1) := lt_cn hle4 c11
      have hi20 : i < 20 := Nat.lt_of_lt_of_le hi hn
      refine ka_iload_n hC dX7_ready_14 rfl ?_
      refine ka_aload_n hC dX7_ready_15 rfl ?_
      refine ka_iload_n hC dX7_ready_16 rfl ?_
      refine ka_iload_n hC dX7_ready_17 rfl ?_
      refine ka_callV hC (m_X7_stands hG (by first | assumption | decide | exact wgIx_lt _ | exact plIx_lt _ | exact sp_recQ_lt | omega)) (ka_Rc_model ) rfl ka_q_ml_X7_94 ka_q_im_X7_stands ka_q_se_X7_stands ka_q_in_X7 ka_q_co_X7_stands ky_X7_stands (by decide) (by decide) (Nat.le_of_ble_eq_true rfl) rfl dX7_ready_18 ?_
      refine ka_if_eq_b (tgt := 45) hC dX7_ready_21 (by decide) (fun c21 => ?_) (fun c21 => ?_)
      · skip
        refine ka_iconst (v := 0) hC dX7_ready_45 rfl ?_
        refine ka_iadd hC dX7_ready_46 ?_
        refine ka_istore_n_s2 hC dX7_ready_47 (by decide) ?_
        refine ka_iinc_3 (v := 1) hC dX7_ready_48 rfl (by decide) ?_
        refine ka_goto (tgt := 4) hC dX7_ready_51 (by decide) ?_
        exact ka_I.back 4 (by first | with_reducible rfl | (simp only [rf_ready, rf_readyX_0, rf_readyX_s, rf_readyAt, nI_1, c11, c21]; done) | (simp only [rf_ready, rf_readyX_0, rf_readyX_s, rf_readyAt, nI_1, if_pos c11, if_neg (not_not_intro c11), c21]; done) | (simp [rf_ready, rf_readyX_0, rf_readyX_s, rf_readyAt, nI_1, c11, c21]; done) | (simp [rf_ready, rf_readyX_0, rf_readyX_s, rf_readyAt, nI_1, if_pos c11, if_neg (not_not_intro c11), c21]; done) | contradiction | rfl) (by first | with_reducible rfl | (simp only [rf_ready, rf_readyX_0, rf_readyX_s, rf_readyAt, nI_1, c11, c21]; done) | (simp only [rf_ready, rf_readyX_0, rf_readyX_s, rf_readyAt, nI_1, if_pos c11, if_neg (not_not_intro c11), c21]; done) | (simp [rf_ready, rf_readyX_0, rf_readyX_s, rf_readyAt, nI_1, c11, c21]; done) | (simp [rf_ready, rf_readyX_0, rf_readyX_s, rf_readyAt, nI_1, if_pos c11, if_neg (not_not_intro c11), c21]; done) | contradiction | rfl) (ih4 (i + 1) (by omega) (by omega))
      · skip
        refine ka_aload_n hC dX7_ready_24 rfl ?_
        refine ka_iload_n hC dX7_ready_25 rfl ?_
        refine ka_iconst (v := 2) hC dX7_ready_26 rfl ?_
        refine ka_callV hC (m_X7_of hG i 2 hi20 (by decide) rfl rfl) (ka_Rc_model ) rfl ka_q_ml_X7_40 ka_q_im_X7_of ka_q_se_X7_of ka_q_in_X7 ka_q_co_X7_of ky_X7_of (by decide) (by decide) (Nat.le_of_ble_eq_true rfl) rfl dX7_ready_27 ?_
        refine ka_if_ne (tgt := 45) hC dX7_ready_30 (by decide) (fun c30 => ?_) (fun c30 => ?_)
        · skip
          refine ka_iconst (v := 0) hC dX7_ready_45 rfl ?_
          refine ka_iadd hC dX7_ready_46 ?_
          refine ka_istore_n_s2 hC dX7_ready_47 (by decide) ?_
          refine ka_iinc_3 (v := 1) hC dX7_ready_48 rfl (by decide) ?_
          refine ka_goto (tgt := 4) hC dX7_ready_51 (by decide) ?_
          exact ka_I.back 4 (by first | with_reducible rfl | (simp only [rf_ready, rf_readyX_0, rf_readyX_s, rf_readyAt, nI_1, c11, c21, c30]; done) | (simp only [rf_ready, rf_readyX_0, rf_readyX_s, rf_readyAt, nI_1, if_pos c11, if_neg (not_not_intro c11), c21, if_neg c30, if_pos c30]; done) | (simp [rf_ready, rf_readyX_0, rf_readyX_s, rf_readyAt, nI_1, c11, c21, c30]; done) | (simp [rf_ready, rf_readyX_0, rf_readyX_s, rf_readyAt, nI_1, if_pos c11, if_neg (not_not_intro c11), c21, if_neg c30, if_pos c30]; done) | contradiction | rfl) (by first | with_reducible rfl | (simp only [rf_ready, rf_readyX_0, rf_readyX_s, rf_readyAt, nI_1, c11, c21, c30]; done) | (simp only [rf_ready, rf_readyX_0, rf_readyX_s, rf_readyAt, nI_1, if_pos c11, if_neg (not_not_intro c11), c21, if_neg c30, if_pos c30]; done) | (simp [rf_ready, rf_readyX_0, rf_readyX_s, rf_readyAt, nI_1, c11, c21, c30]; done) | (simp [rf_ready, rf_readyX_0, rf_readyX_s, rf_readyAt, nI_1, if_pos c11, if_neg (not_not_intro c11), c21, if_neg c30, if_pos c30]; done) | contradiction | rfl) (ih4 (i + 1) (by omega) (by omega))
        · skip
          refine ka_aload_n hC dX7_ready_33 rfl ?_
          refine ka_iload_n hC dX7_ready_34 rfl ?_
          refine ka_callV hC (m_X7_isDue hG (by first | assumption | decide | exact wgIx_lt _ | exact plIx_lt _ | exact sp_recQ_lt | omega)) (ka_Rc_model ) rfl ka_q_ml_X7_44 ka_q_im_X7_isDue ka_q_se_X7_isDue ka_q_in_X7 ka_q_co_X7_isDue ky_X7_isDue (by decide) (by decide) (Nat.le_of_ble_eq_true rfl) rfl dX7_ready_35 ?_
          refine ka_if_ne_b (tgt := 45) hC dX7_ready_38 (by decide) (fun c38 => ?_) (fun c38 => ?_)
          · skip
            refine ka_iconst (v := 0) hC dX7_ready_45 rfl ?_
            refine ka_iadd hC dX7_ready_46 ?_
            refine ka_istore_n_s2 hC dX7_ready_47 (by decide) ?_
            refine ka_iinc_3 (v := 1) hC dX7_ready_48 rfl (by decide) ?_
            refine ka_goto (tgt := 4) hC dX7_ready_51 (by decide) ?_
            exact ka_I.back 4 (by first | with_reducible rfl | (simp only [rf_ready, rf_readyX_0, rf_readyX_s, rf_readyAt, nI_1, c11, c21, c30, c38]; done) | (simp only [rf_ready, rf_readyX_0, rf_readyX_s, rf_readyAt, nI_1, if_pos c11, if_neg (not_not_intro c11), c21, if_pos c30, if_neg (not_not_intro c30), c38]; done) | (simp [rf_ready, rf_readyX_0, rf_readyX_s, rf_readyAt, nI_1, c11, c21, c30, c38]; done) | (simp [rf_ready, rf_readyX_0, rf_readyX_s, rf_readyAt, nI_1, if_pos c11, if_neg (not_not_intro c11), c21, if_pos c30, if_neg (not_not_intro c30), c38]; done) | contradiction | rfl) (by first | with_reducible rfl | (simp only [rf_ready, rf_readyX_0, rf_readyX_s, rf_readyAt, nI_1, c11, c21, c30, c38]; done) | (simp only [rf_ready, rf_readyX_0, rf_readyX_s, rf_readyAt, nI_1, if_pos c11, if_neg (not_not_intro c11), c21, if_pos c30, if_neg (not_not_intro c30), c38]; done) | (simp [rf_ready, rf_readyX_0, rf_readyX_s, rf_readyAt, nI_1, c11, c21, c30, c38]; done) | (simp [rf_ready, rf_readyX_0, rf_readyX_s, rf_readyAt, nI_1, if_pos c11, if_neg (not_not_intro c11), c21, if_pos c30, if_neg (not_not_intro c30), c38]; done) | contradiction | rfl) (ih4 (i + 1) (by omega) (by omega))
          · skip
            refine ka_iconst (v := 1) hC dX7_ready_41 rfl ?_
            refine ka_goto (tgt := 46) hC dX7_ready_42 (by decide) ?_
            refine ka_iadd hC dX7_ready_46 ?_
            refine ka_istore_n_s2 hC dX7_ready_47 (by decide) ?_
            refine ka_iinc_3 (v := 1) hC dX7_ready_48 rfl (by decide) ?_
            refine ka_goto (tgt := 4) hC dX7_ready_51 (by decide) ?_
            exact ka_I.back 4 (by first | with_reducible rfl | (simp only [rf_ready, rf_readyX_0, rf_readyX_s, rf_readyAt, nI_1, c11, c21, c30, c38]; done) | (simp only [rf_ready, rf_readyX_0, rf_readyX_s, rf_readyAt, nI_1, if_pos c11, if_neg (not_not_intro c11), c21, if_pos c30, if_neg (not_not_intro c30), c38]; done) | (simp [rf_ready, rf_readyX_0, rf_readyX_s, rf_readyAt, nI_1, c11, c21, c30, c38]; done) | (simp [rf_ready, rf_readyX_0, rf_readyX_s, rf_readyAt, nI_1, if_pos c11, if_neg (not_not_intro c11), c21, if_pos c30, if_neg (not_not_intro c30), c38]; done) | contradiction | rfl) (by first | with_reducible rfl | (simp only [rf_ready, rf_readyX_0, rf_readyX_s, rf_readyAt, nI_1, c11, c21, c30, c38]; done) | (simp only [rf_ready, rf_readyX_0, rf_readyX_s, rf_readyAt, nI_1, if_pos c11, if_neg (not_not_intro c11), c21, if_pos c30, if_neg (not_not_intro c30), c38]; done) | (simp [rf_ready, rf_readyX_0, rf_readyX_s, rf_readyAt, nI_1, c11, c21, c30, c38]; done) | (simp [rf_ready, rf_readyX_0, rf_readyX_s, rf_readyAt, nI_1, if_pos c11, if_neg (not_not_intro c11), c21, if_pos c30, if_neg (not_not_intro c30), c38]; done) | contradiction | rfl) (ih4 (i + 1) (by omega) (by omega))
theorem ky_X7_lacking : ka_y yX7_lacking 1 := by unfold ka_y; decide +kernel
set_option maxHeartbeats 4000000 in
set_option maxRecDepth 100000 in
theorem m_X7_lacking {G : ka_G} (hG : ka_AD G) {V : ka_W} {M : ka_P} {S : ka_F} {x : Int32} (p : Nat) (hp : p < 5) (hx : x = nI p) (hn : cn (S 1) ≤ 20)  : ka_M G yX7_lacking cX7_lacking 4 (some FieldType.int) 3 [.ref (ka_ad G 9 0), .int x] (ka_ms V M S) (some (.int (rf_lack S p))) (ka_ms V M S) := by
  refine ka_entry hG ka_pn_X7 (ka_cat1 rfl) (Nat.le_of_ble_eq_true rfl) (fun X hC hR => ?_)
  subst hx
  refine ka_aload_n hC dX7_lacking_0 rfl ?_
  refine ka_iload_n hC dX7_lacking_1 rfl ?_
  refine ka_iconst (v := 0) hC dX7_lacking_2 rfl ?_
  refine ka_callV hC (m_X7_has hG p 0 hp (by decide) rfl rfl) (ka_Rc_model ) rfl ka_q_ml_X7_48 ka_q_im_X7_has ka_q_se_X7_has ka_q_in_X7 ka_q_co_X7_has ky_X7_has (by decide) (by decide) (Nat.le_of_ble_eq_true rfl) rfl dX7_lacking_3 ?_
  refine ka_bipush (v := 30) hC dX7_lacking_6 rfl ?_
  refine ka_idiv hC dX7_lacking_8 (by decide) ?_
  refine ka_aload_n hC dX7_lacking_9 rfl ?_
  refine ka_iload_n hC dX7_lacking_10 rfl ?_
  refine ka_callV hC (m_X7_ready hG hn) (ka_Rc_model ) rfl ka_q_ml_X7_145 ka_q_im_X7_ready ka_q_se_X7_ready ka_q_in_X7 ka_q_co_X7_ready ky_X7_ready (by decide) (by decide) (Nat.le_of_ble_eq_true rfl) rfl dX7_lacking_11 ?_
  refine ka_isub hC dX7_lacking_14 ?_
  refine ka_istore_n_p2 hC dX7_lacking_15 (by decide) ?_
  refine ka_iconst (v := 0) hC dX7_lacking_16 rfl ?_
  refine ka_istore_n_p3 hC dX7_lacking_17 (by decide) ?_
  suffices H18 : ∀ jj i : Nat, i ≤ cn (S 1) → cn (S 1) - i < jj → ka_I G X (ka_ms V M S) 18 [.ref (ka_ad G 9 0), .int (nI p), .int (rf_lackX S p i), .int (nI i)] [] from ka_I.back 4 (by rfl) (by rfl) (H18 (cn (S 1) + 1) 0 (by omega) (by omega))
  intro j18
  induction j18 with
  | zero => intro i h1 h2 ; exact absurd h2 (Nat.not_lt_zero _)
  | succ j18 ih18 =>
    intro i hle18 hlt18 
    refine ka_iload_n hC dX7_lacking_18 rfl ?_
    refine ka_aload_n hC dX7_lacking_19 rfl ?_
    refine kg_X7_7  hC dX7_lacking_20 ?_
    refine ka_iconst (v := 1) hC dX7_lacking_23 rfl ?_
    refine km_ld 1 (by decide) rfl hC dX7_lacking_24 ?_
    refine ka_icmp_ge (tgt := 71) hC dX7_lacking_25 (by decide) (fun c25 => ?_) (fun c25 => ?_)
    · skip
      obtain rfl : i = cn (S 1) := nlt_cn hle18 c25
      refine ka_iload_n hC dX7_lacking_71 rfl ?_
      refine ka_if_ge (tgt := 79) hC dX7_lacking_72 (by decide) (fun c72 => ?_) (fun c72 => ?_)
      · skip
        refine ka_iload_n hC dX7_lacking_79 rfl ?_
        exact ka_iret hC hR dX7_lacking_80 (by first | with_reducible rfl | (simp only [rf_lack, rf_lackX_0, rf_lackX_s, rf_lackAt, nI_1, c25, c72]; done) | (simp only [rf_lack, rf_lackX_0, rf_lackX_s, rf_lackAt, nI_1, if_neg c25, if_pos c25, if_neg c72, if_pos c72]; done) | (simp [rf_lack, rf_lackX_0, rf_lackX_s, rf_lackAt, nI_1, c25, c72]; done) | (simp [rf_lack, rf_lackX_0, rf_lackX_s, rf_lackAt, nI_1, if_neg c25, if_pos c25, if_neg c72, if_pos c72]; done) | contradiction | rfl) (by first | with_reducible rfl | (simp only [rf_lack, rf_lackX_0, rf_lackX_s, rf_lackAt, nI_1, c25, c72]; done) | (simp only [rf_lack, rf_lackX_0, rf_lackX_s, rf_lackAt, nI_1, if_neg c25, if_pos c25, if_neg c72, if_pos c72]; done) | (simp [rf_lack, rf_lackX_0, rf_lackX_s, rf_lackAt, nI_1, c25, c72]; done) | (simp [rf_lack, rf_lackX_0, rf_lackX_s, rf_lackAt, nI_1, if_neg c25, if_pos c25, if_neg c72, if_pos c72]; done) | contradiction | rfl)
      · skip
        refine ka_iconst (v := 0) hC dX7_lacking_75 rfl ?_
        refine ka_goto (tgt := 80) hC dX7_lacking_76 (by decide) ?_
        exact ka_iret hC hR dX7_lacking_80 (by first | with_reducible rfl | (simp only [rf_lack, rf_lackX_0, rf_lackX_s, rf_lackAt, nI_1, c25, c72]; done) | (simp only [rf_lack, rf_lackX_0, rf_lackX_s, rf_lackAt, nI_1, if_neg c25, if_pos c25, if_pos c72, if_neg (not_not_intro c72)]; done) | (simp [rf_lack, rf_lackX_0, rf_lackX_s, rf_lackAt, nI_1, c25, c72]; done) | (simp [rf_lack, rf_lackX_0, rf_lackX_s, rf_lackAt, nI_1, if_neg c25, if_pos c25, if_pos c72, if_neg (not_not_intro c72)]; done) | contradiction | rfl) (by first | with_reducible rfl | (simp only [rf_lack, rf_lackX_0, rf_lackX_s, rf_lackAt, nI_1, c25, c72]; done) | (simp only [rf_lack, rf_lackX_0, rf_lackX_s, rf_lackAt, nI_1, if_neg c25, if_pos c25, if_pos c72, if_neg (not_not_intro c72)]; done) | (simp [rf_lack, rf_lackX_0, rf_lackX_s, rf_lackAt, nI_1, c25, c72]; done) | (simp [rf_lack, rf_lackX_0, rf_lackX_s, rf_lackAt, nI_1, if_neg c25, if_pos c25, if_pos c72, if_neg (not_not_intro c72)]; done) | contradiction | rfl)
    · skip
      have hi : i < cn (S 1) := lt_cn hle18 c25
      have hi20 : i < 20 := Nat.lt_of_lt_of_le hi hn
      refine ka_iload_n hC dX7_lacking_28 rfl ?_
      refine ka_aload_n hC dX7_lacking_29 rfl ?_
      refine ka_iload_n hC dX7_lacking_30 rfl ?_
      refine ka_iconst (v := 3) hC dX7_lacking_31 rfl ?_
      refine ka_callV hC (m_X7_of hG i 3 hi20 (by decide) rfl rfl) (ka_Rc_model ) rfl ka_q_ml_X7_40 ka_q_im_X7_of ka_q_se_X7_of ka_q_in_X7 ka_q_co_X7_of ky_X7_of (by decide) (by decide) (Nat.le_of_ble_eq_true rfl) rfl dX7_lacking_32 ?_
      refine ka_iconst (v := 1) hC dX7_lacking_35 rfl ?_
      refine ka_icmp_ne (tgt := 62) hC dX7_lacking_36 (by decide) (fun c36 => ?_) (fun c36 => ?_)
      · skip
        refine ka_iconst (v := 0) hC dX7_lacking_62 rfl ?_
        refine ka_isub hC dX7_lacking_63 ?_
        refine ka_istore_n_s2 hC dX7_lacking_64 (by decide) ?_
        refine ka_iinc_3 (v := 1) hC dX7_lacking_65 rfl (by decide) ?_
        refine ka_goto (tgt := 18) hC dX7_lacking_68 (by decide) ?_
        exact ka_I.back 4 (by first | with_reducible rfl | (simp only [rf_lack, rf_lackX_0, rf_lackX_s, rf_lackAt, nI_1, c25, c36]; done) | (simp only [rf_lack, rf_lackX_0, rf_lackX_s, rf_lackAt, nI_1, if_pos c25, if_neg (not_not_intro c25), if_neg c36, if_pos c36]; done) | (simp [rf_lack, rf_lackX_0, rf_lackX_s, rf_lackAt, nI_1, c25, c36]; done) | (simp [rf_lack, rf_lackX_0, rf_lackX_s, rf_lackAt, nI_1, if_pos c25, if_neg (not_not_intro c25), if_neg c36, if_pos c36]; done) | contradiction | rfl) (by first | with_reducible rfl | (simp only [rf_lack, rf_lackX_0, rf_lackX_s, rf_lackAt, nI_1, c25, c36]; done) | (simp only [rf_lack, rf_lackX_0, rf_lackX_s, rf_lackAt, nI_1, if_pos c25, if_neg (not_not_intro c25), if_neg c36, if_pos c36]; done) | (simp [rf_lack, rf_lackX_0, rf_lackX_s, rf_lackAt, nI_1, c25, c36]; done) | (simp [rf_lack, rf_lackX_0, rf_lackX_s, rf_lackAt, nI_1, if_pos c25, if_neg (not_not_intro c25), if_neg c36, if_pos c36]; done) | contradiction | rfl) (ih18 (i + 1) (by omega) (by omega))
      · skip
        refine ka_aload_n hC dX7_lacking_39 rfl ?_
        refine ka_iload_n hC dX7_lacking_40 rfl ?_
        refine ka_iconst (v := 1) hC dX7_lacking_41 rfl ?_
        refine ka_callV hC (m_X7_of hG i 1 hi20 (by decide) rfl rfl) (ka_Rc_model ) rfl ka_q_ml_X7_40 ka_q_im_X7_of ka_q_se_X7_of ka_q_in_X7 ka_q_co_X7_of ky_X7_of (by decide) (by decide) (Nat.le_of_ble_eq_true rfl) rfl dX7_lacking_42 ?_
        refine ka_iload_n hC dX7_lacking_45 rfl ?_
        refine ka_icmp_ne (tgt := 62) hC dX7_lacking_46 (by decide) (fun c46 => ?_) (fun c46 => ?_)
        · skip
          refine ka_iconst (v := 0) hC dX7_lacking_62 rfl ?_
          refine ka_isub hC dX7_lacking_63 ?_
          refine ka_istore_n_s2 hC dX7_lacking_64 (by decide) ?_
          refine ka_iinc_3 (v := 1) hC dX7_lacking_65 rfl (by decide) ?_
          refine ka_goto (tgt := 18) hC dX7_lacking_68 (by decide) ?_
          exact ka_I.back 4 (by first | with_reducible rfl | (simp only [rf_lack, rf_lackX_0, rf_lackX_s, rf_lackAt, nI_1, c25, c36, c46]; done) | (simp only [rf_lack, rf_lackX_0, rf_lackX_s, rf_lackAt, nI_1, if_pos c25, if_neg (not_not_intro c25), if_pos c36, if_neg (not_not_intro c36), if_neg c46, if_pos c46]; done) | (simp [rf_lack, rf_lackX_0, rf_lackX_s, rf_lackAt, nI_1, c25, c36, c46]; done) | (simp [rf_lack, rf_lackX_0, rf_lackX_s, rf_lackAt, nI_1, if_pos c25, if_neg (not_not_intro c25), if_pos c36, if_neg (not_not_intro c36), if_neg c46, if_pos c46]; done) | contradiction | rfl) (by first | with_reducible rfl | (simp only [rf_lack, rf_lackX_0, rf_lackX_s, rf_lackAt, nI_1, c25, c36, c46]; done) | (simp only [rf_lack, rf_lackX_0, rf_lackX_s, rf_lackAt, nI_1, if_pos c25, if_neg (not_not_intro c25), if_pos c36, if_neg (not_not_intro c36), if_neg c46, if_pos c46]; done) | (simp [rf_lack, rf_lackX_0, rf_lackX_s, rf_lackAt, nI_1, c25, c36, c46]; done) | (simp [rf_lack, rf_lackX_0, rf_lackX_s, rf_lackAt, nI_1, if_pos c25, if_neg (not_not_intro c25), if_pos c36, if_neg (not_not_intro c36), if_neg c46, if_pos c46]; done) | contradiction | rfl) (ih18 (i + 1) (by omega) (by omega))
        · skip
          refine ka_aload_n hC dX7_lacking_49 rfl ?_
          refine ka_iload_n hC dX7_lacking_50 rfl ?_
          refine ka_iconst (v := 2) hC dX7_lacking_51 rfl ?_
          refine ka_callV hC (m_X7_of hG i 2 hi20 (by decide) rfl rfl) (ka_Rc_model ) rfl ka_q_ml_X7_40 ka_q_im_X7_of ka_q_se_X7_of ka_q_in_X7 ka_q_co_X7_of ky_X7_of (by decide) (by decide) (Nat.le_of_ble_eq_true rfl) rfl dX7_lacking_52 ?_
          refine ka_if_ne (tgt := 62) hC dX7_lacking_55 (by decide) (fun c55 => ?_) (fun c55 => ?_)
          · skip
            refine ka_iconst (v := 0) hC dX7_lacking_62 rfl ?_
            refine ka_isub hC dX7_lacking_63 ?_
            refine ka_istore_n_s2 hC dX7_lacking_64 (by decide) ?_
            refine ka_iinc_3 (v := 1) hC dX7_lacking_65 rfl (by decide) ?_
            refine ka_goto (tgt := 18) hC dX7_lacking_68 (by decide) ?_
            exact ka_I.back 4 (by first | with_reducible rfl | (simp only [rf_lack, rf_lackX_0, rf_lackX_s, rf_lackAt, nI_1, c25, c36, c46, c55]; done) | (simp only [rf_lack, rf_lackX_0, rf_lackX_s, rf_lackAt, nI_1, if_pos c25, if_neg (not_not_intro c25), if_pos c36, if_neg (not_not_intro c36), if_pos c46, if_neg (not_not_intro c46), if_neg c55, if_pos c55]; done) | (simp [rf_lack, rf_lackX_0, rf_lackX_s, rf_lackAt, nI_1, c25, c36, c46, c55]; done) | (simp [rf_lack, rf_lackX_0, rf_lackX_s, rf_lackAt, nI_1, if_pos c25, if_neg (not_not_intro c25), if_pos c36, if_neg (not_not_intro c36), if_pos c46, if_neg (not_not_intro c46), if_neg c55, if_pos c55]; done) | contradiction | rfl) (by first | with_reducible rfl | (simp only [rf_lack, rf_lackX_0, rf_lackX_s, rf_lackAt, nI_1, c25, c36, c46, c55]; done) | (simp only [rf_lack, rf_lackX_0, rf_lackX_s, rf_lackAt, nI_1, if_pos c25, if_neg (not_not_intro c25), if_pos c36, if_neg (not_not_intro c36), if_pos c46, if_neg (not_not_intro c46), if_neg c55, if_pos c55]; done) | (simp [rf_lack, rf_lackX_0, rf_lackX_s, rf_lackAt, nI_1, c25, c36, c46, c55]; done) | (simp [rf_lack, rf_lackX_0, rf_lackX_s, rf_lackAt, nI_1, if_pos c25, if_neg (not_not_intro c25), if_pos c36, if_neg (not_not_intro c36), if_pos c46, if_neg (not_not_intro c46), if_neg c55, if_pos c55]; done) | contradiction | rfl) (ih18 (i + 1) (by omega) (by omega))
          · skip
            refine ka_iconst (v := 1) hC dX7_lacking_58 rfl ?_
            refine ka_goto (tgt := 63) hC dX7_lacking_59 (by decide) ?_
            refine ka_isub hC dX7_lacking_63 ?_
            refine ka_istore_n_s2 hC dX7_lacking_64 (by decide) ?_
            refine ka_iinc_3 (v := 1) hC dX7_lacking_65 rfl (by decide) ?_
            refine ka_goto (tgt := 18) hC dX7_lacking_68 (by decide) ?_
            exact ka_I.back 4 (by first | with_reducible rfl | (simp only [rf_lack, rf_lackX_0, rf_lackX_s, rf_lackAt, nI_1, c25, c36, c46, c55]; done) | (simp only [rf_lack, rf_lackX_0, rf_lackX_s, rf_lackAt, nI_1, if_pos c25, if_neg (not_not_intro c25), if_pos c36, if_neg (not_not_intro c36), if_pos c46, if_neg (not_not_intro c46), if_pos c55, if_neg (not_not_intro c55)]; done) | (simp [rf_lack, rf_lackX_0, rf_lackX_s, rf_lackAt, nI_1, c25, c36, c46, c55]; done) | (simp [rf_lack, rf_lackX_0, rf_lackX_s, rf_lackAt, nI_1, if_pos c25, if_neg (not_not_intro c25), if_pos c36, if_neg (not_not_intro c36), if_pos c46, if_neg (not_not_intro c46), if_pos c55, if_neg (not_not_intro c55)]; done) | contradiction | rfl) (by first | with_reducible rfl | (simp only [rf_lack, rf_lackX_0, rf_lackX_s, rf_lackAt, nI_1, c25, c36, c46, c55]; done) | (simp only [rf_lack, rf_lackX_0, rf_lackX_s, rf_lackAt, nI_1, if_pos c25, if_neg (not_not_intro c25), if_pos c36, if_neg (not_not_intro c36), if_pos c46, if_neg (not_not_intro c46), if_pos c55, if_neg (not_not_intro c55)]; done) | (simp [rf_lack, rf_lackX_0, rf_lackX_s, rf_lackAt, nI_1, c25, c36, c46, c55]; done) | (simp [rf_lack, rf_lackX_0, rf_lackX_s, rf_lackAt, nI_1, if_pos c25, if_neg (not_not_intro c25), if_pos c36, if_neg (not_not_intro c36), if_pos c46, if_neg (not_not_intro c46), if_pos c55, if_neg (not_not_intro c55)]; done) | contradiction | rfl) (ih18 (i + 1) (by omega) (by omega))
theorem ky_X7_spare : ka_y yX7_spare 1 := by unfold ka_y; decide +kernel
set_option maxHeartbeats 4000000 in
set_option maxRecDepth 100000 in
theorem m_X7_spare {G : ka_G} (hG : ka_AD G) {V : ka_W} {M : ka_P} {S : ka_F} {x : Int32} (p : Nat) (hp : p < 5) (hx : x = nI p) (hn : cn (S 1) ≤ 20)  : ka_M G yX7_spare cX7_spare 2 (some FieldType.int) 3 [.ref (ka_ad G 9 0), .int x] (ka_ms V M S) (some (.int (rf_spare S p))) (ka_ms V M S) := by
  refine ka_entry hG ka_pn_X7 (ka_cat1 rfl) (Nat.le_of_ble_eq_true rfl) (fun X hC hR => ?_)
  subst hx
  refine ka_aload_n hC dX7_spare_0 rfl ?_
  refine ka_iload_n hC dX7_spare_1 rfl ?_
  refine ka_callV hC (m_X7_ready hG hn) (ka_Rc_model ) rfl ka_q_ml_X7_145 ka_q_im_X7_ready ka_q_se_X7_ready ka_q_in_X7 ka_q_co_X7_ready ky_X7_ready (by decide) (by decide) (Nat.le_of_ble_eq_true rfl) rfl dX7_spare_2 ?_
  refine ka_iload_n hC dX7_spare_5 rfl ?_
  refine ka_if_ne (tgt := 13) hC dX7_spare_6 (by decide) (fun c6 => ?_) (fun c6 => ?_)
  · skip
    refine ka_aload_n hC dX7_spare_13 rfl ?_
    refine ka_iload_n hC dX7_spare_14 rfl ?_
    refine ka_iconst (v := 0) hC dX7_spare_15 rfl ?_
    refine ka_callV hC (m_X7_has hG p 0 hp (by decide) rfl rfl) (ka_Rc_model ) rfl ka_q_ml_X7_48 ka_q_im_X7_has ka_q_se_X7_has ka_q_in_X7 ka_q_co_X7_has ky_X7_has (by decide) (by decide) (Nat.le_of_ble_eq_true rfl) rfl dX7_spare_16 ?_
    refine ka_bipush (v := 30) hC dX7_spare_19 rfl ?_
    refine ka_idiv hC dX7_spare_21 (by decide) ?_
    refine ka_isub hC dX7_spare_22 ?_
    exact ka_iret hC hR dX7_spare_23 (by first | with_reducible rfl | (simp only [rf_spare, c6]; done) | (simp only [rf_spare, if_neg c6, if_pos c6]; done) | (simp [rf_spare, c6]; done) | (simp [rf_spare, if_neg c6, if_pos c6]; done) | contradiction | rfl) (by first | with_reducible rfl | (simp only [rf_spare, c6]; done) | (simp only [rf_spare, if_neg c6, if_pos c6]; done) | (simp [rf_spare, c6]; done) | (simp [rf_spare, if_neg c6, if_pos c6]; done) | contradiction | rfl)
  · skip
    refine ka_iconst (v := 0) hC dX7_spare_9 rfl ?_
    refine ka_goto (tgt := 22) hC dX7_spare_10 (by decide) ?_
    refine ka_isub hC dX7_spare_22 ?_
    exact ka_iret hC hR dX7_spare_23 (by first | with_reducible rfl | (simp only [rf_spare, c6]; done) | (simp only [rf_spare, if_pos c6, if_neg (not_not_intro c6)]; done) | (simp [rf_spare, c6]; done) | (simp [rf_spare, if_pos c6, if_neg (not_not_intro c6)]; done) | contradiction | rfl) (by first | with_reducible rfl | (simp only [rf_spare, c6]; done) | (simp only [rf_spare, if_pos c6, if_neg (not_not_intro c6)]; done) | (simp [rf_spare, c6]; done) | (simp [rf_spare, if_pos c6, if_neg (not_not_intro c6)]; done) | contradiction | rfl)
theorem ky_X7_lacks : ka_y yX7_lacks 1 := by unfold ka_y; decide +kernel
set_option maxHeartbeats 4000000 in
set_option maxRecDepth 100000 in
theorem m_X7_lacks {G : ka_G} (hG : ka_AD G) {V : ka_W} {M : ka_P} {S : ka_F} {D : Nat} (hM : MK D S) {x : Int32}  : ka_M G yX7_lacks cX7_lacks 2 (some FieldType.int) 4 [.ref (ka_ad G 9 0), .int x] (ka_ms V M S) (some (.int (rf_lacks S x))) (ka_ms V M S) := by
  refine ka_entry hG ka_pn_X7 (ka_cat1 rfl) (Nat.le_of_ble_eq_true rfl) (fun X hC hR => ?_)
  refine ka_aload_n hC dX7_lacks_0 rfl ?_
  refine ka_iload_n hC dX7_lacks_1 rfl ?_
  refine ka_callV hC (m_X7_isMine hG) (ka_Rc_model ) rfl ka_q_ml_X7_82 ka_q_im_X7_isMine ka_q_se_X7_isMine ka_q_in_X7 ka_q_co_X7_isMine ky_X7_isMine (by decide) (by decide) (Nat.le_of_ble_eq_true rfl) rfl dX7_lacks_2 ?_
  refine ka_if_eq_b (tgt := 16) hC dX7_lacks_5 (by decide) (fun c5 => ?_) (fun c5 => ?_)
  · skip
    refine ka_ldc hC ka_q_cn_X7_28 dX7_lacks_16 ?_
    exact ka_iret hC hR dX7_lacks_18 (by first | with_reducible rfl | (simp only [rf_lacks, c5]; done) | (simp only [rf_lacks, c5]; done) | (simp [rf_lacks, c5]; done) | (simp [rf_lacks, c5]; done) | contradiction | rfl) (by first | with_reducible rfl | (simp only [rf_lacks, c5]; done) | (simp only [rf_lacks, c5]; done) | (simp [rf_lacks, c5]; done) | (simp [rf_lacks, c5]; done) | contradiction | rfl)
  · skip
    obtain ⟨a, ha, rfl⟩ := rf_isMine_of hM c5
    have ea : cn (nI a) = a := cn_nI (by omega)
    refine ka_aload_n hC dX7_lacks_8 rfl ?_
    refine ka_iload_n hC dX7_lacks_9 rfl ?_
    refine ka_callV hC (m_X7_lacking hG a ha rfl hM.n) (ka_Rc_model ) rfl ka_q_ml_X7_148 ka_q_im_X7_lacking ka_q_se_X7_lacking ka_q_in_X7 ka_q_co_X7_lacking ky_X7_lacking (by decide) (by decide) (Nat.le_of_ble_eq_true rfl) rfl dX7_lacks_10 ?_
    refine ka_goto (tgt := 18) hC dX7_lacks_13 (by decide) ?_
    exact ka_iret hC hR dX7_lacks_18 (by first | with_reducible rfl | (simp only [rf_lacks, c5, ea]; done) | (simp only [rf_lacks, c5, ea]; done) | (simp [rf_lacks, c5, ea]; done) | (simp [rf_lacks, c5, ea]; done) | contradiction | rfl) (by first | with_reducible rfl | (simp only [rf_lacks, c5, ea]; done) | (simp only [rf_lacks, c5, ea]; done) | (simp [rf_lacks, c5, ea]; done) | (simp [rf_lacks, c5, ea]; done) | contradiction | rfl)
theorem ky_X7_bestTrain : ka_y yX7_bestTrain 1 := by unfold ka_y; decide +kernel
set_option maxHeartbeats 4000000 in
set_option maxRecDepth 100000 in
theorem m_X7_bestTrain {G : ka_G} (hG : ka_AD G) {V : ka_W} {M : ka_P} {S : ka_F} {D : Nat} (hM : MK D S) {a : Int32}  : ka_M G yX7_bestTrain cX7_bestTrain 6 (some FieldType.int) 4 [.ref (ka_ad G 9 0), .int a] (ka_ms V M S) (some (.int (rf_best S a))) (ka_ms V M S) := by
  refine ka_entry hG ka_pn_X7 (ka_cat1 rfl) (Nat.le_of_ble_eq_true rfl) (fun X hC hR => ?_)
  refine ka_iload_n hC dX7_bestTrain_0 rfl ?_
  refine ka_iconst (v := 0) hC dX7_bestTrain_1 rfl ?_
  refine ka_iconst (v := 2) hC dX7_bestTrain_2 rfl ?_
  refine ka_callS hC (m_X7_in hG) ka_q_ml_X7_36 ka_q_st_X7_in ka_q_in_X7 ka_q_co_X7_in ky_X7_in (by decide) (by decide) (Nat.le_of_ble_eq_true rfl) rfl dX7_bestTrain_3 ?_
  refine ka_if_ne_b (tgt := 12) hC dX7_bestTrain_6 (by decide) (fun c6 => ?_) (fun c6 => ?_)
  · skip
    refine ka_iconst (v := (-1)) hC dX7_bestTrain_12 rfl ?_
    refine ka_istore_n_p2 hC dX7_bestTrain_13 (by decide) ?_
    refine ka_iconst (v := 1) hC dX7_bestTrain_14 rfl ?_
    refine ka_istore_n_p3 hC dX7_bestTrain_15 (by decide) ?_
    suffices H16 : ∀ jj i : Nat, i ≤ cn (S 0) → cn (S 0) - i < jj → ka_I G X (ka_ms V M S) 16 [.ref (ka_ad G 9 0), .int a, .int (rf_needX S i), .int (nI (i + 1))] [] from ka_I.back 4 (by rfl) (by rfl) (H16 (cn (S 0) + 1) 0 (by omega) (by omega))
    intro j16
    induction j16 with
    | zero => intro i h1 h2 ; exact absurd h2 (Nat.not_lt_zero _)
    | succ j16 ih16 =>
      intro i hle16 hlt16 
      have hm4 := hM.m
      refine ka_iload_n hC dX7_bestTrain_16 rfl ?_
      refine ka_aload_n hC dX7_bestTrain_17 rfl ?_
      refine kg_X7_7  hC dX7_bestTrain_18 ?_
      refine ka_iconst (v := 0) hC dX7_bestTrain_21 rfl ?_
      refine km_ld 0 (by decide) rfl hC dX7_bestTrain_22 ?_
      refine ka_icmp_gt (tgt := 59) hC dX7_bestTrain_23 (by decide) (fun c23 => ?_) (fun c23 => ?_)
      · skip
        obtain rfl : i = cn (S 0) := nle_cn (m := 5) rfl (by decide) hM.m5 hle16 c23
        refine ka_iconst (v := (-1)) hC dX7_bestTrain_59 rfl ?_
        refine ka_istore_n_s3 hC dX7_bestTrain_60 (by decide) ?_
        refine ka_iconst (v := 0) hC dX7_bestTrain_61 rfl ?_
        refine ka_istore_p4 hC dX7_bestTrain_62 (by decide) ?_
        suffices H64 : ∀ jj i : Nat, i ≤ cn (S 0) + 1 → cn (S 0) + 1 - i < jj → (rf_need S < 0 → i = 0) → ka_I G X (ka_ms V M S) 64 [.ref (ka_ad G 9 0), .int a, .int (rf_need S), .int (rf_nearX S (cn (rf_need S)) i), .int (nI i)] [] from ka_I.back 5 (by rfl) (by rfl) (H64 (cn (S 0) + 1 + 1) 0 (by omega) (by omega) (fun _ => rfl))
        intro j64
        induction j64 with
        | zero => intro i h1 h2 hv; exact absurd h2 (Nat.not_lt_zero _)
        | succ j64 ih64 =>
          intro i hle64 hlt64 hv
          have hm4 := hM.m
          refine ka_iload hC dX7_bestTrain_64 rfl ?_
          refine ka_aload_n hC dX7_bestTrain_66 rfl ?_
          refine kg_X7_7  hC dX7_bestTrain_67 ?_
          refine ka_iconst (v := 0) hC dX7_bestTrain_70 rfl ?_
          refine km_ld 0 (by decide) rfl hC dX7_bestTrain_71 ?_
          refine ka_icmp_gt (tgt := 153) hC dX7_bestTrain_72 (by decide) (fun c72 => ?_) (fun c72 => ?_)
          · skip
            obtain rfl : i = cn (S 0) + 1 := nle_cn0 hM.m5 hM.1.pos hle64 c72
            have c76 : ¬ rf_need S < 0 := fun h => absurd (hv h) (by omega)
            have en := (rf_need_pl hM c76).1
            rw [show rf_nearX S (cn (rf_need S)) (cn (S 0) + 1) = rf_near S (cn (rf_need S)) from rfl]
            refine ka_iload_n hC dX7_bestTrain_153 rfl ?_
            refine ka_if_ge (tgt := 160) hC dX7_bestTrain_154 (by decide) (fun c154 => ?_) (fun c154 => ?_)
            · skip
              refine ka_aload_n hC dX7_bestTrain_160 rfl ?_
              refine ka_iload_n hC dX7_bestTrain_161 rfl ?_
              refine ka_callV hC (m_X7_lacking hG (cn (rf_need S)) (rf_need_pl hM c76).2 (rf_need_pl hM c76).1 hM.n) (ka_Rc_model ) rfl ka_q_ml_X7_148 ka_q_im_X7_lacking ka_q_se_X7_lacking ka_q_in_X7 ka_q_co_X7_lacking ky_X7_lacking (by decide) (by decide) (Nat.le_of_ble_eq_true rfl) rfl dX7_bestTrain_162 ?_
              refine ka_aload_n hC dX7_bestTrain_165 rfl ?_
              refine ka_iload_n hC dX7_bestTrain_166 rfl ?_
              refine ka_callV hC (m_X7_spare hG (cn (rf_near S (cn (rf_need S)))) (rf_near_pl hM c154).2 (rf_near_pl hM c154).1 hM.n) (ka_Rc_model ) rfl ka_q_ml_X7_151 ka_q_im_X7_spare ka_q_se_X7_spare ka_q_in_X7 ka_q_co_X7_spare ky_X7_spare (by decide) (by decide) (Nat.le_of_ble_eq_true rfl) rfl dX7_bestTrain_167 ?_
              refine ka_icmp_ge (tgt := 181) hC dX7_bestTrain_170 (by decide) (fun c170 => ?_) (fun c170 => ?_)
              · skip
                refine ka_aload_n hC dX7_bestTrain_181 rfl ?_
                refine ka_iload_n hC dX7_bestTrain_182 rfl ?_
                refine ka_callV hC (m_X7_spare hG (cn (rf_near S (cn (rf_need S)))) (rf_near_pl hM c154).2 (rf_near_pl hM c154).1 hM.n) (ka_Rc_model ) rfl ka_q_ml_X7_151 ka_q_im_X7_spare ka_q_se_X7_spare ka_q_in_X7 ka_q_co_X7_spare ky_X7_spare (by decide) (by decide) (Nat.le_of_ble_eq_true rfl) rfl dX7_bestTrain_183 ?_
                refine ka_istore_s4 hC dX7_bestTrain_186 (by decide) ?_
                refine ka_iload_n hC dX7_bestTrain_188 rfl ?_
                refine ka_if_ne (tgt := 196) hC dX7_bestTrain_189 (by decide) (fun c189 => ?_) (fun c189 => ?_)
                · skip
                  refine ka_iload_n hC dX7_bestTrain_196 rfl ?_
                  refine ka_iconst (v := 1) hC dX7_bestTrain_197 rfl ?_
                  refine ka_icmp_ne (tgt := 205) hC dX7_bestTrain_198 (by decide) (fun c198 => ?_) (fun c198 => ?_)
                  · skip
                    refine ka_iload hC dX7_bestTrain_205 rfl ?_
                    refine ka_bipush (v := 8) hC dX7_bestTrain_207 rfl ?_
                    refine ka_icmp_le (tgt := 217) hC dX7_bestTrain_209 (by decide) (fun c209 => ?_) (fun c209 => ?_)
                    · skip
                      refine ka_iload hC dX7_bestTrain_217 rfl ?_
                      exact ka_iret hC hR dX7_bestTrain_219 (by (unfold rf_best; rw [if_neg (by rw [c6]; decide), if_neg c76]; unfold rf_best2; rw [if_neg c154]; first | (rw [if_pos c189]; done) | (rw [if_neg c189, if_pos c198, ← en]; done) | (rw [if_neg c189, if_neg c198]; unfold rf_many; simp [c6, c23, c72, c154, c170, c189, c198, c209]; done))) (by first | with_reducible rfl | (simp only [rf_best, c6, c23, c72, c154, c170, c189, c198, c209]; done) | (simp only [rf_best, c6, if_pos c23, if_neg (not_not_intro c23), if_pos c72, if_neg (not_not_intro c72), if_neg c154, if_pos c154, if_neg c170, if_pos c170, if_neg c189, if_pos c189, if_neg c198, if_pos c198, if_neg c209, if_pos c209]; done) | (simp [rf_best, c6, c23, c72, c154, c170, c189, c198, c209]; done) | (simp [rf_best, c6, if_pos c23, if_neg (not_not_intro c23), if_pos c72, if_neg (not_not_intro c72), if_neg c154, if_pos c154, if_neg c170, if_pos c170, if_neg c189, if_pos c189, if_neg c198, if_pos c198, if_neg c209, if_pos c209]; done) | contradiction | rfl)
                    · skip
                      refine ka_bipush (v := 8) hC dX7_bestTrain_212 rfl ?_
                      refine ka_goto (tgt := 219) hC dX7_bestTrain_214 (by decide) ?_
                      exact ka_iret hC hR dX7_bestTrain_219 (by (unfold rf_best; rw [if_neg (by rw [c6]; decide), if_neg c76]; unfold rf_best2; rw [if_neg c154]; first | (rw [if_pos c189]; done) | (rw [if_neg c189, if_pos c198, ← en]; done) | (rw [if_neg c189, if_neg c198]; unfold rf_many; simp [c6, c23, c72, c154, c170, c189, c198, c209]; done))) (by first | with_reducible rfl | (simp only [rf_best, c6, c23, c72, c154, c170, c189, c198, c209]; done) | (simp only [rf_best, c6, if_pos c23, if_neg (not_not_intro c23), if_pos c72, if_neg (not_not_intro c72), if_neg c154, if_pos c154, if_neg c170, if_pos c170, if_neg c189, if_pos c189, if_neg c198, if_pos c198, if_pos c209, if_neg (not_not_intro c209)]; done) | (simp [rf_best, c6, c23, c72, c154, c170, c189, c198, c209]; done) | (simp [rf_best, c6, if_pos c23, if_neg (not_not_intro c23), if_pos c72, if_neg (not_not_intro c72), if_neg c154, if_pos c154, if_neg c170, if_pos c170, if_neg c189, if_pos c189, if_neg c198, if_pos c198, if_pos c209, if_neg (not_not_intro c209)]; done) | contradiction | rfl)
                  · skip
                    refine ka_iload_n hC dX7_bestTrain_201 rfl ?_
                    refine ka_goto (tgt := 219) hC dX7_bestTrain_202 (by decide) ?_
                    exact ka_iret hC hR dX7_bestTrain_219 (by (unfold rf_best; rw [if_neg (by rw [c6]; decide), if_neg c76]; unfold rf_best2; rw [if_neg c154]; first | (rw [if_pos c189]; done) | (rw [if_neg c189, if_pos c198, ← en]; done) | (rw [if_neg c189, if_neg c198]; unfold rf_many; simp [c6, c23, c72, c154, c170, c189, c198]; done))) (by first | with_reducible rfl | (simp only [rf_best, c6, c23, c72, c154, c170, c189, c198]; done) | (simp only [rf_best, c6, if_pos c23, if_neg (not_not_intro c23), if_pos c72, if_neg (not_not_intro c72), if_neg c154, if_pos c154, if_neg c170, if_pos c170, if_neg c189, if_pos c189, if_pos c198, if_neg (not_not_intro c198)]; done) | (simp [rf_best, c6, c23, c72, c154, c170, c189, c198]; done) | (simp [rf_best, c6, if_pos c23, if_neg (not_not_intro c23), if_pos c72, if_neg (not_not_intro c72), if_neg c154, if_pos c154, if_neg c170, if_pos c170, if_neg c189, if_pos c189, if_pos c198, if_neg (not_not_intro c198)]; done) | contradiction | rfl)
                · skip
                  refine ka_iload_n hC dX7_bestTrain_192 rfl ?_
                  refine ka_goto (tgt := 219) hC dX7_bestTrain_193 (by decide) ?_
                  exact ka_iret hC hR dX7_bestTrain_219 (by (unfold rf_best; rw [if_neg (by rw [c6]; decide), if_neg c76]; unfold rf_best2; rw [if_neg c154]; first | (rw [if_pos c189]; done) | (rw [if_neg c189, if_pos c198, ← en]; done) | (rw [if_neg c189, if_neg c198]; unfold rf_many; simp [c6, c23, c72, c154, c170, c189]; done))) (by first | with_reducible rfl | (simp only [rf_best, c6, c23, c72, c154, c170, c189]; done) | (simp only [rf_best, c6, if_pos c23, if_neg (not_not_intro c23), if_pos c72, if_neg (not_not_intro c72), if_neg c154, if_pos c154, if_neg c170, if_pos c170, if_pos c189, if_neg (not_not_intro c189)]; done) | (simp [rf_best, c6, c23, c72, c154, c170, c189]; done) | (simp [rf_best, c6, if_pos c23, if_neg (not_not_intro c23), if_pos c72, if_neg (not_not_intro c72), if_neg c154, if_pos c154, if_neg c170, if_pos c170, if_pos c189, if_neg (not_not_intro c189)]; done) | contradiction | rfl)
              · skip
                refine ka_aload_n hC dX7_bestTrain_173 rfl ?_
                refine ka_iload_n hC dX7_bestTrain_174 rfl ?_
                refine ka_callV hC (m_X7_lacking hG (cn (rf_need S)) (rf_need_pl hM c76).2 (rf_need_pl hM c76).1 hM.n) (ka_Rc_model ) rfl ka_q_ml_X7_148 ka_q_im_X7_lacking ka_q_se_X7_lacking ka_q_in_X7 ka_q_co_X7_lacking ky_X7_lacking (by decide) (by decide) (Nat.le_of_ble_eq_true rfl) rfl dX7_bestTrain_175 ?_
                refine ka_goto (tgt := 186) hC dX7_bestTrain_178 (by decide) ?_
                refine ka_istore_s4 hC dX7_bestTrain_186 (by decide) ?_
                refine ka_iload_n hC dX7_bestTrain_188 rfl ?_
                refine ka_if_ne (tgt := 196) hC dX7_bestTrain_189 (by decide) (fun c189 => ?_) (fun c189 => ?_)
                · skip
                  refine ka_iload_n hC dX7_bestTrain_196 rfl ?_
                  refine ka_iconst (v := 1) hC dX7_bestTrain_197 rfl ?_
                  refine ka_icmp_ne (tgt := 205) hC dX7_bestTrain_198 (by decide) (fun c198 => ?_) (fun c198 => ?_)
                  · skip
                    refine ka_iload hC dX7_bestTrain_205 rfl ?_
                    refine ka_bipush (v := 8) hC dX7_bestTrain_207 rfl ?_
                    refine ka_icmp_le (tgt := 217) hC dX7_bestTrain_209 (by decide) (fun c209 => ?_) (fun c209 => ?_)
                    · skip
                      refine ka_iload hC dX7_bestTrain_217 rfl ?_
                      exact ka_iret hC hR dX7_bestTrain_219 (by (unfold rf_best; rw [if_neg (by rw [c6]; decide), if_neg c76]; unfold rf_best2; rw [if_neg c154]; first | (rw [if_pos c189]; done) | (rw [if_neg c189, if_pos c198, ← en]; done) | (rw [if_neg c189, if_neg c198]; unfold rf_many; simp [c6, c23, c72, c154, c170, c189, c198, c209]; done))) (by first | with_reducible rfl | (simp only [rf_best, c6, c23, c72, c154, c170, c189, c198, c209]; done) | (simp only [rf_best, c6, if_pos c23, if_neg (not_not_intro c23), if_pos c72, if_neg (not_not_intro c72), if_neg c154, if_pos c154, if_pos c170, if_neg (not_not_intro c170), if_neg c189, if_pos c189, if_neg c198, if_pos c198, if_neg c209, if_pos c209]; done) | (simp [rf_best, c6, c23, c72, c154, c170, c189, c198, c209]; done) | (simp [rf_best, c6, if_pos c23, if_neg (not_not_intro c23), if_pos c72, if_neg (not_not_intro c72), if_neg c154, if_pos c154, if_pos c170, if_neg (not_not_intro c170), if_neg c189, if_pos c189, if_neg c198, if_pos c198, if_neg c209, if_pos c209]; done) | contradiction | rfl)
                    · skip
                      refine ka_bipush (v := 8) hC dX7_bestTrain_212 rfl ?_
                      refine ka_goto (tgt := 219) hC dX7_bestTrain_214 (by decide) ?_
                      exact ka_iret hC hR dX7_bestTrain_219 (by (unfold rf_best; rw [if_neg (by rw [c6]; decide), if_neg c76]; unfold rf_best2; rw [if_neg c154]; first | (rw [if_pos c189]; done) | (rw [if_neg c189, if_pos c198, ← en]; done) | (rw [if_neg c189, if_neg c198]; unfold rf_many; simp [c6, c23, c72, c154, c170, c189, c198, c209]; done))) (by first | with_reducible rfl | (simp only [rf_best, c6, c23, c72, c154, c170, c189, c198, c209]; done) | (simp only [rf_best, c6, if_pos c23, if_neg (not_not_intro c23), if_pos c72, if_neg (not_not_intro c72), if_neg c154, if_pos c154, if_pos c170, if_neg (not_not_intro c170), if_neg c189, if_pos c189, if_neg c198, if_pos c198, if_pos c209, if_neg (not_not_intro c209)]; done) | (simp [rf_best, c6, c23, c72, c154, c170, c189, c198, c209]; done) | (simp [rf_best, c6, if_pos c23, if_neg (not_not_intro c23), if_pos c72, if_neg (not_not_intro c72), if_neg c154, if_pos c154, if_pos c170, if_neg (not_not_intro c170), if_neg c189, if_pos c189, if_neg c198, if_pos c198, if_pos c209, if_neg (not_not_intro c209)]; done) | contradiction | rfl)
                  · skip
                    refine ka_iload_n hC dX7_bestTrain_201 rfl ?_
                    refine ka_goto (tgt := 219) hC dX7_bestTrain_202 (by decide) ?_
                    exact ka_iret hC hR dX7_bestTrain_219 (by (unfold rf_best; rw [if_neg (by rw [c6]; decide), if_neg c76]; unfold rf_best2; rw [if_neg c154]; first | (rw [if_pos c189]; done) | (rw [if_neg c189, if_pos c198, ← en]; done) | (rw [if_neg c189, if_neg c198]; unfold rf_many; simp [c6, c23, c72, c154, c170, c189, c198]; done))) (by first | with_reducible rfl | (simp only [rf_best, c6, c23, c72, c154, c170, c189, c198]; done) | (simp only [rf_best, c6, if_pos c23, if_neg (not_not_intro c23), if_pos c72, if_neg (not_not_intro c72), if_neg c154, if_pos c154, if_pos c170, if_neg (not_not_intro c170), if_neg c189, if_pos c189, if_pos c198, if_neg (not_not_intro c198)]; done) | (simp [rf_best, c6, c23, c72, c154, c170, c189, c198]; done) | (simp [rf_best, c6, if_pos c23, if_neg (not_not_intro c23), if_pos c72, if_neg (not_not_intro c72), if_neg c154, if_pos c154, if_pos c170, if_neg (not_not_intro c170), if_neg c189, if_pos c189, if_pos c198, if_neg (not_not_intro c198)]; done) | contradiction | rfl)
                · skip
                  refine ka_iload_n hC dX7_bestTrain_192 rfl ?_
                  refine ka_goto (tgt := 219) hC dX7_bestTrain_193 (by decide) ?_
                  exact ka_iret hC hR dX7_bestTrain_219 (by (unfold rf_best; rw [if_neg (by rw [c6]; decide), if_neg c76]; unfold rf_best2; rw [if_neg c154]; first | (rw [if_pos c189]; done) | (rw [if_neg c189, if_pos c198, ← en]; done) | (rw [if_neg c189, if_neg c198]; unfold rf_many; simp [c6, c23, c72, c154, c170, c189]; done))) (by first | with_reducible rfl | (simp only [rf_best, c6, c23, c72, c154, c170, c189]; done) | (simp only [rf_best, c6, if_pos c23, if_neg (not_not_intro c23), if_pos c72, if_neg (not_not_intro c72), if_neg c154, if_pos c154, if_pos c170, if_neg (not_not_intro c170), if_pos c189, if_neg (not_not_intro c189)]; done) | (simp [rf_best, c6, c23, c72, c154, c170, c189]; done) | (simp [rf_best, c6, if_pos c23, if_neg (not_not_intro c23), if_pos c72, if_neg (not_not_intro c72), if_neg c154, if_pos c154, if_pos c170, if_neg (not_not_intro c170), if_pos c189, if_neg (not_not_intro c189)]; done) | contradiction | rfl)
            · skip
              refine ka_ldc hC ka_q_cn_X7_132 dX7_bestTrain_157 ?_
              exact ka_iret hC hR dX7_bestTrain_159 (by unfold rf_best; rw [if_neg (by rw [c6]; decide)]; first | rw [if_pos c76] | (rw [if_neg c76]; unfold rf_best2; rw [if_pos c154])) (by first | with_reducible rfl | (simp only [rf_best, c6, c23, c72, c154]; done) | (simp only [rf_best, c6, if_pos c23, if_neg (not_not_intro c23), if_pos c72, if_neg (not_not_intro c72), if_pos c154, if_neg (not_not_intro c154)]; done) | (simp [rf_best, c6, c23, c72, c154]; done) | (simp [rf_best, c6, if_pos c23, if_neg (not_not_intro c23), if_pos c72, if_neg (not_not_intro c72), if_pos c154, if_neg (not_not_intro c154)]; done) | contradiction | rfl)
          · skip
            have hi : i < cn (S 0) + 1 := le_cn0 hM.m5 hM.1.pos hle64 c72
            refine ka_iload_n hC dX7_bestTrain_75 rfl ?_
            refine ka_if_lt (tgt := 153) hC dX7_bestTrain_76 (by decide) (fun c76 => ?_) (fun c76 => ?_)
            · skip
              rw [show (rf_nearX S (cn (rf_need S)) i) = -1 from by rw [hv c76]; rfl]
              refine ka_iload_n hC dX7_bestTrain_153 rfl ?_
              refine ka_if_ge (tgt := 160) hC dX7_bestTrain_154 (by decide) (fun c154 => ?_) (fun c154 => ?_)
              · skip
                exact absurd (show (-1 : Int32) < 0 by decide) c154
              · skip
                refine ka_ldc hC ka_q_cn_X7_132 dX7_bestTrain_157 ?_
                exact ka_iret hC hR dX7_bestTrain_159 (by unfold rf_best; rw [if_neg (by rw [c6]; decide)]; first | rw [if_pos c76] | (rw [if_neg c76]; unfold rf_best2; rw [if_pos c154])) (by first | with_reducible rfl | (simp only [rf_best, c6, c23, c72, c76, c154]; done) | (simp only [rf_best, c6, if_pos c23, if_neg (not_not_intro c23), if_neg c72, if_pos c72, if_pos c76, if_neg (not_not_intro c76), if_pos c154, if_neg (not_not_intro c154)]; done) | (simp [rf_best, c6, c23, c72, c76, c154]; done) | (simp [rf_best, c6, if_pos c23, if_neg (not_not_intro c23), if_neg c72, if_pos c72, if_pos c76, if_neg (not_not_intro c76), if_pos c154, if_neg (not_not_intro c154)]; done) | contradiction | rfl)
            · skip
              have en := (rf_need_pl hM c76).1
              refine ka_iload hC dX7_bestTrain_79 rfl ?_
              refine ka_iload_n hC dX7_bestTrain_81 rfl ?_
              refine ka_icmp_eq (tgt := 98) hC dX7_bestTrain_82 (by decide) (fun c82 => ?_) (fun c82 => ?_)
              · skip
                rw [en] at c82
                refine ka_iconst (v := 0) hC dX7_bestTrain_98 rfl ?_
                refine ka_istore_p5 hC dX7_bestTrain_99 (by decide) ?_
                refine ka_iload hC dX7_bestTrain_101 rfl ?_
                refine ka_if_eq (tgt := 145) hC dX7_bestTrain_103 (by decide) (fun _ => ?_) (fun h => absurd h (by decide))
                refine ka_iload_n hC dX7_bestTrain_145 rfl ?_
                refine ka_istore_n_s3 hC dX7_bestTrain_146 (by decide) ?_
                refine ka_iinc_4 (v := 1) hC dX7_bestTrain_147 rfl (by decide) ?_
                refine ka_goto (tgt := 64) hC dX7_bestTrain_150 (by decide) ?_
                exact ka_I.back 5 (by first | with_reducible rfl | (simp only [rf_best, c6, c23, c72, c76, c82]; done) | (simp only [rf_best, c6, if_pos c23, if_neg (not_not_intro c23), if_neg c72, if_pos c72, if_neg c76, if_pos c76, if_pos c82, if_neg (not_not_intro c82)]; done) | (simp [rf_best, c6, c23, c72, c76, c82]; done) | (simp [rf_best, c6, if_pos c23, if_neg (not_not_intro c23), if_neg c72, if_pos c72, if_neg c76, if_pos c76, if_pos c82, if_neg (not_not_intro c82)]; done) | contradiction | rfl) (by rw [← nI_1, rf_nearX_s]; unfold rf_nearAt; simp [c6, c23, c72, c76, c82]) (ih64 (i + 1) (by omega) (by omega) (fun h => absurd h c76))
              · skip
                rw [en] at c82
                refine ka_aload_n hC dX7_bestTrain_85 rfl ?_
                refine ka_iload hC dX7_bestTrain_86 rfl ?_
                refine ka_callV hC (m_X7_spare hG i (by omega) rfl hM.n) (ka_Rc_model ) rfl ka_q_ml_X7_151 ka_q_im_X7_spare ka_q_se_X7_spare ka_q_in_X7 ka_q_co_X7_spare ky_X7_spare (by decide) (by decide) (Nat.le_of_ble_eq_true rfl) rfl dX7_bestTrain_88 ?_
                refine ka_if_le (tgt := 98) hC dX7_bestTrain_91 (by decide) (fun c91 => ?_) (fun c91 => ?_)
                · skip
                  refine ka_iconst (v := 0) hC dX7_bestTrain_98 rfl ?_
                  refine ka_istore_p5 hC dX7_bestTrain_99 (by decide) ?_
                  refine ka_iload hC dX7_bestTrain_101 rfl ?_
                  refine ka_if_eq (tgt := 145) hC dX7_bestTrain_103 (by decide) (fun _ => ?_) (fun h => absurd h (by decide))
                  refine ka_iload_n hC dX7_bestTrain_145 rfl ?_
                  refine ka_istore_n_s3 hC dX7_bestTrain_146 (by decide) ?_
                  refine ka_iinc_4 (v := 1) hC dX7_bestTrain_147 rfl (by decide) ?_
                  refine ka_goto (tgt := 64) hC dX7_bestTrain_150 (by decide) ?_
                  exact ka_I.back 5 (by first | with_reducible rfl | (simp only [rf_best, c6, c23, c72, c76, c82, c91]; done) | (simp only [rf_best, c6, if_pos c23, if_neg (not_not_intro c23), if_neg c72, if_pos c72, if_neg c76, if_pos c76, if_neg c82, if_pos c82, if_neg c91, if_pos c91]; done) | (simp [rf_best, c6, c23, c72, c76, c82, c91]; done) | (simp [rf_best, c6, if_pos c23, if_neg (not_not_intro c23), if_neg c72, if_pos c72, if_neg c76, if_pos c76, if_neg c82, if_pos c82, if_neg c91, if_pos c91]; done) | contradiction | rfl) (by rw [← nI_1, rf_nearX_s]; unfold rf_nearAt; simp [c6, c23, c72, c76, c82, c91]) (ih64 (i + 1) (by omega) (by omega) (fun h => absurd h c76))
                · skip
                  refine ka_iconst (v := 1) hC dX7_bestTrain_94 rfl ?_
                  refine ka_goto (tgt := 99) hC dX7_bestTrain_95 (by decide) ?_
                  refine ka_istore_p5 hC dX7_bestTrain_99 (by decide) ?_
                  refine ka_iload hC dX7_bestTrain_101 rfl ?_
                  refine ka_if_eq (tgt := 145) hC dX7_bestTrain_103 (by decide) (fun h => absurd h (by decide)) (fun _ => ?_)
                  refine ka_iload_n hC dX7_bestTrain_106 rfl ?_
                  refine ka_if_lt (tgt := 140) hC dX7_bestTrain_107 (by decide) (fun c107 => ?_) (fun c107 => ?_)
                  · skip
                    refine ka_iload hC dX7_bestTrain_140 rfl ?_
                    refine ka_goto (tgt := 146) hC dX7_bestTrain_142 (by decide) ?_
                    refine ka_istore_n_s3 hC dX7_bestTrain_146 (by decide) ?_
                    refine ka_iinc_4 (v := 1) hC dX7_bestTrain_147 rfl (by decide) ?_
                    refine ka_goto (tgt := 64) hC dX7_bestTrain_150 (by decide) ?_
                    exact ka_I.back 5 (by first | with_reducible rfl | (simp only [rf_best, c6, c23, c72, c76, c82, c91, c107]; done) | (simp only [rf_best, c6, if_pos c23, if_neg (not_not_intro c23), if_neg c72, if_pos c72, if_neg c76, if_pos c76, if_neg c82, if_pos c82, if_pos c91, if_neg (not_not_intro c91), if_pos c107, if_neg (not_not_intro c107)]; done) | (simp [rf_best, c6, c23, c72, c76, c82, c91, c107]; done) | (simp [rf_best, c6, if_pos c23, if_neg (not_not_intro c23), if_neg c72, if_pos c72, if_neg c76, if_pos c76, if_neg c82, if_pos c82, if_pos c91, if_neg (not_not_intro c91), if_pos c107, if_neg (not_not_intro c107)]; done) | contradiction | rfl) (by rw [← nI_1, rf_nearX_s]; unfold rf_nearAt; simp [c6, c23, c72, c76, c82, c91, c107]) (ih64 (i + 1) (by omega) (by omega) (fun h => absurd h c76))
                  · skip
                    refine ka_aload_n hC dX7_bestTrain_110 rfl ?_
                    refine kg_X7_7  hC dX7_bestTrain_111 ?_
                    refine ka_bipush (v := 14) hC dX7_bestTrain_114 rfl ?_
                    refine ka_iconst (v := 5) hC dX7_bestTrain_116 rfl ?_
                    refine ka_iload hC dX7_bestTrain_117 rfl ?_
                    refine ka_imul hC dX7_bestTrain_119 ?_
                    refine ka_iadd hC dX7_bestTrain_120 ?_
                    refine ka_iload_n hC dX7_bestTrain_121 rfl ?_
                    refine ka_iadd hC dX7_bestTrain_122 ?_
                    refine km_ld (14 + 5 * i + (cn (rf_need S))) (by have := (rf_need_pl hM c76).2; omega) (ix_l i _ rfl en) hC dX7_bestTrain_123 ?_
                    refine ka_aload_n hC dX7_bestTrain_124 rfl ?_
                    refine kg_X7_7  hC dX7_bestTrain_125 ?_
                    refine ka_bipush (v := 14) hC dX7_bestTrain_128 rfl ?_
                    refine ka_iconst (v := 5) hC dX7_bestTrain_130 rfl ?_
                    refine ka_iload_n hC dX7_bestTrain_131 rfl ?_
                    refine ka_imul hC dX7_bestTrain_132 ?_
                    refine ka_iadd hC dX7_bestTrain_133 ?_
                    refine ka_iload_n hC dX7_bestTrain_134 rfl ?_
                    refine ka_iadd hC dX7_bestTrain_135 ?_
                    refine km_ld (14 + 5 * cn (rf_nearX S (cn (rf_need S)) i) + (cn (rf_need S))) (by have := (rf_need_pl hM c76).2; have := (rf_pl_lt (i := i - 1) (by omega) (rf_nearX_pl i (by omega)) c107).2; omega) (ix_l _ _ (rf_pl_lt (i := i - 1) (by omega) (rf_nearX_pl i (by omega)) c107).1 en) hC dX7_bestTrain_136 ?_
                    refine ka_icmp_ge (tgt := 145) hC dX7_bestTrain_137 (by decide) (fun c137 => ?_) (fun c137 => ?_)
                    · skip
                      refine ka_iload_n hC dX7_bestTrain_145 rfl ?_
                      refine ka_istore_n_s3 hC dX7_bestTrain_146 (by decide) ?_
                      refine ka_iinc_4 (v := 1) hC dX7_bestTrain_147 rfl (by decide) ?_
                      refine ka_goto (tgt := 64) hC dX7_bestTrain_150 (by decide) ?_
                      exact ka_I.back 5 (by first | with_reducible rfl | (simp only [rf_best, c6, c23, c72, c76, c82, c91, c107, c137]; done) | (simp only [rf_best, c6, if_pos c23, if_neg (not_not_intro c23), if_neg c72, if_pos c72, if_neg c76, if_pos c76, if_neg c82, if_pos c82, if_pos c91, if_neg (not_not_intro c91), if_neg c107, if_pos c107, if_neg c137, if_pos c137]; done) | (simp [rf_best, c6, c23, c72, c76, c82, c91, c107, c137]; done) | (simp [rf_best, c6, if_pos c23, if_neg (not_not_intro c23), if_neg c72, if_pos c72, if_neg c76, if_pos c76, if_neg c82, if_pos c82, if_pos c91, if_neg (not_not_intro c91), if_neg c107, if_pos c107, if_neg c137, if_pos c137]; done) | contradiction | rfl) (by rw [← nI_1, rf_nearX_s]; unfold rf_nearAt; simp [c6, c23, c72, c76, c82, c91, c107, c137]) (ih64 (i + 1) (by omega) (by omega) (fun h => absurd h c76))
                    · skip
                      refine ka_iload hC dX7_bestTrain_140 rfl ?_
                      refine ka_goto (tgt := 146) hC dX7_bestTrain_142 (by decide) ?_
                      refine ka_istore_n_s3 hC dX7_bestTrain_146 (by decide) ?_
                      refine ka_iinc_4 (v := 1) hC dX7_bestTrain_147 rfl (by decide) ?_
                      refine ka_goto (tgt := 64) hC dX7_bestTrain_150 (by decide) ?_
                      exact ka_I.back 5 (by first | with_reducible rfl | (simp only [rf_best, c6, c23, c72, c76, c82, c91, c107, c137]; done) | (simp only [rf_best, c6, if_pos c23, if_neg (not_not_intro c23), if_neg c72, if_pos c72, if_neg c76, if_pos c76, if_neg c82, if_pos c82, if_pos c91, if_neg (not_not_intro c91), if_neg c107, if_pos c107, if_pos c137, if_neg (not_not_intro c137)]; done) | (simp [rf_best, c6, c23, c72, c76, c82, c91, c107, c137]; done) | (simp [rf_best, c6, if_pos c23, if_neg (not_not_intro c23), if_neg c72, if_pos c72, if_neg c76, if_pos c76, if_neg c82, if_pos c82, if_pos c91, if_neg (not_not_intro c91), if_neg c107, if_pos c107, if_pos c137, if_neg (not_not_intro c137)]; done) | contradiction | rfl) (by rw [← nI_1, rf_nearX_s]; unfold rf_nearAt; simp [c6, c23, c72, c76, c82, c91, c107, c137]) (ih64 (i + 1) (by omega) (by omega) (fun h => absurd h c76))
      · skip
        have hi : i < cn (S 0) := le_cn (m := 5) rfl (by decide) hM.m5 hle16 c23
        refine ka_aload_n hC dX7_bestTrain_26 rfl ?_
        refine ka_iload_n hC dX7_bestTrain_27 rfl ?_
        refine ka_callV hC (m_X7_lacking hG (i + 1) (by omega) rfl hM.n) (ka_Rc_model ) rfl ka_q_ml_X7_148 ka_q_im_X7_lacking ka_q_se_X7_lacking ka_q_in_X7 ka_q_co_X7_lacking ky_X7_lacking (by decide) (by decide) (Nat.le_of_ble_eq_true rfl) rfl dX7_bestTrain_28 ?_
        refine ka_iload_n hC dX7_bestTrain_31 rfl ?_
        refine ka_if_ge (tgt := 39) hC dX7_bestTrain_32 (by decide) (fun c32 => ?_) (fun c32 => ?_)
        · skip
          refine ka_aload_n hC dX7_bestTrain_39 rfl ?_
          refine ka_iload_n hC dX7_bestTrain_40 rfl ?_
          refine ka_callV hC (m_X7_lacking hG (cn (rf_needX S i)) (rf_pl_lt (i := i) (by omega) (rf_needX_pl i (by omega)) c32).2 (rf_pl_lt (i := i) (by omega) (rf_needX_pl i (by omega)) c32).1 hM.n) (ka_Rc_model ) rfl ka_q_ml_X7_148 ka_q_im_X7_lacking ka_q_se_X7_lacking ka_q_in_X7 ka_q_co_X7_lacking ky_X7_lacking (by decide) (by decide) (Nat.le_of_ble_eq_true rfl) rfl dX7_bestTrain_41 ?_
          refine ka_icmp_le (tgt := 51) hC dX7_bestTrain_44 (by decide) (fun c44 => ?_) (fun c44 => ?_)
          · skip
            refine ka_iload_n hC dX7_bestTrain_51 rfl ?_
            refine ka_istore_n_s2 hC dX7_bestTrain_52 (by decide) ?_
            refine ka_iinc_3 (v := 1) hC dX7_bestTrain_53 rfl (by decide) ?_
            refine ka_goto (tgt := 16) hC dX7_bestTrain_56 (by decide) ?_
            exact ka_I.back 4 (by first | with_reducible rfl | (simp only [rf_best, c6, c23, c32, c44]; done) | (simp only [rf_best, c6, if_neg c23, if_pos c23, if_neg c32, if_pos c32, if_neg c44, if_pos c44]; done) | (simp [rf_best, c6, c23, c32, c44]; done) | (simp [rf_best, c6, if_neg c23, if_pos c23, if_neg c32, if_pos c32, if_neg c44, if_pos c44]; done) | contradiction | rfl) (by rw [nI_1, rf_needX_s]; unfold rf_needAt; simp [c6, c23, c32, c44]) (ih16 (i + 1) (by omega) (by omega))
          · skip
            refine ka_iload_n hC dX7_bestTrain_47 rfl ?_
            refine ka_goto (tgt := 52) hC dX7_bestTrain_48 (by decide) ?_
            refine ka_istore_n_s2 hC dX7_bestTrain_52 (by decide) ?_
            refine ka_iinc_3 (v := 1) hC dX7_bestTrain_53 rfl (by decide) ?_
            refine ka_goto (tgt := 16) hC dX7_bestTrain_56 (by decide) ?_
            exact ka_I.back 4 (by first | with_reducible rfl | (simp only [rf_best, c6, c23, c32, c44]; done) | (simp only [rf_best, c6, if_neg c23, if_pos c23, if_neg c32, if_pos c32, if_pos c44, if_neg (not_not_intro c44)]; done) | (simp [rf_best, c6, c23, c32, c44]; done) | (simp [rf_best, c6, if_neg c23, if_pos c23, if_neg c32, if_pos c32, if_pos c44, if_neg (not_not_intro c44)]; done) | contradiction | rfl) (by rw [nI_1, rf_needX_s]; unfold rf_needAt; simp [c6, c23, c32, c44]) (ih16 (i + 1) (by omega) (by omega))
        · skip
          refine ka_iconst (v := 0) hC dX7_bestTrain_35 rfl ?_
          refine ka_goto (tgt := 44) hC dX7_bestTrain_36 (by decide) ?_
          refine ka_icmp_le (tgt := 51) hC dX7_bestTrain_44 (by decide) (fun c44 => ?_) (fun c44 => ?_)
          · skip
            refine ka_iload_n hC dX7_bestTrain_51 rfl ?_
            refine ka_istore_n_s2 hC dX7_bestTrain_52 (by decide) ?_
            refine ka_iinc_3 (v := 1) hC dX7_bestTrain_53 rfl (by decide) ?_
            refine ka_goto (tgt := 16) hC dX7_bestTrain_56 (by decide) ?_
            exact ka_I.back 4 (by first | with_reducible rfl | (simp only [rf_best, c6, c23, c32, c44]; done) | (simp only [rf_best, c6, if_neg c23, if_pos c23, if_pos c32, if_neg (not_not_intro c32), if_neg c44, if_pos c44]; done) | (simp [rf_best, c6, c23, c32, c44]; done) | (simp [rf_best, c6, if_neg c23, if_pos c23, if_pos c32, if_neg (not_not_intro c32), if_neg c44, if_pos c44]; done) | contradiction | rfl) (by rw [nI_1, rf_needX_s]; unfold rf_needAt; simp [c6, c23, c32, c44]) (ih16 (i + 1) (by omega) (by omega))
          · skip
            refine ka_iload_n hC dX7_bestTrain_47 rfl ?_
            refine ka_goto (tgt := 52) hC dX7_bestTrain_48 (by decide) ?_
            refine ka_istore_n_s2 hC dX7_bestTrain_52 (by decide) ?_
            refine ka_iinc_3 (v := 1) hC dX7_bestTrain_53 rfl (by decide) ?_
            refine ka_goto (tgt := 16) hC dX7_bestTrain_56 (by decide) ?_
            exact ka_I.back 4 (by first | with_reducible rfl | (simp only [rf_best, c6, c23, c32, c44]; done) | (simp only [rf_best, c6, if_neg c23, if_pos c23, if_pos c32, if_neg (not_not_intro c32), if_pos c44, if_neg (not_not_intro c44)]; done) | (simp [rf_best, c6, c23, c32, c44]; done) | (simp [rf_best, c6, if_neg c23, if_pos c23, if_pos c32, if_neg (not_not_intro c32), if_pos c44, if_neg (not_not_intro c44)]; done) | contradiction | rfl) (by rw [nI_1, rf_needX_s]; unfold rf_needAt; simp [c6, c23, c32, c44]) (ih16 (i + 1) (by omega) (by omega))
  · skip
    refine ka_ldc hC ka_q_cn_X7_28 dX7_bestTrain_9 ?_
    exact ka_iret hC hR dX7_bestTrain_11 (by first | with_reducible rfl | (simp only [rf_best, c6]; done) | (simp only [rf_best, c6]; done) | (simp [rf_best, c6]; done) | (simp [rf_best, c6]; done) | contradiction | rfl) (by first | with_reducible rfl | (simp only [rf_best, c6]; done) | (simp only [rf_best, c6]; done) | (simp [rf_best, c6]; done) | (simp [rf_best, c6]; done) | contradiction | rfl)
theorem ky_X7_wagons : ka_y yX7_wagons 1 := by unfold ka_y; decide +kernel
set_option maxHeartbeats 4000000 in
set_option maxRecDepth 100000 in
theorem m_X7_wagons {G : ka_G} (hG : ka_AD G) {V : ka_W} {M : ka_P} {S : ka_F} (hn : cn (S 1) ≤ 20) {a : Int32}  : ka_M G yX7_wagons cX7_wagons 5 (some FieldType.int) 1 [.ref (ka_ad G 9 0), .int a] (ka_ms V M S) (some (.int (rf_wagsX S a (cn (S 1))))) (ka_ms V M S) := by
  refine ka_entry hG ka_pn_X7 (ka_cat1 rfl) (Nat.le_of_ble_eq_true rfl) (fun X hC hR => ?_)
  refine ka_iconst (v := 0) hC dX7_wagons_0 rfl ?_
  refine ka_istore_n_p2 hC dX7_wagons_1 (by decide) ?_
  refine ka_iconst (v := 0) hC dX7_wagons_2 rfl ?_
  refine ka_istore_n_p3 hC dX7_wagons_3 (by decide) ?_
  suffices H4 : ∀ jj i : Nat, i ≤ cn (S 1) → cn (S 1) - i < jj → ka_I G X (ka_ms V M S) 4 [.ref (ka_ad G 9 0), .int a, .int (rf_wagsX S a i), .int (nI i)] [] from ka_I.back 4 (by first | with_reducible rfl | (simp only [rf_wagsX_0, rf_wagsX_s, rf_wagsAt, rf_its, nI_1]; done) | (simp only [rf_wagsX_0, rf_wagsX_s, rf_wagsAt, rf_its, nI_1]; done) | (simp [rf_wagsX_0, rf_wagsX_s, rf_wagsAt, rf_its, nI_1]; done) | (simp [rf_wagsX_0, rf_wagsX_s, rf_wagsAt, rf_its, nI_1]; done) | contradiction | rfl) (by first | with_reducible rfl | (simp only [rf_wagsX_0, rf_wagsX_s, rf_wagsAt, rf_its, nI_1]; done) | (simp only [rf_wagsX_0, rf_wagsX_s, rf_wagsAt, rf_its, nI_1]; done) | (simp [rf_wagsX_0, rf_wagsX_s, rf_wagsAt, rf_its, nI_1]; done) | (simp [rf_wagsX_0, rf_wagsX_s, rf_wagsAt, rf_its, nI_1]; done) | contradiction | rfl) (H4 (cn (S 1) + 1) 0 (by omega) (by omega))
  intro j4
  induction j4 with
  | zero => intro i h1 h2 ; exact absurd h2 (Nat.not_lt_zero _)
  | succ j4 ih4 =>
    intro i hle4 hlt4 
    refine ka_iload_n hC dX7_wagons_4 rfl ?_
    refine ka_aload_n hC dX7_wagons_5 rfl ?_
    refine kg_X7_7  hC dX7_wagons_6 ?_
    refine ka_iconst (v := 1) hC dX7_wagons_9 rfl ?_
    refine km_ld 1 (by decide) rfl hC dX7_wagons_10 ?_
    refine ka_icmp_ge (tgt := 62) hC dX7_wagons_11 (by decide) (fun c11 => ?_) (fun c11 => ?_)
    · skip
      obtain rfl : i = cn (S 1) := nlt_cn hle4 c11
      refine ka_iload_n hC dX7_wagons_62 rfl ?_
      exact ka_iret hC hR dX7_wagons_63 (by first | with_reducible rfl | (simp only [rf_wagsX_0, rf_wagsX_s, rf_wagsAt, rf_its, nI_1, c11]; done) | (simp only [rf_wagsX_0, rf_wagsX_s, rf_wagsAt, rf_its, nI_1, if_neg c11, if_pos c11]; done) | (simp [rf_wagsX_0, rf_wagsX_s, rf_wagsAt, rf_its, nI_1, c11]; done) | (simp [rf_wagsX_0, rf_wagsX_s, rf_wagsAt, rf_its, nI_1, if_neg c11, if_pos c11]; done) | contradiction | rfl) (by first | with_reducible rfl | (simp only [rf_wagsX_0, rf_wagsX_s, rf_wagsAt, rf_its, nI_1, c11]; done) | (simp only [rf_wagsX_0, rf_wagsX_s, rf_wagsAt, rf_its, nI_1, if_neg c11, if_pos c11]; done) | (simp [rf_wagsX_0, rf_wagsX_s, rf_wagsAt, rf_its, nI_1, c11]; done) | (simp [rf_wagsX_0, rf_wagsX_s, rf_wagsAt, rf_its, nI_1, if_neg c11, if_pos c11]; done) | contradiction | rfl)
    · skip
      have hi : i < cn (S 1) := lt_cn hle4 c11
      have hi20 : i < 20 := Nat.lt_of_lt_of_le hi hn
      refine ka_aload_n hC dX7_wagons_14 rfl ?_
      refine ka_iload_n hC dX7_wagons_15 rfl ?_
      refine ka_iconst (v := 3) hC dX7_wagons_16 rfl ?_
      refine ka_callV hC (m_X7_of hG i 3 hi20 (by decide) rfl rfl) (ka_Rc_model ) rfl ka_q_ml_X7_40 ka_q_im_X7_of ka_q_se_X7_of ka_q_in_X7 ka_q_co_X7_of ky_X7_of (by decide) (by decide) (Nat.le_of_ble_eq_true rfl) rfl dX7_wagons_17 ?_
      refine ka_if_ne (tgt := 32) hC dX7_wagons_20 (by decide) (fun c20 => ?_) (fun c20 => ?_)
      · skip
        refine ka_iconst (v := 1) hC dX7_wagons_32 rfl ?_
        refine ka_aload_n hC dX7_wagons_33 rfl ?_
        refine ka_iload_n hC dX7_wagons_34 rfl ?_
        refine ka_iconst (v := 3) hC dX7_wagons_35 rfl ?_
        refine ka_callV hC (m_X7_of hG i 3 hi20 (by decide) rfl rfl) (ka_Rc_model ) rfl ka_q_ml_X7_40 ka_q_im_X7_of ka_q_se_X7_of ka_q_in_X7 ka_q_co_X7_of ky_X7_of (by decide) (by decide) (Nat.le_of_ble_eq_true rfl) rfl dX7_wagons_36 ?_
        refine ka_iadd hC dX7_wagons_39 ?_
        refine ka_istore_p4 hC dX7_wagons_40 (by decide) ?_
        refine ka_iload_n hC dX7_wagons_42 rfl ?_
        refine ka_iload hC dX7_wagons_43 rfl ?_
        refine ka_iload_n hC dX7_wagons_45 rfl ?_
        refine ka_icmp_ne (tgt := 53) hC dX7_wagons_46 (by decide) (fun c46 => ?_) (fun c46 => ?_)
        · skip
          refine ka_iconst (v := 0) hC dX7_wagons_53 rfl ?_
          refine ka_iadd hC dX7_wagons_54 ?_
          refine ka_istore_n_s2 hC dX7_wagons_55 (by decide) ?_
          refine ka_iinc_3 (v := 1) hC dX7_wagons_56 rfl (by decide) ?_
          refine ka_goto (tgt := 4) hC dX7_wagons_59 (by decide) ?_
          exact ka_I.back 4 (by first | with_reducible rfl | (simp only [rf_wagsX_0, rf_wagsX_s, rf_wagsAt, rf_its, nI_1, c11, c20, c46]; done) | (simp only [rf_wagsX_0, rf_wagsX_s, rf_wagsAt, rf_its, nI_1, if_pos c11, if_neg (not_not_intro c11), if_neg c20, if_pos c20, if_neg c46, if_pos c46]; done) | (simp [rf_wagsX_0, rf_wagsX_s, rf_wagsAt, rf_its, nI_1, c11, c20, c46]; done) | (simp [rf_wagsX_0, rf_wagsX_s, rf_wagsAt, rf_its, nI_1, if_pos c11, if_neg (not_not_intro c11), if_neg c20, if_pos c20, if_neg c46, if_pos c46]; done) | contradiction | rfl) (by first | with_reducible rfl | (simp only [rf_wagsX_0, rf_wagsX_s, rf_wagsAt, rf_its, nI_1, c11, c20, c46]; done) | (simp only [rf_wagsX_0, rf_wagsX_s, rf_wagsAt, rf_its, nI_1, if_pos c11, if_neg (not_not_intro c11), if_neg c20, if_pos c20, if_neg c46, if_pos c46]; done) | (simp [rf_wagsX_0, rf_wagsX_s, rf_wagsAt, rf_its, nI_1, c11, c20, c46]; done) | (simp [rf_wagsX_0, rf_wagsX_s, rf_wagsAt, rf_its, nI_1, if_pos c11, if_neg (not_not_intro c11), if_neg c20, if_pos c20, if_neg c46, if_pos c46]; done) | contradiction | rfl) (ih4 (i + 1) (by omega) (by omega))
        · skip
          refine ka_iconst (v := 1) hC dX7_wagons_49 rfl ?_
          refine ka_goto (tgt := 54) hC dX7_wagons_50 (by decide) ?_
          refine ka_iadd hC dX7_wagons_54 ?_
          refine ka_istore_n_s2 hC dX7_wagons_55 (by decide) ?_
          refine ka_iinc_3 (v := 1) hC dX7_wagons_56 rfl (by decide) ?_
          refine ka_goto (tgt := 4) hC dX7_wagons_59 (by decide) ?_
          exact ka_I.back 4 (by first | with_reducible rfl | (simp only [rf_wagsX_0, rf_wagsX_s, rf_wagsAt, rf_its, nI_1, c11, c20, c46]; done) | (simp only [rf_wagsX_0, rf_wagsX_s, rf_wagsAt, rf_its, nI_1, if_pos c11, if_neg (not_not_intro c11), if_neg c20, if_pos c20, if_pos c46, if_neg (not_not_intro c46)]; done) | (simp [rf_wagsX_0, rf_wagsX_s, rf_wagsAt, rf_its, nI_1, c11, c20, c46]; done) | (simp [rf_wagsX_0, rf_wagsX_s, rf_wagsAt, rf_its, nI_1, if_pos c11, if_neg (not_not_intro c11), if_neg c20, if_pos c20, if_pos c46, if_neg (not_not_intro c46)]; done) | contradiction | rfl) (by first | with_reducible rfl | (simp only [rf_wagsX_0, rf_wagsX_s, rf_wagsAt, rf_its, nI_1, c11, c20, c46]; done) | (simp only [rf_wagsX_0, rf_wagsX_s, rf_wagsAt, rf_its, nI_1, if_pos c11, if_neg (not_not_intro c11), if_neg c20, if_pos c20, if_pos c46, if_neg (not_not_intro c46)]; done) | (simp [rf_wagsX_0, rf_wagsX_s, rf_wagsAt, rf_its, nI_1, c11, c20, c46]; done) | (simp [rf_wagsX_0, rf_wagsX_s, rf_wagsAt, rf_its, nI_1, if_pos c11, if_neg (not_not_intro c11), if_neg c20, if_pos c20, if_pos c46, if_neg (not_not_intro c46)]; done) | contradiction | rfl) (ih4 (i + 1) (by omega) (by omega))
      · skip
        refine ka_aload_n hC dX7_wagons_23 rfl ?_
        refine ka_iload_n hC dX7_wagons_24 rfl ?_
        refine ka_iconst (v := 2) hC dX7_wagons_25 rfl ?_
        refine ka_callV hC (m_X7_of hG i 2 hi20 (by decide) rfl rfl) (ka_Rc_model ) rfl ka_q_ml_X7_40 ka_q_im_X7_of ka_q_se_X7_of ka_q_in_X7 ka_q_co_X7_of ky_X7_of (by decide) (by decide) (Nat.le_of_ble_eq_true rfl) rfl dX7_wagons_26 ?_
        refine ka_goto (tgt := 40) hC dX7_wagons_29 (by decide) ?_
        refine ka_istore_p4 hC dX7_wagons_40 (by decide) ?_
        refine ka_iload_n hC dX7_wagons_42 rfl ?_
        refine ka_iload hC dX7_wagons_43 rfl ?_
        refine ka_iload_n hC dX7_wagons_45 rfl ?_
        refine ka_icmp_ne (tgt := 53) hC dX7_wagons_46 (by decide) (fun c46 => ?_) (fun c46 => ?_)
        · skip
          refine ka_iconst (v := 0) hC dX7_wagons_53 rfl ?_
          refine ka_iadd hC dX7_wagons_54 ?_
          refine ka_istore_n_s2 hC dX7_wagons_55 (by decide) ?_
          refine ka_iinc_3 (v := 1) hC dX7_wagons_56 rfl (by decide) ?_
          refine ka_goto (tgt := 4) hC dX7_wagons_59 (by decide) ?_
          exact ka_I.back 4 (by first | with_reducible rfl | (simp only [rf_wagsX_0, rf_wagsX_s, rf_wagsAt, rf_its, nI_1, c11, c20, c46]; done) | (simp only [rf_wagsX_0, rf_wagsX_s, rf_wagsAt, rf_its, nI_1, if_pos c11, if_neg (not_not_intro c11), if_pos c20, if_neg (not_not_intro c20), if_neg c46, if_pos c46]; done) | (simp [rf_wagsX_0, rf_wagsX_s, rf_wagsAt, rf_its, nI_1, c11, c20, c46]; done) | (simp [rf_wagsX_0, rf_wagsX_s, rf_wagsAt, rf_its, nI_1, if_pos c11, if_neg (not_not_intro c11), if_pos c20, if_neg (not_not_intro c20), if_neg c46, if_pos c46]; done) | contradiction | rfl) (by first | with_reducible rfl | (simp only [rf_wagsX_0, rf_wagsX_s, rf_wagsAt, rf_its, nI_1, c11, c20, c46]; done) | (simp only [rf_wagsX_0, rf_wagsX_s, rf_wagsAt, rf_its, nI_1, if_pos c11, if_neg (not_not_intro c11), if_pos c20, if_neg (not_not_intro c20), if_neg c46, if_pos c46]; done) | (simp [rf_wagsX_0, rf_wagsX_s, rf_wagsAt, rf_its, nI_1, c11, c20, c46]; done) | (simp [rf_wagsX_0, rf_wagsX_s, rf_wagsAt, rf_its, nI_1, if_pos c11, if_neg (not_not_intro c11), if_pos c20, if_neg (not_not_intro c20), if_neg c46, if_pos c46]; done) | contradiction | rfl) (ih4 (i + 1) (by omega) (by omega))
        · skip
          refine ka_iconst (v := 1) hC dX7_wagons_49 rfl ?_
          refine ka_goto (tgt := 54) hC dX7_wagons_50 (by decide) ?_
          refine ka_iadd hC dX7_wagons_54 ?_
          refine ka_istore_n_s2 hC dX7_wagons_55 (by decide) ?_
          refine ka_iinc_3 (v := 1) hC dX7_wagons_56 rfl (by decide) ?_
          refine ka_goto (tgt := 4) hC dX7_wagons_59 (by decide) ?_
          exact ka_I.back 4 (by first | with_reducible rfl | (simp only [rf_wagsX_0, rf_wagsX_s, rf_wagsAt, rf_its, nI_1, c11, c20, c46]; done) | (simp only [rf_wagsX_0, rf_wagsX_s, rf_wagsAt, rf_its, nI_1, if_pos c11, if_neg (not_not_intro c11), if_pos c20, if_neg (not_not_intro c20), if_pos c46, if_neg (not_not_intro c46)]; done) | (simp [rf_wagsX_0, rf_wagsX_s, rf_wagsAt, rf_its, nI_1, c11, c20, c46]; done) | (simp [rf_wagsX_0, rf_wagsX_s, rf_wagsAt, rf_its, nI_1, if_pos c11, if_neg (not_not_intro c11), if_pos c20, if_neg (not_not_intro c20), if_pos c46, if_neg (not_not_intro c46)]; done) | contradiction | rfl) (by first | with_reducible rfl | (simp only [rf_wagsX_0, rf_wagsX_s, rf_wagsAt, rf_its, nI_1, c11, c20, c46]; done) | (simp only [rf_wagsX_0, rf_wagsX_s, rf_wagsAt, rf_its, nI_1, if_pos c11, if_neg (not_not_intro c11), if_pos c20, if_neg (not_not_intro c20), if_pos c46, if_neg (not_not_intro c46)]; done) | (simp [rf_wagsX_0, rf_wagsX_s, rf_wagsAt, rf_its, nI_1, c11, c20, c46]; done) | (simp [rf_wagsX_0, rf_wagsX_s, rf_wagsAt, rf_its, nI_1, if_pos c11, if_neg (not_not_intro c11), if_pos c20, if_neg (not_not_intro c20), if_pos c46, if_neg (not_not_intro c46)]; done) | contradiction | rfl) (ih4 (i + 1) (by omega) (by omega))
theorem ky_X7_sum : ka_y yX7_sum 1 := by unfold ka_y; decide +kernel
set_option maxHeartbeats 4000000 in
set_option maxRecDepth 100000 in
theorem m_X7_sum {G : ka_G} (hG : ka_AD G) {V : ka_W} {M : ka_P} {S : ka_F} {y : Int32} (k : Nat) (hk : k < 6) (hy : y = nI k) {D : Nat} (hM : MK D S)  : ka_M G yX7_sum cX7_sum 4 (some FieldType.int) 1 [.ref (ka_ad G 9 0), .int y] (ka_ms V M S) (some (.int (rf_sum S k))) (ka_ms V M S) := by
  refine ka_entry hG ka_pn_X7 (ka_cat1 rfl) (Nat.le_of_ble_eq_true rfl) (fun X hC hR => ?_)
  subst hy
  refine ka_iconst (v := 0) hC dX7_sum_0 rfl ?_
  refine ka_istore_n_p2 hC dX7_sum_1 (by decide) ?_
  refine ka_iconst (v := 0) hC dX7_sum_2 rfl ?_
  refine ka_istore_n_p3 hC dX7_sum_3 (by decide) ?_
  suffices H4 : ∀ jj i : Nat, i ≤ cn (S 0) + 1 → cn (S 0) + 1 - i < jj → ka_I G X (ka_ms V M S) 4 [.ref (ka_ad G 9 0), .int (nI k), .int (rf_sumX S k i), .int (nI i)] [] from ka_I.back 4 (by first | with_reducible rfl | (simp only [rf_sum, rf_sumX_0, rf_sumX_s, nI_1]; done) | (simp only [rf_sum, rf_sumX_0, rf_sumX_s, nI_1]; done) | (simp [rf_sum, rf_sumX_0, rf_sumX_s, nI_1]; done) | (simp [rf_sum, rf_sumX_0, rf_sumX_s, nI_1]; done) | contradiction | rfl) (by first | with_reducible rfl | (simp only [rf_sum, rf_sumX_0, rf_sumX_s, nI_1]; done) | (simp only [rf_sum, rf_sumX_0, rf_sumX_s, nI_1]; done) | (simp [rf_sum, rf_sumX_0, rf_sumX_s, nI_1]; done) | (simp [rf_sum, rf_sumX_0, rf_sumX_s, nI_1]; done) | contradiction | rfl) (H4 (cn (S 0) + 1 + 1) 0 (by omega) (by omega))
  intro j4
  induction j4 with
  | zero => intro i h1 h2 ; exact absurd h2 (Nat.not_lt_zero _)
  | succ j4 ih4 =>
    intro i hle4 hlt4 
    have hm4 := hM.m
    refine ka_iload_n hC dX7_sum_4 rfl ?_
    refine ka_aload_n hC dX7_sum_5 rfl ?_
    refine kg_X7_7  hC dX7_sum_6 ?_
    refine ka_iconst (v := 0) hC dX7_sum_9 rfl ?_
    refine km_ld 0 (by decide) rfl hC dX7_sum_10 ?_
    refine ka_icmp_gt (tgt := 29) hC dX7_sum_11 (by decide) (fun c11 => ?_) (fun c11 => ?_)
    · skip
      obtain rfl : i = cn (S 0) + 1 := nle_cn0 hM.m5 hM.1.pos hle4 c11
      refine ka_iload_n hC dX7_sum_29 rfl ?_
      exact ka_iret hC hR dX7_sum_30 (by first | with_reducible rfl | (simp only [rf_sum, rf_sumX_0, rf_sumX_s, nI_1, c11]; done) | (simp only [rf_sum, rf_sumX_0, rf_sumX_s, nI_1, if_pos c11, if_neg (not_not_intro c11)]; done) | (simp [rf_sum, rf_sumX_0, rf_sumX_s, nI_1, c11]; done) | (simp [rf_sum, rf_sumX_0, rf_sumX_s, nI_1, if_pos c11, if_neg (not_not_intro c11)]; done) | contradiction | rfl) (by first | with_reducible rfl | (simp only [rf_sum, rf_sumX_0, rf_sumX_s, nI_1, c11]; done) | (simp only [rf_sum, rf_sumX_0, rf_sumX_s, nI_1, if_pos c11, if_neg (not_not_intro c11)]; done) | (simp [rf_sum, rf_sumX_0, rf_sumX_s, nI_1, c11]; done) | (simp [rf_sum, rf_sumX_0, rf_sumX_s, nI_1, if_pos c11, if_neg (not_not_intro c11)]; done) | contradiction | rfl)
    · skip
      have hi : i < cn (S 0) + 1 := le_cn0 hM.m5 hM.1.pos hle4 c11
      refine ka_iload_n hC dX7_sum_14 rfl ?_
      refine ka_aload_n hC dX7_sum_15 rfl ?_
      refine ka_iload_n hC dX7_sum_16 rfl ?_
      refine ka_iload_n hC dX7_sum_17 rfl ?_
      refine ka_callV hC (m_X7_has hG i k (by omega) hk rfl rfl) (ka_Rc_model ) rfl ka_q_ml_X7_48 ka_q_im_X7_has ka_q_se_X7_has ka_q_in_X7 ka_q_co_X7_has ky_X7_has (by decide) (by decide) (Nat.le_of_ble_eq_true rfl) rfl dX7_sum_18 ?_
      refine ka_iadd hC dX7_sum_21 ?_
      refine ka_istore_n_s2 hC dX7_sum_22 (by decide) ?_
      refine ka_iinc_3 (v := 1) hC dX7_sum_23 rfl (by decide) ?_
      refine ka_goto (tgt := 4) hC dX7_sum_26 (by decide) ?_
      exact ka_I.back 4 (by first | with_reducible rfl | (simp only [rf_sum, rf_sumX_0, rf_sumX_s, nI_1, c11]; done) | (simp only [rf_sum, rf_sumX_0, rf_sumX_s, nI_1, if_neg c11, if_pos c11]; done) | (simp [rf_sum, rf_sumX_0, rf_sumX_s, nI_1, c11]; done) | (simp [rf_sum, rf_sumX_0, rf_sumX_s, nI_1, if_neg c11, if_pos c11]; done) | contradiction | rfl) (by first | with_reducible rfl | (simp only [rf_sum, rf_sumX_0, rf_sumX_s, nI_1, c11]; done) | (simp only [rf_sum, rf_sumX_0, rf_sumX_s, nI_1, if_neg c11, if_pos c11]; done) | (simp [rf_sum, rf_sumX_0, rf_sumX_s, nI_1, c11]; done) | (simp [rf_sum, rf_sumX_0, rf_sumX_s, nI_1, if_neg c11, if_pos c11]; done) | contradiction | rfl) (ih4 (i + 1) (by omega) (by omega))
theorem ky_X7_due : ka_y yX7_due 0 := by unfold ka_y; decide +kernel
set_option maxHeartbeats 4000000 in
set_option maxRecDepth 100000 in
theorem m_X7_due {G : ka_G} (hG : ka_AD G) {V : ka_W} {M : ka_P} {S : ka_F} (hn : cn (S 1) ≤ 20)  : ka_M G yX7_due cX7_due 3 (some FieldType.int) 2 [.ref (ka_ad G 9 0)] (ka_ms V M S) (some (.int (rf_dueX S (cn (S 1))))) (ka_ms V M S) := by
  refine ka_entry hG ka_pn_X7 (ka_cat1 rfl) (Nat.le_of_ble_eq_true rfl) (fun X hC hR => ?_)
  refine ka_iconst (v := 0) hC dX7_due_0 rfl ?_
  refine ka_istore_n_p1 hC dX7_due_1 (by decide) ?_
  refine ka_iconst (v := 0) hC dX7_due_2 rfl ?_
  refine ka_istore_n_p2 hC dX7_due_3 (by decide) ?_
  suffices H4 : ∀ jj i : Nat, i ≤ cn (S 1) → cn (S 1) - i < jj → ka_I G X (ka_ms V M S) 4 [.ref (ka_ad G 9 0), .int (rf_dueX S i), .int (nI i)] [] from ka_I.back 3 (by first | with_reducible rfl | (simp only [rf_dueX_0, rf_dueX_s, nI_1]; done) | (simp only [rf_dueX_0, rf_dueX_s, nI_1]; done) | (simp [rf_dueX_0, rf_dueX_s, nI_1]; done) | (simp [rf_dueX_0, rf_dueX_s, nI_1]; done) | contradiction | rfl) (by first | with_reducible rfl | (simp only [rf_dueX_0, rf_dueX_s, nI_1]; done) | (simp only [rf_dueX_0, rf_dueX_s, nI_1]; done) | (simp [rf_dueX_0, rf_dueX_s, nI_1]; done) | (simp [rf_dueX_0, rf_dueX_s, nI_1]; done) | contradiction | rfl) (H4 (cn (S 1) + 1) 0 (by omega) (by omega))
  intro j4
  induction j4 with
  | zero => intro i h1 h2 ; exact absurd h2 (Nat.not_lt_zero _)
  | succ j4 ih4 =>
    intro i hle4 hlt4 
    refine ka_iload_n hC dX7_due_4 rfl ?_
    refine ka_aload_n hC dX7_due_5 rfl ?_
    refine kg_X7_7  hC dX7_due_6 ?_
    refine ka_iconst (v := 1) hC dX7_due_9 rfl ?_
    refine km_ld 1 (by decide) rfl hC dX7_due_10 ?_
    refine ka_icmp_ge (tgt := 36) hC dX7_due_11 (by decide) (fun c11 => ?_) (fun c11 => ?_)
    · skip
      obtain rfl : i = cn (S 1) := nlt_cn hle4 c11
      refine ka_iload_n hC dX7_due_36 rfl ?_
      exact ka_iret hC hR dX7_due_37 (by first | with_reducible rfl | (simp only [rf_dueX_0, rf_dueX_s, nI_1, c11]; done) | (simp only [rf_dueX_0, rf_dueX_s, nI_1, if_neg c11, if_pos c11]; done) | (simp [rf_dueX_0, rf_dueX_s, nI_1, c11]; done) | (simp [rf_dueX_0, rf_dueX_s, nI_1, if_neg c11, if_pos c11]; done) | contradiction | rfl) (by first | with_reducible rfl | (simp only [rf_dueX_0, rf_dueX_s, nI_1, c11]; done) | (simp only [rf_dueX_0, rf_dueX_s, nI_1, if_neg c11, if_pos c11]; done) | (simp [rf_dueX_0, rf_dueX_s, nI_1, c11]; done) | (simp [rf_dueX_0, rf_dueX_s, nI_1, if_neg c11, if_pos c11]; done) | contradiction | rfl)
    · skip
      have hi : i < cn (S 1) := lt_cn hle4 c11
      have hi20 : i < 20 := Nat.lt_of_lt_of_le hi hn
      refine ka_iload_n hC dX7_due_14 rfl ?_
      refine ka_aload_n hC dX7_due_15 rfl ?_
      refine ka_iload_n hC dX7_due_16 rfl ?_
      refine ka_callV hC (m_X7_isDue hG (by first | assumption | decide | exact wgIx_lt _ | exact plIx_lt _ | exact sp_recQ_lt | omega)) (ka_Rc_model ) rfl ka_q_ml_X7_44 ka_q_im_X7_isDue ka_q_se_X7_isDue ka_q_in_X7 ka_q_co_X7_isDue ky_X7_isDue (by decide) (by decide) (Nat.le_of_ble_eq_true rfl) rfl dX7_due_17 ?_
      refine ka_if_eq_b (tgt := 27) hC dX7_due_20 (by decide) (fun c20 => ?_) (fun c20 => ?_)
      · skip
        refine ka_iconst (v := 0) hC dX7_due_27 rfl ?_
        refine ka_iadd hC dX7_due_28 ?_
        refine ka_istore_n_s1 hC dX7_due_29 (by decide) ?_
        refine ka_iinc_2 (v := 1) hC dX7_due_30 rfl (by decide) ?_
        refine ka_goto (tgt := 4) hC dX7_due_33 (by decide) ?_
        exact ka_I.back 3 (by first | with_reducible rfl | (simp only [rf_dueX_0, rf_dueX_s, nI_1, c11, c20]; done) | (simp only [rf_dueX_0, rf_dueX_s, nI_1, if_pos c11, if_neg (not_not_intro c11), c20]; done) | (simp [rf_dueX_0, rf_dueX_s, nI_1, c11, c20]; done) | (simp [rf_dueX_0, rf_dueX_s, nI_1, if_pos c11, if_neg (not_not_intro c11), c20]; done) | contradiction | rfl) (by first | with_reducible rfl | (simp only [rf_dueX_0, rf_dueX_s, nI_1, c11, c20]; done) | (simp only [rf_dueX_0, rf_dueX_s, nI_1, if_pos c11, if_neg (not_not_intro c11), c20]; done) | (simp [rf_dueX_0, rf_dueX_s, nI_1, c11, c20]; done) | (simp [rf_dueX_0, rf_dueX_s, nI_1, if_pos c11, if_neg (not_not_intro c11), c20]; done) | contradiction | rfl) (ih4 (i + 1) (by omega) (by omega))
      · skip
        refine ka_iconst (v := 1) hC dX7_due_23 rfl ?_
        refine ka_goto (tgt := 28) hC dX7_due_24 (by decide) ?_
        refine ka_iadd hC dX7_due_28 ?_
        refine ka_istore_n_s1 hC dX7_due_29 (by decide) ?_
        refine ka_iinc_2 (v := 1) hC dX7_due_30 rfl (by decide) ?_
        refine ka_goto (tgt := 4) hC dX7_due_33 (by decide) ?_
        exact ka_I.back 3 (by first | with_reducible rfl | (simp only [rf_dueX_0, rf_dueX_s, nI_1, c11, c20]; done) | (simp only [rf_dueX_0, rf_dueX_s, nI_1, if_pos c11, if_neg (not_not_intro c11), c20]; done) | (simp [rf_dueX_0, rf_dueX_s, nI_1, c11, c20]; done) | (simp [rf_dueX_0, rf_dueX_s, nI_1, if_pos c11, if_neg (not_not_intro c11), c20]; done) | contradiction | rfl) (by first | with_reducible rfl | (simp only [rf_dueX_0, rf_dueX_s, nI_1, c11, c20]; done) | (simp only [rf_dueX_0, rf_dueX_s, nI_1, if_pos c11, if_neg (not_not_intro c11), c20]; done) | (simp [rf_dueX_0, rf_dueX_s, nI_1, c11, c20]; done) | (simp [rf_dueX_0, rf_dueX_s, nI_1, if_pos c11, if_neg (not_not_intro c11), c20]; done) | contradiction | rfl) (ih4 (i + 1) (by omega) (by omega))
theorem ky_X7_tonnes : ka_y yX7_tonnes 0 := by unfold ka_y; decide +kernel
set_option maxHeartbeats 4000000 in
set_option maxRecDepth 100000 in
theorem m_X7_tonnes {G : ka_G} (hG : ka_AD G) {V : ka_W} {M : ka_P} {S : ka_F} {D : Nat} (hM : MK D S)  : ka_M G yX7_tonnes cX7_tonnes 3 (some FieldType.int) 2 [.ref (ka_ad G 9 0)] (ka_ms V M S) (some (.int (rf_tonX S (cn (S 1))))) (ka_ms V M S) := by
  refine ka_entry hG ka_pn_X7 (ka_cat1 rfl) (Nat.le_of_ble_eq_true rfl) (fun X hC hR => ?_)
  refine ka_aload_n hC dX7_tonnes_0 rfl ?_
  refine ka_iconst (v := 0) hC dX7_tonnes_1 rfl ?_
  refine ka_callV hC (m_X7_sum hG 0 (by decide) rfl hM) (ka_Rc_model ) rfl ka_q_ml_X7_160 ka_q_im_X7_sum ka_q_se_X7_sum ka_q_in_X7 ka_q_co_X7_sum ky_X7_sum (by decide) (by decide) (Nat.le_of_ble_eq_true rfl) rfl dX7_tonnes_2 ?_
  refine ka_istore_n_p1 hC dX7_tonnes_5 (by decide) ?_
  refine ka_iconst (v := 0) hC dX7_tonnes_6 rfl ?_
  refine ka_istore_n_p2 hC dX7_tonnes_7 (by decide) ?_
  suffices H8 : ∀ jj i : Nat, i ≤ cn (S 1) → cn (S 1) - i < jj → ka_I G X (ka_ms V M S) 8 [.ref (ka_ad G 9 0), .int (rf_tonX S i), .int (nI i)] [] from ka_I.back 3 (by first | with_reducible rfl | (simp only [rf_tonX_0, rf_tonX_s, nI_1]; done) | (simp only [rf_tonX_0, rf_tonX_s, nI_1]; done) | (simp [rf_tonX_0, rf_tonX_s, nI_1]; done) | (simp [rf_tonX_0, rf_tonX_s, nI_1]; done) | contradiction | rfl) (by first | with_reducible rfl | (simp only [rf_tonX_0, rf_tonX_s, nI_1]; done) | (simp only [rf_tonX_0, rf_tonX_s, nI_1]; done) | (simp [rf_tonX_0, rf_tonX_s, nI_1]; done) | (simp [rf_tonX_0, rf_tonX_s, nI_1]; done) | contradiction | rfl) (H8 (cn (S 1) + 1) 0 (by omega) (by omega))
  intro j8
  induction j8 with
  | zero => intro i h1 h2 ; exact absurd h2 (Nat.not_lt_zero _)
  | succ j8 ih8 =>
    intro i hle8 hlt8 
    refine ka_iload_n hC dX7_tonnes_8 rfl ?_
    refine ka_aload_n hC dX7_tonnes_9 rfl ?_
    refine kg_X7_7  hC dX7_tonnes_10 ?_
    refine ka_iconst (v := 1) hC dX7_tonnes_13 rfl ?_
    refine km_ld 1 (by decide) rfl hC dX7_tonnes_14 ?_
    refine ka_icmp_ge (tgt := 36) hC dX7_tonnes_15 (by decide) (fun c15 => ?_) (fun c15 => ?_)
    · skip
      obtain rfl : i = cn (S 1) := nlt_cn hle8 c15
      refine ka_iload_n hC dX7_tonnes_36 rfl ?_
      exact ka_iret hC hR dX7_tonnes_37 (by first | with_reducible rfl | (simp only [rf_tonX_0, rf_tonX_s, nI_1, c15]; done) | (simp only [rf_tonX_0, rf_tonX_s, nI_1, if_neg c15, if_pos c15]; done) | (simp [rf_tonX_0, rf_tonX_s, nI_1, c15]; done) | (simp [rf_tonX_0, rf_tonX_s, nI_1, if_neg c15, if_pos c15]; done) | contradiction | rfl) (by first | with_reducible rfl | (simp only [rf_tonX_0, rf_tonX_s, nI_1, c15]; done) | (simp only [rf_tonX_0, rf_tonX_s, nI_1, if_neg c15, if_pos c15]; done) | (simp [rf_tonX_0, rf_tonX_s, nI_1, c15]; done) | (simp [rf_tonX_0, rf_tonX_s, nI_1, if_neg c15, if_pos c15]; done) | contradiction | rfl)
    · skip
      have hi : i < cn (S 1) := lt_cn hle8 c15
      have hi20 : i < 20 := Nat.lt_of_lt_of_le hi hM.n
      refine ka_iload_n hC dX7_tonnes_18 rfl ?_
      refine ka_bipush (v := 30) hC dX7_tonnes_19 rfl ?_
      refine ka_aload_n hC dX7_tonnes_21 rfl ?_
      refine ka_iload_n hC dX7_tonnes_22 rfl ?_
      refine ka_iconst (v := 2) hC dX7_tonnes_23 rfl ?_
      refine ka_callV hC (m_X7_of hG i 2 hi20 (by decide) rfl rfl) (ka_Rc_model ) rfl ka_q_ml_X7_40 ka_q_im_X7_of ka_q_se_X7_of ka_q_in_X7 ka_q_co_X7_of ky_X7_of (by decide) (by decide) (Nat.le_of_ble_eq_true rfl) rfl dX7_tonnes_24 ?_
      refine ka_imul hC dX7_tonnes_27 ?_
      refine ka_iadd hC dX7_tonnes_28 ?_
      refine ka_istore_n_s1 hC dX7_tonnes_29 (by decide) ?_
      refine ka_iinc_2 (v := 1) hC dX7_tonnes_30 rfl (by decide) ?_
      refine ka_goto (tgt := 8) hC dX7_tonnes_33 (by decide) ?_
      exact ka_I.back 3 (by first | with_reducible rfl | (simp only [rf_tonX_0, rf_tonX_s, nI_1, c15]; done) | (simp only [rf_tonX_0, rf_tonX_s, nI_1, if_pos c15, if_neg (not_not_intro c15)]; done) | (simp [rf_tonX_0, rf_tonX_s, nI_1, c15]; done) | (simp [rf_tonX_0, rf_tonX_s, nI_1, if_pos c15, if_neg (not_not_intro c15)]; done) | contradiction | rfl) (by first | with_reducible rfl | (simp only [rf_tonX_0, rf_tonX_s, nI_1, c15]; done) | (simp only [rf_tonX_0, rf_tonX_s, nI_1, if_pos c15, if_neg (not_not_intro c15)]; done) | (simp [rf_tonX_0, rf_tonX_s, nI_1, c15]; done) | (simp [rf_tonX_0, rf_tonX_s, nI_1, if_pos c15, if_neg (not_not_intro c15)]; done) | contradiction | rfl) (ih8 (i + 1) (by omega) (by omega))
theorem ky_X7_count : ka_y yX7_count 1 := by unfold ka_y; decide +kernel
set_option maxHeartbeats 4000000 in
set_option maxRecDepth 100000 in
theorem m_X7_count {G : ka_G} (hG : ka_AD G) {V : ka_W} {M : ka_P} {S : ka_F} {D : Nat} (hM : MK D S) {a : Int32}  : ka_M G yX7_count cX7_count 2 (some FieldType.int) 3 [.ref (ka_ad G 9 0), .int a] (ka_ms V M S) (some (.int (rf_count M S a))) (ka_ms V M S) := by
  refine ka_entry hG ka_pn_X7 (ka_cat1 rfl) (Nat.le_of_ble_eq_true rfl) (fun X hC hR => ?_)
  refine ka_iload_n hC dX7_count_0 rfl ?_
  by_cases c1_0 : a = 0
  · skip
    refine ka_tsIn (tgt := 76) hC dX7_count_1 (by rw [c1_0]; decide) (by rw [c1_0]; decide) (by rw [c1_0]; rfl) (by decide) ?_
    refine ka_aload_n hC dX7_count_76 rfl ?_
    refine kg_X7_7  hC dX7_count_77 ?_
    refine ka_iload_n hC dX7_count_80 rfl ?_
    refine km_ld (cn a) (by first | (rw [c1_0]; decide) | (rw [c1_1]; decide) | (rw [c1_2]; decide)) (by first | (rw [c1_0]; first | done | rfl) | (rw [c1_1]; first | done | rfl) | (rw [c1_2]; first | done | rfl)) hC dX7_count_81 ?_
    exact ka_iret hC hR dX7_count_82 (by first | with_reducible rfl | (simp only [rf_count, c1_0]; done) | (simp only [rf_count, if_pos c1_0, if_neg (not_not_intro c1_0)]; done) | (simp [rf_count, c1_0]; done) | (simp [rf_count, if_pos c1_0, if_neg (not_not_intro c1_0)]; done) | contradiction | rfl) (by first | with_reducible rfl | (simp only [rf_count, c1_0]; done) | (simp only [rf_count, if_pos c1_0, if_neg (not_not_intro c1_0)]; done) | (simp [rf_count, c1_0]; done) | (simp [rf_count, if_pos c1_0, if_neg (not_not_intro c1_0)]; done) | contradiction | rfl)
  by_cases c1_1 : a = 1
  · skip
    refine ka_tsIn (tgt := 76) hC dX7_count_1 (by rw [c1_1]; decide) (by rw [c1_1]; decide) (by rw [c1_1]; rfl) (by decide) ?_
    refine ka_aload_n hC dX7_count_76 rfl ?_
    refine kg_X7_7  hC dX7_count_77 ?_
    refine ka_iload_n hC dX7_count_80 rfl ?_
    refine km_ld (cn a) (by first | (rw [c1_0]; decide) | (rw [c1_1]; decide) | (rw [c1_2]; decide)) (by first | (rw [c1_0]; first | done | rfl) | (rw [c1_1]; first | done | rfl) | (rw [c1_2]; first | done | rfl)) hC dX7_count_81 ?_
    exact ka_iret hC hR dX7_count_82 (by first | with_reducible rfl | (simp only [rf_count, c1_0, c1_1]; done) | (simp only [rf_count, if_neg c1_0, if_pos c1_0, if_pos c1_1, if_neg (not_not_intro c1_1)]; done) | (simp [rf_count, c1_0, c1_1]; done) | (simp [rf_count, if_neg c1_0, if_pos c1_0, if_pos c1_1, if_neg (not_not_intro c1_1)]; done) | contradiction | rfl) (by first | with_reducible rfl | (simp only [rf_count, c1_0, c1_1]; done) | (simp only [rf_count, if_neg c1_0, if_pos c1_0, if_pos c1_1, if_neg (not_not_intro c1_1)]; done) | (simp [rf_count, c1_0, c1_1]; done) | (simp [rf_count, if_neg c1_0, if_pos c1_0, if_pos c1_1, if_neg (not_not_intro c1_1)]; done) | contradiction | rfl)
  by_cases c1_2 : a = 2
  · skip
    refine ka_tsIn (tgt := 76) hC dX7_count_1 (by rw [c1_2]; decide) (by rw [c1_2]; decide) (by rw [c1_2]; rfl) (by decide) ?_
    refine ka_aload_n hC dX7_count_76 rfl ?_
    refine kg_X7_7  hC dX7_count_77 ?_
    refine ka_iload_n hC dX7_count_80 rfl ?_
    refine km_ld (cn a) (by first | (rw [c1_0]; decide) | (rw [c1_1]; decide) | (rw [c1_2]; decide)) (by first | (rw [c1_0]; first | done | rfl) | (rw [c1_1]; first | done | rfl) | (rw [c1_2]; first | done | rfl)) hC dX7_count_81 ?_
    exact ka_iret hC hR dX7_count_82 (by first | with_reducible rfl | (simp only [rf_count, c1_0, c1_1, c1_2]; done) | (simp only [rf_count, if_neg c1_0, if_pos c1_0, if_neg c1_1, if_pos c1_1, if_pos c1_2, if_neg (not_not_intro c1_2)]; done) | (simp [rf_count, c1_0, c1_1, c1_2]; done) | (simp [rf_count, if_neg c1_0, if_pos c1_0, if_neg c1_1, if_pos c1_1, if_pos c1_2, if_neg (not_not_intro c1_2)]; done) | contradiction | rfl) (by first | with_reducible rfl | (simp only [rf_count, c1_0, c1_1, c1_2]; done) | (simp only [rf_count, if_neg c1_0, if_pos c1_0, if_neg c1_1, if_pos c1_1, if_pos c1_2, if_neg (not_not_intro c1_2)]; done) | (simp [rf_count, c1_0, c1_1, c1_2]; done) | (simp [rf_count, if_neg c1_0, if_pos c1_0, if_neg c1_1, if_pos c1_1, if_pos c1_2, if_neg (not_not_intro c1_2)]; done) | contradiction | rfl)
  by_cases c1_3 : a = 3
  · skip
    refine ka_tsIn (tgt := 83) hC dX7_count_1 (by rw [c1_3]; decide) (by rw [c1_3]; decide) (by rw [c1_3]; rfl) (by decide) ?_
    refine ka_aload_n hC dX7_count_83 rfl ?_
    refine ka_iload_n hC dX7_count_84 rfl ?_
    refine ka_iconst (v := 3) hC dX7_count_85 rfl ?_
    refine ka_isub hC dX7_count_86 ?_
    refine ka_callV hC (m_X7_wagons hG hM.n) (ka_Rc_model ) rfl ka_q_ml_X7_163 ka_q_im_X7_wagons ka_q_se_X7_wagons ka_q_in_X7 ka_q_co_X7_wagons ky_X7_wagons (by decide) (by decide) (Nat.le_of_ble_eq_true rfl) rfl dX7_count_87 ?_
    exact ka_iret hC hR dX7_count_90 (by first | with_reducible rfl | (simp only [rf_count, c1_0, c1_1, c1_2, c1_3]; done) | (simp only [rf_count, if_neg c1_0, if_pos c1_0, if_neg c1_1, if_pos c1_1, if_neg c1_2, if_pos c1_2, if_pos c1_3, if_neg (not_not_intro c1_3)]; done) | (simp [rf_count, c1_0, c1_1, c1_2, c1_3]; done) | (simp [rf_count, if_neg c1_0, if_pos c1_0, if_neg c1_1, if_pos c1_1, if_neg c1_2, if_pos c1_2, if_pos c1_3, if_neg (not_not_intro c1_3)]; done) | contradiction | rfl) (by first | with_reducible rfl | (simp only [rf_count, c1_0, c1_1, c1_2, c1_3]; done) | (simp only [rf_count, if_neg c1_0, if_pos c1_0, if_neg c1_1, if_pos c1_1, if_neg c1_2, if_pos c1_2, if_pos c1_3, if_neg (not_not_intro c1_3)]; done) | (simp [rf_count, c1_0, c1_1, c1_2, c1_3]; done) | (simp [rf_count, if_neg c1_0, if_pos c1_0, if_neg c1_1, if_pos c1_1, if_neg c1_2, if_pos c1_2, if_pos c1_3, if_neg (not_not_intro c1_3)]; done) | contradiction | rfl)
  by_cases c1_4 : a = 4
  · skip
    refine ka_tsIn (tgt := 83) hC dX7_count_1 (by rw [c1_4]; decide) (by rw [c1_4]; decide) (by rw [c1_4]; rfl) (by decide) ?_
    refine ka_aload_n hC dX7_count_83 rfl ?_
    refine ka_iload_n hC dX7_count_84 rfl ?_
    refine ka_iconst (v := 3) hC dX7_count_85 rfl ?_
    refine ka_isub hC dX7_count_86 ?_
    refine ka_callV hC (m_X7_wagons hG hM.n) (ka_Rc_model ) rfl ka_q_ml_X7_163 ka_q_im_X7_wagons ka_q_se_X7_wagons ka_q_in_X7 ka_q_co_X7_wagons ky_X7_wagons (by decide) (by decide) (Nat.le_of_ble_eq_true rfl) rfl dX7_count_87 ?_
    exact ka_iret hC hR dX7_count_90 (by first | with_reducible rfl | (simp only [rf_count, c1_0, c1_1, c1_2, c1_3, c1_4]; done) | (simp only [rf_count, if_neg c1_0, if_pos c1_0, if_neg c1_1, if_pos c1_1, if_neg c1_2, if_pos c1_2, if_neg c1_3, if_pos c1_3, if_pos c1_4, if_neg (not_not_intro c1_4)]; done) | (simp [rf_count, c1_0, c1_1, c1_2, c1_3, c1_4]; done) | (simp [rf_count, if_neg c1_0, if_pos c1_0, if_neg c1_1, if_pos c1_1, if_neg c1_2, if_pos c1_2, if_neg c1_3, if_pos c1_3, if_pos c1_4, if_neg (not_not_intro c1_4)]; done) | contradiction | rfl) (by first | with_reducible rfl | (simp only [rf_count, c1_0, c1_1, c1_2, c1_3, c1_4]; done) | (simp only [rf_count, if_neg c1_0, if_pos c1_0, if_neg c1_1, if_pos c1_1, if_neg c1_2, if_pos c1_2, if_neg c1_3, if_pos c1_3, if_pos c1_4, if_neg (not_not_intro c1_4)]; done) | (simp [rf_count, c1_0, c1_1, c1_2, c1_3, c1_4]; done) | (simp [rf_count, if_neg c1_0, if_pos c1_0, if_neg c1_1, if_pos c1_1, if_neg c1_2, if_pos c1_2, if_neg c1_3, if_pos c1_3, if_pos c1_4, if_neg (not_not_intro c1_4)]; done) | contradiction | rfl)
  by_cases c1_5 : a = 5
  · skip
    refine ka_tsIn (tgt := 83) hC dX7_count_1 (by rw [c1_5]; decide) (by rw [c1_5]; decide) (by rw [c1_5]; rfl) (by decide) ?_
    refine ka_aload_n hC dX7_count_83 rfl ?_
    refine ka_iload_n hC dX7_count_84 rfl ?_
    refine ka_iconst (v := 3) hC dX7_count_85 rfl ?_
    refine ka_isub hC dX7_count_86 ?_
    refine ka_callV hC (m_X7_wagons hG hM.n) (ka_Rc_model ) rfl ka_q_ml_X7_163 ka_q_im_X7_wagons ka_q_se_X7_wagons ka_q_in_X7 ka_q_co_X7_wagons ky_X7_wagons (by decide) (by decide) (Nat.le_of_ble_eq_true rfl) rfl dX7_count_87 ?_
    exact ka_iret hC hR dX7_count_90 (by first | with_reducible rfl | (simp only [rf_count, c1_0, c1_1, c1_2, c1_3, c1_4, c1_5]; done) | (simp only [rf_count, if_neg c1_0, if_pos c1_0, if_neg c1_1, if_pos c1_1, if_neg c1_2, if_pos c1_2, if_neg c1_3, if_pos c1_3, if_neg c1_4, if_pos c1_4, if_pos c1_5, if_neg (not_not_intro c1_5)]; done) | (simp [rf_count, c1_0, c1_1, c1_2, c1_3, c1_4, c1_5]; done) | (simp [rf_count, if_neg c1_0, if_pos c1_0, if_neg c1_1, if_pos c1_1, if_neg c1_2, if_pos c1_2, if_neg c1_3, if_pos c1_3, if_neg c1_4, if_pos c1_4, if_pos c1_5, if_neg (not_not_intro c1_5)]; done) | contradiction | rfl) (by first | with_reducible rfl | (simp only [rf_count, c1_0, c1_1, c1_2, c1_3, c1_4, c1_5]; done) | (simp only [rf_count, if_neg c1_0, if_pos c1_0, if_neg c1_1, if_pos c1_1, if_neg c1_2, if_pos c1_2, if_neg c1_3, if_pos c1_3, if_neg c1_4, if_pos c1_4, if_pos c1_5, if_neg (not_not_intro c1_5)]; done) | (simp [rf_count, c1_0, c1_1, c1_2, c1_3, c1_4, c1_5]; done) | (simp [rf_count, if_neg c1_0, if_pos c1_0, if_neg c1_1, if_pos c1_1, if_neg c1_2, if_pos c1_2, if_neg c1_3, if_pos c1_3, if_neg c1_4, if_pos c1_4, if_pos c1_5, if_neg (not_not_intro c1_5)]; done) | contradiction | rfl)
  by_cases c1_6 : a = 6
  · skip
    refine ka_tsIn (tgt := 83) hC dX7_count_1 (by rw [c1_6]; decide) (by rw [c1_6]; decide) (by rw [c1_6]; rfl) (by decide) ?_
    refine ka_aload_n hC dX7_count_83 rfl ?_
    refine ka_iload_n hC dX7_count_84 rfl ?_
    refine ka_iconst (v := 3) hC dX7_count_85 rfl ?_
    refine ka_isub hC dX7_count_86 ?_
    refine ka_callV hC (m_X7_wagons hG hM.n) (ka_Rc_model ) rfl ka_q_ml_X7_163 ka_q_im_X7_wagons ka_q_se_X7_wagons ka_q_in_X7 ka_q_co_X7_wagons ky_X7_wagons (by decide) (by decide) (Nat.le_of_ble_eq_true rfl) rfl dX7_count_87 ?_
    exact ka_iret hC hR dX7_count_90 (by first | with_reducible rfl | (simp only [rf_count, c1_0, c1_1, c1_2, c1_3, c1_4, c1_5, c1_6]; done) | (simp only [rf_count, if_neg c1_0, if_pos c1_0, if_neg c1_1, if_pos c1_1, if_neg c1_2, if_pos c1_2, if_neg c1_3, if_pos c1_3, if_neg c1_4, if_pos c1_4, if_neg c1_5, if_pos c1_5, if_pos c1_6, if_neg (not_not_intro c1_6)]; done) | (simp [rf_count, c1_0, c1_1, c1_2, c1_3, c1_4, c1_5, c1_6]; done) | (simp [rf_count, if_neg c1_0, if_pos c1_0, if_neg c1_1, if_pos c1_1, if_neg c1_2, if_pos c1_2, if_neg c1_3, if_pos c1_3, if_neg c1_4, if_pos c1_4, if_neg c1_5, if_pos c1_5, if_pos c1_6, if_neg (not_not_intro c1_6)]; done) | contradiction | rfl) (by first | with_reducible rfl | (simp only [rf_count, c1_0, c1_1, c1_2, c1_3, c1_4, c1_5, c1_6]; done) | (simp only [rf_count, if_neg c1_0, if_pos c1_0, if_neg c1_1, if_pos c1_1, if_neg c1_2, if_pos c1_2, if_neg c1_3, if_pos c1_3, if_neg c1_4, if_pos c1_4, if_neg c1_5, if_pos c1_5, if_pos c1_6, if_neg (not_not_intro c1_6)]; done) | (simp [rf_count, c1_0, c1_1, c1_2, c1_3, c1_4, c1_5, c1_6]; done) | (simp [rf_count, if_neg c1_0, if_pos c1_0, if_neg c1_1, if_pos c1_1, if_neg c1_2, if_pos c1_2, if_neg c1_3, if_pos c1_3, if_neg c1_4, if_pos c1_4, if_neg c1_5, if_pos c1_5, if_pos c1_6, if_neg (not_not_intro c1_6)]; done) | contradiction | rfl)
  by_cases c1_7 : a = 7
  · skip
    refine ka_tsIn (tgt := 91) hC dX7_count_1 (by rw [c1_7]; decide) (by rw [c1_7]; decide) (by rw [c1_7]; rfl) (by decide) ?_
    refine ka_aload_n hC dX7_count_91 rfl ?_
    refine ka_iconst (v := 2) hC dX7_count_92 rfl ?_
    refine ka_callV hC (m_X7_sum hG 2 (by decide) rfl hM) (ka_Rc_model ) rfl ka_q_ml_X7_160 ka_q_im_X7_sum ka_q_se_X7_sum ka_q_in_X7 ka_q_co_X7_sum ky_X7_sum (by decide) (by decide) (Nat.le_of_ble_eq_true rfl) rfl dX7_count_93 ?_
    exact ka_iret hC hR dX7_count_96 (by first | with_reducible rfl | (simp only [rf_count, c1_0, c1_1, c1_2, c1_3, c1_4, c1_5, c1_6, c1_7]; done) | (simp only [rf_count, if_neg c1_0, if_pos c1_0, if_neg c1_1, if_pos c1_1, if_neg c1_2, if_pos c1_2, if_neg c1_3, if_pos c1_3, if_neg c1_4, if_pos c1_4, if_neg c1_5, if_pos c1_5, if_neg c1_6, if_pos c1_6, if_pos c1_7, if_neg (not_not_intro c1_7)]; done) | (simp [rf_count, c1_0, c1_1, c1_2, c1_3, c1_4, c1_5, c1_6, c1_7]; done) | (simp [rf_count, if_neg c1_0, if_pos c1_0, if_neg c1_1, if_pos c1_1, if_neg c1_2, if_pos c1_2, if_neg c1_3, if_pos c1_3, if_neg c1_4, if_pos c1_4, if_neg c1_5, if_pos c1_5, if_neg c1_6, if_pos c1_6, if_pos c1_7, if_neg (not_not_intro c1_7)]; done) | contradiction | rfl) (by first | with_reducible rfl | (simp only [rf_count, c1_0, c1_1, c1_2, c1_3, c1_4, c1_5, c1_6, c1_7]; done) | (simp only [rf_count, if_neg c1_0, if_pos c1_0, if_neg c1_1, if_pos c1_1, if_neg c1_2, if_pos c1_2, if_neg c1_3, if_pos c1_3, if_neg c1_4, if_pos c1_4, if_neg c1_5, if_pos c1_5, if_neg c1_6, if_pos c1_6, if_pos c1_7, if_neg (not_not_intro c1_7)]; done) | (simp [rf_count, c1_0, c1_1, c1_2, c1_3, c1_4, c1_5, c1_6, c1_7]; done) | (simp [rf_count, if_neg c1_0, if_pos c1_0, if_neg c1_1, if_pos c1_1, if_neg c1_2, if_pos c1_2, if_neg c1_3, if_pos c1_3, if_neg c1_4, if_pos c1_4, if_neg c1_5, if_pos c1_5, if_neg c1_6, if_pos c1_6, if_pos c1_7, if_neg (not_not_intro c1_7)]; done) | contradiction | rfl)
  by_cases c1_8 : a = 8
  · skip
    refine ka_tsIn (tgt := 97) hC dX7_count_1 (by rw [c1_8]; decide) (by rw [c1_8]; decide) (by rw [c1_8]; rfl) (by decide) ?_
    refine ka_aload_n hC dX7_count_97 rfl ?_
    refine ka_callV hC (m_X7_tonnes hG (by first | assumption | decide | exact wgIx_lt _ | exact plIx_lt _ | exact sp_recQ_lt | omega)) (ka_Rc_model ) rfl ka_q_ml_X7_166 ka_q_im_X7_tonnes ka_q_se_X7_tonnes ka_q_in_X7 ka_q_co_X7_tonnes ky_X7_tonnes (by decide) (by decide) (Nat.le_of_ble_eq_true rfl) rfl dX7_count_98 ?_
    exact ka_iret hC hR dX7_count_101 (by first | with_reducible rfl | (simp only [rf_count, c1_0, c1_1, c1_2, c1_3, c1_4, c1_5, c1_6, c1_7, c1_8]; done) | (simp only [rf_count, if_neg c1_0, if_pos c1_0, if_neg c1_1, if_pos c1_1, if_neg c1_2, if_pos c1_2, if_neg c1_3, if_pos c1_3, if_neg c1_4, if_pos c1_4, if_neg c1_5, if_pos c1_5, if_neg c1_6, if_pos c1_6, if_neg c1_7, if_pos c1_7, if_pos c1_8, if_neg (not_not_intro c1_8)]; done) | (simp [rf_count, c1_0, c1_1, c1_2, c1_3, c1_4, c1_5, c1_6, c1_7, c1_8]; done) | (simp [rf_count, if_neg c1_0, if_pos c1_0, if_neg c1_1, if_pos c1_1, if_neg c1_2, if_pos c1_2, if_neg c1_3, if_pos c1_3, if_neg c1_4, if_pos c1_4, if_neg c1_5, if_pos c1_5, if_neg c1_6, if_pos c1_6, if_neg c1_7, if_pos c1_7, if_pos c1_8, if_neg (not_not_intro c1_8)]; done) | contradiction | rfl) (by first | with_reducible rfl | (simp only [rf_count, c1_0, c1_1, c1_2, c1_3, c1_4, c1_5, c1_6, c1_7, c1_8]; done) | (simp only [rf_count, if_neg c1_0, if_pos c1_0, if_neg c1_1, if_pos c1_1, if_neg c1_2, if_pos c1_2, if_neg c1_3, if_pos c1_3, if_neg c1_4, if_pos c1_4, if_neg c1_5, if_pos c1_5, if_neg c1_6, if_pos c1_6, if_neg c1_7, if_pos c1_7, if_pos c1_8, if_neg (not_not_intro c1_8)]; done) | (simp [rf_count, c1_0, c1_1, c1_2, c1_3, c1_4, c1_5, c1_6, c1_7, c1_8]; done) | (simp [rf_count, if_neg c1_0, if_pos c1_0, if_neg c1_1, if_pos c1_1, if_neg c1_2, if_pos c1_2, if_neg c1_3, if_pos c1_3, if_neg c1_4, if_pos c1_4, if_neg c1_5, if_pos c1_5, if_neg c1_6, if_pos c1_6, if_neg c1_7, if_pos c1_7, if_pos c1_8, if_neg (not_not_intro c1_8)]; done) | contradiction | rfl)
  by_cases c1_9 : a = 9
  · skip
    refine ka_tsIn (tgt := 102) hC dX7_count_1 (by rw [c1_9]; decide) (by rw [c1_9]; decide) (by rw [c1_9]; rfl) (by decide) ?_
    refine ka_aload_n hC dX7_count_102 rfl ?_
    refine kg_X7_7  hC dX7_count_103 ?_
    refine ka_iconst (v := 3) hC dX7_count_106 rfl ?_
    refine ka_iload_n hC dX7_count_107 rfl ?_
    refine ka_iadd hC dX7_count_108 ?_
    refine ka_bipush (v := 9) hC dX7_count_109 rfl ?_
    refine ka_isub hC dX7_count_111 ?_
    refine km_ld (cn (3 + a - 9)) (by first | (rw [c1_9]; decide) | (rw [c1_10]; decide) | (rw [c1_11]; decide)) (by first | (rw [c1_9]; first | done | rfl) | (rw [c1_10]; first | done | rfl) | (rw [c1_11]; first | done | rfl)) hC dX7_count_112 ?_
    exact ka_iret hC hR dX7_count_113 (by first | with_reducible rfl | (simp only [rf_count, c1_0, c1_1, c1_2, c1_3, c1_4, c1_5, c1_6, c1_7, c1_8, c1_9]; done) | (simp only [rf_count, if_neg c1_0, if_pos c1_0, if_neg c1_1, if_pos c1_1, if_neg c1_2, if_pos c1_2, if_neg c1_3, if_pos c1_3, if_neg c1_4, if_pos c1_4, if_neg c1_5, if_pos c1_5, if_neg c1_6, if_pos c1_6, if_neg c1_7, if_pos c1_7, if_neg c1_8, if_pos c1_8, if_pos c1_9, if_neg (not_not_intro c1_9)]; done) | (simp [rf_count, c1_0, c1_1, c1_2, c1_3, c1_4, c1_5, c1_6, c1_7, c1_8, c1_9]; done) | (simp [rf_count, if_neg c1_0, if_pos c1_0, if_neg c1_1, if_pos c1_1, if_neg c1_2, if_pos c1_2, if_neg c1_3, if_pos c1_3, if_neg c1_4, if_pos c1_4, if_neg c1_5, if_pos c1_5, if_neg c1_6, if_pos c1_6, if_neg c1_7, if_pos c1_7, if_neg c1_8, if_pos c1_8, if_pos c1_9, if_neg (not_not_intro c1_9)]; done) | contradiction | rfl) (by first | with_reducible rfl | (simp only [rf_count, c1_0, c1_1, c1_2, c1_3, c1_4, c1_5, c1_6, c1_7, c1_8, c1_9]; done) | (simp only [rf_count, if_neg c1_0, if_pos c1_0, if_neg c1_1, if_pos c1_1, if_neg c1_2, if_pos c1_2, if_neg c1_3, if_pos c1_3, if_neg c1_4, if_pos c1_4, if_neg c1_5, if_pos c1_5, if_neg c1_6, if_pos c1_6, if_neg c1_7, if_pos c1_7, if_neg c1_8, if_pos c1_8, if_pos c1_9, if_neg (not_not_intro c1_9)]; done) | (simp [rf_count, c1_0, c1_1, c1_2, c1_3, c1_4, c1_5, c1_6, c1_7, c1_8, c1_9]; done) | (simp [rf_count, if_neg c1_0, if_pos c1_0, if_neg c1_1, if_pos c1_1, if_neg c1_2, if_pos c1_2, if_neg c1_3, if_pos c1_3, if_neg c1_4, if_pos c1_4, if_neg c1_5, if_pos c1_5, if_neg c1_6, if_pos c1_6, if_neg c1_7, if_pos c1_7, if_neg c1_8, if_pos c1_8, if_pos c1_9, if_neg (not_not_intro c1_9)]; done) | contradiction | rfl)
  by_cases c1_10 : a = 10
  · skip
    refine ka_tsIn (tgt := 102) hC dX7_count_1 (by rw [c1_10]; decide) (by rw [c1_10]; decide) (by rw [c1_10]; rfl) (by decide) ?_
    refine ka_aload_n hC dX7_count_102 rfl ?_
    refine kg_X7_7  hC dX7_count_103 ?_
    refine ka_iconst (v := 3) hC dX7_count_106 rfl ?_
    refine ka_iload_n hC dX7_count_107 rfl ?_
    refine ka_iadd hC dX7_count_108 ?_
    refine ka_bipush (v := 9) hC dX7_count_109 rfl ?_
    refine ka_isub hC dX7_count_111 ?_
    refine km_ld (cn (3 + a - 9)) (by first | (rw [c1_9]; decide) | (rw [c1_10]; decide) | (rw [c1_11]; decide)) (by first | (rw [c1_9]; first | done | rfl) | (rw [c1_10]; first | done | rfl) | (rw [c1_11]; first | done | rfl)) hC dX7_count_112 ?_
    exact ka_iret hC hR dX7_count_113 (by first | with_reducible rfl | (simp only [rf_count, c1_0, c1_1, c1_2, c1_3, c1_4, c1_5, c1_6, c1_7, c1_8, c1_9, c1_10]; done) | (simp only [rf_count, if_neg c1_0, if_pos c1_0, if_neg c1_1, if_pos c1_1, if_neg c1_2, if_pos c1_2, if_neg c1_3, if_pos c1_3, if_neg c1_4, if_pos c1_4, if_neg c1_5, if_pos c1_5, if_neg c1_6, if_pos c1_6, if_neg c1_7, if_pos c1_7, if_neg c1_8, if_pos c1_8, if_neg c1_9, if_pos c1_9, if_pos c1_10, if_neg (not_not_intro c1_10)]; done) | (simp [rf_count, c1_0, c1_1, c1_2, c1_3, c1_4, c1_5, c1_6, c1_7, c1_8, c1_9, c1_10]; done) | (simp [rf_count, if_neg c1_0, if_pos c1_0, if_neg c1_1, if_pos c1_1, if_neg c1_2, if_pos c1_2, if_neg c1_3, if_pos c1_3, if_neg c1_4, if_pos c1_4, if_neg c1_5, if_pos c1_5, if_neg c1_6, if_pos c1_6, if_neg c1_7, if_pos c1_7, if_neg c1_8, if_pos c1_8, if_neg c1_9, if_pos c1_9, if_pos c1_10, if_neg (not_not_intro c1_10)]; done) | contradiction | rfl) (by first | with_reducible rfl | (simp only [rf_count, c1_0, c1_1, c1_2, c1_3, c1_4, c1_5, c1_6, c1_7, c1_8, c1_9, c1_10]; done) | (simp only [rf_count, if_neg c1_0, if_pos c1_0, if_neg c1_1, if_pos c1_1, if_neg c1_2, if_pos c1_2, if_neg c1_3, if_pos c1_3, if_neg c1_4, if_pos c1_4, if_neg c1_5, if_pos c1_5, if_neg c1_6, if_pos c1_6, if_neg c1_7, if_pos c1_7, if_neg c1_8, if_pos c1_8, if_neg c1_9, if_pos c1_9, if_pos c1_10, if_neg (not_not_intro c1_10)]; done) | (simp [rf_count, c1_0, c1_1, c1_2, c1_3, c1_4, c1_5, c1_6, c1_7, c1_8, c1_9, c1_10]; done) | (simp [rf_count, if_neg c1_0, if_pos c1_0, if_neg c1_1, if_pos c1_1, if_neg c1_2, if_pos c1_2, if_neg c1_3, if_pos c1_3, if_neg c1_4, if_pos c1_4, if_neg c1_5, if_pos c1_5, if_neg c1_6, if_pos c1_6, if_neg c1_7, if_pos c1_7, if_neg c1_8, if_pos c1_8, if_neg c1_9, if_pos c1_9, if_pos c1_10, if_neg (not_not_intro c1_10)]; done) | contradiction | rfl)
  by_cases c1_11 : a = 11
  · skip
    refine ka_tsIn (tgt := 102) hC dX7_count_1 (by rw [c1_11]; decide) (by rw [c1_11]; decide) (by rw [c1_11]; rfl) (by decide) ?_
    refine ka_aload_n hC dX7_count_102 rfl ?_
    refine kg_X7_7  hC dX7_count_103 ?_
    refine ka_iconst (v := 3) hC dX7_count_106 rfl ?_
    refine ka_iload_n hC dX7_count_107 rfl ?_
    refine ka_iadd hC dX7_count_108 ?_
    refine ka_bipush (v := 9) hC dX7_count_109 rfl ?_
    refine ka_isub hC dX7_count_111 ?_
    refine km_ld (cn (3 + a - 9)) (by first | (rw [c1_9]; decide) | (rw [c1_10]; decide) | (rw [c1_11]; decide)) (by first | (rw [c1_9]; first | done | rfl) | (rw [c1_10]; first | done | rfl) | (rw [c1_11]; first | done | rfl)) hC dX7_count_112 ?_
    exact ka_iret hC hR dX7_count_113 (by first | with_reducible rfl | (simp only [rf_count, c1_0, c1_1, c1_2, c1_3, c1_4, c1_5, c1_6, c1_7, c1_8, c1_9, c1_10, c1_11]; done) | (simp only [rf_count, if_neg c1_0, if_pos c1_0, if_neg c1_1, if_pos c1_1, if_neg c1_2, if_pos c1_2, if_neg c1_3, if_pos c1_3, if_neg c1_4, if_pos c1_4, if_neg c1_5, if_pos c1_5, if_neg c1_6, if_pos c1_6, if_neg c1_7, if_pos c1_7, if_neg c1_8, if_pos c1_8, if_neg c1_9, if_pos c1_9, if_neg c1_10, if_pos c1_10, if_pos c1_11, if_neg (not_not_intro c1_11)]; done) | (simp [rf_count, c1_0, c1_1, c1_2, c1_3, c1_4, c1_5, c1_6, c1_7, c1_8, c1_9, c1_10, c1_11]; done) | (simp [rf_count, if_neg c1_0, if_pos c1_0, if_neg c1_1, if_pos c1_1, if_neg c1_2, if_pos c1_2, if_neg c1_3, if_pos c1_3, if_neg c1_4, if_pos c1_4, if_neg c1_5, if_pos c1_5, if_neg c1_6, if_pos c1_6, if_neg c1_7, if_pos c1_7, if_neg c1_8, if_pos c1_8, if_neg c1_9, if_pos c1_9, if_neg c1_10, if_pos c1_10, if_pos c1_11, if_neg (not_not_intro c1_11)]; done) | contradiction | rfl) (by first | with_reducible rfl | (simp only [rf_count, c1_0, c1_1, c1_2, c1_3, c1_4, c1_5, c1_6, c1_7, c1_8, c1_9, c1_10, c1_11]; done) | (simp only [rf_count, if_neg c1_0, if_pos c1_0, if_neg c1_1, if_pos c1_1, if_neg c1_2, if_pos c1_2, if_neg c1_3, if_pos c1_3, if_neg c1_4, if_pos c1_4, if_neg c1_5, if_pos c1_5, if_neg c1_6, if_pos c1_6, if_neg c1_7, if_pos c1_7, if_neg c1_8, if_pos c1_8, if_neg c1_9, if_pos c1_9, if_neg c1_10, if_pos c1_10, if_pos c1_11, if_neg (not_not_intro c1_11)]; done) | (simp [rf_count, c1_0, c1_1, c1_2, c1_3, c1_4, c1_5, c1_6, c1_7, c1_8, c1_9, c1_10, c1_11]; done) | (simp [rf_count, if_neg c1_0, if_pos c1_0, if_neg c1_1, if_pos c1_1, if_neg c1_2, if_pos c1_2, if_neg c1_3, if_pos c1_3, if_neg c1_4, if_pos c1_4, if_neg c1_5, if_pos c1_5, if_neg c1_6, if_pos c1_6, if_neg c1_7, if_pos c1_7, if_neg c1_8, if_pos c1_8, if_neg c1_9, if_pos c1_9, if_neg c1_10, if_pos c1_10, if_pos c1_11, if_neg (not_not_intro c1_11)]; done) | contradiction | rfl)
  by_cases c1_12 : a = 12
  · skip
    refine ka_tsIn (tgt := 114) hC dX7_count_1 (by rw [c1_12]; decide) (by rw [c1_12]; decide) (by rw [c1_12]; rfl) (by decide) ?_
    refine ka_aload_n hC dX7_count_114 rfl ?_
    refine ka_callV hC (m_X7_due hG hM.n) (ka_Rc_model ) rfl ka_q_ml_X7_169 ka_q_im_X7_due ka_q_se_X7_due ka_q_in_X7 ka_q_co_X7_due ky_X7_due (by decide) (by decide) (Nat.le_of_ble_eq_true rfl) rfl dX7_count_115 ?_
    exact ka_iret hC hR dX7_count_118 (by first | with_reducible rfl | (simp only [rf_count, c1_0, c1_1, c1_2, c1_3, c1_4, c1_5, c1_6, c1_7, c1_8, c1_9, c1_10, c1_11, c1_12]; done) | (simp only [rf_count, if_neg c1_0, if_pos c1_0, if_neg c1_1, if_pos c1_1, if_neg c1_2, if_pos c1_2, if_neg c1_3, if_pos c1_3, if_neg c1_4, if_pos c1_4, if_neg c1_5, if_pos c1_5, if_neg c1_6, if_pos c1_6, if_neg c1_7, if_pos c1_7, if_neg c1_8, if_pos c1_8, if_neg c1_9, if_pos c1_9, if_neg c1_10, if_pos c1_10, if_neg c1_11, if_pos c1_11, if_pos c1_12, if_neg (not_not_intro c1_12)]; done) | (simp [rf_count, c1_0, c1_1, c1_2, c1_3, c1_4, c1_5, c1_6, c1_7, c1_8, c1_9, c1_10, c1_11, c1_12]; done) | (simp [rf_count, if_neg c1_0, if_pos c1_0, if_neg c1_1, if_pos c1_1, if_neg c1_2, if_pos c1_2, if_neg c1_3, if_pos c1_3, if_neg c1_4, if_pos c1_4, if_neg c1_5, if_pos c1_5, if_neg c1_6, if_pos c1_6, if_neg c1_7, if_pos c1_7, if_neg c1_8, if_pos c1_8, if_neg c1_9, if_pos c1_9, if_neg c1_10, if_pos c1_10, if_neg c1_11, if_pos c1_11, if_pos c1_12, if_neg (not_not_intro c1_12)]; done) | contradiction | rfl) (by first | with_reducible rfl | (simp only [rf_count, c1_0, c1_1, c1_2, c1_3, c1_4, c1_5, c1_6, c1_7, c1_8, c1_9, c1_10, c1_11, c1_12]; done) | (simp only [rf_count, if_neg c1_0, if_pos c1_0, if_neg c1_1, if_pos c1_1, if_neg c1_2, if_pos c1_2, if_neg c1_3, if_pos c1_3, if_neg c1_4, if_pos c1_4, if_neg c1_5, if_pos c1_5, if_neg c1_6, if_pos c1_6, if_neg c1_7, if_pos c1_7, if_neg c1_8, if_pos c1_8, if_neg c1_9, if_pos c1_9, if_neg c1_10, if_pos c1_10, if_neg c1_11, if_pos c1_11, if_pos c1_12, if_neg (not_not_intro c1_12)]; done) | (simp [rf_count, c1_0, c1_1, c1_2, c1_3, c1_4, c1_5, c1_6, c1_7, c1_8, c1_9, c1_10, c1_11, c1_12]; done) | (simp [rf_count, if_neg c1_0, if_pos c1_0, if_neg c1_1, if_pos c1_1, if_neg c1_2, if_pos c1_2, if_neg c1_3, if_pos c1_3, if_neg c1_4, if_pos c1_4, if_neg c1_5, if_pos c1_5, if_neg c1_6, if_pos c1_6, if_neg c1_7, if_pos c1_7, if_neg c1_8, if_pos c1_8, if_neg c1_9, if_pos c1_9, if_neg c1_10, if_pos c1_10, if_neg c1_11, if_pos c1_11, if_pos c1_12, if_neg (not_not_intro c1_12)]; done) | contradiction | rfl)
  by_cases c1_13 : a = 13
  · skip
    refine ka_tsIn (tgt := 119) hC dX7_count_1 (by rw [c1_13]; decide) (by rw [c1_13]; decide) (by rw [c1_13]; rfl) (by decide) ?_
    refine ka_aload_n hC dX7_count_119 rfl ?_
    refine kmg_X7_32  hC dX7_count_120 ?_
    exact ka_iret hC hR dX7_count_123 (by first | with_reducible rfl | (simp only [rf_count, c1_0, c1_1, c1_2, c1_3, c1_4, c1_5, c1_6, c1_7, c1_8, c1_9, c1_10, c1_11, c1_12, c1_13]; done) | (simp only [rf_count, if_neg c1_0, if_pos c1_0, if_neg c1_1, if_pos c1_1, if_neg c1_2, if_pos c1_2, if_neg c1_3, if_pos c1_3, if_neg c1_4, if_pos c1_4, if_neg c1_5, if_pos c1_5, if_neg c1_6, if_pos c1_6, if_neg c1_7, if_pos c1_7, if_neg c1_8, if_pos c1_8, if_neg c1_9, if_pos c1_9, if_neg c1_10, if_pos c1_10, if_neg c1_11, if_pos c1_11, if_neg c1_12, if_pos c1_12, if_pos c1_13, if_neg (not_not_intro c1_13)]; done) | (simp [rf_count, c1_0, c1_1, c1_2, c1_3, c1_4, c1_5, c1_6, c1_7, c1_8, c1_9, c1_10, c1_11, c1_12, c1_13]; done) | (simp [rf_count, if_neg c1_0, if_pos c1_0, if_neg c1_1, if_pos c1_1, if_neg c1_2, if_pos c1_2, if_neg c1_3, if_pos c1_3, if_neg c1_4, if_pos c1_4, if_neg c1_5, if_pos c1_5, if_neg c1_6, if_pos c1_6, if_neg c1_7, if_pos c1_7, if_neg c1_8, if_pos c1_8, if_neg c1_9, if_pos c1_9, if_neg c1_10, if_pos c1_10, if_neg c1_11, if_pos c1_11, if_neg c1_12, if_pos c1_12, if_pos c1_13, if_neg (not_not_intro c1_13)]; done) | contradiction | rfl) (by first | with_reducible rfl | (simp only [rf_count, c1_0, c1_1, c1_2, c1_3, c1_4, c1_5, c1_6, c1_7, c1_8, c1_9, c1_10, c1_11, c1_12, c1_13]; done) | (simp only [rf_count, if_neg c1_0, if_pos c1_0, if_neg c1_1, if_pos c1_1, if_neg c1_2, if_pos c1_2, if_neg c1_3, if_pos c1_3, if_neg c1_4, if_pos c1_4, if_neg c1_5, if_pos c1_5, if_neg c1_6, if_pos c1_6, if_neg c1_7, if_pos c1_7, if_neg c1_8, if_pos c1_8, if_neg c1_9, if_pos c1_9, if_neg c1_10, if_pos c1_10, if_neg c1_11, if_pos c1_11, if_neg c1_12, if_pos c1_12, if_pos c1_13, if_neg (not_not_intro c1_13)]; done) | (simp [rf_count, c1_0, c1_1, c1_2, c1_3, c1_4, c1_5, c1_6, c1_7, c1_8, c1_9, c1_10, c1_11, c1_12, c1_13]; done) | (simp [rf_count, if_neg c1_0, if_pos c1_0, if_neg c1_1, if_pos c1_1, if_neg c1_2, if_pos c1_2, if_neg c1_3, if_pos c1_3, if_neg c1_4, if_pos c1_4, if_neg c1_5, if_pos c1_5, if_neg c1_6, if_pos c1_6, if_neg c1_7, if_pos c1_7, if_neg c1_8, if_pos c1_8, if_neg c1_9, if_pos c1_9, if_neg c1_10, if_pos c1_10, if_neg c1_11, if_pos c1_11, if_neg c1_12, if_pos c1_12, if_pos c1_13, if_neg (not_not_intro c1_13)]; done) | contradiction | rfl)
  by_cases c1_14 : a = 14
  · skip
    refine ka_tsIn (tgt := 124) hC dX7_count_1 (by rw [c1_14]; decide) (by rw [c1_14]; decide) (by rw [c1_14]; rfl) (by decide) ?_
    refine ka_aload_n hC dX7_count_124 rfl ?_
    refine kmg_X7_172  hC dX7_count_125 ?_
    exact ka_iret hC hR dX7_count_128 (by first | with_reducible rfl | (simp only [rf_count, c1_0, c1_1, c1_2, c1_3, c1_4, c1_5, c1_6, c1_7, c1_8, c1_9, c1_10, c1_11, c1_12, c1_13, c1_14]; done) | (simp only [rf_count, if_neg c1_0, if_pos c1_0, if_neg c1_1, if_pos c1_1, if_neg c1_2, if_pos c1_2, if_neg c1_3, if_pos c1_3, if_neg c1_4, if_pos c1_4, if_neg c1_5, if_pos c1_5, if_neg c1_6, if_pos c1_6, if_neg c1_7, if_pos c1_7, if_neg c1_8, if_pos c1_8, if_neg c1_9, if_pos c1_9, if_neg c1_10, if_pos c1_10, if_neg c1_11, if_pos c1_11, if_neg c1_12, if_pos c1_12, if_neg c1_13, if_pos c1_13, if_pos c1_14, if_neg (not_not_intro c1_14)]; done) | (simp [rf_count, c1_0, c1_1, c1_2, c1_3, c1_4, c1_5, c1_6, c1_7, c1_8, c1_9, c1_10, c1_11, c1_12, c1_13, c1_14]; done) | (simp [rf_count, if_neg c1_0, if_pos c1_0, if_neg c1_1, if_pos c1_1, if_neg c1_2, if_pos c1_2, if_neg c1_3, if_pos c1_3, if_neg c1_4, if_pos c1_4, if_neg c1_5, if_pos c1_5, if_neg c1_6, if_pos c1_6, if_neg c1_7, if_pos c1_7, if_neg c1_8, if_pos c1_8, if_neg c1_9, if_pos c1_9, if_neg c1_10, if_pos c1_10, if_neg c1_11, if_pos c1_11, if_neg c1_12, if_pos c1_12, if_neg c1_13, if_pos c1_13, if_pos c1_14, if_neg (not_not_intro c1_14)]; done) | contradiction | rfl) (by first | with_reducible rfl | (simp only [rf_count, c1_0, c1_1, c1_2, c1_3, c1_4, c1_5, c1_6, c1_7, c1_8, c1_9, c1_10, c1_11, c1_12, c1_13, c1_14]; done) | (simp only [rf_count, if_neg c1_0, if_pos c1_0, if_neg c1_1, if_pos c1_1, if_neg c1_2, if_pos c1_2, if_neg c1_3, if_pos c1_3, if_neg c1_4, if_pos c1_4, if_neg c1_5, if_pos c1_5, if_neg c1_6, if_pos c1_6, if_neg c1_7, if_pos c1_7, if_neg c1_8, if_pos c1_8, if_neg c1_9, if_pos c1_9, if_neg c1_10, if_pos c1_10, if_neg c1_11, if_pos c1_11, if_neg c1_12, if_pos c1_12, if_neg c1_13, if_pos c1_13, if_pos c1_14, if_neg (not_not_intro c1_14)]; done) | (simp [rf_count, c1_0, c1_1, c1_2, c1_3, c1_4, c1_5, c1_6, c1_7, c1_8, c1_9, c1_10, c1_11, c1_12, c1_13, c1_14]; done) | (simp [rf_count, if_neg c1_0, if_pos c1_0, if_neg c1_1, if_pos c1_1, if_neg c1_2, if_pos c1_2, if_neg c1_3, if_pos c1_3, if_neg c1_4, if_pos c1_4, if_neg c1_5, if_pos c1_5, if_neg c1_6, if_pos c1_6, if_neg c1_7, if_pos c1_7, if_neg c1_8, if_pos c1_8, if_neg c1_9, if_pos c1_9, if_neg c1_10, if_pos c1_10, if_neg c1_11, if_pos c1_11, if_neg c1_12, if_pos c1_12, if_neg c1_13, if_pos c1_13, if_pos c1_14, if_neg (not_not_intro c1_14)]; done) | contradiction | rfl)
  refine ka_tsOut (tgt := 129) hC dX7_count_1 (by
      have t1_0 : ¬ (a).toInt = 0 := fun e => c1_0 (Int32.toInt_inj.mp (e.trans (by decide)))
      have t1_1 : ¬ (a).toInt = 1 := fun e => c1_1 (Int32.toInt_inj.mp (e.trans (by decide)))
      have t1_2 : ¬ (a).toInt = 2 := fun e => c1_2 (Int32.toInt_inj.mp (e.trans (by decide)))
      have t1_3 : ¬ (a).toInt = 3 := fun e => c1_3 (Int32.toInt_inj.mp (e.trans (by decide)))
      have t1_4 : ¬ (a).toInt = 4 := fun e => c1_4 (Int32.toInt_inj.mp (e.trans (by decide)))
      have t1_5 : ¬ (a).toInt = 5 := fun e => c1_5 (Int32.toInt_inj.mp (e.trans (by decide)))
      have t1_6 : ¬ (a).toInt = 6 := fun e => c1_6 (Int32.toInt_inj.mp (e.trans (by decide)))
      have t1_7 : ¬ (a).toInt = 7 := fun e => c1_7 (Int32.toInt_inj.mp (e.trans (by decide)))
      have t1_8 : ¬ (a).toInt = 8 := fun e => c1_8 (Int32.toInt_inj.mp (e.trans (by decide)))
      have t1_9 : ¬ (a).toInt = 9 := fun e => c1_9 (Int32.toInt_inj.mp (e.trans (by decide)))
      have t1_10 : ¬ (a).toInt = 10 := fun e => c1_10 (Int32.toInt_inj.mp (e.trans (by decide)))
      have t1_11 : ¬ (a).toInt = 11 := fun e => c1_11 (Int32.toInt_inj.mp (e.trans (by decide)))
      have t1_12 : ¬ (a).toInt = 12 := fun e => c1_12 (Int32.toInt_inj.mp (e.trans (by decide)))
      have t1_13 : ¬ (a).toInt = 13 := fun e => c1_13 (Int32.toInt_inj.mp (e.trans (by decide)))
      have t1_14 : ¬ (a).toInt = 14 := fun e => c1_14 (Int32.toInt_inj.mp (e.trans (by decide)))
      omega) (by decide) ?_
  refine ka_iload_n hC dX7_count_129 rfl ?_
  refine ka_bipush (v := 20) hC dX7_count_130 rfl ?_
  refine ka_bipush (v := 26) hC dX7_count_132 rfl ?_
  refine ka_callS hC (m_X7_in hG) ka_q_ml_X7_36 ka_q_st_X7_in ka_q_in_X7 ka_q_co_X7_in ky_X7_in (by decide) (by decide) (Nat.le_of_ble_eq_true rfl) rfl dX7_count_134 ?_
  refine ka_if_eq_b (tgt := 155) hC dX7_count_137 (by decide) (fun c137 => ?_) (fun c137 => ?_)
  · skip
    refine ka_ldc hC ka_q_cn_X7_28 dX7_count_155 ?_
    exact ka_iret hC hR dX7_count_157 (by first | with_reducible rfl | (simp only [rf_count, c1_0, c1_1, c1_2, c1_3, c1_4, c1_5, c1_6, c1_7, c1_8, c1_9, c1_10, c1_11, c1_12, c1_13, c1_14, c137]; done) | (simp only [rf_count, if_neg c1_0, if_pos c1_0, if_neg c1_1, if_pos c1_1, if_neg c1_2, if_pos c1_2, if_neg c1_3, if_pos c1_3, if_neg c1_4, if_pos c1_4, if_neg c1_5, if_pos c1_5, if_neg c1_6, if_pos c1_6, if_neg c1_7, if_pos c1_7, if_neg c1_8, if_pos c1_8, if_neg c1_9, if_pos c1_9, if_neg c1_10, if_pos c1_10, if_neg c1_11, if_pos c1_11, if_neg c1_12, if_pos c1_12, if_neg c1_13, if_pos c1_13, if_neg c1_14, if_pos c1_14, c137]; done) | (simp [rf_count, c1_0, c1_1, c1_2, c1_3, c1_4, c1_5, c1_6, c1_7, c1_8, c1_9, c1_10, c1_11, c1_12, c1_13, c1_14, c137]; done) | (simp [rf_count, if_neg c1_0, if_pos c1_0, if_neg c1_1, if_pos c1_1, if_neg c1_2, if_pos c1_2, if_neg c1_3, if_pos c1_3, if_neg c1_4, if_pos c1_4, if_neg c1_5, if_pos c1_5, if_neg c1_6, if_pos c1_6, if_neg c1_7, if_pos c1_7, if_neg c1_8, if_pos c1_8, if_neg c1_9, if_pos c1_9, if_neg c1_10, if_pos c1_10, if_neg c1_11, if_pos c1_11, if_neg c1_12, if_pos c1_12, if_neg c1_13, if_pos c1_13, if_neg c1_14, if_pos c1_14, c137]; done) | contradiction | rfl) (by first | with_reducible rfl | (simp only [rf_count, c1_0, c1_1, c1_2, c1_3, c1_4, c1_5, c1_6, c1_7, c1_8, c1_9, c1_10, c1_11, c1_12, c1_13, c1_14, c137]; done) | (simp only [rf_count, if_neg c1_0, if_pos c1_0, if_neg c1_1, if_pos c1_1, if_neg c1_2, if_pos c1_2, if_neg c1_3, if_pos c1_3, if_neg c1_4, if_pos c1_4, if_neg c1_5, if_pos c1_5, if_neg c1_6, if_pos c1_6, if_neg c1_7, if_pos c1_7, if_neg c1_8, if_pos c1_8, if_neg c1_9, if_pos c1_9, if_neg c1_10, if_pos c1_10, if_neg c1_11, if_pos c1_11, if_neg c1_12, if_pos c1_12, if_neg c1_13, if_pos c1_13, if_neg c1_14, if_pos c1_14, c137]; done) | (simp [rf_count, c1_0, c1_1, c1_2, c1_3, c1_4, c1_5, c1_6, c1_7, c1_8, c1_9, c1_10, c1_11, c1_12, c1_13, c1_14, c137]; done) | (simp [rf_count, if_neg c1_0, if_pos c1_0, if_neg c1_1, if_pos c1_1, if_neg c1_2, if_pos c1_2, if_neg c1_3, if_pos c1_3, if_neg c1_4, if_pos c1_4, if_neg c1_5, if_pos c1_5, if_neg c1_6, if_pos c1_6, if_neg c1_7, if_pos c1_7, if_neg c1_8, if_pos c1_8, if_neg c1_9, if_pos c1_9, if_neg c1_10, if_pos c1_10, if_neg c1_11, if_pos c1_11, if_neg c1_12, if_pos c1_12, if_neg c1_13, if_pos c1_13, if_neg c1_14, if_pos c1_14, c137]; done) | contradiction | rfl)
  · skip
    refine ka_aload_n hC dX7_count_140 rfl ?_
    refine kg_X7_7  hC dX7_count_141 ?_
    refine ka_bipush (v := 7) hC dX7_count_144 rfl ?_
    refine ka_iload_n hC dX7_count_146 rfl ?_
    refine ka_iadd hC dX7_count_147 ?_
    refine ka_bipush (v := 20) hC dX7_count_148 rfl ?_
    refine ka_isub hC dX7_count_150 ?_
    refine km_ld (cn (7 + a - 20)) (rf_c20 c137).1 (rf_c20 c137).2 hC dX7_count_151 ?_
    refine ka_goto (tgt := 157) hC dX7_count_152 (by decide) ?_
    exact ka_iret hC hR dX7_count_157 (by first | with_reducible rfl | (simp only [rf_count, c1_0, c1_1, c1_2, c1_3, c1_4, c1_5, c1_6, c1_7, c1_8, c1_9, c1_10, c1_11, c1_12, c1_13, c1_14, c137]; done) | (simp only [rf_count, if_neg c1_0, if_pos c1_0, if_neg c1_1, if_pos c1_1, if_neg c1_2, if_pos c1_2, if_neg c1_3, if_pos c1_3, if_neg c1_4, if_pos c1_4, if_neg c1_5, if_pos c1_5, if_neg c1_6, if_pos c1_6, if_neg c1_7, if_pos c1_7, if_neg c1_8, if_pos c1_8, if_neg c1_9, if_pos c1_9, if_neg c1_10, if_pos c1_10, if_neg c1_11, if_pos c1_11, if_neg c1_12, if_pos c1_12, if_neg c1_13, if_pos c1_13, if_neg c1_14, if_pos c1_14, c137]; done) | (simp [rf_count, c1_0, c1_1, c1_2, c1_3, c1_4, c1_5, c1_6, c1_7, c1_8, c1_9, c1_10, c1_11, c1_12, c1_13, c1_14, c137]; done) | (simp [rf_count, if_neg c1_0, if_pos c1_0, if_neg c1_1, if_pos c1_1, if_neg c1_2, if_pos c1_2, if_neg c1_3, if_pos c1_3, if_neg c1_4, if_pos c1_4, if_neg c1_5, if_pos c1_5, if_neg c1_6, if_pos c1_6, if_neg c1_7, if_pos c1_7, if_neg c1_8, if_pos c1_8, if_neg c1_9, if_pos c1_9, if_neg c1_10, if_pos c1_10, if_neg c1_11, if_pos c1_11, if_neg c1_12, if_pos c1_12, if_neg c1_13, if_pos c1_13, if_neg c1_14, if_pos c1_14, c137]; done) | contradiction | rfl) (by first | with_reducible rfl | (simp only [rf_count, c1_0, c1_1, c1_2, c1_3, c1_4, c1_5, c1_6, c1_7, c1_8, c1_9, c1_10, c1_11, c1_12, c1_13, c1_14, c137]; done) | (simp only [rf_count, if_neg c1_0, if_pos c1_0, if_neg c1_1, if_pos c1_1, if_neg c1_2, if_pos c1_2, if_neg c1_3, if_pos c1_3, if_neg c1_4, if_pos c1_4, if_neg c1_5, if_pos c1_5, if_neg c1_6, if_pos c1_6, if_neg c1_7, if_pos c1_7, if_neg c1_8, if_pos c1_8, if_neg c1_9, if_pos c1_9, if_neg c1_10, if_pos c1_10, if_neg c1_11, if_pos c1_11, if_neg c1_12, if_pos c1_12, if_neg c1_13, if_pos c1_13, if_neg c1_14, if_pos c1_14, c137]; done) | (simp [rf_count, c1_0, c1_1, c1_2, c1_3, c1_4, c1_5, c1_6, c1_7, c1_8, c1_9, c1_10, c1_11, c1_12, c1_13, c1_14, c137]; done) | (simp [rf_count, if_neg c1_0, if_pos c1_0, if_neg c1_1, if_pos c1_1, if_neg c1_2, if_pos c1_2, if_neg c1_3, if_pos c1_3, if_neg c1_4, if_pos c1_4, if_neg c1_5, if_pos c1_5, if_neg c1_6, if_pos c1_6, if_neg c1_7, if_pos c1_7, if_neg c1_8, if_pos c1_8, if_neg c1_9, if_pos c1_9, if_neg c1_10, if_pos c1_10, if_neg c1_11, if_pos c1_11, if_neg c1_12, if_pos c1_12, if_neg c1_13, if_pos c1_13, if_neg c1_14, if_pos c1_14, c137]; done) | contradiction | rfl)
theorem ky_X7_undo : ka_y yX7_undo 0 := by unfold ka_y; decide +kernel
set_option maxHeartbeats 4000000 in
set_option maxRecDepth 100000 in
theorem m_X7_undo {G : ka_G} (hG : ka_AD G) {V : ka_W} {M : ka_P} {S : ka_F} (ht : ub 4 (M 0 4))  : ka_M G yX7_undo cX7_undo 2 (some FieldType.int) 0 [.ref (ka_ad G 9 0)] (ka_ms V M S) (some (.int ((rf_undo V M S).1))) ((rf_undo V M S).2) := by
  refine ka_entry hG ka_pn_X7 (ka_cat1 rfl) (Nat.le_of_ble_eq_true rfl) (fun X hC hR => ?_)
  refine ka_aload_n hC dX7_undo_0 rfl ?_
  refine kmg_X7_32  hC dX7_undo_1 ?_
  refine ka_if_ne (tgt := 10) hC dX7_undo_4 (by decide) (fun c4 => ?_) (fun c4 => ?_)
  · skip
    refine ka_aload_n hC dX7_undo_10 rfl ?_
    refine ka_dup hC dX7_undo_11 rfl ?_
    refine kmg_X7_32  hC dX7_undo_12 ?_
    refine ka_iconst (v := 1) hC dX7_undo_15 rfl ?_
    refine ka_isub hC dX7_undo_16 ?_
    refine kmp_X7_32  hC dX7_undo_17 ?_
    refine ka_I.eqW (V' := ka_ms V (rf_less M) S) rfl ?_
    have ht3 := rf_less_t ht c4
    refine ka_iconst (v := 0) hC dX7_undo_20 rfl ?_
    refine ka_istore_n_p1 hC dX7_undo_21 (by decide) ?_
    suffices H22 : ∀ jj i : Nat, i ≤ 269 → 269 - i < jj → ka_I G X (ka_ms V (rf_less M) (rf_back (rf_less M) S i)) 22 [.ref (ka_ad G 9 0), .int (nI i)] [] from ka_I.back 2 (by unfold rf_back; rw [cpF_0]) (by rfl) (H22 (269 + 1) 0 (by omega) (by omega))
    intro j22
    induction j22 with
    | zero => intro i h1 h2 ; exact absurd h2 (Nat.not_lt_zero _)
    | succ j22 ih22 =>
      intro i hle22 hlt22 
      refine ka_iload_n hC dX7_undo_22 rfl ?_
      refine ka_sipush (v := 269) hC dX7_undo_23 rfl ?_
      refine ka_icmp_ge (tgt := 56) hC dX7_undo_26 (by decide) (fun c26 => ?_) (fun c26 => ?_)
      · skip
        obtain rfl : i = 269 := nlt_nI (by decide) hle22 c26
        refine ka_aload_n hC dX7_undo_56 rfl ?_
        refine kmg_X7_32  hC dX7_undo_57 ?_
        exact ka_iret hC hR dX7_undo_60 (by unfold rf_undo; rw [if_neg c4]) (by unfold rf_undo; rw [if_neg c4])
      · skip
        have hi : i < 269 := lt_nI (by decide) hle22 c26
        refine ka_aload_n hC dX7_undo_29 rfl ?_
        refine kg_X7_7  hC dX7_undo_30 ?_
        refine ka_iload_n hC dX7_undo_33 rfl ?_
        refine ka_aload_n hC dX7_undo_34 rfl ?_
        refine kg_X7_19  hC dX7_undo_35 ?_
        refine ka_sipush (v := 269) hC dX7_undo_38 rfl ?_
        refine ka_aload_n hC dX7_undo_41 rfl ?_
        refine kmg_X7_32  hC dX7_undo_42 ?_
        refine ka_imul hC dX7_undo_45 ?_
        refine ka_iload_n hC dX7_undo_46 rfl ?_
        refine ka_iadd hC dX7_undo_47 ?_
        refine kmi_mpast (269 * cn (rf_less M 0 4) + i) (by have := ht3.2; omega) (ix_b _ _ ht3.1 rfl) hC dX7_undo_48 ?_
        refine km_st i (Nat.lt_of_lt_of_le hi (by decide)) rfl hC dX7_undo_49 ?_
        refine ka_iinc_1 (v := 1) hC dX7_undo_50 rfl (by decide) ?_
        refine ka_goto (tgt := 22) hC dX7_undo_53 (by decide) ?_
        exact ka_I.back 2 (by unfold rf_back; rw [← cpF_s]) (by rw [← nI_1]; rfl) (ih22 (i + 1) (by omega) (by omega))
  · skip
    refine ka_ldc hC ka_q_cn_X7_93 dX7_undo_7 ?_
    exact ka_iret hC hR dX7_undo_9 (by first | with_reducible rfl | (simp only [rf_undo, c4]; done) | (simp only [rf_undo, if_pos c4, if_neg (not_not_intro c4)]; done) | (simp [rf_undo, c4]; done) | (simp [rf_undo, if_pos c4, if_neg (not_not_intro c4)]; done) | contradiction | rfl) (by first | with_reducible rfl | (simp only [rf_undo, c4]; done) | (simp only [rf_undo, if_pos c4, if_neg (not_not_intro c4)]; done) | (simp [rf_undo, c4]; done) | (simp [rf_undo, if_pos c4, if_neg (not_not_intro c4)]; done) | contradiction | rfl)
