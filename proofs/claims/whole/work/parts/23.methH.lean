theorem ky_X7_type : ka_y yX7_type 1 := by unfold ka_y; decide +kernel
set_option maxHeartbeats 4000000 in
set_option maxRecDepth 100000 in
theorem m_X7_type {G : ka_G} (hG : ka_AD G) {V : ka_W} {M : ka_P} {S : ka_F} (hl : ub 60 (M 0 6)) {x : Int32}  : ka_M G yX7_type cX7_type 2 (some FieldType.int) 1 [.ref (ka_ad G 9 0), .int x] (ka_ms V M S) (some (.int ((rt_type M x).1))) (ka_ms V (rt_type M x).2 S) := by
  refine ka_entry hG ka_pn_X7 (ka_cat1 rfl) (Nat.le_of_ble_eq_true rfl) (fun X hC hR => ?_)
  refine ka_iload_n hC dX7_type_0 rfl ?_
  refine ka_bipush (v := 32) hC dX7_type_1 rfl ?_
  refine ka_bipush (v := 126) hC dX7_type_3 rfl ?_
  refine ka_callS hC (m_X7_in hG) ka_q_ml_X7_36 ka_q_st_X7_in ka_q_in_X7 ka_q_co_X7_in ky_X7_in (by decide) (by decide) (Nat.le_of_ble_eq_true rfl) rfl dX7_type_5 ?_
  refine ka_if_ne_b (tgt := 14) hC dX7_type_8 (by decide) (fun c8 => ?_) (fun c8 => ?_)
  · skip
    refine ka_aload_n hC dX7_type_14 rfl ?_
    refine kmg_X7_172  hC dX7_type_15 ?_
    refine ka_bipush (v := 60) hC dX7_type_18 rfl ?_
    refine ka_icmp_ne (tgt := 26) hC dX7_type_20 (by decide) (fun c20 => ?_) (fun c20 => ?_)
    · skip
      refine ka_aload_n hC dX7_type_26 rfl ?_
      refine kg_X7_22  hC dX7_type_27 ?_
      refine ka_aload_n hC dX7_type_30 rfl ?_
      refine kmg_X7_172  hC dX7_type_31 ?_
      refine ka_iload_n hC dX7_type_34 rfl ?_
      refine kms_mtext (cn (M 0 6)) (ub60 hl c20) hl.1 hC dX7_type_35 ?_
      refine ka_aload_n hC dX7_type_36 rfl ?_
      refine ka_dup hC dX7_type_37 rfl ?_
      refine kmg_X7_172  hC dX7_type_38 ?_
      refine ka_iconst (v := 1) hC dX7_type_41 rfl ?_
      refine ka_iadd hC dX7_type_42 ?_
      refine kmp_X7_172  hC dX7_type_43 ?_
      refine ka_aload_n hC dX7_type_46 rfl ?_
      refine kmg_X7_172  hC dX7_type_47 ?_
      exact ka_iret hC hR dX7_type_50 (by unfold rt_type; rw [if_neg (by rw [c8]; decide), if_neg c20]; rfl) (by unfold rt_type; rw [if_neg (by rw [c8]; decide), if_neg c20]; rfl)
    · skip
      refine ka_ldc hC ka_q_cn_X7_85 dX7_type_23 ?_
      exact ka_iret hC hR dX7_type_25 (by first | with_reducible rfl | (simp only [rt_type, c8, c20]; done) | (simp only [rt_type, c8, if_pos c20, if_neg (not_not_intro c20)]; done) | (simp [rt_type, c8, c20]; done) | (simp [rt_type, c8, if_pos c20, if_neg (not_not_intro c20)]; done) | contradiction | rfl) (by first | with_reducible rfl | (simp only [rt_type, c8, c20]; done) | (simp only [rt_type, c8, if_pos c20, if_neg (not_not_intro c20)]; done) | (simp [rt_type, c8, c20]; done) | (simp [rt_type, c8, if_pos c20, if_neg (not_not_intro c20)]; done) | contradiction | rfl)
  · skip
    refine ka_ldc hC ka_q_cn_X7_28 dX7_type_11 ?_
    exact ka_iret hC hR dX7_type_13 (by first | with_reducible rfl | (simp only [rt_type, c8]; done) | (simp only [rt_type, c8]; done) | (simp [rt_type, c8]; done) | (simp [rt_type, c8]; done) | contradiction | rfl) (by first | with_reducible rfl | (simp only [rt_type, c8]; done) | (simp only [rt_type, c8]; done) | (simp [rt_type, c8]; done) | (simp [rt_type, c8]; done) | contradiction | rfl)
theorem ky_X7_clearText : ka_y yX7_clearText 0 := by unfold ka_y; decide +kernel
set_option maxHeartbeats 4000000 in
set_option maxRecDepth 100000 in
theorem m_X7_clearText {G : ka_G} (hG : ka_AD G) {V : ka_W} {M : ka_P} {S : ka_F}  : ka_M G yX7_clearText cX7_clearText 2 (some FieldType.int) 0 [.ref (ka_ad G 9 0)] (ka_ms V M S) (some (.int (M 0 6))) (ka_ms V (pU M 0 6 0) S) := by
  refine ka_entry hG ka_pn_X7 (ka_cat1 rfl) (Nat.le_of_ble_eq_true rfl) (fun X hC hR => ?_)
  refine ka_aload_n hC dX7_clearText_0 rfl ?_
  refine kmg_X7_172  hC dX7_clearText_1 ?_
  refine ka_istore_n_p1 hC dX7_clearText_4 (by decide) ?_
  refine ka_aload_n hC dX7_clearText_5 rfl ?_
  refine ka_iconst (v := 0) hC dX7_clearText_6 rfl ?_
  refine kmp_X7_172  hC dX7_clearText_7 ?_
  refine ka_iload_n hC dX7_clearText_10 rfl ?_
  exact ka_iret hC hR dX7_clearText_11 (by first | with_reducible rfl | (simp only []; done) | (simp only []; done) | (simp []; done) | (simp []; done) | contradiction | rfl) (by first | with_reducible rfl | (simp only []; done) | (simp only []; done) | (simp []; done) | (simp []; done) | contradiction | rfl)
theorem ky_X7_here : ka_y yX7_here 0 := by unfold ka_y; decide +kernel
set_option maxHeartbeats 4000000 in
set_option maxRecDepth 100000 in
theorem m_X7_here {G : ka_G} (hG : ka_AD G) {V : ka_W} {M : ka_P} {S : ka_F} (hT : TK M)  : ka_M G yX7_here cX7_here 1 (some FieldType.int) 0 [.ref (ka_ad G 9 0)] (ka_ms V M S) (some (.int (rt_here M))) (ka_ms V M S) := by
  refine ka_entry hG ka_pn_X7 (ka_cat1 rfl) (Nat.le_of_ble_eq_true rfl) (fun X hC hR => ?_)
  refine ka_aload_n hC dX7_here_0 rfl ?_
  refine kmg_X7_175  hC dX7_here_1 ?_
  refine ka_aload_n hC dX7_here_4 rfl ?_
  refine kmg_X7_172  hC dX7_here_5 ?_
  refine ka_icmp_ge (tgt := 23) hC dX7_here_8 (by decide) (fun c8 => ?_) (fun c8 => ?_)
  · skip
    refine ka_iconst (v := (-1)) hC dX7_here_23 rfl ?_
    exact ka_iret hC hR dX7_here_24 (by first | with_reducible rfl | (simp only [rt_here, c8]; done) | (simp only [rt_here, if_neg c8, if_pos c8]; done) | (simp [rt_here, c8]; done) | (simp [rt_here, if_neg c8, if_pos c8]; done) | contradiction | rfl) (by first | with_reducible rfl | (simp only [rt_here, c8]; done) | (simp only [rt_here, if_neg c8, if_pos c8]; done) | (simp [rt_here, c8]; done) | (simp [rt_here, if_neg c8, if_pos c8]; done) | contradiction | rfl)
  · skip
    refine ka_aload_n hC dX7_here_11 rfl ?_
    refine kg_X7_22  hC dX7_here_12 ?_
    refine ka_aload_n hC dX7_here_15 rfl ?_
    refine kmg_X7_175  hC dX7_here_16 ?_
    refine kmi_mtext (cn (M 0 7)) (hT.at60 c8) hT.2.1 hC dX7_here_19 ?_
    refine ka_goto (tgt := 24) hC dX7_here_20 (by decide) ?_
    exact ka_iret hC hR dX7_here_24 (by first | with_reducible rfl | (simp only [rt_here, c8]; done) | (simp only [rt_here, if_pos c8, if_neg (not_not_intro c8)]; done) | (simp [rt_here, c8]; done) | (simp [rt_here, if_pos c8, if_neg (not_not_intro c8)]; done) | contradiction | rfl) (by first | with_reducible rfl | (simp only [rt_here, c8]; done) | (simp only [rt_here, if_pos c8, if_neg (not_not_intro c8)]; done) | (simp [rt_here, c8]; done) | (simp [rt_here, if_pos c8, if_neg (not_not_intro c8)]; done) | contradiction | rfl)
theorem ky_X7_isDigit : ka_y yX7_isDigit 0 := by unfold ka_y; decide +kernel
set_option maxHeartbeats 4000000 in
set_option maxRecDepth 100000 in
theorem m_X7_isDigit {G : ka_G} (hG : ka_AD G) {V : ka_W} {M : ka_P} {S : ka_F} (hT : TK M)  : ka_M G yX7_isDigit cX7_isDigit 1 (some FieldType.boolean) 1 [.ref (ka_ad G 9 0)] (ka_ms V M S) (some (.int (ka_b (kw (rt_here M) 48 57)))) (ka_ms V M S) := by
  refine ka_entry hG ka_pn_X7 (ka_cat1 rfl) (Nat.le_of_ble_eq_true rfl) (fun X hC hR => ?_)
  refine ka_aload_n hC dX7_isDigit_0 rfl ?_
  refine ka_callV hC (m_X7_here hG (by first | assumption | decide | exact wgIx_lt _ | exact plIx_lt _ | exact sp_recQ_lt | omega)) (ka_Rc_model ) rfl ka_q_ml_X7_178 ka_q_im_X7_here ka_q_se_X7_here ka_q_in_X7 ka_q_co_X7_here ky_X7_here (by decide) (by decide) (Nat.le_of_ble_eq_true rfl) rfl dX7_isDigit_1 ?_
  refine ka_bipush (v := 48) hC dX7_isDigit_4 rfl ?_
  refine ka_bipush (v := 57) hC dX7_isDigit_6 rfl ?_
  refine ka_callS hC (m_X7_in hG) ka_q_ml_X7_36 ka_q_st_X7_in ka_q_in_X7 ka_q_co_X7_in ky_X7_in (by decide) (by decide) (Nat.le_of_ble_eq_true rfl) rfl dX7_isDigit_8 ?_
  exact ka_bret hC hR dX7_isDigit_11 (by first | with_reducible rfl | (simp only []; done) | (simp only []; done) | (simp []; done) | (simp []; done) | contradiction | rfl) rfl (by first | with_reducible rfl | (simp only []; done) | (simp only []; done) | (simp []; done) | (simp []; done) | contradiction | rfl)
theorem ky_X7_takesSign : ka_y yX7_takesSign 1 := by unfold ka_y; decide +kernel
set_option maxHeartbeats 4000000 in
set_option maxRecDepth 100000 in
theorem m_X7_takesSign {G : ka_G} (hG : ka_AD G) {V : ka_W} {M : ka_P} {S : ka_F} (hT : TK M) {s : Int32}  : ka_M G yX7_takesSign cX7_takesSign 2 none 1 [.ref (ka_ad G 9 0), .int s] (ka_ms V M S) none (ka_ms V (rt_sign M s) S) := by
  refine ka_entry hG ka_pn_X7 (ka_cat1 rfl) (Nat.le_of_ble_eq_true rfl) (fun X hC hR => ?_)
  refine ka_aload_n hC dX7_takesSign_0 rfl ?_
  refine ka_aload_n hC dX7_takesSign_1 rfl ?_
  refine kmg_X7_181  hC dX7_takesSign_2 ?_
  refine ka_if_eq_b (tgt := 20) hC dX7_takesSign_5 (by decide) (fun c5 => ?_) (fun c5 => ?_)
  · skip
    refine ka_iconst (v := 0) hC dX7_takesSign_20 rfl ?_
    refine kmp_X7_181  (b := false) rfl hC dX7_takesSign_21 ?_
    refine ka_aload_n hC dX7_takesSign_24 rfl ?_
    refine ka_dup hC dX7_takesSign_25 rfl ?_
    refine kmg_X7_175  hC dX7_takesSign_26 ?_
    refine ka_aload_n hC dX7_takesSign_29 rfl ?_
    refine kmg_X7_181  hC dX7_takesSign_30 ?_
    rw [pU_e, ka_t_b]
    refine ka_if_eq_b (tgt := 40) hC dX7_takesSign_33 (by decide) (fun c33 => ?_) (fun c33 => ?_)
    · skip
      refine ka_iconst (v := 0) hC dX7_takesSign_40 rfl ?_
      refine ka_iadd hC dX7_takesSign_41 ?_
      refine kmp_X7_175  hC dX7_takesSign_42 ?_
      exact ka_vret hC hR dX7_takesSign_45 rfl (by first | with_reducible rfl | (simp only [rt_sign, rt_step, rt_flag, pU_e, ka_t_b, c5, c33]; done) | (simp only [rt_sign, rt_step, rt_flag, pU_e, ka_t_b, c5, c33]; done) | (simp [rt_sign, rt_step, rt_flag, pU_e, ka_t_b, c5, c33]; done) | (simp [rt_sign, rt_step, rt_flag, pU_e, ka_t_b, c5, c33]; done) | contradiction | rfl)
    · skip
      refine ka_iconst (v := 1) hC dX7_takesSign_36 rfl ?_
      refine ka_goto (tgt := 41) hC dX7_takesSign_37 (by decide) ?_
      refine ka_iadd hC dX7_takesSign_41 ?_
      refine kmp_X7_175  hC dX7_takesSign_42 ?_
      exact ka_vret hC hR dX7_takesSign_45 rfl (by first | with_reducible rfl | (simp only [rt_sign, rt_step, rt_flag, pU_e, ka_t_b, c5, c33]; done) | (simp only [rt_sign, rt_step, rt_flag, pU_e, ka_t_b, c5, c33]; done) | (simp [rt_sign, rt_step, rt_flag, pU_e, ka_t_b, c5, c33]; done) | (simp [rt_sign, rt_step, rt_flag, pU_e, ka_t_b, c5, c33]; done) | contradiction | rfl)
  · skip
    refine ka_aload_n hC dX7_takesSign_8 rfl ?_
    refine ka_callV hC (m_X7_here hG (by first | assumption | decide | exact wgIx_lt _ | exact plIx_lt _ | exact sp_recQ_lt | omega)) (ka_Rc_model ) rfl ka_q_ml_X7_178 ka_q_im_X7_here ka_q_se_X7_here ka_q_in_X7 ka_q_co_X7_here ky_X7_here (by decide) (by decide) (Nat.le_of_ble_eq_true rfl) rfl dX7_takesSign_9 ?_
    refine ka_iload_n hC dX7_takesSign_12 rfl ?_
    refine ka_icmp_ne (tgt := 20) hC dX7_takesSign_13 (by decide) (fun c13 => ?_) (fun c13 => ?_)
    · skip
      refine ka_iconst (v := 0) hC dX7_takesSign_20 rfl ?_
      refine kmp_X7_181  (b := false) rfl hC dX7_takesSign_21 ?_
      refine ka_aload_n hC dX7_takesSign_24 rfl ?_
      refine ka_dup hC dX7_takesSign_25 rfl ?_
      refine kmg_X7_175  hC dX7_takesSign_26 ?_
      refine ka_aload_n hC dX7_takesSign_29 rfl ?_
      refine kmg_X7_181  hC dX7_takesSign_30 ?_
      rw [pU_e, ka_t_b]
      refine ka_if_eq_b (tgt := 40) hC dX7_takesSign_33 (by decide) (fun c33 => ?_) (fun c33 => ?_)
      · skip
        refine ka_iconst (v := 0) hC dX7_takesSign_40 rfl ?_
        refine ka_iadd hC dX7_takesSign_41 ?_
        refine kmp_X7_175  hC dX7_takesSign_42 ?_
        exact ka_vret hC hR dX7_takesSign_45 rfl (by first | with_reducible rfl | (simp only [rt_sign, rt_step, rt_flag, pU_e, ka_t_b, c5, c13, c33]; done) | (simp only [rt_sign, rt_step, rt_flag, pU_e, ka_t_b, c5, if_neg c13, if_pos c13, c33]; done) | (simp [rt_sign, rt_step, rt_flag, pU_e, ka_t_b, c5, c13, c33]; done) | (simp [rt_sign, rt_step, rt_flag, pU_e, ka_t_b, c5, if_neg c13, if_pos c13, c33]; done) | contradiction | rfl)
      · skip
        refine ka_iconst (v := 1) hC dX7_takesSign_36 rfl ?_
        refine ka_goto (tgt := 41) hC dX7_takesSign_37 (by decide) ?_
        refine ka_iadd hC dX7_takesSign_41 ?_
        refine kmp_X7_175  hC dX7_takesSign_42 ?_
        exact ka_vret hC hR dX7_takesSign_45 rfl (by first | with_reducible rfl | (simp only [rt_sign, rt_step, rt_flag, pU_e, ka_t_b, c5, c13, c33]; done) | (simp only [rt_sign, rt_step, rt_flag, pU_e, ka_t_b, c5, if_neg c13, if_pos c13, c33]; done) | (simp [rt_sign, rt_step, rt_flag, pU_e, ka_t_b, c5, c13, c33]; done) | (simp [rt_sign, rt_step, rt_flag, pU_e, ka_t_b, c5, if_neg c13, if_pos c13, c33]; done) | contradiction | rfl)
    · skip
      refine ka_iconst (v := 1) hC dX7_takesSign_16 rfl ?_
      refine ka_goto (tgt := 21) hC dX7_takesSign_17 (by decide) ?_
      refine kmp_X7_181  (b := true) rfl hC dX7_takesSign_21 ?_
      refine ka_aload_n hC dX7_takesSign_24 rfl ?_
      refine ka_dup hC dX7_takesSign_25 rfl ?_
      refine kmg_X7_175  hC dX7_takesSign_26 ?_
      refine ka_aload_n hC dX7_takesSign_29 rfl ?_
      refine kmg_X7_181  hC dX7_takesSign_30 ?_
      rw [pU_e, ka_t_b]
      refine ka_if_eq_b (tgt := 40) hC dX7_takesSign_33 (by decide) (fun c33 => ?_) (fun c33 => ?_)
      · skip
        refine ka_iconst (v := 0) hC dX7_takesSign_40 rfl ?_
        refine ka_iadd hC dX7_takesSign_41 ?_
        refine kmp_X7_175  hC dX7_takesSign_42 ?_
        exact ka_vret hC hR dX7_takesSign_45 rfl (by first | with_reducible rfl | (simp only [rt_sign, rt_step, rt_flag, pU_e, ka_t_b, c5, c13, c33]; done) | (simp only [rt_sign, rt_step, rt_flag, pU_e, ka_t_b, c5, if_pos c13, if_neg (not_not_intro c13), c33]; done) | (simp [rt_sign, rt_step, rt_flag, pU_e, ka_t_b, c5, c13, c33]; done) | (simp [rt_sign, rt_step, rt_flag, pU_e, ka_t_b, c5, if_pos c13, if_neg (not_not_intro c13), c33]; done) | contradiction | rfl)
      · skip
        refine ka_iconst (v := 1) hC dX7_takesSign_36 rfl ?_
        refine ka_goto (tgt := 41) hC dX7_takesSign_37 (by decide) ?_
        refine ka_iadd hC dX7_takesSign_41 ?_
        refine kmp_X7_175  hC dX7_takesSign_42 ?_
        exact ka_vret hC hR dX7_takesSign_45 rfl (by first | with_reducible rfl | (simp only [rt_sign, rt_step, rt_flag, pU_e, ka_t_b, c5, c13, c33]; done) | (simp only [rt_sign, rt_step, rt_flag, pU_e, ka_t_b, c5, if_pos c13, if_neg (not_not_intro c13), c33]; done) | (simp [rt_sign, rt_step, rt_flag, pU_e, ka_t_b, c5, c13, c33]; done) | (simp [rt_sign, rt_step, rt_flag, pU_e, ka_t_b, c5, if_pos c13, if_neg (not_not_intro c13), c33]; done) | contradiction | rfl)
theorem ky_X7_manyOf : ka_y yX7_manyOf 1 := by unfold ka_y; decide +kernel
set_option maxHeartbeats 4000000 in
set_option maxRecDepth 100000 in
theorem m_X7_manyOf {G : ka_G} (hG : ka_AD G) {V : ka_W} {s : Int32}  : ka_M G yX7_manyOf cX7_manyOf 1 (some FieldType.int) 0 [.int s] (V) (some (.int (rt_many s))) (V) := by
  refine ka_entry hG ka_pn_X7 (ka_cat1 rfl) (Nat.le_of_ble_eq_true rfl) (fun X hC hR => ?_)
  refine ka_iload_n hC dX7_manyOf_0 rfl ?_
  refine ka_bipush (v := 116) hC dX7_manyOf_1 rfl ?_
  refine ka_icmp_ne (tgt := 10) hC dX7_manyOf_3 (by decide) (fun c3 => ?_) (fun c3 => ?_)
  · skip
    refine ka_iload_n hC dX7_manyOf_10 rfl ?_
    refine ka_bipush (v := 119) hC dX7_manyOf_11 rfl ?_
    refine ka_icmp_eq (tgt := 40) hC dX7_manyOf_13 (by decide) (fun c13 => ?_) (fun c13 => ?_)
    · skip
      refine ka_iconst (v := 1) hC dX7_manyOf_40 rfl ?_
      refine ka_goto (tgt := 45) hC dX7_manyOf_41 (by decide) ?_
      exact ka_iret hC hR dX7_manyOf_45 (by first | with_reducible rfl | (simp only [rt_many, c3, c13]; done) | (simp only [rt_many, if_neg c3, if_pos c3, if_pos c13, if_neg (not_not_intro c13)]; done) | (simp [rt_many, c3, c13]; done) | (simp [rt_many, if_neg c3, if_pos c3, if_pos c13, if_neg (not_not_intro c13)]; done) | contradiction | rfl) (by first | with_reducible rfl | (simp only [rt_many, c3, c13]; done) | (simp only [rt_many, if_neg c3, if_pos c3, if_pos c13, if_neg (not_not_intro c13)]; done) | (simp [rt_many, c3, c13]; done) | (simp [rt_many, if_neg c3, if_pos c3, if_pos c13, if_neg (not_not_intro c13)]; done) | contradiction | rfl)
    · skip
      refine ka_iload_n hC dX7_manyOf_16 rfl ?_
      refine ka_bipush (v := 108) hC dX7_manyOf_17 rfl ?_
      refine ka_icmp_eq (tgt := 40) hC dX7_manyOf_19 (by decide) (fun c19 => ?_) (fun c19 => ?_)
      · skip
        refine ka_iconst (v := 1) hC dX7_manyOf_40 rfl ?_
        refine ka_goto (tgt := 45) hC dX7_manyOf_41 (by decide) ?_
        exact ka_iret hC hR dX7_manyOf_45 (by first | with_reducible rfl | (simp only [rt_many, c3, c13, c19]; done) | (simp only [rt_many, if_neg c3, if_pos c3, if_neg c13, if_pos c13, if_pos c19, if_neg (not_not_intro c19)]; done) | (simp [rt_many, c3, c13, c19]; done) | (simp [rt_many, if_neg c3, if_pos c3, if_neg c13, if_pos c13, if_pos c19, if_neg (not_not_intro c19)]; done) | contradiction | rfl) (by first | with_reducible rfl | (simp only [rt_many, c3, c13, c19]; done) | (simp only [rt_many, if_neg c3, if_pos c3, if_neg c13, if_pos c13, if_pos c19, if_neg (not_not_intro c19)]; done) | (simp [rt_many, c3, c13, c19]; done) | (simp [rt_many, if_neg c3, if_pos c3, if_neg c13, if_pos c13, if_pos c19, if_neg (not_not_intro c19)]; done) | contradiction | rfl)
      · skip
        refine ka_iload_n hC dX7_manyOf_22 rfl ?_
        refine ka_bipush (v := 117) hC dX7_manyOf_23 rfl ?_
        refine ka_icmp_eq (tgt := 40) hC dX7_manyOf_25 (by decide) (fun c25 => ?_) (fun c25 => ?_)
        · skip
          refine ka_iconst (v := 1) hC dX7_manyOf_40 rfl ?_
          refine ka_goto (tgt := 45) hC dX7_manyOf_41 (by decide) ?_
          exact ka_iret hC hR dX7_manyOf_45 (by first | with_reducible rfl | (simp only [rt_many, c3, c13, c19, c25]; done) | (simp only [rt_many, if_neg c3, if_pos c3, if_neg c13, if_pos c13, if_neg c19, if_pos c19, if_pos c25, if_neg (not_not_intro c25)]; done) | (simp [rt_many, c3, c13, c19, c25]; done) | (simp [rt_many, if_neg c3, if_pos c3, if_neg c13, if_pos c13, if_neg c19, if_pos c19, if_pos c25, if_neg (not_not_intro c25)]; done) | contradiction | rfl) (by first | with_reducible rfl | (simp only [rt_many, c3, c13, c19, c25]; done) | (simp only [rt_many, if_neg c3, if_pos c3, if_neg c13, if_pos c13, if_neg c19, if_pos c19, if_pos c25, if_neg (not_not_intro c25)]; done) | (simp [rt_many, c3, c13, c19, c25]; done) | (simp [rt_many, if_neg c3, if_pos c3, if_neg c13, if_pos c13, if_neg c19, if_pos c19, if_pos c25, if_neg (not_not_intro c25)]; done) | contradiction | rfl)
        · skip
          refine ka_iload_n hC dX7_manyOf_28 rfl ?_
          refine ka_bipush (v := 114) hC dX7_manyOf_29 rfl ?_
          refine ka_icmp_eq (tgt := 40) hC dX7_manyOf_31 (by decide) (fun c31 => ?_) (fun c31 => ?_)
          · skip
            refine ka_iconst (v := 1) hC dX7_manyOf_40 rfl ?_
            refine ka_goto (tgt := 45) hC dX7_manyOf_41 (by decide) ?_
            exact ka_iret hC hR dX7_manyOf_45 (by first | with_reducible rfl | (simp only [rt_many, c3, c13, c19, c25, c31]; done) | (simp only [rt_many, if_neg c3, if_pos c3, if_neg c13, if_pos c13, if_neg c19, if_pos c19, if_neg c25, if_pos c25, if_pos c31, if_neg (not_not_intro c31)]; done) | (simp [rt_many, c3, c13, c19, c25, c31]; done) | (simp [rt_many, if_neg c3, if_pos c3, if_neg c13, if_pos c13, if_neg c19, if_pos c19, if_neg c25, if_pos c25, if_pos c31, if_neg (not_not_intro c31)]; done) | contradiction | rfl) (by first | with_reducible rfl | (simp only [rt_many, c3, c13, c19, c25, c31]; done) | (simp only [rt_many, if_neg c3, if_pos c3, if_neg c13, if_pos c13, if_neg c19, if_pos c19, if_neg c25, if_pos c25, if_pos c31, if_neg (not_not_intro c31)]; done) | (simp [rt_many, c3, c13, c19, c25, c31]; done) | (simp [rt_many, if_neg c3, if_pos c3, if_neg c13, if_pos c13, if_neg c19, if_pos c19, if_neg c25, if_pos c25, if_pos c31, if_neg (not_not_intro c31)]; done) | contradiction | rfl)
          · skip
            refine ka_iload_n hC dX7_manyOf_34 rfl ?_
            refine ka_bipush (v := 100) hC dX7_manyOf_35 rfl ?_
            refine ka_icmp_ne (tgt := 44) hC dX7_manyOf_37 (by decide) (fun c37 => ?_) (fun c37 => ?_)
            · skip
              refine ka_iconst (v := 0) hC dX7_manyOf_44 rfl ?_
              exact ka_iret hC hR dX7_manyOf_45 (by first | with_reducible rfl | (simp only [rt_many, c3, c13, c19, c25, c31, c37]; done) | (simp only [rt_many, if_neg c3, if_pos c3, if_neg c13, if_pos c13, if_neg c19, if_pos c19, if_neg c25, if_pos c25, if_neg c31, if_pos c31, if_neg c37, if_pos c37]; done) | (simp [rt_many, c3, c13, c19, c25, c31, c37]; done) | (simp [rt_many, if_neg c3, if_pos c3, if_neg c13, if_pos c13, if_neg c19, if_pos c19, if_neg c25, if_pos c25, if_neg c31, if_pos c31, if_neg c37, if_pos c37]; done) | contradiction | rfl) (by first | with_reducible rfl | (simp only [rt_many, c3, c13, c19, c25, c31, c37]; done) | (simp only [rt_many, if_neg c3, if_pos c3, if_neg c13, if_pos c13, if_neg c19, if_pos c19, if_neg c25, if_pos c25, if_neg c31, if_pos c31, if_neg c37, if_pos c37]; done) | (simp [rt_many, c3, c13, c19, c25, c31, c37]; done) | (simp [rt_many, if_neg c3, if_pos c3, if_neg c13, if_pos c13, if_neg c19, if_pos c19, if_neg c25, if_pos c25, if_neg c31, if_pos c31, if_neg c37, if_pos c37]; done) | contradiction | rfl)
            · skip
              refine ka_iconst (v := 1) hC dX7_manyOf_40 rfl ?_
              refine ka_goto (tgt := 45) hC dX7_manyOf_41 (by decide) ?_
              exact ka_iret hC hR dX7_manyOf_45 (by first | with_reducible rfl | (simp only [rt_many, c3, c13, c19, c25, c31, c37]; done) | (simp only [rt_many, if_neg c3, if_pos c3, if_neg c13, if_pos c13, if_neg c19, if_pos c19, if_neg c25, if_pos c25, if_neg c31, if_pos c31, if_pos c37, if_neg (not_not_intro c37)]; done) | (simp [rt_many, c3, c13, c19, c25, c31, c37]; done) | (simp [rt_many, if_neg c3, if_pos c3, if_neg c13, if_pos c13, if_neg c19, if_pos c19, if_neg c25, if_pos c25, if_neg c31, if_pos c31, if_pos c37, if_neg (not_not_intro c37)]; done) | contradiction | rfl) (by first | with_reducible rfl | (simp only [rt_many, c3, c13, c19, c25, c31, c37]; done) | (simp only [rt_many, if_neg c3, if_pos c3, if_neg c13, if_pos c13, if_neg c19, if_pos c19, if_neg c25, if_pos c25, if_neg c31, if_pos c31, if_pos c37, if_neg (not_not_intro c37)]; done) | (simp [rt_many, c3, c13, c19, c25, c31, c37]; done) | (simp [rt_many, if_neg c3, if_pos c3, if_neg c13, if_pos c13, if_neg c19, if_pos c19, if_neg c25, if_pos c25, if_neg c31, if_pos c31, if_pos c37, if_neg (not_not_intro c37)]; done) | contradiction | rfl)
  · skip
    refine ka_iconst (v := 4) hC dX7_manyOf_6 rfl ?_
    refine ka_goto (tgt := 45) hC dX7_manyOf_7 (by decide) ?_
    exact ka_iret hC hR dX7_manyOf_45 (by first | with_reducible rfl | (simp only [rt_many, c3]; done) | (simp only [rt_many, if_pos c3, if_neg (not_not_intro c3)]; done) | (simp [rt_many, c3]; done) | (simp [rt_many, if_pos c3, if_neg (not_not_intro c3)]; done) | contradiction | rfl) (by first | with_reducible rfl | (simp only [rt_many, c3]; done) | (simp only [rt_many, if_pos c3, if_neg (not_not_intro c3)]; done) | (simp [rt_many, c3]; done) | (simp [rt_many, if_pos c3, if_neg (not_not_intro c3)]; done) | contradiction | rfl)
