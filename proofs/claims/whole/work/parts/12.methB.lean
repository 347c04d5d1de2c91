theorem ky_X3_addMine : ka_y yX3_addMine 1 := by unfold ka_y; decide +kernel
set_option maxHeartbeats 4000000 in
set_option maxRecDepth 100000 in
theorem m_X3_addMine {G : ka_G} (hG : ka_AD G) {V : ka_W} {r : Nat} (hr : r < 6) {P : ka_P} {x : Int32}  : ka_M G yX3_addMine cX3_addMine 2 (some FieldType.int) 1 [.ref (ka_ad G r 0), .int x] (ka_sp V r P) (some (.int ((sp_addMine P x).1))) (ka_sp V r (sp_addMine P x).2) := by
  refine ka_entry hG ka_pn_X3 (ka_cat1 rfl) (Nat.le_of_ble_eq_true rfl) (fun X hC hR => ?_)
  refine ka_iload_n hC dX3_addMine_0 rfl ?_
  refine ka_iconst (v := 0) hC dX3_addMine_1 rfl ?_
  refine ka_bipush (v := 90) hC dX3_addMine_2 rfl ?_
  refine ka_callSN hC (m_X6_within hG) (List.mem_of_getElem? (i := 2) rfl) ka_q_st_X6_within ka_q_in_X6 ka_q_co_X6_within ky_X6_within (by decide) (by decide) (Nat.le_of_ble_eq_true rfl) rfl dX3_addMine_4 ?_
  refine ka_if_ne_b (tgt := 13) hC dX3_addMine_7 (by decide) (fun c7 => ?_) (fun c7 => ?_)
  · skip
    refine ka_aload_n hC dX3_addMine_13 rfl ?_
    refine kgp_X3_58 (by first | assumption | decide | exact wgIx_lt _ | exact plIx_lt _ | exact sp_recQ_lt | omega) hC dX3_addMine_14 ?_
    refine ka_iconst (v := 4) hC dX3_addMine_17 rfl ?_
    refine ka_icmp_lt (tgt := 24) hC dX3_addMine_18 (by decide) (fun c18 => ?_) (fun c18 => ?_)
    · skip
      refine ka_aload_n hC dX3_addMine_24 rfl ?_
      refine ka_dup hC dX3_addMine_25 rfl ?_
      refine kgp_X3_58 (by first | assumption | decide | exact wgIx_lt _ | exact plIx_lt _ | exact sp_recQ_lt | omega) hC dX3_addMine_26 ?_
      refine ka_iconst (v := 1) hC dX3_addMine_29 rfl ?_
      refine ka_iadd hC dX3_addMine_30 ?_
      refine kpp_X3_58 (by first | assumption | decide | exact wgIx_lt _ | exact plIx_lt _ | exact sp_recQ_lt | omega) hC dX3_addMine_31 ?_
      refine ka_aload_n hC dX3_addMine_34 rfl ?_
      refine ka_aload_n hC dX3_addMine_35 rfl ?_
      refine kgp_X3_58 (by first | assumption | decide | exact wgIx_lt _ | exact plIx_lt _ | exact sp_recQ_lt | omega) hC dX3_addMine_36 ?_
      refine ka_callV hC (m_X3_placeAt hG (by first | assumption | decide | exact wgIx_lt _ | exact plIx_lt _ | exact sp_recQ_lt | omega)) (ka_Rc_pool (by first | assumption | decide | exact wgIx_lt _ | exact plIx_lt _ | exact sp_recQ_lt | omega)) rfl ka_q_ml_X3_85 ka_q_im_X3_placeAt ka_q_se_X3_placeAt ka_q_in_X3 ka_q_co_X3_placeAt ky_X3_placeAt (by decide) (by decide) (Nat.le_of_ble_eq_true rfl) rfl dX3_addMine_39 ?_
      refine ka_iload_n hC dX3_addMine_42 rfl ?_
      refine kpp_X3_101 (by first | assumption | decide | exact wgIx_lt _ | exact plIx_lt _ | exact sp_recQ_lt | omega) (by first | assumption | decide | exact wgIx_lt _ | exact plIx_lt _ | exact sp_recQ_lt | omega) hC dX3_addMine_43 ?_
      refine ka_aload_n hC dX3_addMine_46 rfl ?_
      refine kgp_X3_58 (by first | assumption | decide | exact wgIx_lt _ | exact plIx_lt _ | exact sp_recQ_lt | omega) hC dX3_addMine_47 ?_
      exact ka_iret hC hR dX3_addMine_50 (by first | with_reducible rfl | (simp only [sp_addMine, sp_add, pU, c7, c18]; done) | (simp only [sp_addMine, sp_add, pU, c7, if_pos c18, if_neg (not_not_intro c18)]; done) | (simp [sp_addMine, sp_add, pU, c7, c18]; done) | (simp [sp_addMine, sp_add, pU, c7, if_pos c18, if_neg (not_not_intro c18)]; done) | contradiction | rfl) (by first | with_reducible rfl | (simp only [sp_addMine, sp_add, pU, c7, c18]; done) | (simp only [sp_addMine, sp_add, pU, c7, if_pos c18, if_neg (not_not_intro c18)]; done) | (simp [sp_addMine, sp_add, pU, c7, c18]; done) | (simp [sp_addMine, sp_add, pU, c7, if_pos c18, if_neg (not_not_intro c18)]; done) | contradiction | rfl)
    · skip
      refine ka_ldc hC ka_q_cn_X3_100 dX3_addMine_21 ?_
      exact ka_iret hC hR dX3_addMine_23 (by first | with_reducible rfl | (simp only [sp_addMine, sp_add, pU, c7, c18]; done) | (simp only [sp_addMine, sp_add, pU, c7, if_neg c18, if_pos c18]; done) | (simp [sp_addMine, sp_add, pU, c7, c18]; done) | (simp [sp_addMine, sp_add, pU, c7, if_neg c18, if_pos c18]; done) | contradiction | rfl) (by first | with_reducible rfl | (simp only [sp_addMine, sp_add, pU, c7, c18]; done) | (simp only [sp_addMine, sp_add, pU, c7, if_neg c18, if_pos c18]; done) | (simp [sp_addMine, sp_add, pU, c7, c18]; done) | (simp [sp_addMine, sp_add, pU, c7, if_neg c18, if_pos c18]; done) | contradiction | rfl)
  · skip
    refine ka_ldc hC ka_q_cn_X3_99 dX3_addMine_10 ?_
    exact ka_iret hC hR dX3_addMine_12 (by first | with_reducible rfl | (simp only [sp_addMine, sp_add, pU, c7]; done) | (simp only [sp_addMine, sp_add, pU, c7]; done) | (simp [sp_addMine, sp_add, pU, c7]; done) | (simp [sp_addMine, sp_add, pU, c7]; done) | contradiction | rfl) (by first | with_reducible rfl | (simp only [sp_addMine, sp_add, pU, c7]; done) | (simp only [sp_addMine, sp_add, pU, c7]; done) | (simp [sp_addMine, sp_add, pU, c7]; done) | (simp [sp_addMine, sp_add, pU, c7]; done) | contradiction | rfl)
theorem ky_X3_changeLeg : ka_y yX3_changeLeg 3 := by unfold ka_y; decide +kernel
set_option maxHeartbeats 4000000 in
set_option maxRecDepth 100000 in
theorem m_X3_changeLeg {G : ka_G} (hG : ka_AD G) {V : ka_W} {r : Nat} (hr : r < 6) {P : ka_P} {a b v : Int32}  : ka_M G yX3_changeLeg cX3_changeLeg 5 (some FieldType.int) 3 [.ref (ka_ad G r 0), .int a, .int b, .int v] (ka_sp V r P) (some (.int ((sp_changeLeg P a b v).1))) (ka_sp V r (sp_changeLeg P a b v).2) := by
  refine ka_entry hG ka_pn_X3 (ka_cat1 rfl) (Nat.le_of_ble_eq_true rfl) (fun X hC hR => ?_)
  refine ka_aload_n hC dX3_changeLeg_0 rfl ?_
  refine ka_iload_n hC dX3_changeLeg_1 rfl ?_
  refine ka_iload_n hC dX3_changeLeg_2 rfl ?_
  refine ka_callV hC (m_X3_isLeg hG (by first | assumption | decide | exact wgIx_lt _ | exact plIx_lt _ | exact sp_recQ_lt | omega)) (ka_Rc_pool (by first | assumption | decide | exact wgIx_lt _ | exact plIx_lt _ | exact sp_recQ_lt | omega)) rfl ka_q_ml_X3_104 ka_q_im_X3_isLeg ka_q_se_X3_isLeg ka_q_in_X3 ka_q_co_X3_isLeg ky_X3_isLeg (by decide) (by decide) (Nat.le_of_ble_eq_true rfl) rfl dX3_changeLeg_3 ?_
  refine ka_if_eq_b (tgt := 19) hC dX3_changeLeg_6 (by decide) (fun c6 => ?_) (fun c6 => ?_)
  · skip
    refine ka_ldc hC ka_q_cn_X3_99 dX3_changeLeg_19 ?_
    exact ka_iret hC hR dX3_changeLeg_21 (by first | with_reducible rfl | (simp only [sp_changeLeg, c6]; done) | (simp only [sp_changeLeg, c6]; done) | (simp [sp_changeLeg, c6]; done) | (simp [sp_changeLeg, c6]; done) | contradiction | rfl) (by first | with_reducible rfl | (simp only [sp_changeLeg, c6]; done) | (simp only [sp_changeLeg, c6]; done) | (simp [sp_changeLeg, c6]; done) | (simp [sp_changeLeg, c6]; done) | contradiction | rfl)
  · skip
    refine ka_iload_n hC dX3_changeLeg_9 rfl ?_
    refine ka_iconst (v := 1) hC dX3_changeLeg_10 rfl ?_
    refine ka_bipush (v := 9) hC dX3_changeLeg_11 rfl ?_
    refine ka_callSN hC (m_X6_within hG) (List.mem_of_getElem? (i := 2) rfl) ka_q_st_X6_within ka_q_in_X6 ka_q_co_X6_within ky_X6_within (by decide) (by decide) (Nat.le_of_ble_eq_true rfl) rfl dX3_changeLeg_13 ?_
    refine ka_if_ne_b (tgt := 22) hC dX3_changeLeg_16 (by decide) (fun c16 => ?_) (fun c16 => ?_)
    · skip
      refine ka_aload_n hC dX3_changeLeg_22 rfl ?_
      refine ka_iload_n hC dX3_changeLeg_23 rfl ?_
      refine ka_iload_n hC dX3_changeLeg_24 rfl ?_
      refine ka_callV hC (m_X3_legDays hG (by first | assumption | decide | exact wgIx_lt _ | exact plIx_lt _ | exact sp_recQ_lt | omega)) (ka_Rc_pool (by first | assumption | decide | exact wgIx_lt _ | exact plIx_lt _ | exact sp_recQ_lt | omega)) rfl ka_q_ml_X3_108 ka_q_im_X3_legDays ka_q_se_X3_legDays ka_q_in_X3 ka_q_co_X3_legDays ky_X3_legDays (by decide) (by decide) (Nat.le_of_ble_eq_true rfl) rfl dX3_changeLeg_25 ?_
      refine ka_istore_p4 hC dX3_changeLeg_28 (by decide) ?_
      refine ka_aload_n hC dX3_changeLeg_30 rfl ?_
      refine ka_iload_n hC dX3_changeLeg_31 rfl ?_
      refine ka_iload_n hC dX3_changeLeg_32 rfl ?_
      refine ka_iload_n hC dX3_changeLeg_33 rfl ?_
      refine ka_callV hC (m_X3_keepLeg hG (by first | assumption | decide | exact wgIx_lt _ | exact plIx_lt _ | exact sp_recQ_lt | omega)) (ka_Rc_pool (by first | assumption | decide | exact wgIx_lt _ | exact plIx_lt _ | exact sp_recQ_lt | omega)) rfl ka_q_ml_X3_112 ka_q_im_X3_keepLeg ka_q_se_X3_keepLeg ka_q_in_X3 ka_q_co_X3_keepLeg ky_X3_keepLeg (by decide) (by decide) (Nat.le_of_ble_eq_true rfl) rfl dX3_changeLeg_34 ?_
      refine ka_aload_n hC dX3_changeLeg_37 rfl ?_
      refine ka_iload_n hC dX3_changeLeg_38 rfl ?_
      refine ka_iload_n hC dX3_changeLeg_39 rfl ?_
      refine ka_iload_n hC dX3_changeLeg_40 rfl ?_
      refine ka_callV hC (m_X3_keepLeg hG (by first | assumption | decide | exact wgIx_lt _ | exact plIx_lt _ | exact sp_recQ_lt | omega)) (ka_Rc_pool (by first | assumption | decide | exact wgIx_lt _ | exact plIx_lt _ | exact sp_recQ_lt | omega)) rfl ka_q_ml_X3_112 ka_q_im_X3_keepLeg ka_q_se_X3_keepLeg ka_q_in_X3 ka_q_co_X3_keepLeg ky_X3_keepLeg (by decide) (by decide) (Nat.le_of_ble_eq_true rfl) rfl dX3_changeLeg_41 ?_
      refine ka_iload hC dX3_changeLeg_44 rfl ?_
      exact ka_iret hC hR dX3_changeLeg_46 (by first | with_reducible rfl | (simp only [sp_changeLeg, c6, c16]; done) | (simp only [sp_changeLeg, c6, c16]; done) | (simp [sp_changeLeg, c6, c16]; done) | (simp [sp_changeLeg, c6, c16]; done) | contradiction | rfl) (by first | with_reducible rfl | (simp only [sp_changeLeg, c6, c16]; done) | (simp only [sp_changeLeg, c6, c16]; done) | (simp [sp_changeLeg, c6, c16]; done) | (simp [sp_changeLeg, c6, c16]; done) | contradiction | rfl)
    · skip
      refine ka_ldc hC ka_q_cn_X3_99 dX3_changeLeg_19 ?_
      exact ka_iret hC hR dX3_changeLeg_21 (by first | with_reducible rfl | (simp only [sp_changeLeg, c6, c16]; done) | (simp only [sp_changeLeg, c6, c16]; done) | (simp [sp_changeLeg, c6, c16]; done) | (simp [sp_changeLeg, c6, c16]; done) | contradiction | rfl) (by first | with_reducible rfl | (simp only [sp_changeLeg, c6, c16]; done) | (simp only [sp_changeLeg, c6, c16]; done) | (simp [sp_changeLeg, c6, c16]; done) | (simp [sp_changeLeg, c6, c16]; done) | contradiction | rfl)
theorem ky_X3_addWagon : ka_y yX3_addWagon 1 := by unfold ka_y; decide +kernel
set_option maxHeartbeats 4000000 in
set_option maxRecDepth 100000 in
theorem m_X3_addWagon {G : ka_G} (hG : ka_AD G) {V : ka_W} {r : Nat} (hr : r < 6) {P : ka_P} {x : Int32}  : ka_M G yX3_addWagon cX3_addWagon 4 (some FieldType.int) 2 [.ref (ka_ad G r 0), .int x] (ka_sp V r P) (some (.int ((sp_addWagon P x).1))) (ka_sp V r (sp_addWagon P x).2) := by
  refine ka_entry hG ka_pn_X3 (ka_cat1 rfl) (Nat.le_of_ble_eq_true rfl) (fun X hC hR => ?_)
  refine ka_aload_n hC dX3_addWagon_0 rfl ?_
  refine ka_iload_n hC dX3_addWagon_1 rfl ?_
  refine ka_callV hC (m_X3_isMine hG (by first | assumption | decide | exact wgIx_lt _ | exact plIx_lt _ | exact sp_recQ_lt | omega)) (ka_Rc_pool (by first | assumption | decide | exact wgIx_lt _ | exact plIx_lt _ | exact sp_recQ_lt | omega)) rfl ka_q_ml_X3_116 ka_q_im_X3_isMine ka_q_se_X3_isMine ka_q_in_X3 ka_q_co_X3_isMine ky_X3_isMine (by decide) (by decide) (Nat.le_of_ble_eq_true rfl) rfl dX3_addWagon_2 ?_
  refine ka_if_ne_b (tgt := 11) hC dX3_addWagon_5 (by decide) (fun c5 => ?_) (fun c5 => ?_)
  · skip
    refine ka_aload_n hC dX3_addWagon_11 rfl ?_
    refine kgp_X3_62 (by first | assumption | decide | exact wgIx_lt _ | exact plIx_lt _ | exact sp_recQ_lt | omega) hC dX3_addWagon_12 ?_
    refine ka_bipush (v := 20) hC dX3_addWagon_15 rfl ?_
    refine ka_icmp_lt (tgt := 23) hC dX3_addWagon_17 (by decide) (fun c17 => ?_) (fun c17 => ?_)
    · skip
      refine ka_aload_n hC dX3_addWagon_23 rfl ?_
      refine kgp_X3_62 (by first | assumption | decide | exact wgIx_lt _ | exact plIx_lt _ | exact sp_recQ_lt | omega) hC dX3_addWagon_24 ?_
      refine ka_istore_n_p2 hC dX3_addWagon_27 (by decide) ?_
      refine ka_aload_n hC dX3_addWagon_28 rfl ?_
      refine ka_dup hC dX3_addWagon_29 rfl ?_
      refine kgp_X3_62 (by first | assumption | decide | exact wgIx_lt _ | exact plIx_lt _ | exact sp_recQ_lt | omega) hC dX3_addWagon_30 ?_
      refine ka_iconst (v := 1) hC dX3_addWagon_33 rfl ?_
      refine ka_iadd hC dX3_addWagon_34 ?_
      refine kpp_X3_62 (by first | assumption | decide | exact wgIx_lt _ | exact plIx_lt _ | exact sp_recQ_lt | omega) hC dX3_addWagon_35 ?_
      refine ka_aload_n hC dX3_addWagon_38 rfl ?_
      refine ka_iload_n hC dX3_addWagon_39 rfl ?_
      refine ka_callV hC (m_X3_wagonAt hG (by first | assumption | decide | exact wgIx_lt _ | exact plIx_lt _ | exact sp_recQ_lt | omega)) (ka_Rc_pool (by first | assumption | decide | exact wgIx_lt _ | exact plIx_lt _ | exact sp_recQ_lt | omega)) rfl ka_q_ml_X3_119 ka_q_im_X3_wagonAt ka_q_se_X3_wagonAt ka_q_in_X3 ka_q_co_X3_wagonAt ky_X3_wagonAt (by decide) (by decide) (Nat.le_of_ble_eq_true rfl) rfl dX3_addWagon_40 ?_
      refine ka_astore_n_p3 hC dX3_addWagon_43 (by decide) ?_
      refine ka_aload_n hC dX3_addWagon_44 rfl ?_
      refine ka_iload_n hC dX3_addWagon_45 rfl ?_
      refine kpp_X3_123 (by first | assumption | decide | exact wgIx_lt _ | exact plIx_lt _ | exact sp_recQ_lt | omega) (by first | assumption | decide | exact wgIx_lt _ | exact plIx_lt _ | exact sp_recQ_lt | omega) hC dX3_addWagon_46 ?_
      refine ka_aload_n hC dX3_addWagon_49 rfl ?_
      refine ka_iload_n hC dX3_addWagon_50 rfl ?_
      refine kpp_X3_126 (by first | assumption | decide | exact wgIx_lt _ | exact plIx_lt _ | exact sp_recQ_lt | omega) (by first | assumption | decide | exact wgIx_lt _ | exact plIx_lt _ | exact sp_recQ_lt | omega) hC dX3_addWagon_51 ?_
      refine ka_aload_n hC dX3_addWagon_54 rfl ?_
      refine ka_aload_n hC dX3_addWagon_55 rfl ?_
      refine kgp_X3_65 (by first | assumption | decide | exact wgIx_lt _ | exact plIx_lt _ | exact sp_recQ_lt | omega) hC dX3_addWagon_56 ?_
      refine ka_callV hC (m_X5_standFrom hG (by first | assumption | decide | exact wgIx_lt _ | exact plIx_lt _ | exact sp_recQ_lt | omega) (by first | assumption | decide | exact wgIx_lt _ | exact plIx_lt _ | exact sp_recQ_lt | omega)) (ka_Rc_wagon (by first | assumption | decide | exact wgIx_lt _ | exact plIx_lt _ | exact sp_recQ_lt | omega) (by first | assumption | decide | exact wgIx_lt _ | exact plIx_lt _ | exact sp_recQ_lt | omega)) rfl ka_q_ml_X3_129 ka_q_im_X5_standFrom ka_q_se_X5_standFrom ka_q_in_X5 ka_q_co_X5_standFrom ky_X5_standFrom (by decide) (by decide) (Nat.le_of_ble_eq_true rfl) rfl dX3_addWagon_59 ?_
      refine ka_iload_n hC dX3_addWagon_62 rfl ?_
      exact ka_iret hC hR dX3_addWagon_63 (by first | with_reducible rfl | (simp only [sp_addWagon, sp_joinAt, sp_add, pU, c5, c17]; done) | (simp only [sp_addWagon, sp_joinAt, sp_add, pU, c5, if_pos c17, if_neg (not_not_intro c17)]; done) | (simp [sp_addWagon, sp_joinAt, sp_add, pU, c5, c17]; done) | (simp [sp_addWagon, sp_joinAt, sp_add, pU, c5, if_pos c17, if_neg (not_not_intro c17)]; done) | contradiction | rfl) (by first | with_reducible rfl | (simp only [sp_addWagon, sp_joinAt, sp_add, pU, c5, c17]; done) | (simp only [sp_addWagon, sp_joinAt, sp_add, pU, c5, if_pos c17, if_neg (not_not_intro c17)]; done) | (simp [sp_addWagon, sp_joinAt, sp_add, pU, c5, c17]; done) | (simp [sp_addWagon, sp_joinAt, sp_add, pU, c5, if_pos c17, if_neg (not_not_intro c17)]; done) | contradiction | rfl)
    · skip
      refine ka_ldc hC ka_q_cn_X3_100 dX3_addWagon_20 ?_
      exact ka_iret hC hR dX3_addWagon_22 (by first | with_reducible rfl | (simp only [sp_addWagon, sp_joinAt, sp_add, pU, c5, c17]; done) | (simp only [sp_addWagon, sp_joinAt, sp_add, pU, c5, if_neg c17, if_pos c17]; done) | (simp [sp_addWagon, sp_joinAt, sp_add, pU, c5, c17]; done) | (simp [sp_addWagon, sp_joinAt, sp_add, pU, c5, if_neg c17, if_pos c17]; done) | contradiction | rfl) (by first | with_reducible rfl | (simp only [sp_addWagon, sp_joinAt, sp_add, pU, c5, c17]; done) | (simp only [sp_addWagon, sp_joinAt, sp_add, pU, c5, if_neg c17, if_pos c17]; done) | (simp [sp_addWagon, sp_joinAt, sp_add, pU, c5, c17]; done) | (simp [sp_addWagon, sp_joinAt, sp_add, pU, c5, if_neg c17, if_pos c17]; done) | contradiction | rfl)
  · skip
    refine ka_ldc hC ka_q_cn_X3_99 dX3_addWagon_8 ?_
    exact ka_iret hC hR dX3_addWagon_10 (by first | with_reducible rfl | (simp only [sp_addWagon, sp_joinAt, sp_add, pU, c5]; done) | (simp only [sp_addWagon, sp_joinAt, sp_add, pU, c5]; done) | (simp [sp_addWagon, sp_joinAt, sp_add, pU, c5]; done) | (simp [sp_addWagon, sp_joinAt, sp_add, pU, c5]; done) | contradiction | rfl) (by first | with_reducible rfl | (simp only [sp_addWagon, sp_joinAt, sp_add, pU, c5]; done) | (simp only [sp_addWagon, sp_joinAt, sp_add, pU, c5]; done) | (simp [sp_addWagon, sp_joinAt, sp_add, pU, c5]; done) | (simp [sp_addWagon, sp_joinAt, sp_add, pU, c5]; done) | contradiction | rfl)
theorem ky_X3_whyNotLoaded : ka_y yX3_whyNotLoaded 1 := by unfold ka_y; decide +kernel
set_option maxHeartbeats 4000000 in
set_option maxRecDepth 100000 in
theorem m_X3_whyNotLoaded {G : ka_G} (hG : ka_AD G) {V : ka_W} {r : Nat} (hr : r < 6) {P : ka_P} {k : Nat} (hk : k < 20)  : ka_M G yX3_whyNotLoaded cX3_whyNotLoaded 2 (some FieldType.int) 2 [.ref (ka_ad G r 0), .ref (ka_ad G r (8 + k))] (ka_sp V r P) (some (.int (sp_whyNot P k))) (ka_sp V r P) := by
  refine ka_entry hG ka_pn_X3 (ka_cat1 rfl) (Nat.le_of_ble_eq_true rfl) (fun X hC hR => ?_)
  refine ka_aload_n hC dX3_whyNotLoaded_0 rfl ?_
  refine kgp_X3_154 (by first | assumption | decide | exact wgIx_lt _ | exact plIx_lt _ | exact sp_recQ_lt | omega) (by first | assumption | decide | exact wgIx_lt _ | exact plIx_lt _ | exact sp_recQ_lt | omega) hC dX3_whyNotLoaded_1 ?_
  refine ka_iconst (v := 1) hC dX3_whyNotLoaded_4 rfl ?_
  refine ka_icmp_ne (tgt := 10) hC dX3_whyNotLoaded_5 (by decide) (fun c5 => ?_) (fun c5 => ?_)
  · skip
    refine ka_aload_n hC dX3_whyNotLoaded_10 rfl ?_
    refine kgp_X3_154 (by first | assumption | decide | exact wgIx_lt _ | exact plIx_lt _ | exact sp_recQ_lt | omega) (by first | assumption | decide | exact wgIx_lt _ | exact plIx_lt _ | exact sp_recQ_lt | omega) hC dX3_whyNotLoaded_11 ?_
    refine ka_iconst (v := 2) hC dX3_whyNotLoaded_14 rfl ?_
    refine ka_icmp_ne (tgt := 20) hC dX3_whyNotLoaded_15 (by decide) (fun c15 => ?_) (fun c15 => ?_)
    · skip
      refine ka_aload_n hC dX3_whyNotLoaded_20 rfl ?_
      refine kgp_X3_147 (by first | assumption | decide | exact wgIx_lt _ | exact plIx_lt _ | exact sp_recQ_lt | omega) (by first | assumption | decide | exact wgIx_lt _ | exact plIx_lt _ | exact sp_recQ_lt | omega) hC dX3_whyNotLoaded_21 ?_
      refine ka_if_eq_b (tgt := 29) hC dX3_whyNotLoaded_24 (by decide) (fun c24 => ?_) (fun c24 => ?_)
      · skip
        refine ka_aload_n hC dX3_whyNotLoaded_29 rfl ?_
        refine kgp_X3_126 (by first | assumption | decide | exact wgIx_lt _ | exact plIx_lt _ | exact sp_recQ_lt | omega) (by first | assumption | decide | exact wgIx_lt _ | exact plIx_lt _ | exact sp_recQ_lt | omega) hC dX3_whyNotLoaded_30 ?_
        refine ka_if_ne (tgt := 38) hC dX3_whyNotLoaded_33 (by decide) (fun c33 => ?_) (fun c33 => ?_)
        · skip
          refine ka_aload_n hC dX3_whyNotLoaded_38 rfl ?_
          refine ka_aload_n hC dX3_whyNotLoaded_39 rfl ?_
          refine ka_callV hC (m_X3_isDue hG (by first | assumption | decide | exact wgIx_lt _ | exact plIx_lt _ | exact sp_recQ_lt | omega) (by first | assumption | decide | exact wgIx_lt _ | exact plIx_lt _ | exact sp_recQ_lt | omega)) (ka_Rc_pool (by first | assumption | decide | exact wgIx_lt _ | exact plIx_lt _ | exact sp_recQ_lt | omega)) rfl ka_q_ml_X3_157 ka_q_im_X3_isDue ka_q_se_X3_isDue ka_q_in_X3 ka_q_co_X3_isDue ky_X3_isDue (by decide) (by decide) (Nat.le_of_ble_eq_true rfl) rfl dX3_whyNotLoaded_40 ?_
          refine ka_if_eq_b (tgt := 48) hC dX3_whyNotLoaded_43 (by decide) (fun c43 => ?_) (fun c43 => ?_)
          · skip
            refine ka_aload_n hC dX3_whyNotLoaded_48 rfl ?_
            refine ka_aload_n hC dX3_whyNotLoaded_49 rfl ?_
            refine kgp_X3_126 (by first | assumption | decide | exact wgIx_lt _ | exact plIx_lt _ | exact sp_recQ_lt | omega) (by first | assumption | decide | exact wgIx_lt _ | exact plIx_lt _ | exact sp_recQ_lt | omega) hC dX3_whyNotLoaded_50 ?_
            refine ka_callV hC (m_X3_placeAt hG (by first | assumption | decide | exact wgIx_lt _ | exact plIx_lt _ | exact sp_recQ_lt | omega)) (ka_Rc_pool (by first | assumption | decide | exact wgIx_lt _ | exact plIx_lt _ | exact sp_recQ_lt | omega)) rfl ka_q_ml_X3_85 ka_q_im_X3_placeAt ka_q_se_X3_placeAt ka_q_in_X3 ka_q_co_X3_placeAt ky_X3_placeAt (by decide) (by decide) (Nat.le_of_ble_eq_true rfl) rfl dX3_whyNotLoaded_53 ?_
            refine kgp_X3_141 (by first | assumption | decide | exact wgIx_lt _ | exact plIx_lt _ | exact sp_recQ_lt | omega) (by first | assumption | decide | exact wgIx_lt _ | exact plIx_lt _ | exact sp_recQ_lt | omega) hC dX3_whyNotLoaded_56 ?_
            refine ka_bipush (v := 30) hC dX3_whyNotLoaded_59 rfl ?_
            refine ka_icmp_ge (tgt := 69) hC dX3_whyNotLoaded_61 (by decide) (fun c61 => ?_) (fun c61 => ?_)
            · skip
              refine ka_iconst (v := 0) hC dX3_whyNotLoaded_69 rfl ?_
              exact ka_iret hC hR dX3_whyNotLoaded_70 (by first | with_reducible rfl | (simp only [sp_whyNot, sp_full, c5, c15, c24, c33, c43, c61]; done) | (simp only [sp_whyNot, sp_full, if_neg c5, if_pos c5, if_neg c15, if_pos c15, c24, if_neg c33, if_pos c33, c43, if_neg c61, if_pos c61]; done) | (simp [sp_whyNot, sp_full, c5, c15, c24, c33, c43, c61]; done) | (simp [sp_whyNot, sp_full, if_neg c5, if_pos c5, if_neg c15, if_pos c15, c24, if_neg c33, if_pos c33, c43, if_neg c61, if_pos c61]; done) | contradiction | rfl) (by first | with_reducible rfl | (simp only [sp_whyNot, sp_full, c5, c15, c24, c33, c43, c61]; done) | (simp only [sp_whyNot, sp_full, if_neg c5, if_pos c5, if_neg c15, if_pos c15, c24, if_neg c33, if_pos c33, c43, if_neg c61, if_pos c61]; done) | (simp [sp_whyNot, sp_full, c5, c15, c24, c33, c43, c61]; done) | (simp [sp_whyNot, sp_full, if_neg c5, if_pos c5, if_neg c15, if_pos c15, c24, if_neg c33, if_pos c33, c43, if_neg c61, if_pos c61]; done) | contradiction | rfl)
            · skip
              refine ka_bipush (v := 6) hC dX3_whyNotLoaded_64 rfl ?_
              refine ka_goto (tgt := 70) hC dX3_whyNotLoaded_66 (by decide) ?_
              exact ka_iret hC hR dX3_whyNotLoaded_70 (by first | with_reducible rfl | (simp only [sp_whyNot, sp_full, c5, c15, c24, c33, c43, c61]; done) | (simp only [sp_whyNot, sp_full, if_neg c5, if_pos c5, if_neg c15, if_pos c15, c24, if_neg c33, if_pos c33, c43, if_pos c61, if_neg (not_not_intro c61)]; done) | (simp [sp_whyNot, sp_full, c5, c15, c24, c33, c43, c61]; done) | (simp [sp_whyNot, sp_full, if_neg c5, if_pos c5, if_neg c15, if_pos c15, c24, if_neg c33, if_pos c33, c43, if_pos c61, if_neg (not_not_intro c61)]; done) | contradiction | rfl) (by first | with_reducible rfl | (simp only [sp_whyNot, sp_full, c5, c15, c24, c33, c43, c61]; done) | (simp only [sp_whyNot, sp_full, if_neg c5, if_pos c5, if_neg c15, if_pos c15, c24, if_neg c33, if_pos c33, c43, if_pos c61, if_neg (not_not_intro c61)]; done) | (simp [sp_whyNot, sp_full, c5, c15, c24, c33, c43, c61]; done) | (simp [sp_whyNot, sp_full, if_neg c5, if_pos c5, if_neg c15, if_pos c15, c24, if_neg c33, if_pos c33, c43, if_pos c61, if_neg (not_not_intro c61)]; done) | contradiction | rfl)
          · skip
            refine ka_iconst (v := 5) hC dX3_whyNotLoaded_46 rfl ?_
            exact ka_iret hC hR dX3_whyNotLoaded_47 (by first | with_reducible rfl | (simp only [sp_whyNot, sp_full, c5, c15, c24, c33, c43]; done) | (simp only [sp_whyNot, sp_full, if_neg c5, if_pos c5, if_neg c15, if_pos c15, c24, if_neg c33, if_pos c33, c43]; done) | (simp [sp_whyNot, sp_full, c5, c15, c24, c33, c43]; done) | (simp [sp_whyNot, sp_full, if_neg c5, if_pos c5, if_neg c15, if_pos c15, c24, if_neg c33, if_pos c33, c43]; done) | contradiction | rfl) (by first | with_reducible rfl | (simp only [sp_whyNot, sp_full, c5, c15, c24, c33, c43]; done) | (simp only [sp_whyNot, sp_full, if_neg c5, if_pos c5, if_neg c15, if_pos c15, c24, if_neg c33, if_pos c33, c43]; done) | (simp [sp_whyNot, sp_full, c5, c15, c24, c33, c43]; done) | (simp [sp_whyNot, sp_full, if_neg c5, if_pos c5, if_neg c15, if_pos c15, c24, if_neg c33, if_pos c33, c43]; done) | contradiction | rfl)
        · skip
          refine ka_iconst (v := 4) hC dX3_whyNotLoaded_36 rfl ?_
          exact ka_iret hC hR dX3_whyNotLoaded_37 (by first | with_reducible rfl | (simp only [sp_whyNot, sp_full, c5, c15, c24, c33]; done) | (simp only [sp_whyNot, sp_full, if_neg c5, if_pos c5, if_neg c15, if_pos c15, c24, if_pos c33, if_neg (not_not_intro c33)]; done) | (simp [sp_whyNot, sp_full, c5, c15, c24, c33]; done) | (simp [sp_whyNot, sp_full, if_neg c5, if_pos c5, if_neg c15, if_pos c15, c24, if_pos c33, if_neg (not_not_intro c33)]; done) | contradiction | rfl) (by first | with_reducible rfl | (simp only [sp_whyNot, sp_full, c5, c15, c24, c33]; done) | (simp only [sp_whyNot, sp_full, if_neg c5, if_pos c5, if_neg c15, if_pos c15, c24, if_pos c33, if_neg (not_not_intro c33)]; done) | (simp [sp_whyNot, sp_full, c5, c15, c24, c33]; done) | (simp [sp_whyNot, sp_full, if_neg c5, if_pos c5, if_neg c15, if_pos c15, c24, if_pos c33, if_neg (not_not_intro c33)]; done) | contradiction | rfl)
      · skip
        refine ka_iconst (v := 3) hC dX3_whyNotLoaded_27 rfl ?_
        exact ka_iret hC hR dX3_whyNotLoaded_28 (by first | with_reducible rfl | (simp only [sp_whyNot, sp_full, c5, c15, c24]; done) | (simp only [sp_whyNot, sp_full, if_neg c5, if_pos c5, if_neg c15, if_pos c15, c24]; done) | (simp [sp_whyNot, sp_full, c5, c15, c24]; done) | (simp [sp_whyNot, sp_full, if_neg c5, if_pos c5, if_neg c15, if_pos c15, c24]; done) | contradiction | rfl) (by first | with_reducible rfl | (simp only [sp_whyNot, sp_full, c5, c15, c24]; done) | (simp only [sp_whyNot, sp_full, if_neg c5, if_pos c5, if_neg c15, if_pos c15, c24]; done) | (simp [sp_whyNot, sp_full, c5, c15, c24]; done) | (simp [sp_whyNot, sp_full, if_neg c5, if_pos c5, if_neg c15, if_pos c15, c24]; done) | contradiction | rfl)
    · skip
      refine ka_iconst (v := 2) hC dX3_whyNotLoaded_18 rfl ?_
      exact ka_iret hC hR dX3_whyNotLoaded_19 (by first | with_reducible rfl | (simp only [sp_whyNot, sp_full, c5, c15]; done) | (simp only [sp_whyNot, sp_full, if_neg c5, if_pos c5, if_pos c15, if_neg (not_not_intro c15)]; done) | (simp [sp_whyNot, sp_full, c5, c15]; done) | (simp [sp_whyNot, sp_full, if_neg c5, if_pos c5, if_pos c15, if_neg (not_not_intro c15)]; done) | contradiction | rfl) (by first | with_reducible rfl | (simp only [sp_whyNot, sp_full, c5, c15]; done) | (simp only [sp_whyNot, sp_full, if_neg c5, if_pos c5, if_pos c15, if_neg (not_not_intro c15)]; done) | (simp [sp_whyNot, sp_full, c5, c15]; done) | (simp [sp_whyNot, sp_full, if_neg c5, if_pos c5, if_pos c15, if_neg (not_not_intro c15)]; done) | contradiction | rfl)
  · skip
    refine ka_iconst (v := 1) hC dX3_whyNotLoaded_8 rfl ?_
    exact ka_iret hC hR dX3_whyNotLoaded_9 (by first | with_reducible rfl | (simp only [sp_whyNot, sp_full, c5]; done) | (simp only [sp_whyNot, sp_full, if_pos c5, if_neg (not_not_intro c5)]; done) | (simp [sp_whyNot, sp_full, c5]; done) | (simp [sp_whyNot, sp_full, if_pos c5, if_neg (not_not_intro c5)]; done) | contradiction | rfl) (by first | with_reducible rfl | (simp only [sp_whyNot, sp_full, c5]; done) | (simp only [sp_whyNot, sp_full, if_pos c5, if_neg (not_not_intro c5)]; done) | (simp [sp_whyNot, sp_full, c5]; done) | (simp [sp_whyNot, sp_full, if_pos c5, if_neg (not_not_intro c5)]; done) | contradiction | rfl)
theorem ky_X3_loadWagon : ka_y yX3_loadWagon 1 := by unfold ka_y; decide +kernel
set_option maxHeartbeats 4000000 in
set_option maxRecDepth 100000 in
theorem m_X3_loadWagon {G : ka_G} (hG : ka_AD G) {V : ka_W} {r : Nat} (hr : r < 6) {P : ka_P} {x : Int32}  : ka_M G yX3_loadWagon cX3_loadWagon 4 (some FieldType.int) 3 [.ref (ka_ad G r 0), .int x] (ka_sp V r P) (some (.int ((sp_load P x).1))) (ka_sp V r (sp_load P x).2) := by
  refine ka_entry hG ka_pn_X3 (ka_cat1 rfl) (Nat.le_of_ble_eq_true rfl) (fun X hC hR => ?_)
  refine ka_aload_n hC dX3_loadWagon_0 rfl ?_
  refine ka_iload_n hC dX3_loadWagon_1 rfl ?_
  refine ka_callV hC (m_X3_isWagon hG (by first | assumption | decide | exact wgIx_lt _ | exact plIx_lt _ | exact sp_recQ_lt | omega)) (ka_Rc_pool (by first | assumption | decide | exact wgIx_lt _ | exact plIx_lt _ | exact sp_recQ_lt | omega)) rfl ka_q_ml_X3_133 ka_q_im_X3_isWagon ka_q_se_X3_isWagon ka_q_in_X3 ka_q_co_X3_isWagon ky_X3_isWagon (by decide) (by decide) (Nat.le_of_ble_eq_true rfl) rfl dX3_loadWagon_2 ?_
  refine ka_if_ne_b (tgt := 11) hC dX3_loadWagon_5 (by decide) (fun c5 => ?_) (fun c5 => ?_)
  · skip
    refine ka_aload_n hC dX3_loadWagon_11 rfl ?_
    refine ka_iload_n hC dX3_loadWagon_12 rfl ?_
    refine ka_callV hC (m_X3_wagonAt hG (by first | assumption | decide | exact wgIx_lt _ | exact plIx_lt _ | exact sp_recQ_lt | omega)) (ka_Rc_pool (by first | assumption | decide | exact wgIx_lt _ | exact plIx_lt _ | exact sp_recQ_lt | omega)) rfl ka_q_ml_X3_119 ka_q_im_X3_wagonAt ka_q_se_X3_wagonAt ka_q_in_X3 ka_q_co_X3_wagonAt ky_X3_wagonAt (by decide) (by decide) (Nat.le_of_ble_eq_true rfl) rfl dX3_loadWagon_13 ?_
    refine ka_astore_n_p2 hC dX3_loadWagon_16 (by decide) ?_
    refine ka_aload_n hC dX3_loadWagon_17 rfl ?_
    refine ka_aload_n hC dX3_loadWagon_18 rfl ?_
    refine ka_callV hC (m_X3_whyNotLoaded hG (by first | assumption | decide | exact wgIx_lt _ | exact plIx_lt _ | exact sp_recQ_lt | omega) (by first | assumption | decide | exact wgIx_lt _ | exact plIx_lt _ | exact sp_recQ_lt | omega)) (ka_Rc_pool (by first | assumption | decide | exact wgIx_lt _ | exact plIx_lt _ | exact sp_recQ_lt | omega)) rfl ka_q_ml_X3_136 ka_q_im_X3_whyNotLoaded ka_q_se_X3_whyNotLoaded ka_q_in_X3 ka_q_co_X3_whyNotLoaded ky_X3_whyNotLoaded (by decide) (by decide) (Nat.le_of_ble_eq_true rfl) rfl dX3_loadWagon_19 ?_
    refine ka_if_eq (tgt := 28) hC dX3_loadWagon_22 (by decide) (fun c22 => ?_) (fun c22 => ?_)
    · skip
      refine ka_aload_n hC dX3_loadWagon_28 rfl ?_
      refine ka_aload_n hC dX3_loadWagon_29 rfl ?_
      refine kgp_X3_126 (by first | assumption | decide | exact wgIx_lt _ | exact plIx_lt _ | exact sp_recQ_lt | omega) (by first | assumption | decide | exact wgIx_lt _ | exact plIx_lt _ | exact sp_recQ_lt | omega) hC dX3_loadWagon_30 ?_
      refine ka_callV hC (m_X3_placeAt hG (by first | assumption | decide | exact wgIx_lt _ | exact plIx_lt _ | exact sp_recQ_lt | omega)) (ka_Rc_pool (by first | assumption | decide | exact wgIx_lt _ | exact plIx_lt _ | exact sp_recQ_lt | omega)) rfl ka_q_ml_X3_85 ka_q_im_X3_placeAt ka_q_se_X3_placeAt ka_q_in_X3 ka_q_co_X3_placeAt ky_X3_placeAt (by decide) (by decide) (Nat.le_of_ble_eq_true rfl) rfl dX3_loadWagon_33 ?_
      refine ka_astore_n_p3 hC dX3_loadWagon_36 (by decide) ?_
      refine ka_aload_n hC dX3_loadWagon_37 rfl ?_
      refine ka_dup hC dX3_loadWagon_38 rfl ?_
      refine kgp_X3_141 (by first | assumption | decide | exact wgIx_lt _ | exact plIx_lt _ | exact sp_recQ_lt | omega) (by first | assumption | decide | exact wgIx_lt _ | exact plIx_lt _ | exact sp_recQ_lt | omega) hC dX3_loadWagon_39 ?_
      refine ka_bipush (v := 30) hC dX3_loadWagon_42 rfl ?_
      refine ka_isub hC dX3_loadWagon_44 ?_
      refine kpp_X3_141 (by first | assumption | decide | exact wgIx_lt _ | exact plIx_lt _ | exact sp_recQ_lt | omega) (by first | assumption | decide | exact wgIx_lt _ | exact plIx_lt _ | exact sp_recQ_lt | omega) hC dX3_loadWagon_45 ?_
      refine ka_aload_n hC dX3_loadWagon_48 rfl ?_
      refine ka_dup hC dX3_loadWagon_49 rfl ?_
      refine kgp_X3_144 (by first | assumption | decide | exact wgIx_lt _ | exact plIx_lt _ | exact sp_recQ_lt | omega) (by first | assumption | decide | exact wgIx_lt _ | exact plIx_lt _ | exact sp_recQ_lt | omega) hC dX3_loadWagon_50 ?_
      refine ka_bipush (v := 30) hC dX3_loadWagon_53 rfl ?_
      refine ka_iadd hC dX3_loadWagon_55 ?_
      refine kpp_X3_144 (by first | assumption | decide | exact wgIx_lt _ | exact plIx_lt _ | exact sp_recQ_lt | omega) (by first | assumption | decide | exact wgIx_lt _ | exact plIx_lt _ | exact sp_recQ_lt | omega) hC dX3_loadWagon_56 ?_
      refine ka_aload_n hC dX3_loadWagon_59 rfl ?_
      refine ka_iconst (v := 1) hC dX3_loadWagon_60 rfl ?_
      refine kpp_X3_147 (by first | assumption | decide | exact wgIx_lt _ | exact plIx_lt _ | exact sp_recQ_lt | omega) (by first | assumption | decide | exact wgIx_lt _ | exact plIx_lt _ | exact sp_recQ_lt | omega) (b := true) rfl hC dX3_loadWagon_61 ?_
      refine ka_aload_n hC dX3_loadWagon_64 rfl ?_
      refine ka_dup hC dX3_loadWagon_65 rfl ?_
      refine kgp_X3_151 (by first | assumption | decide | exact wgIx_lt _ | exact plIx_lt _ | exact sp_recQ_lt | omega) (by first | assumption | decide | exact wgIx_lt _ | exact plIx_lt _ | exact sp_recQ_lt | omega) hC dX3_loadWagon_66 ?_
      refine ka_iconst (v := 1) hC dX3_loadWagon_69 rfl ?_
      refine ka_iadd hC dX3_loadWagon_70 ?_
      refine kpp_X3_151 (by first | assumption | decide | exact wgIx_lt _ | exact plIx_lt _ | exact sp_recQ_lt | omega) (by first | assumption | decide | exact wgIx_lt _ | exact plIx_lt _ | exact sp_recQ_lt | omega) hC dX3_loadWagon_71 ?_
      refine ka_aload_n hC dX3_loadWagon_74 rfl ?_
      refine ka_aload_n hC dX3_loadWagon_75 rfl ?_
      refine kgp_X3_65 (by first | assumption | decide | exact wgIx_lt _ | exact plIx_lt _ | exact sp_recQ_lt | omega) hC dX3_loadWagon_76 ?_
      refine ka_callV hC (m_X5_standFrom hG (by first | assumption | decide | exact wgIx_lt _ | exact plIx_lt _ | exact sp_recQ_lt | omega) (by first | assumption | decide | exact wgIx_lt _ | exact plIx_lt _ | exact sp_recQ_lt | omega)) (ka_Rc_wagon (by first | assumption | decide | exact wgIx_lt _ | exact plIx_lt _ | exact sp_recQ_lt | omega) (by first | assumption | decide | exact wgIx_lt _ | exact plIx_lt _ | exact sp_recQ_lt | omega)) rfl ka_q_ml_X3_129 ka_q_im_X5_standFrom ka_q_se_X5_standFrom ka_q_in_X5 ka_q_co_X5_standFrom ky_X5_standFrom (by decide) (by decide) (Nat.le_of_ble_eq_true rfl) rfl dX3_loadWagon_79 ?_
      refine ka_aload_n hC dX3_loadWagon_82 rfl ?_
      refine kgp_X3_141 (by first | assumption | decide | exact wgIx_lt _ | exact plIx_lt _ | exact sp_recQ_lt | omega) (by first | assumption | decide | exact wgIx_lt _ | exact plIx_lt _ | exact sp_recQ_lt | omega) hC dX3_loadWagon_83 ?_
      exact ka_iret hC hR dX3_loadWagon_86 (by first | with_reducible rfl | (simp only [sp_load, sp_loadAt, sp_add, sp_sub, pU, c5, c22]; done) | (simp only [sp_load, sp_loadAt, sp_add, sp_sub, pU, c5, if_pos c22, if_neg (not_not_intro c22)]; done) | (simp [sp_load, sp_loadAt, sp_add, sp_sub, pU, c5, c22]; done) | (simp [sp_load, sp_loadAt, sp_add, sp_sub, pU, c5, if_pos c22, if_neg (not_not_intro c22)]; done) | contradiction | rfl) (by first | with_reducible rfl | (simp only [sp_load, sp_loadAt, sp_add, sp_sub, pU, c5, c22]; done) | (simp only [sp_load, sp_loadAt, sp_add, sp_sub, pU, c5, if_pos c22, if_neg (not_not_intro c22)]; done) | (simp [sp_load, sp_loadAt, sp_add, sp_sub, pU, c5, c22]; done) | (simp [sp_load, sp_loadAt, sp_add, sp_sub, pU, c5, if_pos c22, if_neg (not_not_intro c22)]; done) | contradiction | rfl)
    · skip
      refine ka_ldc hC ka_q_cn_X3_140 dX3_loadWagon_25 ?_
      exact ka_iret hC hR dX3_loadWagon_27 (by first | with_reducible rfl | (simp only [sp_load, sp_loadAt, sp_add, sp_sub, pU, c5, c22]; done) | (simp only [sp_load, sp_loadAt, sp_add, sp_sub, pU, c5, if_neg c22, if_pos c22]; done) | (simp [sp_load, sp_loadAt, sp_add, sp_sub, pU, c5, c22]; done) | (simp [sp_load, sp_loadAt, sp_add, sp_sub, pU, c5, if_neg c22, if_pos c22]; done) | contradiction | rfl) (by first | with_reducible rfl | (simp only [sp_load, sp_loadAt, sp_add, sp_sub, pU, c5, c22]; done) | (simp only [sp_load, sp_loadAt, sp_add, sp_sub, pU, c5, if_neg c22, if_pos c22]; done) | (simp [sp_load, sp_loadAt, sp_add, sp_sub, pU, c5, c22]; done) | (simp [sp_load, sp_loadAt, sp_add, sp_sub, pU, c5, if_neg c22, if_pos c22]; done) | contradiction | rfl)
  · skip
    refine ka_ldc hC ka_q_cn_X3_99 dX3_loadWagon_8 ?_
    exact ka_iret hC hR dX3_loadWagon_10 (by first | with_reducible rfl | (simp only [sp_load, sp_loadAt, sp_add, sp_sub, pU, c5]; done) | (simp only [sp_load, sp_loadAt, sp_add, sp_sub, pU, c5]; done) | (simp [sp_load, sp_loadAt, sp_add, sp_sub, pU, c5]; done) | (simp [sp_load, sp_loadAt, sp_add, sp_sub, pU, c5]; done) | contradiction | rfl) (by first | with_reducible rfl | (simp only [sp_load, sp_loadAt, sp_add, sp_sub, pU, c5]; done) | (simp only [sp_load, sp_loadAt, sp_add, sp_sub, pU, c5]; done) | (simp [sp_load, sp_loadAt, sp_add, sp_sub, pU, c5]; done) | (simp [sp_load, sp_loadAt, sp_add, sp_sub, pU, c5]; done) | contradiction | rfl)
theorem ky_X3_unloadWagon : ka_y yX3_unloadWagon 1 := by unfold ka_y; decide +kernel
set_option maxHeartbeats 4000000 in
set_option maxRecDepth 100000 in
theorem m_X3_unloadWagon {G : ka_G} (hG : ka_AD G) {V : ka_W} {r : Nat} (hr : r < 6) {P : ka_P} {x : Int32}  : ka_M G yX3_unloadWagon cX3_unloadWagon 5 (some FieldType.int) 2 [.ref (ka_ad G r 0), .int x] (ka_sp V r P) (some (.int ((sp_unload P x).1))) (ka_sp V r (sp_unload P x).2) := by
  refine ka_entry hG ka_pn_X3 (ka_cat1 rfl) (Nat.le_of_ble_eq_true rfl) (fun X hC hR => ?_)
  refine ka_aload_n hC dX3_unloadWagon_0 rfl ?_
  refine ka_iload_n hC dX3_unloadWagon_1 rfl ?_
  refine ka_callV hC (m_X3_isWagon hG (by first | assumption | decide | exact wgIx_lt _ | exact plIx_lt _ | exact sp_recQ_lt | omega)) (ka_Rc_pool (by first | assumption | decide | exact wgIx_lt _ | exact plIx_lt _ | exact sp_recQ_lt | omega)) rfl ka_q_ml_X3_133 ka_q_im_X3_isWagon ka_q_se_X3_isWagon ka_q_in_X3 ka_q_co_X3_isWagon ky_X3_isWagon (by decide) (by decide) (Nat.le_of_ble_eq_true rfl) rfl dX3_unloadWagon_2 ?_
  refine ka_if_ne_b (tgt := 11) hC dX3_unloadWagon_5 (by decide) (fun c5 => ?_) (fun c5 => ?_)
  · skip
    refine ka_aload_n hC dX3_unloadWagon_11 rfl ?_
    refine ka_iload_n hC dX3_unloadWagon_12 rfl ?_
    refine ka_callV hC (m_X3_wagonAt hG (by first | assumption | decide | exact wgIx_lt _ | exact plIx_lt _ | exact sp_recQ_lt | omega)) (ka_Rc_pool (by first | assumption | decide | exact wgIx_lt _ | exact plIx_lt _ | exact sp_recQ_lt | omega)) rfl ka_q_ml_X3_119 ka_q_im_X3_wagonAt ka_q_se_X3_wagonAt ka_q_in_X3 ka_q_co_X3_wagonAt ky_X3_wagonAt (by decide) (by decide) (Nat.le_of_ble_eq_true rfl) rfl dX3_unloadWagon_13 ?_
    refine ka_astore_n_p2 hC dX3_unloadWagon_16 (by decide) ?_
    refine ka_aload_n hC dX3_unloadWagon_17 rfl ?_
    refine ka_callV hC (m_X5_isLoadedAtPort hG (by first | assumption | decide | exact wgIx_lt _ | exact plIx_lt _ | exact sp_recQ_lt | omega) (by first | assumption | decide | exact wgIx_lt _ | exact plIx_lt _ | exact sp_recQ_lt | omega)) (ka_Rc_wagon (by first | assumption | decide | exact wgIx_lt _ | exact plIx_lt _ | exact sp_recQ_lt | omega) (by first | assumption | decide | exact wgIx_lt _ | exact plIx_lt _ | exact sp_recQ_lt | omega)) rfl ka_q_ml_X3_161 ka_q_im_X5_isLoadedAtPort ka_q_se_X5_isLoadedAtPort ka_q_in_X5 ka_q_co_X5_isLoadedAtPort ky_X5_isLoadedAtPort (by decide) (by decide) (Nat.le_of_ble_eq_true rfl) rfl dX3_unloadWagon_18 ?_
    refine ka_if_ne_b (tgt := 27) hC dX3_unloadWagon_21 (by decide) (fun c21 => ?_) (fun c21 => ?_)
    · skip
      refine ka_aload_n hC dX3_unloadWagon_27 rfl ?_
      refine ka_iconst (v := 0) hC dX3_unloadWagon_28 rfl ?_
      refine kpp_X3_147 (by first | assumption | decide | exact wgIx_lt _ | exact plIx_lt _ | exact sp_recQ_lt | omega) (by first | assumption | decide | exact wgIx_lt _ | exact plIx_lt _ | exact sp_recQ_lt | omega) (b := false) rfl hC dX3_unloadWagon_29 ?_
      refine ka_aload_n hC dX3_unloadWagon_32 rfl ?_
      refine ka_aload_n hC dX3_unloadWagon_33 rfl ?_
      refine kgp_X3_65 (by first | assumption | decide | exact wgIx_lt _ | exact plIx_lt _ | exact sp_recQ_lt | omega) hC dX3_unloadWagon_34 ?_
      refine ka_callV hC (m_X5_standFrom hG (by first | assumption | decide | exact wgIx_lt _ | exact plIx_lt _ | exact sp_recQ_lt | omega) (by first | assumption | decide | exact wgIx_lt _ | exact plIx_lt _ | exact sp_recQ_lt | omega)) (ka_Rc_wagon (by first | assumption | decide | exact wgIx_lt _ | exact plIx_lt _ | exact sp_recQ_lt | omega) (by first | assumption | decide | exact wgIx_lt _ | exact plIx_lt _ | exact sp_recQ_lt | omega)) rfl ka_q_ml_X3_129 ka_q_im_X5_standFrom ka_q_se_X5_standFrom ka_q_in_X5 ka_q_co_X5_standFrom ky_X5_standFrom (by decide) (by decide) (Nat.le_of_ble_eq_true rfl) rfl dX3_unloadWagon_37 ?_
      refine ka_aload_n hC dX3_unloadWagon_40 rfl ?_
      refine ka_iconst (v := 0) hC dX3_unloadWagon_41 rfl ?_
      refine ka_callV hC (m_X3_placeAt hG (by first | assumption | decide | exact wgIx_lt _ | exact plIx_lt _ | exact sp_recQ_lt | omega)) (ka_Rc_pool (by first | assumption | decide | exact wgIx_lt _ | exact plIx_lt _ | exact sp_recQ_lt | omega)) rfl ka_q_ml_X3_85 ka_q_im_X3_placeAt ka_q_se_X3_placeAt ka_q_in_X3 ka_q_co_X3_placeAt ky_X3_placeAt (by decide) (by decide) (Nat.le_of_ble_eq_true rfl) rfl dX3_unloadWagon_42 ?_
      refine ka_astore_n_p3 hC dX3_unloadWagon_45 (by decide) ?_
      refine ka_aload_n hC dX3_unloadWagon_46 rfl ?_
      refine ka_aload_n hC dX3_unloadWagon_47 rfl ?_
      refine kgp_X3_123 (by first | assumption | decide | exact wgIx_lt _ | exact plIx_lt _ | exact sp_recQ_lt | omega) (by first | assumption | decide | exact wgIx_lt _ | exact plIx_lt _ | exact sp_recQ_lt | omega) hC dX3_unloadWagon_48 ?_
      refine ka_callV hC (m_X3_placeAt hG (by first | assumption | decide | exact wgIx_lt _ | exact plIx_lt _ | exact sp_recQ_lt | omega)) (ka_Rc_pool (by first | assumption | decide | exact wgIx_lt _ | exact plIx_lt _ | exact sp_recQ_lt | omega)) rfl ka_q_ml_X3_85 ka_q_im_X3_placeAt ka_q_se_X3_placeAt ka_q_in_X3 ka_q_co_X3_placeAt ky_X3_placeAt (by decide) (by decide) (Nat.le_of_ble_eq_true rfl) rfl dX3_unloadWagon_51 ?_
      refine ka_astore_p4 hC dX3_unloadWagon_54 (by decide) ?_
      refine ka_aload_n hC dX3_unloadWagon_56 rfl ?_
      refine ka_dup hC dX3_unloadWagon_57 rfl ?_
      refine kgp_X3_144 (by first | assumption | decide | exact wgIx_lt _ | exact plIx_lt _ | exact sp_recQ_lt | omega) (by first | assumption | decide | exact wgIx_lt _ | exact plIx_lt _ | exact sp_recQ_lt | omega) hC dX3_unloadWagon_58 ?_
      refine ka_bipush (v := 30) hC dX3_unloadWagon_61 rfl ?_
      refine ka_iadd hC dX3_unloadWagon_63 ?_
      refine kpp_X3_144 (by first | assumption | decide | exact wgIx_lt _ | exact plIx_lt _ | exact sp_recQ_lt | omega) (by first | assumption | decide | exact wgIx_lt _ | exact plIx_lt _ | exact sp_recQ_lt | omega) hC dX3_unloadWagon_64 ?_
      refine ka_aload_n hC dX3_unloadWagon_67 rfl ?_
      refine ka_aload hC dX3_unloadWagon_68 rfl ?_
      refine ka_bipush (v := 30) hC dX3_unloadWagon_70 rfl ?_
      refine ka_aload_n hC dX3_unloadWagon_72 rfl ?_
      refine ka_iconst (v := 4) hC dX3_unloadWagon_73 rfl ?_
      refine ka_callV hC (m_X3_setting hG (by first | assumption | decide | exact wgIx_lt _ | exact plIx_lt _ | exact sp_recQ_lt | omega)) (ka_Rc_pool (by first | assumption | decide | exact wgIx_lt _ | exact plIx_lt _ | exact sp_recQ_lt | omega)) rfl ka_q_ml_X3_95 ka_q_im_X3_setting ka_q_se_X3_setting ka_q_in_X3 ka_q_co_X3_setting ky_X3_setting (by decide) (by decide) (Nat.le_of_ble_eq_true rfl) rfl dX3_unloadWagon_74 ?_
      refine ka_imul hC dX3_unloadWagon_77 ?_
      refine ka_callV hC (m_X2_pay hG (by first | assumption | decide | exact wgIx_lt _ | exact plIx_lt _ | exact sp_recQ_lt | omega) (by first | assumption | decide | exact wgIx_lt _ | exact plIx_lt _ | exact sp_recQ_lt | omega) (by first | assumption | decide | exact wgIx_lt _ | exact plIx_lt _ | exact sp_recQ_lt | omega)) (ka_Rc_place (by first | assumption | decide | exact wgIx_lt _ | exact plIx_lt _ | exact sp_recQ_lt | omega) (by first | assumption | decide | exact wgIx_lt _ | exact plIx_lt _ | exact sp_recQ_lt | omega)) rfl ka_q_ml_X3_165 ka_q_im_X2_pay ka_q_se_X2_pay ka_q_in_X2 ka_q_co_X2_pay ky_X2_pay (by decide) (by decide) (Nat.le_of_ble_eq_true rfl) rfl dX3_unloadWagon_78 ?_
      refine ka_aload hC dX3_unloadWagon_81 rfl ?_
      refine kgp_X3_89 (by first | assumption | decide | exact wgIx_lt _ | exact plIx_lt _ | exact sp_recQ_lt | omega) (by first | assumption | decide | exact wgIx_lt _ | exact plIx_lt _ | exact sp_recQ_lt | omega) hC dX3_unloadWagon_83 ?_
      exact ka_iret hC hR dX3_unloadWagon_86 (by first | with_reducible rfl | (simp only [sp_unload, sp_unload2, sp_unloadAt, sp_add, sp_sub, pU, c5, c21]; done) | (simp only [sp_unload, sp_unload2, sp_unloadAt, sp_add, sp_sub, pU, c5, c21]; done) | (simp [sp_unload, sp_unload2, sp_unloadAt, sp_add, sp_sub, pU, c5, c21]; done) | (simp [sp_unload, sp_unload2, sp_unloadAt, sp_add, sp_sub, pU, c5, c21]; done) | contradiction | rfl) (by first | with_reducible rfl | (simp only [sp_unload, sp_unload2, sp_unloadAt, sp_add, sp_sub, pU, c5, c21]; done) | (simp only [sp_unload, sp_unload2, sp_unloadAt, sp_add, sp_sub, pU, c5, c21]; done) | (simp [sp_unload, sp_unload2, sp_unloadAt, sp_add, sp_sub, pU, c5, c21]; done) | (simp [sp_unload, sp_unload2, sp_unloadAt, sp_add, sp_sub, pU, c5, c21]; done) | contradiction | rfl)
    · skip
      refine ka_ldc hC ka_q_cn_X3_140 dX3_unloadWagon_24 ?_
      exact ka_iret hC hR dX3_unloadWagon_26 (by first | with_reducible rfl | (simp only [sp_unload, sp_unload2, sp_unloadAt, sp_add, sp_sub, pU, c5, c21]; done) | (simp only [sp_unload, sp_unload2, sp_unloadAt, sp_add, sp_sub, pU, c5, c21]; done) | (simp [sp_unload, sp_unload2, sp_unloadAt, sp_add, sp_sub, pU, c5, c21]; done) | (simp [sp_unload, sp_unload2, sp_unloadAt, sp_add, sp_sub, pU, c5, c21]; done) | contradiction | rfl) (by first | with_reducible rfl | (simp only [sp_unload, sp_unload2, sp_unloadAt, sp_add, sp_sub, pU, c5, c21]; done) | (simp only [sp_unload, sp_unload2, sp_unloadAt, sp_add, sp_sub, pU, c5, c21]; done) | (simp [sp_unload, sp_unload2, sp_unloadAt, sp_add, sp_sub, pU, c5, c21]; done) | (simp [sp_unload, sp_unload2, sp_unloadAt, sp_add, sp_sub, pU, c5, c21]; done) | contradiction | rfl)
  · skip
    refine ka_ldc hC ka_q_cn_X3_99 dX3_unloadWagon_8 ?_
    exact ka_iret hC hR dX3_unloadWagon_10 (by first | with_reducible rfl | (simp only [sp_unload, sp_unload2, sp_unloadAt, sp_add, sp_sub, pU, c5]; done) | (simp only [sp_unload, sp_unload2, sp_unloadAt, sp_add, sp_sub, pU, c5]; done) | (simp [sp_unload, sp_unload2, sp_unloadAt, sp_add, sp_sub, pU, c5]; done) | (simp [sp_unload, sp_unload2, sp_unloadAt, sp_add, sp_sub, pU, c5]; done) | contradiction | rfl) (by first | with_reducible rfl | (simp only [sp_unload, sp_unload2, sp_unloadAt, sp_add, sp_sub, pU, c5]; done) | (simp only [sp_unload, sp_unload2, sp_unloadAt, sp_add, sp_sub, pU, c5]; done) | (simp [sp_unload, sp_unload2, sp_unloadAt, sp_add, sp_sub, pU, c5]; done) | (simp [sp_unload, sp_unload2, sp_unloadAt, sp_add, sp_sub, pU, c5]; done) | contradiction | rfl)
theorem ky_X4_leave : ka_y yX4_leave 1 := by unfold ka_y; decide +kernel
set_option maxHeartbeats 4000000 in
set_option maxRecDepth 100000 in
theorem m_X4_leave {G : ka_G} (hG : ka_AD G) {V : ka_W} {r : Nat} (hr : r < 6) {P : ka_P} (j : Nat) (hj : j < 20)  : ka_M G yX4_leave cX4_leave 3 none 0 [.ref (ka_ad G r 30), .int (nI j)] (ka_sp V r P) none (ka_sp V r (sp_leave P j)) := by
  refine ka_entry hG ka_pn_X4 (ka_cat1 rfl) (Nat.le_of_ble_eq_true rfl) (fun X hC hR => ?_)
  refine ka_iload_n hC dX4_leave_0 rfl ?_
  refine ka_istore_n_p2 hC dX4_leave_1 (by decide) ?_
  suffices H2 : ∀ jj i : Nat, i ≤ sp_shifts P j → sp_shifts P j - i < jj → ka_I G X (ka_sp V r (ka_s2 P 31 (sp_shift (P 31) j i))) 2 [.ref (ka_ad G r 30), .int (nI j), .int (nI (j + i))] [] from ka_I.back 3 (by rw [sp_shift_0, ka_s2_self]) (by rfl) (H2 (sp_shifts P j + 1) 0 (Nat.zero_le _) (by omega))
  intro j2
  induction j2 with
  | zero => intro i h1 h2 ; exact absurd h2 (Nat.not_lt_zero _)
  | succ j2 ih2 =>
    intro i hle2 hlt2 
    refine ka_iload_n hC dX4_leave_2 rfl ?_
    refine ka_if_lt (tgt := 47) hC dX4_leave_3 (by decide) (fun c3 => absurd c3 (nI_pos (sp_shift_ok hj hle2))) (fun c3 => ?_)
    refine ka_iload_n hC dX4_leave_6 rfl ?_
    refine ka_iconst (v := 1) hC dX4_leave_7 rfl ?_
    refine ka_iadd hC dX4_leave_8 ?_
    refine ka_aload_n hC dX4_leave_9 rfl ?_
    refine kgp_X4_21 (by first | assumption | decide | exact wgIx_lt _ | exact plIx_lt _ | exact sp_recQ_lt | omega) hC dX4_leave_10 ?_
    refine ka_icmp_ge (tgt := 47) hC dX4_leave_13 (by decide) (fun c13 => ?_) (fun c13 => ?_)
    · skip
      obtain rfl : i = sp_shifts P j := sp_shift_e1 hj hle2 c13
      refine ka_aload_n hC dX4_leave_47 rfl ?_
      refine ka_dup hC dX4_leave_48 rfl ?_
      refine kgp_X4_21 (by first | assumption | decide | exact wgIx_lt _ | exact plIx_lt _ | exact sp_recQ_lt | omega) hC dX4_leave_49 ?_
      refine ka_iconst (v := 1) hC dX4_leave_52 rfl ?_
      refine ka_isub hC dX4_leave_53 ?_
      refine kpp_X4_21 (by first | assumption | decide | exact wgIx_lt _ | exact plIx_lt _ | exact sp_recQ_lt | omega) hC dX4_leave_54 ?_
      exact ka_vret hC hR dX4_leave_57 rfl (by first | with_reducible rfl | (simp only [sp_leave, sp_sub, pU, ka_s2, sp_shift_0, c3, c13]; done) | (simp only [sp_leave, sp_sub, pU, ka_s2, sp_shift_0, if_neg c3, if_pos c3, if_neg c13, if_pos c13]; done) | (simp [sp_leave, sp_sub, pU, ka_s2, sp_shift_0, c3, c13]; done) | (simp [sp_leave, sp_sub, pU, ka_s2, sp_shift_0, if_neg c3, if_pos c3, if_neg c13, if_pos c13]; done) | contradiction | rfl)
    · skip
      refine ka_iload_n hC dX4_leave_16 rfl ?_
      refine ka_iconst (v := 1) hC dX4_leave_17 rfl ?_
      refine ka_iadd hC dX4_leave_18 ?_
      refine ka_aload_n hC dX4_leave_19 rfl ?_
      refine kg_X4_9 (by first | assumption | decide | exact wgIx_lt _ | exact plIx_lt _ | exact sp_recQ_lt | omega) hC dX4_leave_20 ?_
      refine kl_queue (by first | assumption | decide | exact wgIx_lt _ | exact plIx_lt _ | exact sp_recQ_lt | omega) hC dX4_leave_23 ?_
      refine ka_icmp_ge (tgt := 47) hC dX4_leave_24 (by decide) (fun c24 => ?_) (fun c24 => ?_)
      · skip
        obtain rfl : i = sp_shifts P j := sp_shift_e2 hj hle2 c24
        refine ka_aload_n hC dX4_leave_47 rfl ?_
        refine ka_dup hC dX4_leave_48 rfl ?_
        refine kgp_X4_21 (by first | assumption | decide | exact wgIx_lt _ | exact plIx_lt _ | exact sp_recQ_lt | omega) hC dX4_leave_49 ?_
        refine ka_iconst (v := 1) hC dX4_leave_52 rfl ?_
        refine ka_isub hC dX4_leave_53 ?_
        refine kpp_X4_21 (by first | assumption | decide | exact wgIx_lt _ | exact plIx_lt _ | exact sp_recQ_lt | omega) hC dX4_leave_54 ?_
        exact ka_vret hC hR dX4_leave_57 rfl (by first | with_reducible rfl | (simp only [sp_leave, sp_sub, pU, ka_s2, sp_shift_0, c3, c13, c24]; done) | (simp only [sp_leave, sp_sub, pU, ka_s2, sp_shift_0, if_neg c3, if_pos c3, if_pos c13, if_neg (not_not_intro c13), if_neg c24, if_pos c24]; done) | (simp [sp_leave, sp_sub, pU, ka_s2, sp_shift_0, c3, c13, c24]; done) | (simp [sp_leave, sp_sub, pU, ka_s2, sp_shift_0, if_neg c3, if_pos c3, if_pos c13, if_neg (not_not_intro c13), if_neg c24, if_pos c24]; done) | contradiction | rfl)
      · skip
        have h20 := sp_shift_20 hj hle2 c24
        have hi : i < sp_shifts P j := sp_shift_lt hj hle2 c13 c24
        refine ka_aload_n hC dX4_leave_27 rfl ?_
        refine kg_X4_9 (by first | assumption | decide | exact wgIx_lt _ | exact plIx_lt _ | exact sp_recQ_lt | omega) hC dX4_leave_28 ?_
        refine ka_iload_n hC dX4_leave_31 rfl ?_
        refine ka_aload_n hC dX4_leave_32 rfl ?_
        refine kg_X4_9 (by first | assumption | decide | exact wgIx_lt _ | exact plIx_lt _ | exact sp_recQ_lt | omega) hC dX4_leave_33 ?_
        refine ka_iload_n hC dX4_leave_36 rfl ?_
        refine ka_iconst (v := 1) hC dX4_leave_37 rfl ?_
        refine ka_iadd hC dX4_leave_38 ?_
        refine kin_queue (by first | assumption | decide | exact wgIx_lt _ | exact plIx_lt _ | exact sp_recQ_lt | omega) (j + i + 1) h20 (nI_1 _) hC dX4_leave_39 ?_
        refine ksn_queue (by first | assumption | decide | exact wgIx_lt _ | exact plIx_lt _ | exact sp_recQ_lt | omega) (j + i) (by omega) rfl hC dX4_leave_40 ?_
        refine ka_iinc_2 (v := 1) hC dX4_leave_41 rfl (by decide) ?_
        refine ka_goto (tgt := 2) hC dX4_leave_44 (by decide) ?_
        exact ka_I.back 3 (by rw [← sp_shift_s, ka_s2_s2, ka_s2_s]) (by rw [nI_1, Nat.add_assoc]; rfl) (ih2 (i + 1) (by omega) (by omega))
theorem ky_X3_beginRepairs : ka_y yX3_beginRepairs 0 := by unfold ka_y; decide +kernel
set_option maxHeartbeats 4000000 in
set_option maxRecDepth 100000 in
theorem m_X3_beginRepairs {G : ka_G} (hG : ka_AD G) {V : ka_W} {r : Nat} (hr : r < 6) {P : ka_P}  : ka_M G yX3_beginRepairs cX3_beginRepairs 3 none 1 [.ref (ka_ad G r 0)] (ka_sp V r P) none (ka_sp V r (sp_begins P)) := by
  refine ka_entry hG ka_pn_X3 (ka_cat1 rfl) (Nat.le_of_ble_eq_true rfl) (fun X hC hR => ?_)
  refine ka_iconst (v := 0) hC dX3_beginRepairs_0 rfl ?_
  refine ka_istore_n_p1 hC dX3_beginRepairs_1 (by decide) ?_
  suffices H2 : ∀ jj i : Nat, i ≤ cn (sp_atWork P) → cn (sp_atWork P) - i < jj → ka_I G X (ka_sp V r (sp_beginX P i)) 2 [.ref (ka_ad G r 0), .int (nI i)] [] from ka_I.back 2 (by first | with_reducible rfl | (simp only [sp_begins, sp_beginX_0, sp_beginX_s, sp_beginAt, pU, nI_1]; done) | (simp only [sp_begins, sp_beginX_0, sp_beginX_s, sp_beginAt, pU, nI_1]; done) | (simp [sp_begins, sp_beginX_0, sp_beginX_s, sp_beginAt, pU, nI_1]; done) | (simp [sp_begins, sp_beginX_0, sp_beginX_s, sp_beginAt, pU, nI_1]; done) | contradiction | rfl) (by first | with_reducible rfl | (simp only [sp_begins, sp_beginX_0, sp_beginX_s, sp_beginAt, pU, nI_1]; done) | (simp only [sp_begins, sp_beginX_0, sp_beginX_s, sp_beginAt, pU, nI_1]; done) | (simp [sp_begins, sp_beginX_0, sp_beginX_s, sp_beginAt, pU, nI_1]; done) | (simp [sp_begins, sp_beginX_0, sp_beginX_s, sp_beginAt, pU, nI_1]; done) | contradiction | rfl) (H2 (cn (sp_atWork P) + 1) 0 (by omega) (by omega))
  intro j2
  induction j2 with
  | zero => intro i h1 h2 ; exact absurd h2 (Nat.not_lt_zero _)
  | succ j2 ih2 =>
    intro i hle2 hlt2 
    refine ka_iload_n hC dX3_beginRepairs_2 rfl ?_
    refine ka_aload_n hC dX3_beginRepairs_3 rfl ?_
    refine kg_X3_38 (by first | assumption | decide | exact wgIx_lt _ | exact plIx_lt _ | exact sp_recQ_lt | omega) hC dX3_beginRepairs_4 ?_
    refine ka_callV hC (m_X4_atWork hG (by first | assumption | decide | exact wgIx_lt _ | exact plIx_lt _ | exact sp_recQ_lt | omega)) (ka_Rc_shop (by first | assumption | decide | exact wgIx_lt _ | exact plIx_lt _ | exact sp_recQ_lt | omega)) rfl ka_q_ml_X3_218 ka_q_im_X4_atWork ka_q_se_X4_atWork ka_q_in_X4 ka_q_co_X4_atWork ky_X4_atWork (by decide) (by decide) (Nat.le_of_ble_eq_true rfl) rfl dX3_beginRepairs_7 ?_
    refine ka_icmp_ge (tgt := 55) hC dX3_beginRepairs_10 (by decide) (fun c10 => ?_) (fun c10 => ?_)
    · skip
      rw [sp_atWork_beginX] at c10
      obtain rfl : i = cn (sp_atWork P) := nlt_cn hle2 c10
      exact ka_vret hC hR dX3_beginRepairs_55 rfl (by first | with_reducible rfl | (simp only [sp_begins, sp_beginX_0, sp_beginX_s, sp_beginAt, pU, nI_1, c10]; done) | (simp only [sp_begins, sp_beginX_0, sp_beginX_s, sp_beginAt, pU, nI_1, if_neg c10, if_pos c10]; done) | (simp [sp_begins, sp_beginX_0, sp_beginX_s, sp_beginAt, pU, nI_1, c10]; done) | (simp [sp_begins, sp_beginX_0, sp_beginX_s, sp_beginAt, pU, nI_1, if_neg c10, if_pos c10]; done) | contradiction | rfl)
    · skip
      rw [sp_atWork_beginX] at c10
      have hi : i < cn (sp_atWork P) := lt_cn hle2 c10
      refine ka_aload_n hC dX3_beginRepairs_13 rfl ?_
      refine ka_aload_n hC dX3_beginRepairs_14 rfl ?_
      refine kg_X3_38 (by first | assumption | decide | exact wgIx_lt _ | exact plIx_lt _ | exact sp_recQ_lt | omega) hC dX3_beginRepairs_15 ?_
      refine ka_iload_n hC dX3_beginRepairs_18 rfl ?_
      refine ka_callV hC (m_X4_numberAt hG (by first | assumption | decide | exact wgIx_lt _ | exact plIx_lt _ | exact sp_recQ_lt | omega)) (ka_Rc_shop (by first | assumption | decide | exact wgIx_lt _ | exact plIx_lt _ | exact sp_recQ_lt | omega)) rfl ka_q_ml_X3_221 ka_q_im_X4_numberAt ka_q_se_X4_numberAt ka_q_in_X4 ka_q_co_X4_numberAt ky_X4_numberAt (by decide) (by decide) (Nat.le_of_ble_eq_true rfl) rfl dX3_beginRepairs_19 ?_
      refine ka_callV hC (m_X3_wagonAt hG (by first | assumption | decide | exact wgIx_lt _ | exact plIx_lt _ | exact sp_recQ_lt | omega)) (ka_Rc_pool (by first | assumption | decide | exact wgIx_lt _ | exact plIx_lt _ | exact sp_recQ_lt | omega)) rfl ka_q_ml_X3_119 ka_q_im_X3_wagonAt ka_q_se_X3_wagonAt ka_q_in_X3 ka_q_co_X3_wagonAt ky_X3_wagonAt (by decide) (by decide) (Nat.le_of_ble_eq_true rfl) rfl dX3_beginRepairs_22 ?_
      refine ka_astore_n_p2 hC dX3_beginRepairs_25 (by decide) ?_
      refine ka_aload_n hC dX3_beginRepairs_26 rfl ?_
      refine kgp_X3_176 (by first | assumption | decide | exact wgIx_lt _ | exact plIx_lt _ | exact sp_recQ_lt | omega) (by first | assumption | decide | exact wgIx_lt _ | exact plIx_lt _ | exact sp_recQ_lt | omega) hC dX3_beginRepairs_27 ?_
      refine ka_iconst (v := (-1)) hC dX3_beginRepairs_30 rfl ?_
      refine ka_icmp_ne (tgt := 49) hC dX3_beginRepairs_31 (by decide) (fun c31 => ?_) (fun c31 => ?_)
      · skip
        refine ka_iinc_1 (v := 1) hC dX3_beginRepairs_49 rfl (by decide) ?_
        refine ka_goto (tgt := 2) hC dX3_beginRepairs_52 (by decide) ?_
        exact ka_I.back 2 (by first | with_reducible rfl | (simp only [sp_begins, sp_beginX_0, sp_beginX_s, sp_beginAt, pU, nI_1, c10, c31]; done) | (simp only [sp_begins, sp_beginX_0, sp_beginX_s, sp_beginAt, pU, nI_1, if_pos c10, if_neg (not_not_intro c10), if_neg c31, if_pos c31]; done) | (simp [sp_begins, sp_beginX_0, sp_beginX_s, sp_beginAt, pU, nI_1, c10, c31]; done) | (simp [sp_begins, sp_beginX_0, sp_beginX_s, sp_beginAt, pU, nI_1, if_pos c10, if_neg (not_not_intro c10), if_neg c31, if_pos c31]; done) | contradiction | rfl) (by first | with_reducible rfl | (simp only [sp_begins, sp_beginX_0, sp_beginX_s, sp_beginAt, pU, nI_1, c10, c31]; done) | (simp only [sp_begins, sp_beginX_0, sp_beginX_s, sp_beginAt, pU, nI_1, if_pos c10, if_neg (not_not_intro c10), if_neg c31, if_pos c31]; done) | (simp [sp_begins, sp_beginX_0, sp_beginX_s, sp_beginAt, pU, nI_1, c10, c31]; done) | (simp [sp_begins, sp_beginX_0, sp_beginX_s, sp_beginAt, pU, nI_1, if_pos c10, if_neg (not_not_intro c10), if_neg c31, if_pos c31]; done) | contradiction | rfl) (ih2 (i + 1) (by omega) (by omega))
      · skip
        refine ka_aload_n hC dX3_beginRepairs_34 rfl ?_
        refine ka_aload_n hC dX3_beginRepairs_35 rfl ?_
        refine kgp_X3_65 (by first | assumption | decide | exact wgIx_lt _ | exact plIx_lt _ | exact sp_recQ_lt | omega) hC dX3_beginRepairs_36 ?_
        refine ka_aload_n hC dX3_beginRepairs_39 rfl ?_
        refine ka_bipush (v := 6) hC dX3_beginRepairs_40 rfl ?_
        refine ka_callV hC (m_X3_setting hG (by first | assumption | decide | exact wgIx_lt _ | exact plIx_lt _ | exact sp_recQ_lt | omega)) (ka_Rc_pool (by first | assumption | decide | exact wgIx_lt _ | exact plIx_lt _ | exact sp_recQ_lt | omega)) rfl ka_q_ml_X3_95 ka_q_im_X3_setting ka_q_se_X3_setting ka_q_in_X3 ka_q_co_X3_setting ky_X3_setting (by decide) (by decide) (Nat.le_of_ble_eq_true rfl) rfl dX3_beginRepairs_42 ?_
        refine ka_iadd hC dX3_beginRepairs_45 ?_
        refine kpp_X3_176 (by first | assumption | decide | exact wgIx_lt _ | exact plIx_lt _ | exact sp_recQ_lt | omega) (by first | assumption | decide | exact wgIx_lt _ | exact plIx_lt _ | exact sp_recQ_lt | omega) hC dX3_beginRepairs_46 ?_
        refine ka_iinc_1 (v := 1) hC dX3_beginRepairs_49 rfl (by decide) ?_
        refine ka_goto (tgt := 2) hC dX3_beginRepairs_52 (by decide) ?_
        exact ka_I.back 2 (by first | with_reducible rfl | (simp only [sp_begins, sp_beginX_0, sp_beginX_s, sp_beginAt, pU, nI_1, c10, c31]; done) | (simp only [sp_begins, sp_beginX_0, sp_beginX_s, sp_beginAt, pU, nI_1, if_pos c10, if_neg (not_not_intro c10), if_pos c31, if_neg (not_not_intro c31)]; done) | (simp [sp_begins, sp_beginX_0, sp_beginX_s, sp_beginAt, pU, nI_1, c10, c31]; done) | (simp [sp_begins, sp_beginX_0, sp_beginX_s, sp_beginAt, pU, nI_1, if_pos c10, if_neg (not_not_intro c10), if_pos c31, if_neg (not_not_intro c31)]; done) | contradiction | rfl) (by first | with_reducible rfl | (simp only [sp_begins, sp_beginX_0, sp_beginX_s, sp_beginAt, pU, nI_1, c10, c31]; done) | (simp only [sp_begins, sp_beginX_0, sp_beginX_s, sp_beginAt, pU, nI_1, if_pos c10, if_neg (not_not_intro c10), if_pos c31, if_neg (not_not_intro c31)]; done) | (simp [sp_begins, sp_beginX_0, sp_beginX_s, sp_beginAt, pU, nI_1, c10, c31]; done) | (simp [sp_begins, sp_beginX_0, sp_beginX_s, sp_beginAt, pU, nI_1, if_pos c10, if_neg (not_not_intro c10), if_pos c31, if_neg (not_not_intro c31)]; done) | contradiction | rfl) (ih2 (i + 1) (by omega) (by omega))
theorem ky_X3_repairWagon : ka_y yX3_repairWagon 1 := by unfold ka_y; decide +kernel
set_option maxHeartbeats 4000000 in
set_option maxRecDepth 100000 in
theorem m_X3_repairWagon {G : ka_G} (hG : ka_AD G) {V : ka_W} {r : Nat} (hr : r < 6) {P : ka_P} {x : Int32}  : ka_M G yX3_repairWagon cX3_repairWagon 4 (some FieldType.int) 2 [.ref (ka_ad G r 0), .int x] (ka_sp V r P) (some (.int ((sp_repair P x).1))) (ka_sp V r (sp_repair P x).2) := by
  refine ka_entry hG ka_pn_X3 (ka_cat1 rfl) (Nat.le_of_ble_eq_true rfl) (fun X hC hR => ?_)
  refine ka_aload_n hC dX3_repairWagon_0 rfl ?_
  refine ka_iload_n hC dX3_repairWagon_1 rfl ?_
  refine ka_callV hC (m_X3_isWagon hG (by first | assumption | decide | exact wgIx_lt _ | exact plIx_lt _ | exact sp_recQ_lt | omega)) (ka_Rc_pool (by first | assumption | decide | exact wgIx_lt _ | exact plIx_lt _ | exact sp_recQ_lt | omega)) rfl ka_q_ml_X3_133 ka_q_im_X3_isWagon ka_q_se_X3_isWagon ka_q_in_X3 ka_q_co_X3_isWagon ky_X3_isWagon (by decide) (by decide) (Nat.le_of_ble_eq_true rfl) rfl dX3_repairWagon_2 ?_
  refine ka_if_ne_b (tgt := 11) hC dX3_repairWagon_5 (by decide) (fun c5 => ?_) (fun c5 => ?_)
  · skip
    refine ka_aload_n hC dX3_repairWagon_11 rfl ?_
    refine ka_iload_n hC dX3_repairWagon_12 rfl ?_
    refine ka_callV hC (m_X3_wagonAt hG (by first | assumption | decide | exact wgIx_lt _ | exact plIx_lt _ | exact sp_recQ_lt | omega)) (ka_Rc_pool (by first | assumption | decide | exact wgIx_lt _ | exact plIx_lt _ | exact sp_recQ_lt | omega)) rfl ka_q_ml_X3_119 ka_q_im_X3_wagonAt ka_q_se_X3_wagonAt ka_q_in_X3 ka_q_co_X3_wagonAt ky_X3_wagonAt (by decide) (by decide) (Nat.le_of_ble_eq_true rfl) rfl dX3_repairWagon_13 ?_
    refine ka_astore_n_p2 hC dX3_repairWagon_16 (by decide) ?_
    refine ka_aload_n hC dX3_repairWagon_17 rfl ?_
    refine kgp_X3_147 (by first | assumption | decide | exact wgIx_lt _ | exact plIx_lt _ | exact sp_recQ_lt | omega) (by first | assumption | decide | exact wgIx_lt _ | exact plIx_lt _ | exact sp_recQ_lt | omega) hC dX3_repairWagon_18 ?_
    refine ka_if_ne_b (tgt := 32) hC dX3_repairWagon_21 (by decide) (fun c21 => ?_) (fun c21 => ?_)
    · skip
      refine ka_ldc hC ka_q_cn_X3_140 dX3_repairWagon_32 ?_
      exact ka_iret hC hR dX3_repairWagon_34 (by first | with_reducible rfl | (simp only [sp_repair, sp_repairAt, sp_full, pU, c5, c21]; done) | (simp only [sp_repair, sp_repairAt, sp_full, pU, c5, c21]; done) | (simp [sp_repair, sp_repairAt, sp_full, pU, c5, c21]; done) | (simp [sp_repair, sp_repairAt, sp_full, pU, c5, c21]; done) | contradiction | rfl) (by first | with_reducible rfl | (simp only [sp_repair, sp_repairAt, sp_full, pU, c5, c21]; done) | (simp only [sp_repair, sp_repairAt, sp_full, pU, c5, c21]; done) | (simp [sp_repair, sp_repairAt, sp_full, pU, c5, c21]; done) | (simp [sp_repair, sp_repairAt, sp_full, pU, c5, c21]; done) | contradiction | rfl)
    · skip
      refine ka_aload_n hC dX3_repairWagon_24 rfl ?_
      refine ka_iconst (v := 0) hC dX3_repairWagon_25 rfl ?_
      refine ka_callV hC (m_X5_standsAt hG (by first | assumption | decide | exact wgIx_lt _ | exact plIx_lt _ | exact sp_recQ_lt | omega) (by first | assumption | decide | exact wgIx_lt _ | exact plIx_lt _ | exact sp_recQ_lt | omega)) (ka_Rc_wagon (by first | assumption | decide | exact wgIx_lt _ | exact plIx_lt _ | exact sp_recQ_lt | omega) (by first | assumption | decide | exact wgIx_lt _ | exact plIx_lt _ | exact sp_recQ_lt | omega)) rfl ka_q_ml_X3_169 ka_q_im_X5_standsAt ka_q_se_X5_standsAt ka_q_in_X5 ka_q_co_X5_standsAt ky_X5_standsAt (by decide) (by decide) (Nat.le_of_ble_eq_true rfl) rfl dX3_repairWagon_26 ?_
      refine ka_if_ne_b (tgt := 35) hC dX3_repairWagon_29 (by decide) (fun c29 => ?_) (fun c29 => ?_)
      · skip
        refine ka_aload_n hC dX3_repairWagon_35 rfl ?_
        refine ka_aload_n hC dX3_repairWagon_36 rfl ?_
        refine kgp_X3_123 (by first | assumption | decide | exact wgIx_lt _ | exact plIx_lt _ | exact sp_recQ_lt | omega) (by first | assumption | decide | exact wgIx_lt _ | exact plIx_lt _ | exact sp_recQ_lt | omega) hC dX3_repairWagon_37 ?_
        refine ka_callV hC (m_X3_placeAt hG (by first | assumption | decide | exact wgIx_lt _ | exact plIx_lt _ | exact sp_recQ_lt | omega)) (ka_Rc_pool (by first | assumption | decide | exact wgIx_lt _ | exact plIx_lt _ | exact sp_recQ_lt | omega)) rfl ka_q_ml_X3_85 ka_q_im_X3_placeAt ka_q_se_X3_placeAt ka_q_in_X3 ka_q_co_X3_placeAt ky_X3_placeAt (by decide) (by decide) (Nat.le_of_ble_eq_true rfl) rfl dX3_repairWagon_40 ?_
        refine ka_aload_n hC dX3_repairWagon_43 rfl ?_
        refine ka_iconst (v := 0) hC dX3_repairWagon_44 rfl ?_
        refine ka_callV hC (m_X3_placeAt hG (by first | assumption | decide | exact wgIx_lt _ | exact plIx_lt _ | exact sp_recQ_lt | omega)) (ka_Rc_pool (by first | assumption | decide | exact wgIx_lt _ | exact plIx_lt _ | exact sp_recQ_lt | omega)) rfl ka_q_ml_X3_85 ka_q_im_X3_placeAt ka_q_se_X3_placeAt ka_q_in_X3 ka_q_co_X3_placeAt ky_X3_placeAt (by decide) (by decide) (Nat.le_of_ble_eq_true rfl) rfl dX3_repairWagon_45 ?_
        refine ka_aload_n hC dX3_repairWagon_48 rfl ?_
        refine ka_iconst (v := 5) hC dX3_repairWagon_49 rfl ?_
        refine ka_callV hC (m_X3_setting hG (by first | assumption | decide | exact wgIx_lt _ | exact plIx_lt _ | exact sp_recQ_lt | omega)) (ka_Rc_pool (by first | assumption | decide | exact wgIx_lt _ | exact plIx_lt _ | exact sp_recQ_lt | omega)) rfl ka_q_ml_X3_95 ka_q_im_X3_setting ka_q_se_X3_setting ka_q_in_X3 ka_q_co_X3_setting ky_X3_setting (by decide) (by decide) (Nat.le_of_ble_eq_true rfl) rfl dX3_repairWagon_50 ?_
        refine ka_callV hC (m_X2_pay hG (by first | assumption | decide | exact wgIx_lt _ | exact plIx_lt _ | exact sp_recQ_lt | omega) (by first | assumption | decide | exact wgIx_lt _ | exact plIx_lt _ | exact sp_recQ_lt | omega) (by first | assumption | decide | exact wgIx_lt _ | exact plIx_lt _ | exact sp_recQ_lt | omega)) (ka_Rc_place (by first | assumption | decide | exact wgIx_lt _ | exact plIx_lt _ | exact sp_recQ_lt | omega) (by first | assumption | decide | exact wgIx_lt _ | exact plIx_lt _ | exact sp_recQ_lt | omega)) rfl ka_q_ml_X3_165 ka_q_im_X2_pay ka_q_se_X2_pay ka_q_in_X2 ka_q_co_X2_pay ky_X2_pay (by decide) (by decide) (Nat.le_of_ble_eq_true rfl) rfl dX3_repairWagon_53 ?_
        refine ka_aload_n hC dX3_repairWagon_56 rfl ?_
        refine kg_X3_38 (by first | assumption | decide | exact wgIx_lt _ | exact plIx_lt _ | exact sp_recQ_lt | omega) hC dX3_repairWagon_57 ?_
        refine ka_callV hC (m_X4_size hG (by first | assumption | decide | exact wgIx_lt _ | exact plIx_lt _ | exact sp_recQ_lt | omega)) (ka_Rc_shop (by first | assumption | decide | exact wgIx_lt _ | exact plIx_lt _ | exact sp_recQ_lt | omega)) rfl ka_q_ml_X3_172 ka_q_im_X4_size ka_q_se_X4_size ka_q_in_X4 ka_q_co_X4_size ky_X4_size (by decide) (by decide) (Nat.le_of_ble_eq_true rfl) rfl dX3_repairWagon_60 ?_
        refine ka_istore_n_p3 hC dX3_repairWagon_63 (by decide) ?_
        refine ka_aload_n hC dX3_repairWagon_64 rfl ?_
        refine ka_iconst (v := 2) hC dX3_repairWagon_65 rfl ?_
        refine kpp_X3_154 (by first | assumption | decide | exact wgIx_lt _ | exact plIx_lt _ | exact sp_recQ_lt | omega) (by first | assumption | decide | exact wgIx_lt _ | exact plIx_lt _ | exact sp_recQ_lt | omega) hC dX3_repairWagon_66 ?_
        refine ka_aload_n hC dX3_repairWagon_69 rfl ?_
        refine ka_iconst (v := (-1)) hC dX3_repairWagon_70 rfl ?_
        refine kpp_X3_176 (by first | assumption | decide | exact wgIx_lt _ | exact plIx_lt _ | exact sp_recQ_lt | omega) (by first | assumption | decide | exact wgIx_lt _ | exact plIx_lt _ | exact sp_recQ_lt | omega) hC dX3_repairWagon_71 ?_
        refine ka_aload_n hC dX3_repairWagon_74 rfl ?_
        refine kg_X3_38 (by first | assumption | decide | exact wgIx_lt _ | exact plIx_lt _ | exact sp_recQ_lt | omega) hC dX3_repairWagon_75 ?_
        refine ka_iload_n hC dX3_repairWagon_78 rfl ?_
        refine ka_callV hC (m_X4_enter hG (by first | assumption | decide | exact wgIx_lt _ | exact plIx_lt _ | exact sp_recQ_lt | omega)) (ka_Rc_shop (by first | assumption | decide | exact wgIx_lt _ | exact plIx_lt _ | exact sp_recQ_lt | omega)) rfl ka_q_ml_X3_179 ka_q_im_X4_enter ka_q_se_X4_enter ka_q_in_X4 ka_q_co_X4_enter ky_X4_enter (by decide) (by decide) (Nat.le_of_ble_eq_true rfl) rfl dX3_repairWagon_79 ?_
        refine ka_aload_n hC dX3_repairWagon_82 rfl ?_
        refine ka_callV hC (m_X3_beginRepairs hG (by first | assumption | decide | exact wgIx_lt _ | exact plIx_lt _ | exact sp_recQ_lt | omega)) (ka_Rc_pool (by first | assumption | decide | exact wgIx_lt _ | exact plIx_lt _ | exact sp_recQ_lt | omega)) rfl ka_q_ml_X3_182 ka_q_im_X3_beginRepairs ka_q_se_X3_beginRepairs ka_q_in_X3 ka_q_co_X3_beginRepairs ky_X3_beginRepairs (by decide) (by decide) (Nat.le_of_ble_eq_true rfl) rfl dX3_repairWagon_83 ?_
        refine ka_iload_n hC dX3_repairWagon_86 rfl ?_
        exact ka_iret hC hR dX3_repairWagon_87 (by first | with_reducible rfl | (simp only [sp_repair, sp_repairAt, sp_full, pU, c5, c21, c29]; done) | (simp only [sp_repair, sp_repairAt, sp_full, pU, c5, c21, c29]; done) | (simp [sp_repair, sp_repairAt, sp_full, pU, c5, c21, c29]; done) | (simp [sp_repair, sp_repairAt, sp_full, pU, c5, c21, c29]; done) | contradiction | rfl) (by first | with_reducible rfl | (simp only [sp_repair, sp_repairAt, sp_full, pU, c5, c21, c29]; done) | (simp only [sp_repair, sp_repairAt, sp_full, pU, c5, c21, c29]; done) | (simp [sp_repair, sp_repairAt, sp_full, pU, c5, c21, c29]; done) | (simp [sp_repair, sp_repairAt, sp_full, pU, c5, c21, c29]; done) | contradiction | rfl)
      · skip
        refine ka_ldc hC ka_q_cn_X3_140 dX3_repairWagon_32 ?_
        exact ka_iret hC hR dX3_repairWagon_34 (by first | with_reducible rfl | (simp only [sp_repair, sp_repairAt, sp_full, pU, c5, c21, c29]; done) | (simp only [sp_repair, sp_repairAt, sp_full, pU, c5, c21, c29]; done) | (simp [sp_repair, sp_repairAt, sp_full, pU, c5, c21, c29]; done) | (simp [sp_repair, sp_repairAt, sp_full, pU, c5, c21, c29]; done) | contradiction | rfl) (by first | with_reducible rfl | (simp only [sp_repair, sp_repairAt, sp_full, pU, c5, c21, c29]; done) | (simp only [sp_repair, sp_repairAt, sp_full, pU, c5, c21, c29]; done) | (simp [sp_repair, sp_repairAt, sp_full, pU, c5, c21, c29]; done) | (simp [sp_repair, sp_repairAt, sp_full, pU, c5, c21, c29]; done) | contradiction | rfl)
  · skip
    refine ka_ldc hC ka_q_cn_X3_99 dX3_repairWagon_8 ?_
    exact ka_iret hC hR dX3_repairWagon_10 (by first | with_reducible rfl | (simp only [sp_repair, sp_repairAt, sp_full, pU, c5]; done) | (simp only [sp_repair, sp_repairAt, sp_full, pU, c5]; done) | (simp [sp_repair, sp_repairAt, sp_full, pU, c5]; done) | (simp [sp_repair, sp_repairAt, sp_full, pU, c5]; done) | contradiction | rfl) (by first | with_reducible rfl | (simp only [sp_repair, sp_repairAt, sp_full, pU, c5]; done) | (simp only [sp_repair, sp_repairAt, sp_full, pU, c5]; done) | (simp [sp_repair, sp_repairAt, sp_full, pU, c5]; done) | (simp [sp_repair, sp_repairAt, sp_full, pU, c5]; done) | contradiction | rfl)
theorem ky_X3_sendTrain : ka_y yX3_sendTrain 4 := by unfold ka_y; decide +kernel
set_option maxHeartbeats 4000000 in
set_option maxRecDepth 100000 in
theorem m_X3_sendTrain {G : ka_G} (hG : ka_AD G) {V : ka_W} {r : Nat} (hr : r < 6) {P : ka_P} {a b kd mn : Int32}  : ka_M G yX3_sendTrain cX3_sendTrain 11 (some FieldType.int) 3 [.ref (ka_ad G r 0), .int a, .int b, .int kd, .int mn] (ka_sp V r P) (some (.int ((sp_train P a b kd mn).1))) (ka_sp V r (sp_train P a b kd mn).2) := by
  refine ka_entry hG ka_pn_X3 (ka_cat1 rfl) (Nat.le_of_ble_eq_true rfl) (fun X hC hR => ?_)
  refine ka_aload_n hC dX3_sendTrain_0 rfl ?_
  refine ka_iload_n hC dX3_sendTrain_1 rfl ?_
  refine ka_iload_n hC dX3_sendTrain_2 rfl ?_
  refine ka_callV hC (m_X3_isLeg hG (by first | assumption | decide | exact wgIx_lt _ | exact plIx_lt _ | exact sp_recQ_lt | omega)) (ka_Rc_pool (by first | assumption | decide | exact wgIx_lt _ | exact plIx_lt _ | exact sp_recQ_lt | omega)) rfl ka_q_ml_X3_104 ka_q_im_X3_isLeg ka_q_se_X3_isLeg ka_q_in_X3 ka_q_co_X3_isLeg ky_X3_isLeg (by decide) (by decide) (Nat.le_of_ble_eq_true rfl) rfl dX3_sendTrain_3 ?_
  refine ka_if_eq_b (tgt := 29) hC dX3_sendTrain_6 (by decide) (fun c6 => ?_) (fun c6 => ?_)
  · skip
    refine ka_ldc hC ka_q_cn_X3_99 dX3_sendTrain_29 ?_
    exact ka_iret hC hR dX3_sendTrain_31 (by first | with_reducible rfl | (simp only [sp_train, sp_trainX_0, sp_trainX_s, sp_trainAt, sp_full, sp_add, pU, nI_1, ka_b, c6]; done) | (simp only [sp_train, sp_trainX_0, sp_trainX_s, sp_trainAt, sp_full, sp_add, pU, nI_1, ka_b, c6]; done) | (simp [sp_train, sp_trainX_0, sp_trainX_s, sp_trainAt, sp_full, sp_add, pU, nI_1, ka_b, c6]; done) | (simp [sp_train, sp_trainX_0, sp_trainX_s, sp_trainAt, sp_full, sp_add, pU, nI_1, ka_b, c6]; done) | contradiction | rfl) (by first | with_reducible rfl | (simp only [sp_train, sp_trainX_0, sp_trainX_s, sp_trainAt, sp_full, sp_add, pU, nI_1, ka_b, c6]; done) | (simp only [sp_train, sp_trainX_0, sp_trainX_s, sp_trainAt, sp_full, sp_add, pU, nI_1, ka_b, c6]; done) | (simp [sp_train, sp_trainX_0, sp_trainX_s, sp_trainAt, sp_full, sp_add, pU, nI_1, ka_b, c6]; done) | (simp [sp_train, sp_trainX_0, sp_trainX_s, sp_trainAt, sp_full, sp_add, pU, nI_1, ka_b, c6]; done) | contradiction | rfl)
  · skip
    refine ka_iload_n hC dX3_sendTrain_9 rfl ?_
    refine ka_iconst (v := 0) hC dX3_sendTrain_10 rfl ?_
    refine ka_iconst (v := 2) hC dX3_sendTrain_11 rfl ?_
    refine ka_callSN hC (m_X6_within hG) (List.mem_of_getElem? (i := 2) rfl) ka_q_st_X6_within ka_q_in_X6 ka_q_co_X6_within ky_X6_within (by decide) (by decide) (Nat.le_of_ble_eq_true rfl) rfl dX3_sendTrain_12 ?_
    refine ka_if_eq_b (tgt := 29) hC dX3_sendTrain_15 (by decide) (fun c15 => ?_) (fun c15 => ?_)
    · skip
      refine ka_ldc hC ka_q_cn_X3_99 dX3_sendTrain_29 ?_
      exact ka_iret hC hR dX3_sendTrain_31 (by first | with_reducible rfl | (simp only [sp_train, sp_trainX_0, sp_trainX_s, sp_trainAt, sp_full, sp_add, pU, nI_1, ka_b, c6, c15]; done) | (simp only [sp_train, sp_trainX_0, sp_trainX_s, sp_trainAt, sp_full, sp_add, pU, nI_1, ka_b, c6, c15]; done) | (simp [sp_train, sp_trainX_0, sp_trainX_s, sp_trainAt, sp_full, sp_add, pU, nI_1, ka_b, c6, c15]; done) | (simp [sp_train, sp_trainX_0, sp_trainX_s, sp_trainAt, sp_full, sp_add, pU, nI_1, ka_b, c6, c15]; done) | contradiction | rfl) (by first | with_reducible rfl | (simp only [sp_train, sp_trainX_0, sp_trainX_s, sp_trainAt, sp_full, sp_add, pU, nI_1, ka_b, c6, c15]; done) | (simp only [sp_train, sp_trainX_0, sp_trainX_s, sp_trainAt, sp_full, sp_add, pU, nI_1, ka_b, c6, c15]; done) | (simp [sp_train, sp_trainX_0, sp_trainX_s, sp_trainAt, sp_full, sp_add, pU, nI_1, ka_b, c6, c15]; done) | (simp [sp_train, sp_trainX_0, sp_trainX_s, sp_trainAt, sp_full, sp_add, pU, nI_1, ka_b, c6, c15]; done) | contradiction | rfl)
    · skip
      refine ka_iload hC dX3_sendTrain_18 rfl ?_
      refine ka_iconst (v := 1) hC dX3_sendTrain_20 rfl ?_
      refine ka_bipush (v := 8) hC dX3_sendTrain_21 rfl ?_
      refine ka_callSN hC (m_X6_within hG) (List.mem_of_getElem? (i := 2) rfl) ka_q_st_X6_within ka_q_in_X6 ka_q_co_X6_within ky_X6_within (by decide) (by decide) (Nat.le_of_ble_eq_true rfl) rfl dX3_sendTrain_23 ?_
      refine ka_if_ne_b (tgt := 32) hC dX3_sendTrain_26 (by decide) (fun c26 => ?_) (fun c26 => ?_)
      · skip
        refine ka_aload_n hC dX3_sendTrain_32 rfl ?_
        refine ka_iload_n hC dX3_sendTrain_33 rfl ?_
        refine ka_iload_n hC dX3_sendTrain_34 rfl ?_
        refine ka_callV hC (m_X3_legDays hG (by first | assumption | decide | exact wgIx_lt _ | exact plIx_lt _ | exact sp_recQ_lt | omega)) (ka_Rc_pool (by first | assumption | decide | exact wgIx_lt _ | exact plIx_lt _ | exact sp_recQ_lt | omega)) rfl ka_q_ml_X3_108 ka_q_im_X3_legDays ka_q_se_X3_legDays ka_q_in_X3 ka_q_co_X3_legDays ky_X3_legDays (by decide) (by decide) (Nat.le_of_ble_eq_true rfl) rfl dX3_sendTrain_35 ?_
        refine ka_istore_p5 hC dX3_sendTrain_38 (by decide) ?_
        refine ka_iconst (v := 0) hC dX3_sendTrain_40 rfl ?_
        refine ka_istore_p6 hC dX3_sendTrain_41 (by decide) ?_
        refine ka_iconst (v := 0) hC dX3_sendTrain_43 rfl ?_
        refine ka_istore_p7 hC dX3_sendTrain_44 (by decide) ?_
        refine ka_iconst (v := 1) hC dX3_sendTrain_46 rfl ?_
        refine ka_istore_p8 hC dX3_sendTrain_47 (by decide) ?_
        refine ka_iconst (v := 0) hC dX3_sendTrain_49 rfl ?_
        refine ka_istore_p9 hC dX3_sendTrain_50 (by decide) ?_
        suffices H52 : ∀ jj i : Nat, i ≤ cn (P 0 6) → cn (P 0 6) - i < jj → ka_I G X (ka_sp V r (sp_trainX P a b kd mn i).1) 52 [.ref (ka_ad G r 0), .int a, .int b, .int kd, .int mn, .int (sp_legDays P a b), .int (sp_trainX P a b kd mn i).2.1, .int (sp_trainX P a b kd mn i).2.2.1, .int (ka_b (sp_trainX P a b kd mn i).2.2.2), .int (nI i)] [] from ka_I.back 10 (by first | with_reducible rfl | (simp only [sp_train, sp_trainX_0, sp_trainX_s, sp_trainAt, sp_full, sp_add, pU, nI_1, ka_b, c6, c15, c26]; done) | (simp only [sp_train, sp_trainX_0, sp_trainX_s, sp_trainAt, sp_full, sp_add, pU, nI_1, ka_b, c6, c15, c26]; done) | (simp [sp_train, sp_trainX_0, sp_trainX_s, sp_trainAt, sp_full, sp_add, pU, nI_1, ka_b, c6, c15, c26]; done) | (simp [sp_train, sp_trainX_0, sp_trainX_s, sp_trainAt, sp_full, sp_add, pU, nI_1, ka_b, c6, c15, c26]; done) | contradiction | rfl) (by first | with_reducible rfl | (simp only [sp_train, sp_trainX_0, sp_trainX_s, sp_trainAt, sp_full, sp_add, pU, nI_1, ka_b, c6, c15, c26]; done) | (simp only [sp_train, sp_trainX_0, sp_trainX_s, sp_trainAt, sp_full, sp_add, pU, nI_1, ka_b, c6, c15, c26]; done) | (simp [sp_train, sp_trainX_0, sp_trainX_s, sp_trainAt, sp_full, sp_add, pU, nI_1, ka_b, c6, c15, c26]; done) | (simp [sp_train, sp_trainX_0, sp_trainX_s, sp_trainAt, sp_full, sp_add, pU, nI_1, ka_b, c6, c15, c26]; done) | contradiction | rfl) (H52 (cn (P 0 6) + 1) 0 (by omega) (by omega))
        intro j52
        induction j52 with
        | zero => intro i h1 h2 ; exact absurd h2 (Nat.not_lt_zero _)
        | succ j52 ih52 =>
          intro i hle52 hlt52 
          refine ka_iload hC dX3_sendTrain_52 rfl ?_
          refine ka_aload_n hC dX3_sendTrain_54 rfl ?_
          refine kgp_X3_62 (by first | assumption | decide | exact wgIx_lt _ | exact plIx_lt _ | exact sp_recQ_lt | omega) hC dX3_sendTrain_55 ?_
          refine ka_icmp_ge (tgt := 144) hC dX3_sendTrain_58 (by decide) (fun c58 => ?_) (fun c58 => ?_)
          · skip
            rw [fx_trainX.2.1] at c58
            obtain rfl : i = cn (P 0 6) := nlt_cn hle52 c58
            refine ka_iload hC dX3_sendTrain_144 rfl ?_
            refine ka_if_ne (tgt := 152) hC dX3_sendTrain_146 (by decide) (fun c146 => ?_) (fun c146 => ?_)
            · skip
              refine ka_aload_n hC dX3_sendTrain_152 rfl ?_
              refine ka_dup hC dX3_sendTrain_153 rfl ?_
              refine kgp_X3_71 (by first | assumption | decide | exact wgIx_lt _ | exact plIx_lt _ | exact sp_recQ_lt | omega) hC dX3_sendTrain_154 ?_
              refine ka_iconst (v := 1) hC dX3_sendTrain_157 rfl ?_
              refine ka_iadd hC dX3_sendTrain_158 ?_
              refine kpp_X3_71 (by first | assumption | decide | exact wgIx_lt _ | exact plIx_lt _ | exact sp_recQ_lt | omega) hC dX3_sendTrain_159 ?_
              refine ka_iload hC dX3_sendTrain_162 rfl ?_
              refine ka_if_eq_b (tgt := 177) hC dX3_sendTrain_164 (by decide) (fun c164 => ?_) (fun c164 => ?_)
              · skip
                refine ka_iload hC dX3_sendTrain_177 rfl ?_
                exact ka_iret hC hR dX3_sendTrain_179 (by first | with_reducible rfl | (simp only [sp_train, sp_trainX_0, sp_trainX_s, sp_trainAt, sp_full, sp_add, pU, nI_1, ka_b, c6, c15, c26, c58, c146, c164]; done) | (simp only [sp_train, sp_trainX_0, sp_trainX_s, sp_trainAt, sp_full, sp_add, pU, nI_1, ka_b, c6, c15, c26, if_neg c58, if_pos c58, if_neg c146, if_pos c146, c164]; done) | (simp [sp_train, sp_trainX_0, sp_trainX_s, sp_trainAt, sp_full, sp_add, pU, nI_1, ka_b, c6, c15, c26, c58, c146, c164]; done) | (simp [sp_train, sp_trainX_0, sp_trainX_s, sp_trainAt, sp_full, sp_add, pU, nI_1, ka_b, c6, c15, c26, if_neg c58, if_pos c58, if_neg c146, if_pos c146, c164]; done) | contradiction | rfl) (by first | with_reducible rfl | (simp only [sp_train, sp_trainX_0, sp_trainX_s, sp_trainAt, sp_full, sp_add, pU, nI_1, ka_b, c6, c15, c26, c58, c146, c164]; done) | (simp only [sp_train, sp_trainX_0, sp_trainX_s, sp_trainAt, sp_full, sp_add, pU, nI_1, ka_b, c6, c15, c26, if_neg c58, if_pos c58, if_neg c146, if_pos c146, c164]; done) | (simp [sp_train, sp_trainX_0, sp_trainX_s, sp_trainAt, sp_full, sp_add, pU, nI_1, ka_b, c6, c15, c26, c58, c146, c164]; done) | (simp [sp_train, sp_trainX_0, sp_trainX_s, sp_trainAt, sp_full, sp_add, pU, nI_1, ka_b, c6, c15, c26, if_neg c58, if_pos c58, if_neg c146, if_pos c146, c164]; done) | contradiction | rfl)
              · skip
                refine ka_aload_n hC dX3_sendTrain_167 rfl ?_
                refine ka_dup hC dX3_sendTrain_168 rfl ?_
                refine kgp_X3_74 (by first | assumption | decide | exact wgIx_lt _ | exact plIx_lt _ | exact sp_recQ_lt | omega) hC dX3_sendTrain_169 ?_
                refine ka_iconst (v := 1) hC dX3_sendTrain_172 rfl ?_
                refine ka_iadd hC dX3_sendTrain_173 ?_
                refine kpp_X3_74 (by first | assumption | decide | exact wgIx_lt _ | exact plIx_lt _ | exact sp_recQ_lt | omega) hC dX3_sendTrain_174 ?_
                refine ka_iload hC dX3_sendTrain_177 rfl ?_
                exact ka_iret hC hR dX3_sendTrain_179 (by first | with_reducible rfl | (simp only [sp_train, sp_trainX_0, sp_trainX_s, sp_trainAt, sp_full, sp_add, pU, nI_1, ka_b, c6, c15, c26, c58, c146, c164]; done) | (simp only [sp_train, sp_trainX_0, sp_trainX_s, sp_trainAt, sp_full, sp_add, pU, nI_1, ka_b, c6, c15, c26, if_neg c58, if_pos c58, if_neg c146, if_pos c146, c164]; done) | (simp [sp_train, sp_trainX_0, sp_trainX_s, sp_trainAt, sp_full, sp_add, pU, nI_1, ka_b, c6, c15, c26, c58, c146, c164]; done) | (simp [sp_train, sp_trainX_0, sp_trainX_s, sp_trainAt, sp_full, sp_add, pU, nI_1, ka_b, c6, c15, c26, if_neg c58, if_pos c58, if_neg c146, if_pos c146, c164]; done) | contradiction | rfl) (by first | with_reducible rfl | (simp only [sp_train, sp_trainX_0, sp_trainX_s, sp_trainAt, sp_full, sp_add, pU, nI_1, ka_b, c6, c15, c26, c58, c146, c164]; done) | (simp only [sp_train, sp_trainX_0, sp_trainX_s, sp_trainAt, sp_full, sp_add, pU, nI_1, ka_b, c6, c15, c26, if_neg c58, if_pos c58, if_neg c146, if_pos c146, c164]; done) | (simp [sp_train, sp_trainX_0, sp_trainX_s, sp_trainAt, sp_full, sp_add, pU, nI_1, ka_b, c6, c15, c26, c58, c146, c164]; done) | (simp [sp_train, sp_trainX_0, sp_trainX_s, sp_trainAt, sp_full, sp_add, pU, nI_1, ka_b, c6, c15, c26, if_neg c58, if_pos c58, if_neg c146, if_pos c146, c164]; done) | contradiction | rfl)
            · skip
              refine ka_ldc hC ka_q_cn_X3_140 dX3_sendTrain_149 ?_
              exact ka_iret hC hR dX3_sendTrain_151 (by first | with_reducible rfl | (simp only [sp_train, sp_trainX_0, sp_trainX_s, sp_trainAt, sp_full, sp_add, pU, nI_1, ka_b, c6, c15, c26, c58, c146]; done) | (simp only [sp_train, sp_trainX_0, sp_trainX_s, sp_trainAt, sp_full, sp_add, pU, nI_1, ka_b, c6, c15, c26, if_neg c58, if_pos c58, if_pos c146, if_neg (not_not_intro c146)]; done) | (simp [sp_train, sp_trainX_0, sp_trainX_s, sp_trainAt, sp_full, sp_add, pU, nI_1, ka_b, c6, c15, c26, c58, c146]; done) | (simp [sp_train, sp_trainX_0, sp_trainX_s, sp_trainAt, sp_full, sp_add, pU, nI_1, ka_b, c6, c15, c26, if_neg c58, if_pos c58, if_pos c146, if_neg (not_not_intro c146)]; done) | contradiction | rfl) (by first | with_reducible rfl | (simp only [sp_train, sp_trainX_0, sp_trainX_s, sp_trainAt, sp_full, sp_add, pU, nI_1, ka_b, c6, c15, c26, c58, c146]; done) | (simp only [sp_train, sp_trainX_0, sp_trainX_s, sp_trainAt, sp_full, sp_add, pU, nI_1, ka_b, c6, c15, c26, if_neg c58, if_pos c58, if_pos c146, if_neg (not_not_intro c146)]; done) | (simp [sp_train, sp_trainX_0, sp_trainX_s, sp_trainAt, sp_full, sp_add, pU, nI_1, ka_b, c6, c15, c26, c58, c146]; done) | (simp [sp_train, sp_trainX_0, sp_trainX_s, sp_trainAt, sp_full, sp_add, pU, nI_1, ka_b, c6, c15, c26, if_neg c58, if_pos c58, if_pos c146, if_neg (not_not_intro c146)]; done) | contradiction | rfl)
          · skip
            rw [fx_trainX.2.1] at c58
            have hi : i < cn (P 0 6) := lt_cn hle52 c58
            refine ka_iload hC dX3_sendTrain_61 rfl ?_
            refine ka_iload hC dX3_sendTrain_63 rfl ?_
            refine ka_icmp_ge (tgt := 144) hC dX3_sendTrain_65 (by decide) (fun c65 => ?_) (fun c65 => ?_)
            · skip
              rw [sp_trainX_stop c65 hle52]
              refine ka_iload hC dX3_sendTrain_144 rfl ?_
              refine ka_if_ne (tgt := 152) hC dX3_sendTrain_146 (by decide) (fun c146 => ?_) (fun c146 => ?_)
              · skip
                refine ka_aload_n hC dX3_sendTrain_152 rfl ?_
                refine ka_dup hC dX3_sendTrain_153 rfl ?_
                refine kgp_X3_71 (by first | assumption | decide | exact wgIx_lt _ | exact plIx_lt _ | exact sp_recQ_lt | omega) hC dX3_sendTrain_154 ?_
                refine ka_iconst (v := 1) hC dX3_sendTrain_157 rfl ?_
                refine ka_iadd hC dX3_sendTrain_158 ?_
                refine kpp_X3_71 (by first | assumption | decide | exact wgIx_lt _ | exact plIx_lt _ | exact sp_recQ_lt | omega) hC dX3_sendTrain_159 ?_
                refine ka_iload hC dX3_sendTrain_162 rfl ?_
                refine ka_if_eq_b (tgt := 177) hC dX3_sendTrain_164 (by decide) (fun c164 => ?_) (fun c164 => ?_)
                · skip
                  refine ka_iload hC dX3_sendTrain_177 rfl ?_
                  exact ka_iret hC hR dX3_sendTrain_179 (by first | with_reducible rfl | (simp only [sp_train, sp_trainX_0, sp_trainX_s, sp_trainAt, sp_full, sp_add, pU, nI_1, ka_b, c6, c15, c26, c58, c65, c146, c164]; done) | (simp only [sp_train, sp_trainX_0, sp_trainX_s, sp_trainAt, sp_full, sp_add, pU, nI_1, ka_b, c6, c15, c26, if_pos c58, if_neg (not_not_intro c58), if_neg c65, if_pos c65, if_neg c146, if_pos c146, c164]; done) | (simp [sp_train, sp_trainX_0, sp_trainX_s, sp_trainAt, sp_full, sp_add, pU, nI_1, ka_b, c6, c15, c26, c58, c65, c146, c164]; done) | (simp [sp_train, sp_trainX_0, sp_trainX_s, sp_trainAt, sp_full, sp_add, pU, nI_1, ka_b, c6, c15, c26, if_pos c58, if_neg (not_not_intro c58), if_neg c65, if_pos c65, if_neg c146, if_pos c146, c164]; done) | contradiction | rfl) (by first | with_reducible rfl | (simp only [sp_train, sp_trainX_0, sp_trainX_s, sp_trainAt, sp_full, sp_add, pU, nI_1, ka_b, c6, c15, c26, c58, c65, c146, c164]; done) | (simp only [sp_train, sp_trainX_0, sp_trainX_s, sp_trainAt, sp_full, sp_add, pU, nI_1, ka_b, c6, c15, c26, if_pos c58, if_neg (not_not_intro c58), if_neg c65, if_pos c65, if_neg c146, if_pos c146, c164]; done) | (simp [sp_train, sp_trainX_0, sp_trainX_s, sp_trainAt, sp_full, sp_add, pU, nI_1, ka_b, c6, c15, c26, c58, c65, c146, c164]; done) | (simp [sp_train, sp_trainX_0, sp_trainX_s, sp_trainAt, sp_full, sp_add, pU, nI_1, ka_b, c6, c15, c26, if_pos c58, if_neg (not_not_intro c58), if_neg c65, if_pos c65, if_neg c146, if_pos c146, c164]; done) | contradiction | rfl)
                · skip
                  refine ka_aload_n hC dX3_sendTrain_167 rfl ?_
                  refine ka_dup hC dX3_sendTrain_168 rfl ?_
                  refine kgp_X3_74 (by first | assumption | decide | exact wgIx_lt _ | exact plIx_lt _ | exact sp_recQ_lt | omega) hC dX3_sendTrain_169 ?_
                  refine ka_iconst (v := 1) hC dX3_sendTrain_172 rfl ?_
                  refine ka_iadd hC dX3_sendTrain_173 ?_
                  refine kpp_X3_74 (by first | assumption | decide | exact wgIx_lt _ | exact plIx_lt _ | exact sp_recQ_lt | omega) hC dX3_sendTrain_174 ?_
                  refine ka_iload hC dX3_sendTrain_177 rfl ?_
                  exact ka_iret hC hR dX3_sendTrain_179 (by first | with_reducible rfl | (simp only [sp_train, sp_trainX_0, sp_trainX_s, sp_trainAt, sp_full, sp_add, pU, nI_1, ka_b, c6, c15, c26, c58, c65, c146, c164]; done) | (simp only [sp_train, sp_trainX_0, sp_trainX_s, sp_trainAt, sp_full, sp_add, pU, nI_1, ka_b, c6, c15, c26, if_pos c58, if_neg (not_not_intro c58), if_neg c65, if_pos c65, if_neg c146, if_pos c146, c164]; done) | (simp [sp_train, sp_trainX_0, sp_trainX_s, sp_trainAt, sp_full, sp_add, pU, nI_1, ka_b, c6, c15, c26, c58, c65, c146, c164]; done) | (simp [sp_train, sp_trainX_0, sp_trainX_s, sp_trainAt, sp_full, sp_add, pU, nI_1, ka_b, c6, c15, c26, if_pos c58, if_neg (not_not_intro c58), if_neg c65, if_pos c65, if_neg c146, if_pos c146, c164]; done) | contradiction | rfl) (by first | with_reducible rfl | (simp only [sp_train, sp_trainX_0, sp_trainX_s, sp_trainAt, sp_full, sp_add, pU, nI_1, ka_b, c6, c15, c26, c58, c65, c146, c164]; done) | (simp only [sp_train, sp_trainX_0, sp_trainX_s, sp_trainAt, sp_full, sp_add, pU, nI_1, ka_b, c6, c15, c26, if_pos c58, if_neg (not_not_intro c58), if_neg c65, if_pos c65, if_neg c146, if_pos c146, c164]; done) | (simp [sp_train, sp_trainX_0, sp_trainX_s, sp_trainAt, sp_full, sp_add, pU, nI_1, ka_b, c6, c15, c26, c58, c65, c146, c164]; done) | (simp [sp_train, sp_trainX_0, sp_trainX_s, sp_trainAt, sp_full, sp_add, pU, nI_1, ka_b, c6, c15, c26, if_pos c58, if_neg (not_not_intro c58), if_neg c65, if_pos c65, if_neg c146, if_pos c146, c164]; done) | contradiction | rfl)
              · skip
                refine ka_ldc hC ka_q_cn_X3_140 dX3_sendTrain_149 ?_
                exact ka_iret hC hR dX3_sendTrain_151 (by first | with_reducible rfl | (simp only [sp_train, sp_trainX_0, sp_trainX_s, sp_trainAt, sp_full, sp_add, pU, nI_1, ka_b, c6, c15, c26, c58, c65, c146]; done) | (simp only [sp_train, sp_trainX_0, sp_trainX_s, sp_trainAt, sp_full, sp_add, pU, nI_1, ka_b, c6, c15, c26, if_pos c58, if_neg (not_not_intro c58), if_neg c65, if_pos c65, if_pos c146, if_neg (not_not_intro c146)]; done) | (simp [sp_train, sp_trainX_0, sp_trainX_s, sp_trainAt, sp_full, sp_add, pU, nI_1, ka_b, c6, c15, c26, c58, c65, c146]; done) | (simp [sp_train, sp_trainX_0, sp_trainX_s, sp_trainAt, sp_full, sp_add, pU, nI_1, ka_b, c6, c15, c26, if_pos c58, if_neg (not_not_intro c58), if_neg c65, if_pos c65, if_pos c146, if_neg (not_not_intro c146)]; done) | contradiction | rfl) (by first | with_reducible rfl | (simp only [sp_train, sp_trainX_0, sp_trainX_s, sp_trainAt, sp_full, sp_add, pU, nI_1, ka_b, c6, c15, c26, c58, c65, c146]; done) | (simp only [sp_train, sp_trainX_0, sp_trainX_s, sp_trainAt, sp_full, sp_add, pU, nI_1, ka_b, c6, c15, c26, if_pos c58, if_neg (not_not_intro c58), if_neg c65, if_pos c65, if_pos c146, if_neg (not_not_intro c146)]; done) | (simp [sp_train, sp_trainX_0, sp_trainX_s, sp_trainAt, sp_full, sp_add, pU, nI_1, ka_b, c6, c15, c26, c58, c65, c146]; done) | (simp [sp_train, sp_trainX_0, sp_trainX_s, sp_trainAt, sp_full, sp_add, pU, nI_1, ka_b, c6, c15, c26, if_pos c58, if_neg (not_not_intro c58), if_neg c65, if_pos c65, if_pos c146, if_neg (not_not_intro c146)]; done) | contradiction | rfl)
            · skip
              refine ka_aload_n hC dX3_sendTrain_68 rfl ?_
              refine ka_iload hC dX3_sendTrain_69 rfl ?_
              refine ka_callV hC (m_X3_wagonAt hG (by first | assumption | decide | exact wgIx_lt _ | exact plIx_lt _ | exact sp_recQ_lt | omega)) (ka_Rc_pool (by first | assumption | decide | exact wgIx_lt _ | exact plIx_lt _ | exact sp_recQ_lt | omega)) rfl ka_q_ml_X3_119 ka_q_im_X3_wagonAt ka_q_se_X3_wagonAt ka_q_in_X3 ka_q_co_X3_wagonAt ky_X3_wagonAt (by decide) (by decide) (Nat.le_of_ble_eq_true rfl) rfl dX3_sendTrain_71 ?_
              refine ka_astore_p10 hC dX3_sendTrain_74 (by decide) ?_
              refine ka_aload hC dX3_sendTrain_76 rfl ?_
              refine ka_iload_n hC dX3_sendTrain_78 rfl ?_
              refine ka_callV hC (m_X5_standsAt hG (by first | assumption | decide | exact wgIx_lt _ | exact plIx_lt _ | exact sp_recQ_lt | omega) (by first | assumption | decide | exact wgIx_lt _ | exact plIx_lt _ | exact sp_recQ_lt | omega)) (ka_Rc_wagon (by first | assumption | decide | exact wgIx_lt _ | exact plIx_lt _ | exact sp_recQ_lt | omega) (by first | assumption | decide | exact wgIx_lt _ | exact plIx_lt _ | exact sp_recQ_lt | omega)) rfl ka_q_ml_X3_169 ka_q_im_X5_standsAt ka_q_se_X5_standsAt ka_q_in_X5 ka_q_co_X5_standsAt ky_X5_standsAt (by decide) (by decide) (Nat.le_of_ble_eq_true rfl) rfl dX3_sendTrain_79 ?_
              refine ka_if_eq_b (tgt := 138) hC dX3_sendTrain_82 (by decide) (fun c82 => ?_) (fun c82 => ?_)
              · skip
                refine ka_iinc_9 (v := 1) hC dX3_sendTrain_138 rfl (by decide) ?_
                refine ka_goto (tgt := 52) hC dX3_sendTrain_141 (by decide) ?_
                exact ka_I.back 10 (by first | with_reducible rfl | (simp only [sp_train, sp_trainX_0, sp_trainX_s, sp_trainAt, sp_full, sp_add, pU, nI_1, ka_b, c6, c15, c26, c58, c65, c82]; done) | (simp only [sp_train, sp_trainX_0, sp_trainX_s, sp_trainAt, sp_full, sp_add, pU, nI_1, ka_b, c6, c15, c26, if_pos c58, if_neg (not_not_intro c58), if_pos c65, if_neg (not_not_intro c65), c82]; done) | (simp [sp_train, sp_trainX_0, sp_trainX_s, sp_trainAt, sp_full, sp_add, pU, nI_1, ka_b, c6, c15, c26, c58, c65, c82]; done) | (simp [sp_train, sp_trainX_0, sp_trainX_s, sp_trainAt, sp_full, sp_add, pU, nI_1, ka_b, c6, c15, c26, if_pos c58, if_neg (not_not_intro c58), if_pos c65, if_neg (not_not_intro c65), c82]; done) | contradiction | rfl) (by first | with_reducible rfl | (simp only [sp_train, sp_trainX_0, sp_trainX_s, sp_trainAt, sp_full, sp_add, pU, nI_1, ka_b, c6, c15, c26, c58, c65, c82]; done) | (simp only [sp_train, sp_trainX_0, sp_trainX_s, sp_trainAt, sp_full, sp_add, pU, nI_1, ka_b, c6, c15, c26, if_pos c58, if_neg (not_not_intro c58), if_pos c65, if_neg (not_not_intro c65), c82]; done) | (simp [sp_train, sp_trainX_0, sp_trainX_s, sp_trainAt, sp_full, sp_add, pU, nI_1, ka_b, c6, c15, c26, c58, c65, c82]; done) | (simp [sp_train, sp_trainX_0, sp_trainX_s, sp_trainAt, sp_full, sp_add, pU, nI_1, ka_b, c6, c15, c26, if_pos c58, if_neg (not_not_intro c58), if_pos c65, if_neg (not_not_intro c65), c82]; done) | contradiction | rfl) (ih52 (i + 1) (by omega) (by omega))
              · skip
                refine ka_aload hC dX3_sendTrain_85 rfl ?_
                refine ka_iload_n hC dX3_sendTrain_87 rfl ?_
                refine ka_callV hC (m_X5_isOfKind hG (by first | assumption | decide | exact wgIx_lt _ | exact plIx_lt _ | exact sp_recQ_lt | omega) (by first | assumption | decide | exact wgIx_lt _ | exact plIx_lt _ | exact sp_recQ_lt | omega)) (ka_Rc_wagon (by first | assumption | decide | exact wgIx_lt _ | exact plIx_lt _ | exact sp_recQ_lt | omega) (by first | assumption | decide | exact wgIx_lt _ | exact plIx_lt _ | exact sp_recQ_lt | omega)) rfl ka_q_ml_X3_185 ka_q_im_X5_isOfKind ka_q_se_X5_isOfKind ka_q_in_X5 ka_q_co_X5_isOfKind ky_X5_isOfKind (by decide) (by decide) (Nat.le_of_ble_eq_true rfl) rfl dX3_sendTrain_88 ?_
                refine ka_if_eq_b (tgt := 138) hC dX3_sendTrain_91 (by decide) (fun c91 => ?_) (fun c91 => ?_)
                · skip
                  refine ka_iinc_9 (v := 1) hC dX3_sendTrain_138 rfl (by decide) ?_
                  refine ka_goto (tgt := 52) hC dX3_sendTrain_141 (by decide) ?_
                  exact ka_I.back 10 (by first | with_reducible rfl | (simp only [sp_train, sp_trainX_0, sp_trainX_s, sp_trainAt, sp_full, sp_add, pU, nI_1, ka_b, c6, c15, c26, c58, c65, c82, c91]; done) | (simp only [sp_train, sp_trainX_0, sp_trainX_s, sp_trainAt, sp_full, sp_add, pU, nI_1, ka_b, c6, c15, c26, if_pos c58, if_neg (not_not_intro c58), if_pos c65, if_neg (not_not_intro c65), c82, c91]; done) | (simp [sp_train, sp_trainX_0, sp_trainX_s, sp_trainAt, sp_full, sp_add, pU, nI_1, ka_b, c6, c15, c26, c58, c65, c82, c91]; done) | (simp [sp_train, sp_trainX_0, sp_trainX_s, sp_trainAt, sp_full, sp_add, pU, nI_1, ka_b, c6, c15, c26, if_pos c58, if_neg (not_not_intro c58), if_pos c65, if_neg (not_not_intro c65), c82, c91]; done) | contradiction | rfl) (by first | with_reducible rfl | (simp only [sp_train, sp_trainX_0, sp_trainX_s, sp_trainAt, sp_full, sp_add, pU, nI_1, ka_b, c6, c15, c26, c58, c65, c82, c91]; done) | (simp only [sp_train, sp_trainX_0, sp_trainX_s, sp_trainAt, sp_full, sp_add, pU, nI_1, ka_b, c6, c15, c26, if_pos c58, if_neg (not_not_intro c58), if_pos c65, if_neg (not_not_intro c65), c82, c91]; done) | (simp [sp_train, sp_trainX_0, sp_trainX_s, sp_trainAt, sp_full, sp_add, pU, nI_1, ka_b, c6, c15, c26, c58, c65, c82, c91]; done) | (simp [sp_train, sp_trainX_0, sp_trainX_s, sp_trainAt, sp_full, sp_add, pU, nI_1, ka_b, c6, c15, c26, if_pos c58, if_neg (not_not_intro c58), if_pos c65, if_neg (not_not_intro c65), c82, c91]; done) | contradiction | rfl) (ih52 (i + 1) (by omega) (by omega))
                · skip
                  refine ka_aload hC dX3_sendTrain_94 rfl ?_
                  refine ka_iload_n hC dX3_sendTrain_96 rfl ?_
                  refine ka_aload_n hC dX3_sendTrain_97 rfl ?_
                  refine kgp_X3_65 (by first | assumption | decide | exact wgIx_lt _ | exact plIx_lt _ | exact sp_recQ_lt | omega) hC dX3_sendTrain_98 ?_
                  refine ka_iload hC dX3_sendTrain_101 rfl ?_
                  refine ka_callV hC (m_X5_leaveFor hG (by first | assumption | decide | exact wgIx_lt _ | exact plIx_lt _ | exact sp_recQ_lt | omega) (by first | assumption | decide | exact wgIx_lt _ | exact plIx_lt _ | exact sp_recQ_lt | omega)) (ka_Rc_wagon (by first | assumption | decide | exact wgIx_lt _ | exact plIx_lt _ | exact sp_recQ_lt | omega) (by first | assumption | decide | exact wgIx_lt _ | exact plIx_lt _ | exact sp_recQ_lt | omega)) rfl ka_q_ml_X3_188 ka_q_im_X5_leaveFor ka_q_se_X5_leaveFor ka_q_in_X5 ka_q_co_X5_leaveFor ky_X5_leaveFor (by decide) (by decide) (Nat.le_of_ble_eq_true rfl) rfl dX3_sendTrain_103 ?_
                  refine ka_iload hC dX3_sendTrain_106 rfl ?_
                  refine ka_iconst (v := 1) hC dX3_sendTrain_108 rfl ?_
                  refine ka_iload hC dX3_sendTrain_109 rfl ?_
                  refine ka_ishl hC dX3_sendTrain_111 ?_
                  refine ka_ior hC dX3_sendTrain_112 ?_
                  refine ka_istore_s6 hC dX3_sendTrain_113 (by decide) ?_
                  refine ka_iinc_7 (v := 1) hC dX3_sendTrain_115 rfl (by decide) ?_
                  refine ka_iload hC dX3_sendTrain_118 rfl ?_
                  refine ka_if_eq_b (tgt := 135) hC dX3_sendTrain_120 (by decide) (fun c120 => ?_) (fun c120 => ?_)
                  · skip
                    refine ka_iconst (v := 0) hC dX3_sendTrain_135 rfl ?_
                    refine ka_istore_s8 hC dX3_sendTrain_136 (by decide) ?_
                    refine ka_iinc_9 (v := 1) hC dX3_sendTrain_138 rfl (by decide) ?_
                    refine ka_goto (tgt := 52) hC dX3_sendTrain_141 (by decide) ?_
                    exact ka_I.back 10 (by first | with_reducible rfl | (simp only [sp_train, sp_trainX_0, sp_trainX_s, sp_trainAt, sp_full, sp_add, pU, nI_1, ka_b, c6, c15, c26, c58, c65, c82, c91, c120]; done) | (simp only [sp_train, sp_trainX_0, sp_trainX_s, sp_trainAt, sp_full, sp_add, pU, nI_1, ka_b, c6, c15, c26, if_pos c58, if_neg (not_not_intro c58), if_pos c65, if_neg (not_not_intro c65), c82, c91, c120]; done) | (simp [sp_train, sp_trainX_0, sp_trainX_s, sp_trainAt, sp_full, sp_add, pU, nI_1, ka_b, c6, c15, c26, c58, c65, c82, c91, c120]; done) | (simp [sp_train, sp_trainX_0, sp_trainX_s, sp_trainAt, sp_full, sp_add, pU, nI_1, ka_b, c6, c15, c26, if_pos c58, if_neg (not_not_intro c58), if_pos c65, if_neg (not_not_intro c65), c82, c91, c120]; done) | contradiction | rfl) (by first | with_reducible rfl | (simp only [sp_train, sp_trainX_0, sp_trainX_s, sp_trainAt, sp_full, sp_add, pU, nI_1, ka_b, c6, c15, c26, c58, c65, c82, c91, c120]; done) | (simp only [sp_train, sp_trainX_0, sp_trainX_s, sp_trainAt, sp_full, sp_add, pU, nI_1, ka_b, c6, c15, c26, if_pos c58, if_neg (not_not_intro c58), if_pos c65, if_neg (not_not_intro c65), c82, c91, c120]; done) | (simp [sp_train, sp_trainX_0, sp_trainX_s, sp_trainAt, sp_full, sp_add, pU, nI_1, ka_b, c6, c15, c26, c58, c65, c82, c91, c120]; done) | (simp [sp_train, sp_trainX_0, sp_trainX_s, sp_trainAt, sp_full, sp_add, pU, nI_1, ka_b, c6, c15, c26, if_pos c58, if_neg (not_not_intro c58), if_pos c65, if_neg (not_not_intro c65), c82, c91, c120]; done) | contradiction | rfl) (ih52 (i + 1) (by omega) (by omega))
                  · skip
                    refine ka_aload hC dX3_sendTrain_123 rfl ?_
                    refine kgp_X3_147 (by first | assumption | decide | exact wgIx_lt _ | exact plIx_lt _ | exact sp_recQ_lt | omega) (by first | assumption | decide | exact wgIx_lt _ | exact plIx_lt _ | exact sp_recQ_lt | omega) hC dX3_sendTrain_125 ?_
                    refine ka_if_ne_b (tgt := 135) hC dX3_sendTrain_128 (by decide) (fun c128 => ?_) (fun c128 => ?_)
                    · skip
                      refine ka_iconst (v := 0) hC dX3_sendTrain_135 rfl ?_
                      refine ka_istore_s8 hC dX3_sendTrain_136 (by decide) ?_
                      refine ka_iinc_9 (v := 1) hC dX3_sendTrain_138 rfl (by decide) ?_
                      refine ka_goto (tgt := 52) hC dX3_sendTrain_141 (by decide) ?_
                      exact ka_I.back 10 (by first | with_reducible rfl | (simp only [sp_train, sp_trainX_0, sp_trainX_s, sp_trainAt, sp_full, sp_add, pU, nI_1, ka_b, c6, c15, c26, c58, c65, c82, c91, c120, c128]; done) | (simp only [sp_train, sp_trainX_0, sp_trainX_s, sp_trainAt, sp_full, sp_add, pU, nI_1, ka_b, c6, c15, c26, if_pos c58, if_neg (not_not_intro c58), if_pos c65, if_neg (not_not_intro c65), c82, c91, c120, c128]; done) | (simp [sp_train, sp_trainX_0, sp_trainX_s, sp_trainAt, sp_full, sp_add, pU, nI_1, ka_b, c6, c15, c26, c58, c65, c82, c91, c120, c128]; done) | (simp [sp_train, sp_trainX_0, sp_trainX_s, sp_trainAt, sp_full, sp_add, pU, nI_1, ka_b, c6, c15, c26, if_pos c58, if_neg (not_not_intro c58), if_pos c65, if_neg (not_not_intro c65), c82, c91, c120, c128]; done) | contradiction | rfl) (by first | with_reducible rfl | (simp only [sp_train, sp_trainX_0, sp_trainX_s, sp_trainAt, sp_full, sp_add, pU, nI_1, ka_b, c6, c15, c26, c58, c65, c82, c91, c120, c128]; done) | (simp only [sp_train, sp_trainX_0, sp_trainX_s, sp_trainAt, sp_full, sp_add, pU, nI_1, ka_b, c6, c15, c26, if_pos c58, if_neg (not_not_intro c58), if_pos c65, if_neg (not_not_intro c65), c82, c91, c120, c128]; done) | (simp [sp_train, sp_trainX_0, sp_trainX_s, sp_trainAt, sp_full, sp_add, pU, nI_1, ka_b, c6, c15, c26, c58, c65, c82, c91, c120, c128]; done) | (simp [sp_train, sp_trainX_0, sp_trainX_s, sp_trainAt, sp_full, sp_add, pU, nI_1, ka_b, c6, c15, c26, if_pos c58, if_neg (not_not_intro c58), if_pos c65, if_neg (not_not_intro c65), c82, c91, c120, c128]; done) | contradiction | rfl) (ih52 (i + 1) (by omega) (by omega))
                    · skip
                      refine ka_iconst (v := 1) hC dX3_sendTrain_131 rfl ?_
                      refine ka_goto (tgt := 136) hC dX3_sendTrain_132 (by decide) ?_
                      refine ka_istore_s8 hC dX3_sendTrain_136 (by decide) ?_
                      refine ka_iinc_9 (v := 1) hC dX3_sendTrain_138 rfl (by decide) ?_
                      refine ka_goto (tgt := 52) hC dX3_sendTrain_141 (by decide) ?_
                      exact ka_I.back 10 (by first | with_reducible rfl | (simp only [sp_train, sp_trainX_0, sp_trainX_s, sp_trainAt, sp_full, sp_add, pU, nI_1, ka_b, c6, c15, c26, c58, c65, c82, c91, c120, c128]; done) | (simp only [sp_train, sp_trainX_0, sp_trainX_s, sp_trainAt, sp_full, sp_add, pU, nI_1, ka_b, c6, c15, c26, if_pos c58, if_neg (not_not_intro c58), if_pos c65, if_neg (not_not_intro c65), c82, c91, c120, c128]; done) | (simp [sp_train, sp_trainX_0, sp_trainX_s, sp_trainAt, sp_full, sp_add, pU, nI_1, ka_b, c6, c15, c26, c58, c65, c82, c91, c120, c128]; done) | (simp [sp_train, sp_trainX_0, sp_trainX_s, sp_trainAt, sp_full, sp_add, pU, nI_1, ka_b, c6, c15, c26, if_pos c58, if_neg (not_not_intro c58), if_pos c65, if_neg (not_not_intro c65), c82, c91, c120, c128]; done) | contradiction | rfl) (by first | with_reducible rfl | (simp only [sp_train, sp_trainX_0, sp_trainX_s, sp_trainAt, sp_full, sp_add, pU, nI_1, ka_b, c6, c15, c26, c58, c65, c82, c91, c120, c128]; done) | (simp only [sp_train, sp_trainX_0, sp_trainX_s, sp_trainAt, sp_full, sp_add, pU, nI_1, ka_b, c6, c15, c26, if_pos c58, if_neg (not_not_intro c58), if_pos c65, if_neg (not_not_intro c65), c82, c91, c120, c128]; done) | (simp [sp_train, sp_trainX_0, sp_trainX_s, sp_trainAt, sp_full, sp_add, pU, nI_1, ka_b, c6, c15, c26, c58, c65, c82, c91, c120, c128]; done) | (simp [sp_train, sp_trainX_0, sp_trainX_s, sp_trainAt, sp_full, sp_add, pU, nI_1, ka_b, c6, c15, c26, if_pos c58, if_neg (not_not_intro c58), if_pos c65, if_neg (not_not_intro c65), c82, c91, c120, c128]; done) | contradiction | rfl) (ih52 (i + 1) (by omega) (by omega))
      · skip
        refine ka_ldc hC ka_q_cn_X3_99 dX3_sendTrain_29 ?_
        exact ka_iret hC hR dX3_sendTrain_31 (by first | with_reducible rfl | (simp only [sp_train, sp_trainX_0, sp_trainX_s, sp_trainAt, sp_full, sp_add, pU, nI_1, ka_b, c6, c15, c26]; done) | (simp only [sp_train, sp_trainX_0, sp_trainX_s, sp_trainAt, sp_full, sp_add, pU, nI_1, ka_b, c6, c15, c26]; done) | (simp [sp_train, sp_trainX_0, sp_trainX_s, sp_trainAt, sp_full, sp_add, pU, nI_1, ka_b, c6, c15, c26]; done) | (simp [sp_train, sp_trainX_0, sp_trainX_s, sp_trainAt, sp_full, sp_add, pU, nI_1, ka_b, c6, c15, c26]; done) | contradiction | rfl) (by first | with_reducible rfl | (simp only [sp_train, sp_trainX_0, sp_trainX_s, sp_trainAt, sp_full, sp_add, pU, nI_1, ka_b, c6, c15, c26]; done) | (simp only [sp_train, sp_trainX_0, sp_trainX_s, sp_trainAt, sp_full, sp_add, pU, nI_1, ka_b, c6, c15, c26]; done) | (simp [sp_train, sp_trainX_0, sp_trainX_s, sp_trainAt, sp_full, sp_add, pU, nI_1, ka_b, c6, c15, c26]; done) | (simp [sp_train, sp_trainX_0, sp_trainX_s, sp_trainAt, sp_full, sp_add, pU, nI_1, ka_b, c6, c15, c26]; done) | contradiction | rfl)
theorem ky_X3_growHeaps : ka_y yX3_growHeaps 0 := by unfold ka_y; decide +kernel
set_option maxHeartbeats 4000000 in
set_option maxRecDepth 100000 in
theorem m_X3_growHeaps {G : ka_G} (hG : ka_AD G) {V : ka_W} {r : Nat} (hr : r < 6) {P : ka_P} (hm : P 0 5 < 5)  : ka_M G yX3_growHeaps cX3_growHeaps 2 none 1 [.ref (ka_ad G r 0)] (ka_sp V r P) none (ka_sp V r (sp_growAll P)) := by
  refine ka_entry hG ka_pn_X3 (ka_cat1 rfl) (Nat.le_of_ble_eq_true rfl) (fun X hC hR => ?_)
  refine ka_iconst (v := 1) hC dX3_growHeaps_0 rfl ?_
  refine ka_istore_n_p1 hC dX3_growHeaps_1 (by decide) ?_
  suffices H2 : ∀ jj i : Nat, i ≤ cn (P 0 5) → cn (P 0 5) - i < jj → ka_I G X (ka_sp V r (sp_growX P i)) 2 [.ref (ka_ad G r 0), .int (nI (i + 1))] [] from ka_I.back 2 (by first | with_reducible rfl | (simp only [sp_growAll, sp_growX_0, sp_growX_s, nI_1]; done) | (simp only [sp_growAll, sp_growX_0, sp_growX_s, nI_1]; done) | (simp [sp_growAll, sp_growX_0, sp_growX_s, nI_1]; done) | (simp [sp_growAll, sp_growX_0, sp_growX_s, nI_1]; done) | contradiction | rfl) (by first | with_reducible rfl | (simp only [sp_growAll, sp_growX_0, sp_growX_s, nI_1]; done) | (simp only [sp_growAll, sp_growX_0, sp_growX_s, nI_1]; done) | (simp [sp_growAll, sp_growX_0, sp_growX_s, nI_1]; done) | (simp [sp_growAll, sp_growX_0, sp_growX_s, nI_1]; done) | contradiction | rfl) (H2 (cn (P 0 5) + 1) 0 (by omega) (by omega))
  intro j2
  induction j2 with
  | zero => intro i h1 h2 ; exact absurd h2 (Nat.not_lt_zero _)
  | succ j2 ih2 =>
    intro i hle2 hlt2 
    refine ka_iload_n hC dX3_growHeaps_2 rfl ?_
    refine ka_aload_n hC dX3_growHeaps_3 rfl ?_
    refine kgp_X3_58 (by first | assumption | decide | exact wgIx_lt _ | exact plIx_lt _ | exact sp_recQ_lt | omega) hC dX3_growHeaps_4 ?_
    refine ka_icmp_gt (tgt := 24) hC dX3_growHeaps_7 (by decide) (fun c7 => ?_) (fun c7 => ?_)
    · skip
      rw [fx_growX.1] at c7
      obtain rfl : i = cn (P 0 5) := nle_cn (m := 5) rfl (by decide) hm hle2 c7
      exact ka_vret hC hR dX3_growHeaps_24 rfl (by first | with_reducible rfl | (simp only [sp_growAll, sp_growX_0, sp_growX_s, nI_1, c7]; done) | (simp only [sp_growAll, sp_growX_0, sp_growX_s, nI_1, if_pos c7, if_neg (not_not_intro c7)]; done) | (simp [sp_growAll, sp_growX_0, sp_growX_s, nI_1, c7]; done) | (simp [sp_growAll, sp_growX_0, sp_growX_s, nI_1, if_pos c7, if_neg (not_not_intro c7)]; done) | contradiction | rfl)
    · skip
      rw [fx_growX.1] at c7
      have hi : i < cn (P 0 5) := le_cn (m := 5) rfl (by decide) hm hle2 c7
      refine ka_aload_n hC dX3_growHeaps_10 rfl ?_
      refine ka_iload_n hC dX3_growHeaps_11 rfl ?_
      refine ka_callV hC (m_X3_placeAt hG (by first | assumption | decide | exact wgIx_lt _ | exact plIx_lt _ | exact sp_recQ_lt | omega)) (ka_Rc_pool (by first | assumption | decide | exact wgIx_lt _ | exact plIx_lt _ | exact sp_recQ_lt | omega)) rfl ka_q_ml_X3_85 ka_q_im_X3_placeAt ka_q_se_X3_placeAt ka_q_in_X3 ka_q_co_X3_placeAt ky_X3_placeAt (by decide) (by decide) (Nat.le_of_ble_eq_true rfl) rfl dX3_growHeaps_12 ?_
      refine ka_callV hC (m_X2_grow hG (by first | assumption | decide | exact wgIx_lt _ | exact plIx_lt _ | exact sp_recQ_lt | omega) (by first | assumption | decide | exact wgIx_lt _ | exact plIx_lt _ | exact sp_recQ_lt | omega)) (ka_Rc_place (by first | assumption | decide | exact wgIx_lt _ | exact plIx_lt _ | exact sp_recQ_lt | omega) (by first | assumption | decide | exact wgIx_lt _ | exact plIx_lt _ | exact sp_recQ_lt | omega)) rfl ka_q_ml_X3_212 ka_q_im_X2_grow ka_q_se_X2_grow ka_q_in_X2 ka_q_co_X2_grow ky_X2_grow (by decide) (by decide) (Nat.le_of_ble_eq_true rfl) rfl dX3_growHeaps_15 ?_
      refine ka_iinc_1 (v := 1) hC dX3_growHeaps_18 rfl (by decide) ?_
      refine ka_goto (tgt := 2) hC dX3_growHeaps_21 (by decide) ?_
      exact ka_I.back 2 (by first | with_reducible rfl | (simp only [sp_growAll, sp_growX_0, sp_growX_s, nI_1, c7]; done) | (simp only [sp_growAll, sp_growX_0, sp_growX_s, nI_1, if_neg c7, if_pos c7]; done) | (simp [sp_growAll, sp_growX_0, sp_growX_s, nI_1, c7]; done) | (simp [sp_growAll, sp_growX_0, sp_growX_s, nI_1, if_neg c7, if_pos c7]; done) | contradiction | rfl) (by first | with_reducible rfl | (simp only [sp_growAll, sp_growX_0, sp_growX_s, nI_1, c7]; done) | (simp only [sp_growAll, sp_growX_0, sp_growX_s, nI_1, if_neg c7, if_pos c7]; done) | (simp [sp_growAll, sp_growX_0, sp_growX_s, nI_1, c7]; done) | (simp [sp_growAll, sp_growX_0, sp_growX_s, nI_1, if_neg c7, if_pos c7]; done) | contradiction | rfl) (ih2 (i + 1) (by omega) (by omega))
theorem ky_X3_arrive : ka_y yX3_arrive 0 := by unfold ka_y; decide +kernel
set_option maxHeartbeats 4000000 in
set_option maxRecDepth 100000 in
theorem m_X3_arrive {G : ka_G} (hG : ka_AD G) {V : ka_W} {r : Nat} (hr : r < 6) {P : ka_P}  : ka_M G yX3_arrive cX3_arrive 4 (some FieldType.int) 1 [.ref (ka_ad G r 0)] (ka_sp V r P) (some (.int ((sp_arrive P).2))) (ka_sp V r (sp_arrive P).1) := by
  refine ka_entry hG ka_pn_X3 (ka_cat1 rfl) (Nat.le_of_ble_eq_true rfl) (fun X hC hR => ?_)
  refine ka_iconst (v := 0) hC dX3_arrive_0 rfl ?_
  refine ka_istore_n_p1 hC dX3_arrive_1 (by decide) ?_
  refine ka_iconst (v := 0) hC dX3_arrive_2 rfl ?_
  refine ka_istore_n_p2 hC dX3_arrive_3 (by decide) ?_
  suffices H4 : ∀ jj i : Nat, i ≤ cn (P 0 6) → cn (P 0 6) - i < jj → ka_I G X (ka_sp V r (sp_arriveX P i).1) 4 [.ref (ka_ad G r 0), .int (sp_arriveX P i).2, .int (nI i)] [] from ka_I.back 3 (by first | with_reducible rfl | (simp only [sp_arrive, sp_arriveX_0, sp_arriveX_s, sp_arriveAt, sp_add, pU, nI_1]; done) | (simp only [sp_arrive, sp_arriveX_0, sp_arriveX_s, sp_arriveAt, sp_add, pU, nI_1]; done) | (simp [sp_arrive, sp_arriveX_0, sp_arriveX_s, sp_arriveAt, sp_add, pU, nI_1]; done) | (simp [sp_arrive, sp_arriveX_0, sp_arriveX_s, sp_arriveAt, sp_add, pU, nI_1]; done) | contradiction | rfl) (by first | with_reducible rfl | (simp only [sp_arrive, sp_arriveX_0, sp_arriveX_s, sp_arriveAt, sp_add, pU, nI_1]; done) | (simp only [sp_arrive, sp_arriveX_0, sp_arriveX_s, sp_arriveAt, sp_add, pU, nI_1]; done) | (simp [sp_arrive, sp_arriveX_0, sp_arriveX_s, sp_arriveAt, sp_add, pU, nI_1]; done) | (simp [sp_arrive, sp_arriveX_0, sp_arriveX_s, sp_arriveAt, sp_add, pU, nI_1]; done) | contradiction | rfl) (H4 (cn (P 0 6) + 1) 0 (by omega) (by omega))
  intro j4
  induction j4 with
  | zero => intro i h1 h2 ; exact absurd h2 (Nat.not_lt_zero _)
  | succ j4 ih4 =>
    intro i hle4 hlt4 
    refine ka_iload_n hC dX3_arrive_4 rfl ?_
    refine ka_aload_n hC dX3_arrive_5 rfl ?_
    refine kgp_X3_62 (by first | assumption | decide | exact wgIx_lt _ | exact plIx_lt _ | exact sp_recQ_lt | omega) hC dX3_arrive_6 ?_
    refine ka_icmp_ge (tgt := 67) hC dX3_arrive_9 (by decide) (fun c9 => ?_) (fun c9 => ?_)
    · skip
      rw [fx_arriveX.2.1] at c9
      obtain rfl : i = cn (P 0 6) := nlt_cn hle4 c9
      refine ka_iload_n hC dX3_arrive_67 rfl ?_
      exact ka_iret hC hR dX3_arrive_68 (by first | with_reducible rfl | (simp only [sp_arrive, sp_arriveX_0, sp_arriveX_s, sp_arriveAt, sp_add, pU, nI_1, c9]; done) | (simp only [sp_arrive, sp_arriveX_0, sp_arriveX_s, sp_arriveAt, sp_add, pU, nI_1, if_neg c9, if_pos c9]; done) | (simp [sp_arrive, sp_arriveX_0, sp_arriveX_s, sp_arriveAt, sp_add, pU, nI_1, c9]; done) | (simp [sp_arrive, sp_arriveX_0, sp_arriveX_s, sp_arriveAt, sp_add, pU, nI_1, if_neg c9, if_pos c9]; done) | contradiction | rfl) (by first | with_reducible rfl | (simp only [sp_arrive, sp_arriveX_0, sp_arriveX_s, sp_arriveAt, sp_add, pU, nI_1, c9]; done) | (simp only [sp_arrive, sp_arriveX_0, sp_arriveX_s, sp_arriveAt, sp_add, pU, nI_1, if_neg c9, if_pos c9]; done) | (simp [sp_arrive, sp_arriveX_0, sp_arriveX_s, sp_arriveAt, sp_add, pU, nI_1, c9]; done) | (simp [sp_arrive, sp_arriveX_0, sp_arriveX_s, sp_arriveAt, sp_add, pU, nI_1, if_neg c9, if_pos c9]; done) | contradiction | rfl)
    · skip
      rw [fx_arriveX.2.1] at c9
      have hi : i < cn (P 0 6) := lt_cn hle4 c9
      refine ka_aload_n hC dX3_arrive_12 rfl ?_
      refine ka_iload_n hC dX3_arrive_13 rfl ?_
      refine ka_callV hC (m_X3_wagonAt hG (by first | assumption | decide | exact wgIx_lt _ | exact plIx_lt _ | exact sp_recQ_lt | omega)) (ka_Rc_pool (by first | assumption | decide | exact wgIx_lt _ | exact plIx_lt _ | exact sp_recQ_lt | omega)) rfl ka_q_ml_X3_119 ka_q_im_X3_wagonAt ka_q_se_X3_wagonAt ka_q_in_X3 ka_q_co_X3_wagonAt ky_X3_wagonAt (by decide) (by decide) (Nat.le_of_ble_eq_true rfl) rfl dX3_arrive_14 ?_
      refine ka_astore_n_p3 hC dX3_arrive_17 (by decide) ?_
      refine ka_aload_n hC dX3_arrive_18 rfl ?_
      refine kgp_X3_154 (by first | assumption | decide | exact wgIx_lt _ | exact plIx_lt _ | exact sp_recQ_lt | omega) (by first | assumption | decide | exact wgIx_lt _ | exact plIx_lt _ | exact sp_recQ_lt | omega) hC dX3_arrive_19 ?_
      refine ka_iconst (v := 1) hC dX3_arrive_22 rfl ?_
      refine ka_icmp_ne (tgt := 61) hC dX3_arrive_23 (by decide) (fun c23 => ?_) (fun c23 => ?_)
      · skip
        refine ka_iinc_2 (v := 1) hC dX3_arrive_61 rfl (by decide) ?_
        refine ka_goto (tgt := 4) hC dX3_arrive_64 (by decide) ?_
        exact ka_I.back 3 (by first | with_reducible rfl | (simp only [sp_arrive, sp_arriveX_0, sp_arriveX_s, sp_arriveAt, sp_add, pU, nI_1, c9, c23]; done) | (simp only [sp_arrive, sp_arriveX_0, sp_arriveX_s, sp_arriveAt, sp_add, pU, nI_1, if_pos c9, if_neg (not_not_intro c9), if_neg c23, if_pos c23]; done) | (simp [sp_arrive, sp_arriveX_0, sp_arriveX_s, sp_arriveAt, sp_add, pU, nI_1, c9, c23]; done) | (simp [sp_arrive, sp_arriveX_0, sp_arriveX_s, sp_arriveAt, sp_add, pU, nI_1, if_pos c9, if_neg (not_not_intro c9), if_neg c23, if_pos c23]; done) | contradiction | rfl) (by first | with_reducible rfl | (simp only [sp_arrive, sp_arriveX_0, sp_arriveX_s, sp_arriveAt, sp_add, pU, nI_1, c9, c23]; done) | (simp only [sp_arrive, sp_arriveX_0, sp_arriveX_s, sp_arriveAt, sp_add, pU, nI_1, if_pos c9, if_neg (not_not_intro c9), if_neg c23, if_pos c23]; done) | (simp [sp_arrive, sp_arriveX_0, sp_arriveX_s, sp_arriveAt, sp_add, pU, nI_1, c9, c23]; done) | (simp [sp_arrive, sp_arriveX_0, sp_arriveX_s, sp_arriveAt, sp_add, pU, nI_1, if_pos c9, if_neg (not_not_intro c9), if_neg c23, if_pos c23]; done) | contradiction | rfl) (ih4 (i + 1) (by omega) (by omega))
      · skip
        refine ka_aload_n hC dX3_arrive_26 rfl ?_
        refine kgp_X3_176 (by first | assumption | decide | exact wgIx_lt _ | exact plIx_lt _ | exact sp_recQ_lt | omega) (by first | assumption | decide | exact wgIx_lt _ | exact plIx_lt _ | exact sp_recQ_lt | omega) hC dX3_arrive_27 ?_
        refine ka_aload_n hC dX3_arrive_30 rfl ?_
        refine kgp_X3_65 (by first | assumption | decide | exact wgIx_lt _ | exact plIx_lt _ | exact sp_recQ_lt | omega) hC dX3_arrive_31 ?_
        refine ka_icmp_ne (tgt := 61) hC dX3_arrive_34 (by decide) (fun c34 => ?_) (fun c34 => ?_)
        · skip
          refine ka_iinc_2 (v := 1) hC dX3_arrive_61 rfl (by decide) ?_
          refine ka_goto (tgt := 4) hC dX3_arrive_64 (by decide) ?_
          exact ka_I.back 3 (by first | with_reducible rfl | (simp only [sp_arrive, sp_arriveX_0, sp_arriveX_s, sp_arriveAt, sp_add, pU, nI_1, c9, c23, c34]; done) | (simp only [sp_arrive, sp_arriveX_0, sp_arriveX_s, sp_arriveAt, sp_add, pU, nI_1, if_pos c9, if_neg (not_not_intro c9), if_pos c23, if_neg (not_not_intro c23), if_neg c34, if_pos c34]; done) | (simp [sp_arrive, sp_arriveX_0, sp_arriveX_s, sp_arriveAt, sp_add, pU, nI_1, c9, c23, c34]; done) | (simp [sp_arrive, sp_arriveX_0, sp_arriveX_s, sp_arriveAt, sp_add, pU, nI_1, if_pos c9, if_neg (not_not_intro c9), if_pos c23, if_neg (not_not_intro c23), if_neg c34, if_pos c34]; done) | contradiction | rfl) (by first | with_reducible rfl | (simp only [sp_arrive, sp_arriveX_0, sp_arriveX_s, sp_arriveAt, sp_add, pU, nI_1, c9, c23, c34]; done) | (simp only [sp_arrive, sp_arriveX_0, sp_arriveX_s, sp_arriveAt, sp_add, pU, nI_1, if_pos c9, if_neg (not_not_intro c9), if_pos c23, if_neg (not_not_intro c23), if_neg c34, if_pos c34]; done) | (simp [sp_arrive, sp_arriveX_0, sp_arriveX_s, sp_arriveAt, sp_add, pU, nI_1, c9, c23, c34]; done) | (simp [sp_arrive, sp_arriveX_0, sp_arriveX_s, sp_arriveAt, sp_add, pU, nI_1, if_pos c9, if_neg (not_not_intro c9), if_pos c23, if_neg (not_not_intro c23), if_neg c34, if_pos c34]; done) | contradiction | rfl) (ih4 (i + 1) (by omega) (by omega))
        · skip
          refine ka_aload_n hC dX3_arrive_37 rfl ?_
          refine ka_dup hC dX3_arrive_38 rfl ?_
          refine kgp_X3_92 (by first | assumption | decide | exact wgIx_lt _ | exact plIx_lt _ | exact sp_recQ_lt | omega) (by first | assumption | decide | exact wgIx_lt _ | exact plIx_lt _ | exact sp_recQ_lt | omega) hC dX3_arrive_39 ?_
          refine ka_aload_n hC dX3_arrive_42 rfl ?_
          refine kgp_X3_215 (by first | assumption | decide | exact wgIx_lt _ | exact plIx_lt _ | exact sp_recQ_lt | omega) (by first | assumption | decide | exact wgIx_lt _ | exact plIx_lt _ | exact sp_recQ_lt | omega) hC dX3_arrive_43 ?_
          refine ka_iadd hC dX3_arrive_46 ?_
          refine kpp_X3_92 (by first | assumption | decide | exact wgIx_lt _ | exact plIx_lt _ | exact sp_recQ_lt | omega) (by first | assumption | decide | exact wgIx_lt _ | exact plIx_lt _ | exact sp_recQ_lt | omega) hC dX3_arrive_47 ?_
          refine ka_aload_n hC dX3_arrive_50 rfl ?_
          refine ka_aload_n hC dX3_arrive_51 rfl ?_
          refine kgp_X3_65 (by first | assumption | decide | exact wgIx_lt _ | exact plIx_lt _ | exact sp_recQ_lt | omega) hC dX3_arrive_52 ?_
          refine ka_callV hC (m_X5_standFrom hG (by first | assumption | decide | exact wgIx_lt _ | exact plIx_lt _ | exact sp_recQ_lt | omega) (by first | assumption | decide | exact wgIx_lt _ | exact plIx_lt _ | exact sp_recQ_lt | omega)) (ka_Rc_wagon (by first | assumption | decide | exact wgIx_lt _ | exact plIx_lt _ | exact sp_recQ_lt | omega) (by first | assumption | decide | exact wgIx_lt _ | exact plIx_lt _ | exact sp_recQ_lt | omega)) rfl ka_q_ml_X3_129 ka_q_im_X5_standFrom ka_q_se_X5_standFrom ka_q_in_X5 ka_q_co_X5_standFrom ky_X5_standFrom (by decide) (by decide) (Nat.le_of_ble_eq_true rfl) rfl dX3_arrive_55 ?_
          refine ka_iinc_1 (v := 1) hC dX3_arrive_58 rfl (by decide) ?_
          refine ka_iinc_2 (v := 1) hC dX3_arrive_61 rfl (by decide) ?_
          refine ka_goto (tgt := 4) hC dX3_arrive_64 (by decide) ?_
          exact ka_I.back 3 (by first | with_reducible rfl | (simp only [sp_arrive, sp_arriveX_0, sp_arriveX_s, sp_arriveAt, sp_add, pU, nI_1, c9, c23, c34]; done) | (simp only [sp_arrive, sp_arriveX_0, sp_arriveX_s, sp_arriveAt, sp_add, pU, nI_1, if_pos c9, if_neg (not_not_intro c9), if_pos c23, if_neg (not_not_intro c23), if_pos c34, if_neg (not_not_intro c34)]; done) | (simp [sp_arrive, sp_arriveX_0, sp_arriveX_s, sp_arriveAt, sp_add, pU, nI_1, c9, c23, c34]; done) | (simp [sp_arrive, sp_arriveX_0, sp_arriveX_s, sp_arriveAt, sp_add, pU, nI_1, if_pos c9, if_neg (not_not_intro c9), if_pos c23, if_neg (not_not_intro c23), if_pos c34, if_neg (not_not_intro c34)]; done) | contradiction | rfl) (by first | with_reducible rfl | (simp only [sp_arrive, sp_arriveX_0, sp_arriveX_s, sp_arriveAt, sp_add, pU, nI_1, c9, c23, c34]; done) | (simp only [sp_arrive, sp_arriveX_0, sp_arriveX_s, sp_arriveAt, sp_add, pU, nI_1, if_pos c9, if_neg (not_not_intro c9), if_pos c23, if_neg (not_not_intro c23), if_pos c34, if_neg (not_not_intro c34)]; done) | (simp [sp_arrive, sp_arriveX_0, sp_arriveX_s, sp_arriveAt, sp_add, pU, nI_1, c9, c23, c34]; done) | (simp [sp_arrive, sp_arriveX_0, sp_arriveX_s, sp_arriveAt, sp_add, pU, nI_1, if_pos c9, if_neg (not_not_intro c9), if_pos c23, if_neg (not_not_intro c23), if_pos c34, if_neg (not_not_intro c34)]; done) | contradiction | rfl) (ih4 (i + 1) (by omega) (by omega))
theorem ky_X3_endRepairs : ka_y yX3_endRepairs 0 := by unfold ka_y; decide +kernel
set_option maxHeartbeats 4000000 in
set_option maxRecDepth 100000 in
theorem m_X3_endRepairs {G : ka_G} (hG : ka_AD G) {V : ka_W} {r : Nat} (hr : r < 6) {P : ka_P} (hz : ¬ P 30 1 < 0)  : ka_M G yX3_endRepairs cX3_endRepairs 3 none 1 [.ref (ka_ad G r 0)] (ka_sp V r P) none (ka_sp V r (sp_ends P)) := by
  refine ka_entry hG ka_pn_X3 (ka_cat1 rfl) (Nat.le_of_ble_eq_true rfl) (fun X hC hR => ?_)
  refine ka_aload_n hC dX3_endRepairs_0 rfl ?_
  refine kg_X3_38 (by first | assumption | decide | exact wgIx_lt _ | exact plIx_lt _ | exact sp_recQ_lt | omega) hC dX3_endRepairs_1 ?_
  refine ka_callV hC (m_X4_atWork hG (by first | assumption | decide | exact wgIx_lt _ | exact plIx_lt _ | exact sp_recQ_lt | omega)) (ka_Rc_shop (by first | assumption | decide | exact wgIx_lt _ | exact plIx_lt _ | exact sp_recQ_lt | omega)) rfl ka_q_ml_X3_218 ka_q_im_X4_atWork ka_q_se_X4_atWork ka_q_in_X4 ka_q_co_X4_atWork ky_X4_atWork (by decide) (by decide) (Nat.le_of_ble_eq_true rfl) rfl dX3_endRepairs_4 ?_
  refine ka_iconst (v := 1) hC dX3_endRepairs_7 rfl ?_
  refine ka_isub hC dX3_endRepairs_8 ?_
  refine ka_istore_n_p1 hC dX3_endRepairs_9 (by decide) ?_
  suffices H10 : ∀ jj i : Nat, i ≤ cn (sp_atWork P) → cn (sp_atWork P) - i < jj → ka_I G X (ka_sp V r (sp_endX P i)) 10 [.ref (ka_ad G r 0), .int (nI (cn (sp_atWork P) - i) - 1)] [] from ka_I.back 2 (by first | with_reducible rfl | (simp only [sp_ends, sp_endX_0, sp_endX_s, sp_endAt, sp_add, pU]; done) | (simp only [sp_ends, sp_endX_0, sp_endX_s, sp_endAt, sp_add, pU]; done) | (simp [sp_ends, sp_endX_0, sp_endX_s, sp_endAt, sp_add, pU]; done) | (simp [sp_ends, sp_endX_0, sp_endX_s, sp_endAt, sp_add, pU]; done) | contradiction | rfl) (by rw [Nat.sub_zero, sp_end_0 hz]; rfl) (H10 (cn (sp_atWork P) + 1) 0 (by omega) (by omega))
  intro j10
  induction j10 with
  | zero => intro i h1 h2 ; exact absurd h2 (Nat.not_lt_zero _)
  | succ j10 ih10 =>
    intro i hle10 hlt10 
    refine ka_iload_n hC dX3_endRepairs_10 rfl ?_
    refine ka_if_lt (tgt := 75) hC dX3_endRepairs_11 (by decide) (fun c11 => ?_) (fun c11 => ?_)
    · skip
      obtain rfl : i = cn (sp_atWork P) := sp_end_e hz hle10 c11
      exact ka_vret hC hR dX3_endRepairs_75 rfl (by first | with_reducible rfl | (simp only [sp_ends, sp_endX_0, sp_endX_s, sp_endAt, sp_add, pU, c11]; done) | (simp only [sp_ends, sp_endX_0, sp_endX_s, sp_endAt, sp_add, pU, if_pos c11, if_neg (not_not_intro c11)]; done) | (simp [sp_ends, sp_endX_0, sp_endX_s, sp_endAt, sp_add, pU, c11]; done) | (simp [sp_ends, sp_endX_0, sp_endX_s, sp_endAt, sp_add, pU, if_pos c11, if_neg (not_not_intro c11)]; done) | contradiction | rfl)
    · skip
      have hi : i < cn (sp_atWork P) := sp_end_lt hz hle10 c11
      rw [sp_end_k hi]
      refine ka_aload_n hC dX3_endRepairs_14 rfl ?_
      refine ka_aload_n hC dX3_endRepairs_15 rfl ?_
      refine kg_X3_38 (by first | assumption | decide | exact wgIx_lt _ | exact plIx_lt _ | exact sp_recQ_lt | omega) hC dX3_endRepairs_16 ?_
      refine ka_iload_n hC dX3_endRepairs_19 rfl ?_
      refine ka_callV hC (m_X4_numberAt hG (by first | assumption | decide | exact wgIx_lt _ | exact plIx_lt _ | exact sp_recQ_lt | omega)) (ka_Rc_shop (by first | assumption | decide | exact wgIx_lt _ | exact plIx_lt _ | exact sp_recQ_lt | omega)) rfl ka_q_ml_X3_221 ka_q_im_X4_numberAt ka_q_se_X4_numberAt ka_q_in_X4 ka_q_co_X4_numberAt ky_X4_numberAt (by decide) (by decide) (Nat.le_of_ble_eq_true rfl) rfl dX3_endRepairs_20 ?_
      refine ka_callV hC (m_X3_wagonAt hG (by first | assumption | decide | exact wgIx_lt _ | exact plIx_lt _ | exact sp_recQ_lt | omega)) (ka_Rc_pool (by first | assumption | decide | exact wgIx_lt _ | exact plIx_lt _ | exact sp_recQ_lt | omega)) rfl ka_q_ml_X3_119 ka_q_im_X3_wagonAt ka_q_se_X3_wagonAt ka_q_in_X3 ka_q_co_X3_wagonAt ky_X3_wagonAt (by decide) (by decide) (Nat.le_of_ble_eq_true rfl) rfl dX3_endRepairs_23 ?_
      refine ka_astore_n_p2 hC dX3_endRepairs_26 (by decide) ?_
      refine ka_aload_n hC dX3_endRepairs_27 rfl ?_
      refine kgp_X3_176 (by first | assumption | decide | exact wgIx_lt _ | exact plIx_lt _ | exact sp_recQ_lt | omega) (by first | assumption | decide | exact wgIx_lt _ | exact plIx_lt _ | exact sp_recQ_lt | omega) hC dX3_endRepairs_28 ?_
      refine ka_aload_n hC dX3_endRepairs_31 rfl ?_
      refine kgp_X3_65 (by first | assumption | decide | exact wgIx_lt _ | exact plIx_lt _ | exact sp_recQ_lt | omega) hC dX3_endRepairs_32 ?_
      refine ka_icmp_ne (tgt := 69) hC dX3_endRepairs_35 (by decide) (fun c35 => ?_) (fun c35 => ?_)
      · skip
        refine ka_iinc_1 (v := (-1)) hC dX3_endRepairs_69 rfl (by decide) ?_
        refine ka_goto (tgt := 10) hC dX3_endRepairs_72 (by decide) ?_
        exact ka_I.back 2 (by first | with_reducible rfl | (simp only [sp_ends, sp_endX_0, sp_endX_s, sp_endAt, sp_add, pU, c11, c35]; done) | (simp only [sp_ends, sp_endX_0, sp_endX_s, sp_endAt, sp_add, pU, if_neg c11, if_pos c11, if_neg c35, if_pos c35]; done) | (simp [sp_ends, sp_endX_0, sp_endX_s, sp_endAt, sp_add, pU, c11, c35]; done) | (simp [sp_ends, sp_endX_0, sp_endX_s, sp_endAt, sp_add, pU, if_neg c11, if_pos c11, if_neg c35, if_pos c35]; done) | contradiction | rfl) (by rw [← sp_end_s hi]; rfl) (ih10 (i + 1) (by omega) (by omega))
      · skip
        refine ka_aload_n hC dX3_endRepairs_38 rfl ?_
        refine kg_X3_38 (by first | assumption | decide | exact wgIx_lt _ | exact plIx_lt _ | exact sp_recQ_lt | omega) hC dX3_endRepairs_39 ?_
        refine ka_iload_n hC dX3_endRepairs_42 rfl ?_
        refine ka_callV hC (m_X4_leave hG (by first | assumption | decide | exact wgIx_lt _ | exact plIx_lt _ | exact sp_recQ_lt | omega) (cn (sp_atWork P) - 1 - i) (sp_end_20 hz hi)) (ka_Rc_shop (by first | assumption | decide | exact wgIx_lt _ | exact plIx_lt _ | exact sp_recQ_lt | omega)) rfl ka_q_ml_X3_224 ka_q_im_X4_leave ka_q_se_X4_leave ka_q_in_X4 ka_q_co_X4_leave ky_X4_leave (by decide) (by decide) (Nat.le_of_ble_eq_true rfl) rfl dX3_endRepairs_43 ?_
        refine ka_aload_n hC dX3_endRepairs_46 rfl ?_
        refine ka_iconst (v := 0) hC dX3_endRepairs_47 rfl ?_
        refine kpp_X3_92 (by first | assumption | decide | exact wgIx_lt _ | exact plIx_lt _ | exact sp_recQ_lt | omega) (by first | assumption | decide | exact wgIx_lt _ | exact plIx_lt _ | exact sp_recQ_lt | omega) hC dX3_endRepairs_48 ?_
        refine ka_aload_n hC dX3_endRepairs_51 rfl ?_
        refine ka_aload_n hC dX3_endRepairs_52 rfl ?_
        refine kgp_X3_65 (by first | assumption | decide | exact wgIx_lt _ | exact plIx_lt _ | exact sp_recQ_lt | omega) hC dX3_endRepairs_53 ?_
        refine ka_callV hC (m_X5_standFrom hG (by first | assumption | decide | exact wgIx_lt _ | exact plIx_lt _ | exact sp_recQ_lt | omega) (by first | assumption | decide | exact wgIx_lt _ | exact plIx_lt _ | exact sp_recQ_lt | omega)) (ka_Rc_wagon (by first | assumption | decide | exact wgIx_lt _ | exact plIx_lt _ | exact sp_recQ_lt | omega) (by first | assumption | decide | exact wgIx_lt _ | exact plIx_lt _ | exact sp_recQ_lt | omega)) rfl ka_q_ml_X3_129 ka_q_im_X5_standFrom ka_q_se_X5_standFrom ka_q_in_X5 ka_q_co_X5_standFrom ky_X5_standFrom (by decide) (by decide) (Nat.le_of_ble_eq_true rfl) rfl dX3_endRepairs_56 ?_
        refine ka_aload_n hC dX3_endRepairs_59 rfl ?_
        refine ka_dup hC dX3_endRepairs_60 rfl ?_
        refine kgp_X3_68 (by first | assumption | decide | exact wgIx_lt _ | exact plIx_lt _ | exact sp_recQ_lt | omega) hC dX3_endRepairs_61 ?_
        refine ka_iconst (v := 1) hC dX3_endRepairs_64 rfl ?_
        refine ka_iadd hC dX3_endRepairs_65 ?_
        refine kpp_X3_68 (by first | assumption | decide | exact wgIx_lt _ | exact plIx_lt _ | exact sp_recQ_lt | omega) hC dX3_endRepairs_66 ?_
        refine ka_iinc_1 (v := (-1)) hC dX3_endRepairs_69 rfl (by decide) ?_
        refine ka_goto (tgt := 10) hC dX3_endRepairs_72 (by decide) ?_
        exact ka_I.back 2 (by first | with_reducible rfl | (simp only [sp_ends, sp_endX_0, sp_endX_s, sp_endAt, sp_add, pU, c11, c35]; done) | (simp only [sp_ends, sp_endX_0, sp_endX_s, sp_endAt, sp_add, pU, if_neg c11, if_pos c11, if_pos c35, if_neg (not_not_intro c35)]; done) | (simp [sp_ends, sp_endX_0, sp_endX_s, sp_endAt, sp_add, pU, c11, c35]; done) | (simp [sp_ends, sp_endX_0, sp_endX_s, sp_endAt, sp_add, pU, if_neg c11, if_pos c11, if_pos c35, if_neg (not_not_intro c35)]; done) | contradiction | rfl) (by rw [← sp_end_s hi]; rfl) (ih10 (i + 1) (by omega) (by omega))
theorem ky_X3_payForTheDay : ka_y yX3_payForTheDay 0 := by unfold ka_y; decide +kernel
set_option maxHeartbeats 4000000 in
set_option maxRecDepth 100000 in
theorem m_X3_payForTheDay {G : ka_G} (hG : ka_AD G) {V : ka_W} {r : Nat} (hr : r < 6) {P : ka_P}  : ka_M G yX3_payForTheDay cX3_payForTheDay 8 none 1 [.ref (ka_ad G r 0)] (ka_sp V r P) none (ka_sp V r (sp_payDay P)) := by
  refine ka_entry hG ka_pn_X3 (ka_cat1 rfl) (Nat.le_of_ble_eq_true rfl) (fun X hC hR => ?_)
  refine ka_aload_n hC dX3_payForTheDay_0 rfl ?_
  refine ka_iconst (v := 0) hC dX3_payForTheDay_1 rfl ?_
  refine ka_callV hC (m_X3_placeAt hG (by first | assumption | decide | exact wgIx_lt _ | exact plIx_lt _ | exact sp_recQ_lt | omega)) (ka_Rc_pool (by first | assumption | decide | exact wgIx_lt _ | exact plIx_lt _ | exact sp_recQ_lt | omega)) rfl ka_q_ml_X3_85 ka_q_im_X3_placeAt ka_q_se_X3_placeAt ka_q_in_X3 ka_q_co_X3_placeAt ky_X3_placeAt (by decide) (by decide) (Nat.le_of_ble_eq_true rfl) rfl dX3_payForTheDay_2 ?_
  refine ka_astore_n_p1 hC dX3_payForTheDay_5 (by decide) ?_
  refine ka_aload_n hC dX3_payForTheDay_6 rfl ?_
  refine ka_iconst (v := 2) hC dX3_payForTheDay_7 rfl ?_
  refine ka_callV hC (m_X3_setting hG (by first | assumption | decide | exact wgIx_lt _ | exact plIx_lt _ | exact sp_recQ_lt | omega)) (ka_Rc_pool (by first | assumption | decide | exact wgIx_lt _ | exact plIx_lt _ | exact sp_recQ_lt | omega)) rfl ka_q_ml_X3_95 ka_q_im_X3_setting ka_q_se_X3_setting ka_q_in_X3 ka_q_co_X3_setting ky_X3_setting (by decide) (by decide) (Nat.le_of_ble_eq_true rfl) rfl dX3_payForTheDay_8 ?_
  refine ka_istore_n_p2 hC dX3_payForTheDay_11 (by decide) ?_
  refine ka_aload_n hC dX3_payForTheDay_12 rfl ?_
  refine ka_iconst (v := 1) hC dX3_payForTheDay_13 rfl ?_
  refine ka_callV hC (m_X3_setting hG (by first | assumption | decide | exact wgIx_lt _ | exact plIx_lt _ | exact sp_recQ_lt | omega)) (ka_Rc_pool (by first | assumption | decide | exact wgIx_lt _ | exact plIx_lt _ | exact sp_recQ_lt | omega)) rfl ka_q_ml_X3_95 ka_q_im_X3_setting ka_q_se_X3_setting ka_q_in_X3 ka_q_co_X3_setting ky_X3_setting (by decide) (by decide) (Nat.le_of_ble_eq_true rfl) rfl dX3_payForTheDay_14 ?_
  refine ka_istore_n_p3 hC dX3_payForTheDay_17 (by decide) ?_
  refine ka_aload_n hC dX3_payForTheDay_18 rfl ?_
  refine ka_iconst (v := 0) hC dX3_payForTheDay_19 rfl ?_
  refine ka_callV hC (m_X3_setting hG (by first | assumption | decide | exact wgIx_lt _ | exact plIx_lt _ | exact sp_recQ_lt | omega)) (ka_Rc_pool (by first | assumption | decide | exact wgIx_lt _ | exact plIx_lt _ | exact sp_recQ_lt | omega)) rfl ka_q_ml_X3_95 ka_q_im_X3_setting ka_q_se_X3_setting ka_q_in_X3 ka_q_co_X3_setting ky_X3_setting (by decide) (by decide) (Nat.le_of_ble_eq_true rfl) rfl dX3_payForTheDay_20 ?_
  refine ka_istore_p4 hC dX3_payForTheDay_23 (by decide) ?_
  refine ka_iconst (v := 0) hC dX3_payForTheDay_25 rfl ?_
  refine ka_istore_p5 hC dX3_payForTheDay_26 (by decide) ?_
  suffices H28 : ∀ jj i : Nat, i ≤ cn (P 0 6) → cn (P 0 6) - i < jj → ka_I G X (ka_sp V r (sp_payX P i)) 28 [.ref (ka_ad G r 0), .ref (ka_ad G r (2 + plIx 0)), .int (sp_setting P 2), .int (sp_setting P 1), .int (sp_setting P 0), .int (nI i)] [] from ka_I.back 6 (by first | with_reducible rfl | (simp only [sp_payDay, sp_payX_0, sp_payX_s, sp_payAt, nI_1]; done) | (simp only [sp_payDay, sp_payX_0, sp_payX_s, sp_payAt, nI_1]; done) | (simp [sp_payDay, sp_payX_0, sp_payX_s, sp_payAt, nI_1]; done) | (simp [sp_payDay, sp_payX_0, sp_payX_s, sp_payAt, nI_1]; done) | contradiction | rfl) (by first | with_reducible rfl | (simp only [sp_payDay, sp_payX_0, sp_payX_s, sp_payAt, nI_1]; done) | (simp only [sp_payDay, sp_payX_0, sp_payX_s, sp_payAt, nI_1]; done) | (simp [sp_payDay, sp_payX_0, sp_payX_s, sp_payAt, nI_1]; done) | (simp [sp_payDay, sp_payX_0, sp_payX_s, sp_payAt, nI_1]; done) | contradiction | rfl) (H28 (cn (P 0 6) + 1) 0 (by omega) (by omega))
  intro j28
  induction j28 with
  | zero => intro i h1 h2 ; exact absurd h2 (Nat.not_lt_zero _)
  | succ j28 ih28 =>
    intro i hle28 hlt28 
    refine ka_iload hC dX3_payForTheDay_28 rfl ?_
    refine ka_aload_n hC dX3_payForTheDay_30 rfl ?_
    refine kgp_X3_62 (by first | assumption | decide | exact wgIx_lt _ | exact plIx_lt _ | exact sp_recQ_lt | omega) hC dX3_payForTheDay_31 ?_
    refine ka_icmp_ge (tgt := 115) hC dX3_payForTheDay_34 (by decide) (fun c34 => ?_) (fun c34 => ?_)
    · skip
      rw [fx_payX.2.1] at c34
      obtain rfl : i = cn (P 0 6) := nlt_cn hle28 c34
      exact ka_vret hC hR dX3_payForTheDay_115 rfl (by first | with_reducible rfl | (simp only [sp_payDay, sp_payX_0, sp_payX_s, sp_payAt, nI_1, c34]; done) | (simp only [sp_payDay, sp_payX_0, sp_payX_s, sp_payAt, nI_1, if_neg c34, if_pos c34]; done) | (simp [sp_payDay, sp_payX_0, sp_payX_s, sp_payAt, nI_1, c34]; done) | (simp [sp_payDay, sp_payX_0, sp_payX_s, sp_payAt, nI_1, if_neg c34, if_pos c34]; done) | contradiction | rfl)
    · skip
      rw [fx_payX.2.1] at c34
      have hi : i < cn (P 0 6) := lt_cn hle28 c34
      refine ka_aload_n hC dX3_payForTheDay_37 rfl ?_
      refine ka_iload hC dX3_payForTheDay_38 rfl ?_
      refine ka_callV hC (m_X3_wagonAt hG (by first | assumption | decide | exact wgIx_lt _ | exact plIx_lt _ | exact sp_recQ_lt | omega)) (ka_Rc_pool (by first | assumption | decide | exact wgIx_lt _ | exact plIx_lt _ | exact sp_recQ_lt | omega)) rfl ka_q_ml_X3_119 ka_q_im_X3_wagonAt ka_q_se_X3_wagonAt ka_q_in_X3 ka_q_co_X3_wagonAt ky_X3_wagonAt (by decide) (by decide) (Nat.le_of_ble_eq_true rfl) rfl dX3_payForTheDay_40 ?_
      refine ka_astore_p6 hC dX3_payForTheDay_43 (by decide) ?_
      refine ka_aload_n hC dX3_payForTheDay_45 rfl ?_
      refine ka_aload hC dX3_payForTheDay_46 rfl ?_
      refine kgp_X3_123 (by first | assumption | decide | exact wgIx_lt _ | exact plIx_lt _ | exact sp_recQ_lt | omega) (by first | assumption | decide | exact wgIx_lt _ | exact plIx_lt _ | exact sp_recQ_lt | omega) hC dX3_payForTheDay_48 ?_
      refine ka_callV hC (m_X3_placeAt hG (by first | assumption | decide | exact wgIx_lt _ | exact plIx_lt _ | exact sp_recQ_lt | omega)) (ka_Rc_pool (by first | assumption | decide | exact wgIx_lt _ | exact plIx_lt _ | exact sp_recQ_lt | omega)) rfl ka_q_ml_X3_85 ka_q_im_X3_placeAt ka_q_se_X3_placeAt ka_q_in_X3 ka_q_co_X3_placeAt ky_X3_placeAt (by decide) (by decide) (Nat.le_of_ble_eq_true rfl) rfl dX3_payForTheDay_51 ?_
      refine ka_astore_p7 hC dX3_payForTheDay_54 (by decide) ?_
      refine ka_aload hC dX3_payForTheDay_56 rfl ?_
      refine ka_callV hC (m_X5_isHired hG (by first | assumption | decide | exact wgIx_lt _ | exact plIx_lt _ | exact sp_recQ_lt | omega) (by first | assumption | decide | exact wgIx_lt _ | exact plIx_lt _ | exact sp_recQ_lt | omega)) (ka_Rc_wagon (by first | assumption | decide | exact wgIx_lt _ | exact plIx_lt _ | exact sp_recQ_lt | omega) (by first | assumption | decide | exact wgIx_lt _ | exact plIx_lt _ | exact sp_recQ_lt | omega)) rfl ka_q_ml_X3_227 ka_q_im_X5_isHired ka_q_se_X5_isHired ka_q_in_X5 ka_q_co_X5_isHired ky_X5_isHired (by decide) (by decide) (Nat.le_of_ble_eq_true rfl) rfl dX3_payForTheDay_58 ?_
      refine ka_if_eq_b (tgt := 79) hC dX3_payForTheDay_61 (by decide) (fun c61 => ?_) (fun c61 => ?_)
      · skip
        refine ka_aload hC dX3_payForTheDay_79 rfl ?_
        refine ka_callV hC (m_X5_isLoadedAtPort hG (by first | assumption | decide | exact wgIx_lt _ | exact plIx_lt _ | exact sp_recQ_lt | omega) (by first | assumption | decide | exact wgIx_lt _ | exact plIx_lt _ | exact sp_recQ_lt | omega)) (ka_Rc_wagon (by first | assumption | decide | exact wgIx_lt _ | exact plIx_lt _ | exact sp_recQ_lt | omega) (by first | assumption | decide | exact wgIx_lt _ | exact plIx_lt _ | exact sp_recQ_lt | omega)) rfl ka_q_ml_X3_161 ka_q_im_X5_isLoadedAtPort ka_q_se_X5_isLoadedAtPort ka_q_in_X5 ka_q_co_X5_isLoadedAtPort ky_X5_isLoadedAtPort (by decide) (by decide) (Nat.le_of_ble_eq_true rfl) rfl dX3_payForTheDay_81 ?_
        refine ka_if_eq_b (tgt := 109) hC dX3_payForTheDay_84 (by decide) (fun c84 => ?_) (fun c84 => ?_)
        · skip
          refine ka_iinc_5 (v := 1) hC dX3_payForTheDay_109 rfl (by decide) ?_
          refine ka_goto (tgt := 28) hC dX3_payForTheDay_112 (by decide) ?_
          exact ka_I.back 6 (by first | with_reducible rfl | (simp only [sp_payDay, sp_payX_0, sp_payX_s, sp_payAt, nI_1, c34, c61, c84]; done) | (simp only [sp_payDay, sp_payX_0, sp_payX_s, sp_payAt, nI_1, if_pos c34, if_neg (not_not_intro c34), c61, c84]; done) | (simp [sp_payDay, sp_payX_0, sp_payX_s, sp_payAt, nI_1, c34, c61, c84]; done) | (simp [sp_payDay, sp_payX_0, sp_payX_s, sp_payAt, nI_1, if_pos c34, if_neg (not_not_intro c34), c61, c84]; done) | contradiction | rfl) (by first | with_reducible rfl | (simp only [sp_payDay, sp_payX_0, sp_payX_s, sp_payAt, nI_1, c34, c61, c84]; done) | (simp only [sp_payDay, sp_payX_0, sp_payX_s, sp_payAt, nI_1, if_pos c34, if_neg (not_not_intro c34), c61, c84]; done) | (simp [sp_payDay, sp_payX_0, sp_payX_s, sp_payAt, nI_1, c34, c61, c84]; done) | (simp [sp_payDay, sp_payX_0, sp_payX_s, sp_payAt, nI_1, if_pos c34, if_neg (not_not_intro c34), c61, c84]; done) | contradiction | rfl) (ih28 (i + 1) (by omega) (by omega))
        · skip
          refine ka_aload_n hC dX3_payForTheDay_87 rfl ?_
          refine kgp_X3_65 (by first | assumption | decide | exact wgIx_lt _ | exact plIx_lt _ | exact sp_recQ_lt | omega) hC dX3_payForTheDay_88 ?_
          refine ka_aload hC dX3_payForTheDay_91 rfl ?_
          refine kgp_X3_233 (by first | assumption | decide | exact wgIx_lt _ | exact plIx_lt _ | exact sp_recQ_lt | omega) (by first | assumption | decide | exact wgIx_lt _ | exact plIx_lt _ | exact sp_recQ_lt | omega) hC dX3_payForTheDay_93 ?_
          refine ka_isub hC dX3_payForTheDay_96 ?_
          refine ka_iload hC dX3_payForTheDay_97 rfl ?_
          refine ka_icmp_le (tgt := 109) hC dX3_payForTheDay_99 (by decide) (fun c99 => ?_) (fun c99 => ?_)
          · skip
            refine ka_iinc_5 (v := 1) hC dX3_payForTheDay_109 rfl (by decide) ?_
            refine ka_goto (tgt := 28) hC dX3_payForTheDay_112 (by decide) ?_
            exact ka_I.back 6 (by first | with_reducible rfl | (simp only [sp_payDay, sp_payX_0, sp_payX_s, sp_payAt, nI_1, c34, c61, c84, c99]; done) | (simp only [sp_payDay, sp_payX_0, sp_payX_s, sp_payAt, nI_1, if_pos c34, if_neg (not_not_intro c34), c61, c84, if_neg c99, if_pos c99]; done) | (simp [sp_payDay, sp_payX_0, sp_payX_s, sp_payAt, nI_1, c34, c61, c84, c99]; done) | (simp [sp_payDay, sp_payX_0, sp_payX_s, sp_payAt, nI_1, if_pos c34, if_neg (not_not_intro c34), c61, c84, if_neg c99, if_pos c99]; done) | contradiction | rfl) (by first | with_reducible rfl | (simp only [sp_payDay, sp_payX_0, sp_payX_s, sp_payAt, nI_1, c34, c61, c84, c99]; done) | (simp only [sp_payDay, sp_payX_0, sp_payX_s, sp_payAt, nI_1, if_pos c34, if_neg (not_not_intro c34), c61, c84, if_neg c99, if_pos c99]; done) | (simp [sp_payDay, sp_payX_0, sp_payX_s, sp_payAt, nI_1, c34, c61, c84, c99]; done) | (simp [sp_payDay, sp_payX_0, sp_payX_s, sp_payAt, nI_1, if_pos c34, if_neg (not_not_intro c34), c61, c84, if_neg c99, if_pos c99]; done) | contradiction | rfl) (ih28 (i + 1) (by omega) (by omega))
          · skip
            refine ka_aload hC dX3_payForTheDay_102 rfl ?_
            refine ka_aload_n hC dX3_payForTheDay_104 rfl ?_
            refine ka_iload_n hC dX3_payForTheDay_105 rfl ?_
            refine ka_callV hC (m_X2_payDemurrage hG (by first | assumption | decide | exact wgIx_lt _ | exact plIx_lt _ | exact sp_recQ_lt | omega) (by first | assumption | decide | exact wgIx_lt _ | exact plIx_lt _ | exact sp_recQ_lt | omega) (by first | assumption | decide | exact wgIx_lt _ | exact plIx_lt _ | exact sp_recQ_lt | omega)) (ka_Rc_place (by first | assumption | decide | exact wgIx_lt _ | exact plIx_lt _ | exact sp_recQ_lt | omega) (by first | assumption | decide | exact wgIx_lt _ | exact plIx_lt _ | exact sp_recQ_lt | omega)) rfl ka_q_ml_X3_236 ka_q_im_X2_payDemurrage ka_q_se_X2_payDemurrage ka_q_in_X2 ka_q_co_X2_payDemurrage ky_X2_payDemurrage (by decide) (by decide) (Nat.le_of_ble_eq_true rfl) rfl dX3_payForTheDay_106 ?_
            refine ka_iinc_5 (v := 1) hC dX3_payForTheDay_109 rfl (by decide) ?_
            refine ka_goto (tgt := 28) hC dX3_payForTheDay_112 (by decide) ?_
            exact ka_I.back 6 (by first | with_reducible rfl | (simp only [sp_payDay, sp_payX_0, sp_payX_s, sp_payAt, nI_1, c34, c61, c84, c99]; done) | (simp only [sp_payDay, sp_payX_0, sp_payX_s, sp_payAt, nI_1, if_pos c34, if_neg (not_not_intro c34), c61, c84, if_pos c99, if_neg (not_not_intro c99)]; done) | (simp [sp_payDay, sp_payX_0, sp_payX_s, sp_payAt, nI_1, c34, c61, c84, c99]; done) | (simp [sp_payDay, sp_payX_0, sp_payX_s, sp_payAt, nI_1, if_pos c34, if_neg (not_not_intro c34), c61, c84, if_pos c99, if_neg (not_not_intro c99)]; done) | contradiction | rfl) (by first | with_reducible rfl | (simp only [sp_payDay, sp_payX_0, sp_payX_s, sp_payAt, nI_1, c34, c61, c84, c99]; done) | (simp only [sp_payDay, sp_payX_0, sp_payX_s, sp_payAt, nI_1, if_pos c34, if_neg (not_not_intro c34), c61, c84, if_pos c99, if_neg (not_not_intro c99)]; done) | (simp [sp_payDay, sp_payX_0, sp_payX_s, sp_payAt, nI_1, c34, c61, c84, c99]; done) | (simp [sp_payDay, sp_payX_0, sp_payX_s, sp_payAt, nI_1, if_pos c34, if_neg (not_not_intro c34), c61, c84, if_pos c99, if_neg (not_not_intro c99)]; done) | contradiction | rfl) (ih28 (i + 1) (by omega) (by omega))
      · skip
        refine ka_aload_n hC dX3_payForTheDay_64 rfl ?_
        refine ka_aload hC dX3_payForTheDay_65 rfl ?_
        refine kgp_X3_126 (by first | assumption | decide | exact wgIx_lt _ | exact plIx_lt _ | exact sp_recQ_lt | omega) (by first | assumption | decide | exact wgIx_lt _ | exact plIx_lt _ | exact sp_recQ_lt | omega) hC dX3_payForTheDay_67 ?_
        refine ka_callV hC (m_X3_placeAt hG (by first | assumption | decide | exact wgIx_lt _ | exact plIx_lt _ | exact sp_recQ_lt | omega)) (ka_Rc_pool (by first | assumption | decide | exact wgIx_lt _ | exact plIx_lt _ | exact sp_recQ_lt | omega)) rfl ka_q_ml_X3_85 ka_q_im_X3_placeAt ka_q_se_X3_placeAt ka_q_in_X3 ka_q_co_X3_placeAt ky_X3_placeAt (by decide) (by decide) (Nat.le_of_ble_eq_true rfl) rfl dX3_payForTheDay_70 ?_
        refine ka_aload hC dX3_payForTheDay_73 rfl ?_
        refine ka_iload_n hC dX3_payForTheDay_75 rfl ?_
        refine ka_callV hC (m_X2_payHire hG (by first | assumption | decide | exact wgIx_lt _ | exact plIx_lt _ | exact sp_recQ_lt | omega) (by first | assumption | decide | exact wgIx_lt _ | exact plIx_lt _ | exact sp_recQ_lt | omega) (by first | assumption | decide | exact wgIx_lt _ | exact plIx_lt _ | exact sp_recQ_lt | omega)) (ka_Rc_place (by first | assumption | decide | exact wgIx_lt _ | exact plIx_lt _ | exact sp_recQ_lt | omega) (by first | assumption | decide | exact wgIx_lt _ | exact plIx_lt _ | exact sp_recQ_lt | omega)) rfl ka_q_ml_X3_230 ka_q_im_X2_payHire ka_q_se_X2_payHire ka_q_in_X2 ka_q_co_X2_payHire ky_X2_payHire (by decide) (by decide) (Nat.le_of_ble_eq_true rfl) rfl dX3_payForTheDay_76 ?_
        refine ka_aload hC dX3_payForTheDay_79 rfl ?_
        refine ka_callV hC (m_X5_isLoadedAtPort hG (by first | assumption | decide | exact wgIx_lt _ | exact plIx_lt _ | exact sp_recQ_lt | omega) (by first | assumption | decide | exact wgIx_lt _ | exact plIx_lt _ | exact sp_recQ_lt | omega)) (ka_Rc_wagon (by first | assumption | decide | exact wgIx_lt _ | exact plIx_lt _ | exact sp_recQ_lt | omega) (by first | assumption | decide | exact wgIx_lt _ | exact plIx_lt _ | exact sp_recQ_lt | omega)) rfl ka_q_ml_X3_161 ka_q_im_X5_isLoadedAtPort ka_q_se_X5_isLoadedAtPort ka_q_in_X5 ka_q_co_X5_isLoadedAtPort ky_X5_isLoadedAtPort (by decide) (by decide) (Nat.le_of_ble_eq_true rfl) rfl dX3_payForTheDay_81 ?_
        refine ka_if_eq_b (tgt := 109) hC dX3_payForTheDay_84 (by decide) (fun c84 => ?_) (fun c84 => ?_)
        · skip
          refine ka_iinc_5 (v := 1) hC dX3_payForTheDay_109 rfl (by decide) ?_
          refine ka_goto (tgt := 28) hC dX3_payForTheDay_112 (by decide) ?_
          exact ka_I.back 6 (by first | with_reducible rfl | (simp only [sp_payDay, sp_payX_0, sp_payX_s, sp_payAt, nI_1, c34, c61, c84]; done) | (simp only [sp_payDay, sp_payX_0, sp_payX_s, sp_payAt, nI_1, if_pos c34, if_neg (not_not_intro c34), c61, c84]; done) | (simp [sp_payDay, sp_payX_0, sp_payX_s, sp_payAt, nI_1, c34, c61, c84]; done) | (simp [sp_payDay, sp_payX_0, sp_payX_s, sp_payAt, nI_1, if_pos c34, if_neg (not_not_intro c34), c61, c84]; done) | contradiction | rfl) (by first | with_reducible rfl | (simp only [sp_payDay, sp_payX_0, sp_payX_s, sp_payAt, nI_1, c34, c61, c84]; done) | (simp only [sp_payDay, sp_payX_0, sp_payX_s, sp_payAt, nI_1, if_pos c34, if_neg (not_not_intro c34), c61, c84]; done) | (simp [sp_payDay, sp_payX_0, sp_payX_s, sp_payAt, nI_1, c34, c61, c84]; done) | (simp [sp_payDay, sp_payX_0, sp_payX_s, sp_payAt, nI_1, if_pos c34, if_neg (not_not_intro c34), c61, c84]; done) | contradiction | rfl) (ih28 (i + 1) (by omega) (by omega))
        · skip
          refine ka_aload_n hC dX3_payForTheDay_87 rfl ?_
          refine kgp_X3_65 (by first | assumption | decide | exact wgIx_lt _ | exact plIx_lt _ | exact sp_recQ_lt | omega) hC dX3_payForTheDay_88 ?_
          refine ka_aload hC dX3_payForTheDay_91 rfl ?_
          refine kgp_X3_233 (by first | assumption | decide | exact wgIx_lt _ | exact plIx_lt _ | exact sp_recQ_lt | omega) (by first | assumption | decide | exact wgIx_lt _ | exact plIx_lt _ | exact sp_recQ_lt | omega) hC dX3_payForTheDay_93 ?_
          refine ka_isub hC dX3_payForTheDay_96 ?_
          refine ka_iload hC dX3_payForTheDay_97 rfl ?_
          refine ka_icmp_le (tgt := 109) hC dX3_payForTheDay_99 (by decide) (fun c99 => ?_) (fun c99 => ?_)
          · skip
            refine ka_iinc_5 (v := 1) hC dX3_payForTheDay_109 rfl (by decide) ?_
            refine ka_goto (tgt := 28) hC dX3_payForTheDay_112 (by decide) ?_
            exact ka_I.back 6 (by first | with_reducible rfl | (simp only [sp_payDay, sp_payX_0, sp_payX_s, sp_payAt, nI_1, c34, c61, c84, c99]; done) | (simp only [sp_payDay, sp_payX_0, sp_payX_s, sp_payAt, nI_1, if_pos c34, if_neg (not_not_intro c34), c61, c84, if_neg c99, if_pos c99]; done) | (simp [sp_payDay, sp_payX_0, sp_payX_s, sp_payAt, nI_1, c34, c61, c84, c99]; done) | (simp [sp_payDay, sp_payX_0, sp_payX_s, sp_payAt, nI_1, if_pos c34, if_neg (not_not_intro c34), c61, c84, if_neg c99, if_pos c99]; done) | contradiction | rfl) (by first | with_reducible rfl | (simp only [sp_payDay, sp_payX_0, sp_payX_s, sp_payAt, nI_1, c34, c61, c84, c99]; done) | (simp only [sp_payDay, sp_payX_0, sp_payX_s, sp_payAt, nI_1, if_pos c34, if_neg (not_not_intro c34), c61, c84, if_neg c99, if_pos c99]; done) | (simp [sp_payDay, sp_payX_0, sp_payX_s, sp_payAt, nI_1, c34, c61, c84, c99]; done) | (simp [sp_payDay, sp_payX_0, sp_payX_s, sp_payAt, nI_1, if_pos c34, if_neg (not_not_intro c34), c61, c84, if_neg c99, if_pos c99]; done) | contradiction | rfl) (ih28 (i + 1) (by omega) (by omega))
          · skip
            refine ka_aload hC dX3_payForTheDay_102 rfl ?_
            refine ka_aload_n hC dX3_payForTheDay_104 rfl ?_
            refine ka_iload_n hC dX3_payForTheDay_105 rfl ?_
            refine ka_callV hC (m_X2_payDemurrage hG (by first | assumption | decide | exact wgIx_lt _ | exact plIx_lt _ | exact sp_recQ_lt | omega) (by first | assumption | decide | exact wgIx_lt _ | exact plIx_lt _ | exact sp_recQ_lt | omega) (by first | assumption | decide | exact wgIx_lt _ | exact plIx_lt _ | exact sp_recQ_lt | omega)) (ka_Rc_place (by first | assumption | decide | exact wgIx_lt _ | exact plIx_lt _ | exact sp_recQ_lt | omega) (by first | assumption | decide | exact wgIx_lt _ | exact plIx_lt _ | exact sp_recQ_lt | omega)) rfl ka_q_ml_X3_236 ka_q_im_X2_payDemurrage ka_q_se_X2_payDemurrage ka_q_in_X2 ka_q_co_X2_payDemurrage ky_X2_payDemurrage (by decide) (by decide) (Nat.le_of_ble_eq_true rfl) rfl dX3_payForTheDay_106 ?_
            refine ka_iinc_5 (v := 1) hC dX3_payForTheDay_109 rfl (by decide) ?_
            refine ka_goto (tgt := 28) hC dX3_payForTheDay_112 (by decide) ?_
            exact ka_I.back 6 (by first | with_reducible rfl | (simp only [sp_payDay, sp_payX_0, sp_payX_s, sp_payAt, nI_1, c34, c61, c84, c99]; done) | (simp only [sp_payDay, sp_payX_0, sp_payX_s, sp_payAt, nI_1, if_pos c34, if_neg (not_not_intro c34), c61, c84, if_pos c99, if_neg (not_not_intro c99)]; done) | (simp [sp_payDay, sp_payX_0, sp_payX_s, sp_payAt, nI_1, c34, c61, c84, c99]; done) | (simp [sp_payDay, sp_payX_0, sp_payX_s, sp_payAt, nI_1, if_pos c34, if_neg (not_not_intro c34), c61, c84, if_pos c99, if_neg (not_not_intro c99)]; done) | contradiction | rfl) (by first | with_reducible rfl | (simp only [sp_payDay, sp_payX_0, sp_payX_s, sp_payAt, nI_1, c34, c61, c84, c99]; done) | (simp only [sp_payDay, sp_payX_0, sp_payX_s, sp_payAt, nI_1, if_pos c34, if_neg (not_not_intro c34), c61, c84, if_pos c99, if_neg (not_not_intro c99)]; done) | (simp [sp_payDay, sp_payX_0, sp_payX_s, sp_payAt, nI_1, c34, c61, c84, c99]; done) | (simp [sp_payDay, sp_payX_0, sp_payX_s, sp_payAt, nI_1, if_pos c34, if_neg (not_not_intro c34), c61, c84, if_pos c99, if_neg (not_not_intro c99)]; done) | contradiction | rfl) (ih28 (i + 1) (by omega) (by omega))
theorem ky_X3_letDaysPass : ka_y yX3_letDaysPass 1 := by unfold ka_y; decide +kernel
set_option maxHeartbeats 4000000 in
set_option maxRecDepth 100000 in
theorem m_X3_letDaysPass {G : ka_G} (hG : ka_AD G) {V : ka_W} {r : Nat} (hr : r < 6) {P : ka_P} (hm : P 0 5 < 5) (hz : ¬ P 30 1 < 0) {x : Int32}  : ka_M G yX3_letDaysPass cX3_letDaysPass 4 (some FieldType.int) 2 [.ref (ka_ad G r 0), .int x] (ka_sp V r P) (some (.int ((sp_letDays P x).1))) (ka_sp V r (sp_letDays P x).2) := by
  refine ka_entry hG ka_pn_X3 (ka_cat1 rfl) (Nat.le_of_ble_eq_true rfl) (fun X hC hR => ?_)
  refine ka_iconst (v := 0) hC dX3_letDaysPass_0 rfl ?_
  refine ka_istore_n_p2 hC dX3_letDaysPass_1 (by decide) ?_
  refine ka_iconst (v := 0) hC dX3_letDaysPass_2 rfl ?_
  refine ka_istore_n_p3 hC dX3_letDaysPass_3 (by decide) ?_
  suffices H4 : ∀ jj i : Nat, i ≤ cn x → cn x - i < jj → ka_I G X (ka_sp V r (sp_days P i).1) 4 [.ref (ka_ad G r 0), .int x, .int (sp_days P i).2, .int (nI i)] [] from ka_I.back 4 (by first | with_reducible rfl | (simp only [sp_letDays, sp_days_0, sp_days_s, sp_dayP, sp_day2, sp_day1, sp_add, pU, nI_1]; done) | (simp only [sp_letDays, sp_days_0, sp_days_s, sp_dayP, sp_day2, sp_day1, sp_add, pU, nI_1]; done) | (simp [sp_letDays, sp_days_0, sp_days_s, sp_dayP, sp_day2, sp_day1, sp_add, pU, nI_1]; done) | (simp [sp_letDays, sp_days_0, sp_days_s, sp_dayP, sp_day2, sp_day1, sp_add, pU, nI_1]; done) | contradiction | rfl) (by first | with_reducible rfl | (simp only [sp_letDays, sp_days_0, sp_days_s, sp_dayP, sp_day2, sp_day1, sp_add, pU, nI_1]; done) | (simp only [sp_letDays, sp_days_0, sp_days_s, sp_dayP, sp_day2, sp_day1, sp_add, pU, nI_1]; done) | (simp [sp_letDays, sp_days_0, sp_days_s, sp_dayP, sp_day2, sp_day1, sp_add, pU, nI_1]; done) | (simp [sp_letDays, sp_days_0, sp_days_s, sp_dayP, sp_day2, sp_day1, sp_add, pU, nI_1]; done) | contradiction | rfl) (H4 (cn x + 1) 0 (by omega) (by omega))
  intro j4
  induction j4 with
  | zero => intro i h1 h2 ; exact absurd h2 (Nat.not_lt_zero _)
  | succ j4 ih4 =>
    intro i hle4 hlt4 
    have hm2 : (sp_days P i).1 0 5 < 5 := by rw [fx_days.1]; exact hm
    have hz2 := sp_days_z hz i
    refine ka_iload_n hC dX3_letDaysPass_4 rfl ?_
    refine ka_iload_n hC dX3_letDaysPass_5 rfl ?_
    refine ka_icmp_ge (tgt := 48) hC dX3_letDaysPass_6 (by decide) (fun c6 => ?_) (fun c6 => ?_)
    · skip
      obtain rfl : i = cn x := nlt_cn hle4 c6
      refine ka_iload_n hC dX3_letDaysPass_48 rfl ?_
      exact ka_iret hC hR dX3_letDaysPass_49 (by first | with_reducible rfl | (simp only [sp_letDays, sp_days_0, sp_days_s, sp_dayP, sp_day2, sp_day1, sp_add, pU, nI_1, c6]; done) | (simp only [sp_letDays, sp_days_0, sp_days_s, sp_dayP, sp_day2, sp_day1, sp_add, pU, nI_1, if_neg c6, if_pos c6]; done) | (simp [sp_letDays, sp_days_0, sp_days_s, sp_dayP, sp_day2, sp_day1, sp_add, pU, nI_1, c6]; done) | (simp [sp_letDays, sp_days_0, sp_days_s, sp_dayP, sp_day2, sp_day1, sp_add, pU, nI_1, if_neg c6, if_pos c6]; done) | contradiction | rfl) (by first | with_reducible rfl | (simp only [sp_letDays, sp_days_0, sp_days_s, sp_dayP, sp_day2, sp_day1, sp_add, pU, nI_1, c6]; done) | (simp only [sp_letDays, sp_days_0, sp_days_s, sp_dayP, sp_day2, sp_day1, sp_add, pU, nI_1, if_neg c6, if_pos c6]; done) | (simp [sp_letDays, sp_days_0, sp_days_s, sp_dayP, sp_day2, sp_day1, sp_add, pU, nI_1, c6]; done) | (simp [sp_letDays, sp_days_0, sp_days_s, sp_dayP, sp_day2, sp_day1, sp_add, pU, nI_1, if_neg c6, if_pos c6]; done) | contradiction | rfl)
    · skip
      have hi : i < cn x := lt_cn hle4 c6
      refine ka_aload_n hC dX3_letDaysPass_9 rfl ?_
      refine ka_dup hC dX3_letDaysPass_10 rfl ?_
      refine kgp_X3_65 (by first | assumption | decide | exact wgIx_lt _ | exact plIx_lt _ | exact sp_recQ_lt | omega) hC dX3_letDaysPass_11 ?_
      refine ka_iconst (v := 1) hC dX3_letDaysPass_14 rfl ?_
      refine ka_iadd hC dX3_letDaysPass_15 ?_
      refine kpp_X3_65 (by first | assumption | decide | exact wgIx_lt _ | exact plIx_lt _ | exact sp_recQ_lt | omega) hC dX3_letDaysPass_16 ?_
      refine ka_aload_n hC dX3_letDaysPass_19 rfl ?_
      refine ka_callV hC (m_X3_growHeaps hG (by first | assumption | decide | exact wgIx_lt _ | exact plIx_lt _ | exact sp_recQ_lt | omega) (P := sp_add (sp_days P i).1 0 7 1) (by rw [fx_next.1]; exact hm2)) (ka_Rc_pool (by first | assumption | decide | exact wgIx_lt _ | exact plIx_lt _ | exact sp_recQ_lt | omega)) rfl ka_q_ml_X3_200 ka_q_im_X3_growHeaps ka_q_se_X3_growHeaps ka_q_in_X3 ka_q_co_X3_growHeaps ky_X3_growHeaps (by decide) (by decide) (Nat.le_of_ble_eq_true rfl) rfl dX3_letDaysPass_20 ?_
      refine ka_iload_n hC dX3_letDaysPass_23 rfl ?_
      refine ka_aload_n hC dX3_letDaysPass_24 rfl ?_
      refine ka_callV hC (m_X3_arrive hG (by first | assumption | decide | exact wgIx_lt _ | exact plIx_lt _ | exact sp_recQ_lt | omega)) (ka_Rc_pool (by first | assumption | decide | exact wgIx_lt _ | exact plIx_lt _ | exact sp_recQ_lt | omega)) rfl ka_q_ml_X3_203 ka_q_im_X3_arrive ka_q_se_X3_arrive ka_q_in_X3 ka_q_co_X3_arrive ky_X3_arrive (by decide) (by decide) (Nat.le_of_ble_eq_true rfl) rfl dX3_letDaysPass_25 ?_
      refine ka_iadd hC dX3_letDaysPass_28 ?_
      refine ka_istore_n_s2 hC dX3_letDaysPass_29 (by decide) ?_
      refine ka_aload_n hC dX3_letDaysPass_30 rfl ?_
      refine ka_callV hC (m_X3_endRepairs hG (by first | assumption | decide | exact wgIx_lt _ | exact plIx_lt _ | exact sp_recQ_lt | omega) (P := (sp_day1 (sp_days P i).1).1) (sp_day_z hz2)) (ka_Rc_pool (by first | assumption | decide | exact wgIx_lt _ | exact plIx_lt _ | exact sp_recQ_lt | omega)) rfl ka_q_ml_X3_206 ka_q_im_X3_endRepairs ka_q_se_X3_endRepairs ka_q_in_X3 ka_q_co_X3_endRepairs ky_X3_endRepairs (by decide) (by decide) (Nat.le_of_ble_eq_true rfl) rfl dX3_letDaysPass_31 ?_
      refine ka_aload_n hC dX3_letDaysPass_34 rfl ?_
      refine ka_callV hC (m_X3_beginRepairs hG (by first | assumption | decide | exact wgIx_lt _ | exact plIx_lt _ | exact sp_recQ_lt | omega)) (ka_Rc_pool (by first | assumption | decide | exact wgIx_lt _ | exact plIx_lt _ | exact sp_recQ_lt | omega)) rfl ka_q_ml_X3_182 ka_q_im_X3_beginRepairs ka_q_se_X3_beginRepairs ka_q_in_X3 ka_q_co_X3_beginRepairs ky_X3_beginRepairs (by decide) (by decide) (Nat.le_of_ble_eq_true rfl) rfl dX3_letDaysPass_35 ?_
      refine ka_aload_n hC dX3_letDaysPass_38 rfl ?_
      refine ka_callV hC (m_X3_payForTheDay hG (by first | assumption | decide | exact wgIx_lt _ | exact plIx_lt _ | exact sp_recQ_lt | omega)) (ka_Rc_pool (by first | assumption | decide | exact wgIx_lt _ | exact plIx_lt _ | exact sp_recQ_lt | omega)) rfl ka_q_ml_X3_209 ka_q_im_X3_payForTheDay ka_q_se_X3_payForTheDay ka_q_in_X3 ka_q_co_X3_payForTheDay ky_X3_payForTheDay (by decide) (by decide) (Nat.le_of_ble_eq_true rfl) rfl dX3_letDaysPass_39 ?_
      refine ka_iinc_3 (v := 1) hC dX3_letDaysPass_42 rfl (by decide) ?_
      refine ka_goto (tgt := 4) hC dX3_letDaysPass_45 (by decide) ?_
      exact ka_I.back 4 (by first | with_reducible rfl | (simp only [sp_letDays, sp_days_0, sp_days_s, sp_dayP, sp_day2, sp_day1, sp_add, pU, nI_1, c6]; done) | (simp only [sp_letDays, sp_days_0, sp_days_s, sp_dayP, sp_day2, sp_day1, sp_add, pU, nI_1, if_pos c6, if_neg (not_not_intro c6)]; done) | (simp [sp_letDays, sp_days_0, sp_days_s, sp_dayP, sp_day2, sp_day1, sp_add, pU, nI_1, c6]; done) | (simp [sp_letDays, sp_days_0, sp_days_s, sp_dayP, sp_day2, sp_day1, sp_add, pU, nI_1, if_pos c6, if_neg (not_not_intro c6)]; done) | contradiction | rfl) (by first | with_reducible rfl | (simp only [sp_letDays, sp_days_0, sp_days_s, sp_dayP, sp_day2, sp_day1, sp_add, pU, nI_1, c6]; done) | (simp only [sp_letDays, sp_days_0, sp_days_s, sp_dayP, sp_day2, sp_day1, sp_add, pU, nI_1, if_pos c6, if_neg (not_not_intro c6)]; done) | (simp [sp_letDays, sp_days_0, sp_days_s, sp_dayP, sp_day2, sp_day1, sp_add, pU, nI_1, c6]; done) | (simp [sp_letDays, sp_days_0, sp_days_s, sp_dayP, sp_day2, sp_day1, sp_add, pU, nI_1, if_pos c6, if_neg (not_not_intro c6)]; done) | contradiction | rfl) (ih4 (i + 1) (by omega) (by omega))
theorem ky_X3_passDays : ka_y yX3_passDays 1 := by unfold ka_y; decide +kernel
set_option maxHeartbeats 4000000 in
set_option maxRecDepth 100000 in
theorem m_X3_passDays {G : ka_G} (hG : ka_AD G) {V : ka_W} {r : Nat} (hr : r < 6) {P : ka_P} (hm : P 0 5 < 5) (hz : ¬ P 30 1 < 0) {x : Int32}  : ka_M G yX3_passDays cX3_passDays 2 (some FieldType.int) 3 [.ref (ka_ad G r 0), .int x] (ka_sp V r P) (some (.int ((sp_pass P x).1))) (ka_sp V r (sp_pass P x).2) := by
  refine ka_entry hG ka_pn_X3 (ka_cat1 rfl) (Nat.le_of_ble_eq_true rfl) (fun X hC hR => ?_)
  refine ka_iload_n hC dX3_passDays_0 rfl ?_
  refine ka_iconst (v := 1) hC dX3_passDays_1 rfl ?_
  refine ka_bipush (v := 99) hC dX3_passDays_2 rfl ?_
  refine ka_callSN hC (m_X6_within hG) (List.mem_of_getElem? (i := 2) rfl) ka_q_st_X6_within ka_q_in_X6 ka_q_co_X6_within ky_X6_within (by decide) (by decide) (Nat.le_of_ble_eq_true rfl) rfl dX3_passDays_4 ?_
  refine ka_if_ne_b (tgt := 13) hC dX3_passDays_7 (by decide) (fun c7 => ?_) (fun c7 => ?_)
  · skip
    refine ka_aload_n hC dX3_passDays_13 rfl ?_
    refine kgp_X3_65 (by first | assumption | decide | exact wgIx_lt _ | exact plIx_lt _ | exact sp_recQ_lt | omega) hC dX3_passDays_14 ?_
    refine ka_iload_n hC dX3_passDays_17 rfl ?_
    refine ka_iadd hC dX3_passDays_18 ?_
    refine ka_sipush (v := 1999) hC dX3_passDays_19 rfl ?_
    refine ka_icmp_le (tgt := 28) hC dX3_passDays_22 (by decide) (fun c22 => ?_) (fun c22 => ?_)
    · skip
      refine ka_aload_n hC dX3_passDays_28 rfl ?_
      refine ka_iload_n hC dX3_passDays_29 rfl ?_
      refine ka_callV hC (m_X3_letDaysPass hG (by first | assumption | decide | exact wgIx_lt _ | exact plIx_lt _ | exact sp_recQ_lt | omega) (by first | assumption | decide | exact wgIx_lt _ | exact plIx_lt _ | exact sp_recQ_lt | omega) (by first | assumption | decide | exact wgIx_lt _ | exact plIx_lt _ | exact sp_recQ_lt | omega)) (ka_Rc_pool (by first | assumption | decide | exact wgIx_lt _ | exact plIx_lt _ | exact sp_recQ_lt | omega)) rfl ka_q_ml_X3_191 ka_q_im_X3_letDaysPass ka_q_se_X3_letDaysPass ka_q_in_X3 ka_q_co_X3_letDaysPass ky_X3_letDaysPass (by decide) (by decide) (Nat.le_of_ble_eq_true rfl) rfl dX3_passDays_30 ?_
      exact ka_iret hC hR dX3_passDays_33 (by first | with_reducible rfl | (simp only [sp_pass, c7, c22]; done) | (simp only [sp_pass, c7, if_neg c22, if_pos c22]; done) | (simp [sp_pass, c7, c22]; done) | (simp [sp_pass, c7, if_neg c22, if_pos c22]; done) | contradiction | rfl) (by first | with_reducible rfl | (simp only [sp_pass, c7, c22]; done) | (simp only [sp_pass, c7, if_neg c22, if_pos c22]; done) | (simp [sp_pass, c7, c22]; done) | (simp [sp_pass, c7, if_neg c22, if_pos c22]; done) | contradiction | rfl)
    · skip
      refine ka_ldc hC ka_q_cn_X3_100 dX3_passDays_25 ?_
      exact ka_iret hC hR dX3_passDays_27 (by first | with_reducible rfl | (simp only [sp_pass, c7, c22]; done) | (simp only [sp_pass, c7, if_pos c22, if_neg (not_not_intro c22)]; done) | (simp [sp_pass, c7, c22]; done) | (simp [sp_pass, c7, if_pos c22, if_neg (not_not_intro c22)]; done) | contradiction | rfl) (by first | with_reducible rfl | (simp only [sp_pass, c7, c22]; done) | (simp only [sp_pass, c7, if_pos c22, if_neg (not_not_intro c22)]; done) | (simp [sp_pass, c7, c22]; done) | (simp [sp_pass, c7, if_pos c22, if_neg (not_not_intro c22)]; done) | contradiction | rfl)
  · skip
    refine ka_ldc hC ka_q_cn_X3_99 dX3_passDays_10 ?_
    exact ka_iret hC hR dX3_passDays_12 (by first | with_reducible rfl | (simp only [sp_pass, c7]; done) | (simp only [sp_pass, c7]; done) | (simp [sp_pass, c7]; done) | (simp [sp_pass, c7]; done) | contradiction | rfl) (by first | with_reducible rfl | (simp only [sp_pass, c7]; done) | (simp only [sp_pass, c7]; done) | (simp [sp_pass, c7]; done) | (simp [sp_pass, c7]; done) | contradiction | rfl)
theorem ky_X3_changeSetting : ka_y yX3_changeSetting 2 := by unfold ka_y; decide +kernel
set_option maxHeartbeats 4000000 in
set_option maxRecDepth 100000 in
theorem m_X3_changeSetting {G : ka_G} (hG : ka_AD G) {V : ka_W} {r : Nat} (hr : r < 6) {P : ka_P} {a v : Int32}  : ka_M G yX3_changeSetting cX3_changeSetting 4 (some FieldType.int) 1 [.ref (ka_ad G r 0), .int a, .int v] (ka_sp V r P) (some (.int ((sp_set P a v).1))) (ka_sp V r (sp_set P a v).2) := by
  refine ka_entry hG ka_pn_X3 (ka_cat1 rfl) (Nat.le_of_ble_eq_true rfl) (fun X hC hR => ?_)
  refine ka_iload_n hC dX3_changeSetting_0 rfl ?_
  refine ka_iconst (v := 0) hC dX3_changeSetting_1 rfl ?_
  refine ka_bipush (v := 6) hC dX3_changeSetting_2 rfl ?_
  refine ka_callSN hC (m_X6_within hG) (List.mem_of_getElem? (i := 2) rfl) ka_q_st_X6_within ka_q_in_X6 ka_q_co_X6_within ky_X6_within (by decide) (by decide) (Nat.le_of_ble_eq_true rfl) rfl dX3_changeSetting_4 ?_
  refine ka_if_eq_b (tgt := 27) hC dX3_changeSetting_7 (by decide) (fun c7 => ?_) (fun c7 => ?_)
  · skip
    refine ka_ldc hC ka_q_cn_X3_99 dX3_changeSetting_27 ?_
    exact ka_iret hC hR dX3_changeSetting_29 (by first | with_reducible rfl | (simp only [sp_set, cn, c7]; done) | (simp only [sp_set, cn, c7]; done) | (simp [sp_set, cn, c7]; done) | (simp [sp_set, cn, c7]; done) | contradiction | rfl) (by first | with_reducible rfl | (simp only [sp_set, cn, c7]; done) | (simp only [sp_set, cn, c7]; done) | (simp [sp_set, cn, c7]; done) | (simp [sp_set, cn, c7]; done) | contradiction | rfl)
  · skip
    refine ka_iload_n hC dX3_changeSetting_10 rfl ?_
    refine ka_gstat (f := "LOWEST_SETTING") (fn := ka_low) hC (List.mem_of_getElem? (i := 16) rfl) (fun A s h => by obtain ⟨tL, tH, h1, h2, h3, h4⟩ := h; exact ⟨tL, h1, h2⟩) dX3_changeSetting_11 (fun t11 hs11 => ?_)
    refine ka_iload_n hC dX3_changeSetting_14 rfl ?_
    refine hs11 (sp_set_in c7) dX3_changeSetting_15 ?_
    refine ka_gstat (f := "HIGHEST_SETTING") (fn := ka_high) hC (List.mem_of_getElem? (i := 17) rfl) (fun A s h => by obtain ⟨tL, tH, h1, h2, h3, h4⟩ := h; exact ⟨tH, h3, h4⟩) dX3_changeSetting_16 (fun t16 hs16 => ?_)
    refine ka_iload_n hC dX3_changeSetting_19 rfl ?_
    refine hs16 (sp_set_in c7) dX3_changeSetting_20 ?_
    refine ka_callSN hC (m_X6_within hG) (List.mem_of_getElem? (i := 2) rfl) ka_q_st_X6_within ka_q_in_X6 ka_q_co_X6_within ky_X6_within (by decide) (by decide) (Nat.le_of_ble_eq_true rfl) rfl dX3_changeSetting_21 ?_
    refine ka_if_ne_b (tgt := 30) hC dX3_changeSetting_24 (by decide) (fun c24 => ?_) (fun c24 => ?_)
    · skip
      refine ka_aload_n hC dX3_changeSetting_30 rfl ?_
      refine kg_X3_29 (by first | assumption | decide | exact wgIx_lt _ | exact plIx_lt _ | exact sp_recQ_lt | omega) hC dX3_changeSetting_31 ?_
      refine ka_iload_n hC dX3_changeSetting_34 rfl ?_
      refine kip_sett (by first | assumption | decide | exact wgIx_lt _ | exact plIx_lt _ | exact sp_recQ_lt | omega) hC (sp_set_in c7) dX3_changeSetting_35 ?_
      refine ka_istore_n_p3 hC dX3_changeSetting_36 (by decide) ?_
      refine ka_aload_n hC dX3_changeSetting_37 rfl ?_
      refine kg_X3_29 (by first | assumption | decide | exact wgIx_lt _ | exact plIx_lt _ | exact sp_recQ_lt | omega) hC dX3_changeSetting_38 ?_
      refine ka_iload_n hC dX3_changeSetting_41 rfl ?_
      refine ka_iload_n hC dX3_changeSetting_42 rfl ?_
      refine ksp_sett (by first | assumption | decide | exact wgIx_lt _ | exact plIx_lt _ | exact sp_recQ_lt | omega) hC (sp_set_in c7) dX3_changeSetting_43 ?_
      refine ka_iload_n hC dX3_changeSetting_44 rfl ?_
      exact ka_iret hC hR dX3_changeSetting_45 (by first | with_reducible rfl | (simp only [sp_set, cn, c7, c24]; done) | (simp only [sp_set, cn, c7, c24]; done) | (simp [sp_set, cn, c7, c24]; done) | (simp [sp_set, cn, c7, c24]; done) | contradiction | rfl) (by first | with_reducible rfl | (simp only [sp_set, cn, c7, c24]; done) | (simp only [sp_set, cn, c7, c24]; done) | (simp [sp_set, cn, c7, c24]; done) | (simp [sp_set, cn, c7, c24]; done) | contradiction | rfl)
    · skip
      refine ka_ldc hC ka_q_cn_X3_99 dX3_changeSetting_27 ?_
      exact ka_iret hC hR dX3_changeSetting_29 (by first | with_reducible rfl | (simp only [sp_set, cn, c7, c24]; done) | (simp only [sp_set, cn, c7, c24]; done) | (simp [sp_set, cn, c7, c24]; done) | (simp [sp_set, cn, c7, c24]; done) | contradiction | rfl) (by first | with_reducible rfl | (simp only [sp_set, cn, c7, c24]; done) | (simp only [sp_set, cn, c7, c24]; done) | (simp [sp_set, cn, c7, c24]; done) | (simp [sp_set, cn, c7, c24]; done) | contradiction | rfl)
