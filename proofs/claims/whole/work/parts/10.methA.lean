theorem ky_X6_within : ka_y yX6_within 3 := by unfold ka_y; decide +kernel
set_option maxHeartbeats 4000000 in
set_option maxRecDepth 100000 in
theorem m_X6_within {G : ka_G} (hG : ka_AD G) {V : ka_W} {v lo hi : Int32}  : ka_M G yX6_within cX6_within 3 (some FieldType.boolean) 0 [.int v, .int lo, .int hi] (V) (some (.int (ka_b (kw v lo hi)))) (V) := by
  refine ka_entry hG ka_pn_X6 (ka_cat1 rfl) (Nat.le_of_ble_eq_true rfl) (fun X hC hR => ?_)
  refine ka_iload_n hC dX6_within_0 rfl ?_
  refine ka_iload_n hC dX6_within_1 rfl ?_
  refine ka_icmp_lt (tgt := 14) hC dX6_within_2 (by decide) (fun c2 => ?_) (fun c2 => ?_)
  · skip
    refine ka_iconst (v := 0) hC dX6_within_14 rfl ?_
    exact ka_bret hC hR dX6_within_15 (by first | with_reducible rfl | (simp only [kw, ka_b, c2]; done) | (simp only [kw, ka_b, if_pos c2, if_neg (not_not_intro c2)]; done) | (simp [kw, ka_b, c2]; done) | (simp [kw, ka_b, if_pos c2, if_neg (not_not_intro c2)]; done) | contradiction | rfl) rfl (by first | with_reducible rfl | (simp only [kw, ka_b, c2]; done) | (simp only [kw, ka_b, if_pos c2, if_neg (not_not_intro c2)]; done) | (simp [kw, ka_b, c2]; done) | (simp [kw, ka_b, if_pos c2, if_neg (not_not_intro c2)]; done) | contradiction | rfl)
  · skip
    refine ka_iload_n hC dX6_within_5 rfl ?_
    refine ka_iload_n hC dX6_within_6 rfl ?_
    refine ka_icmp_gt (tgt := 14) hC dX6_within_7 (by decide) (fun c7 => ?_) (fun c7 => ?_)
    · skip
      refine ka_iconst (v := 0) hC dX6_within_14 rfl ?_
      exact ka_bret hC hR dX6_within_15 (by first | with_reducible rfl | (simp only [kw, ka_b, c2, c7]; done) | (simp only [kw, ka_b, if_neg c2, if_pos c2, if_pos c7, if_neg (not_not_intro c7)]; done) | (simp [kw, ka_b, c2, c7]; done) | (simp [kw, ka_b, if_neg c2, if_pos c2, if_pos c7, if_neg (not_not_intro c7)]; done) | contradiction | rfl) rfl (by first | with_reducible rfl | (simp only [kw, ka_b, c2, c7]; done) | (simp only [kw, ka_b, if_neg c2, if_pos c2, if_pos c7, if_neg (not_not_intro c7)]; done) | (simp [kw, ka_b, c2, c7]; done) | (simp [kw, ka_b, if_neg c2, if_pos c2, if_pos c7, if_neg (not_not_intro c7)]; done) | contradiction | rfl)
    · skip
      refine ka_iconst (v := 1) hC dX6_within_10 rfl ?_
      refine ka_goto (tgt := 15) hC dX6_within_11 (by decide) ?_
      exact ka_bret hC hR dX6_within_15 (by first | with_reducible rfl | (simp only [kw, ka_b, c2, c7]; done) | (simp only [kw, ka_b, if_neg c2, if_pos c2, if_neg c7, if_pos c7]; done) | (simp [kw, ka_b, c2, c7]; done) | (simp [kw, ka_b, if_neg c2, if_pos c2, if_neg c7, if_pos c7]; done) | contradiction | rfl) rfl (by first | with_reducible rfl | (simp only [kw, ka_b, c2, c7]; done) | (simp only [kw, ka_b, if_neg c2, if_pos c2, if_neg c7, if_pos c7]; done) | (simp [kw, ka_b, c2, c7]; done) | (simp [kw, ka_b, if_neg c2, if_pos c2, if_neg c7, if_pos c7]; done) | contradiction | rfl)
theorem ky_X6_isError : ka_y yX6_isError 1 := by unfold ka_y; decide +kernel
set_option maxHeartbeats 4000000 in
set_option maxRecDepth 100000 in
theorem m_X6_isError {G : ka_G} (hG : ka_AD G) {V : ka_W} {x : Int32}  : ka_M G yX6_isError cX6_isError 1 (some FieldType.boolean) 1 [.int x] (V) (some (.int (ka_b (kw x (-2000000004) (-2000000001))))) (V) := by
  refine ka_entry hG ka_pn_X6 (ka_cat1 rfl) (Nat.le_of_ble_eq_true rfl) (fun X hC hR => ?_)
  refine ka_iload_n hC dX6_isError_0 rfl ?_
  refine ka_ldc hC ka_q_cn_X6_112 dX6_isError_1 ?_
  refine ka_ldc hC ka_q_cn_X6_84 dX6_isError_3 ?_
  refine ka_callS hC (m_X6_within hG) ka_q_ml_X6_89 ka_q_st_X6_within ka_q_in_X6 ka_q_co_X6_within ky_X6_within (by decide) (by decide) (Nat.le_of_ble_eq_true rfl) rfl dX6_isError_5 ?_
  exact ka_bret hC hR dX6_isError_8 (by first | with_reducible rfl | (simp only []; done) | (simp only []; done) | (simp []; done) | (simp []; done) | contradiction | rfl) rfl (by first | with_reducible rfl | (simp only []; done) | (simp only []; done) | (simp []; done) | (simp []; done) | contradiction | rfl)
theorem ky_X5_standFrom : ka_y yX5_standFrom 1 := by unfold ka_y; decide +kernel
set_option maxHeartbeats 4000000 in
set_option maxRecDepth 100000 in
theorem m_X5_standFrom {G : ka_G} (hG : ka_AD G) {V : ka_W} {r : Nat} (hr : r < 6) {P : ka_P} {k : Nat} (hk : k < 20) {x : Int32}  : ka_M G yX5_standFrom cX5_standFrom 2 none 0 [.ref (ka_ad G r (8 + k)), .int x] (ka_sp V r P) none (ka_sp V r (sp_standFrom P k x)) := by
  refine ka_entry hG ka_pn_X5 (ka_cat1 rfl) (Nat.le_of_ble_eq_true rfl) (fun X hC hR => ?_)
  refine ka_aload_n hC dX5_standFrom_0 rfl ?_
  refine ka_iconst (v := 0) hC dX5_standFrom_1 rfl ?_
  refine kpp_X5_18 (by first | assumption | decide | exact wgIx_lt _ | exact plIx_lt _ | exact sp_recQ_lt | omega) (by first | assumption | decide | exact wgIx_lt _ | exact plIx_lt _ | exact sp_recQ_lt | omega) hC dX5_standFrom_2 ?_
  refine ka_aload_n hC dX5_standFrom_5 rfl ?_
  refine ka_iload_n hC dX5_standFrom_6 rfl ?_
  refine kpp_X5_28 (by first | assumption | decide | exact wgIx_lt _ | exact plIx_lt _ | exact sp_recQ_lt | omega) (by first | assumption | decide | exact wgIx_lt _ | exact plIx_lt _ | exact sp_recQ_lt | omega) hC dX5_standFrom_7 ?_
  exact ka_vret hC hR dX5_standFrom_10 rfl (by first | with_reducible rfl | (simp only [sp_standFrom, pU]; done) | (simp only [sp_standFrom, pU]; done) | (simp [sp_standFrom, pU]; done) | (simp [sp_standFrom, pU]; done) | contradiction | rfl)
theorem ky_X5_leaveFor : ka_y yX5_leaveFor 3 := by unfold ka_y; decide +kernel
set_option maxHeartbeats 4000000 in
set_option maxRecDepth 100000 in
theorem m_X5_leaveFor {G : ka_G} (hG : ka_AD G) {V : ka_W} {r : Nat} (hr : r < 6) {P : ka_P} {k : Nat} (hk : k < 20) {a b c : Int32}  : ka_M G yX5_leaveFor cX5_leaveFor 4 none 0 [.ref (ka_ad G r (8 + k)), .int a, .int b, .int c] (ka_sp V r P) none (ka_sp V r (sp_leaveFor P k a b c)) := by
  refine ka_entry hG ka_pn_X5 (ka_cat1 rfl) (Nat.le_of_ble_eq_true rfl) (fun X hC hR => ?_)
  refine ka_aload_n hC dX5_leaveFor_0 rfl ?_
  refine ka_iconst (v := 1) hC dX5_leaveFor_1 rfl ?_
  refine kpp_X5_18 (by first | assumption | decide | exact wgIx_lt _ | exact plIx_lt _ | exact sp_recQ_lt | omega) (by first | assumption | decide | exact wgIx_lt _ | exact plIx_lt _ | exact sp_recQ_lt | omega) hC dX5_leaveFor_2 ?_
  refine ka_aload_n hC dX5_leaveFor_5 rfl ?_
  refine ka_iload_n hC dX5_leaveFor_6 rfl ?_
  refine kpp_X5_15 (by first | assumption | decide | exact wgIx_lt _ | exact plIx_lt _ | exact sp_recQ_lt | omega) (by first | assumption | decide | exact wgIx_lt _ | exact plIx_lt _ | exact sp_recQ_lt | omega) hC dX5_leaveFor_7 ?_
  refine ka_aload_n hC dX5_leaveFor_10 rfl ?_
  refine ka_iload_n hC dX5_leaveFor_11 rfl ?_
  refine kpp_X5_34 (by first | assumption | decide | exact wgIx_lt _ | exact plIx_lt _ | exact sp_recQ_lt | omega) (by first | assumption | decide | exact wgIx_lt _ | exact plIx_lt _ | exact sp_recQ_lt | omega) hC dX5_leaveFor_12 ?_
  refine ka_aload_n hC dX5_leaveFor_15 rfl ?_
  refine ka_iload_n hC dX5_leaveFor_16 rfl ?_
  refine ka_iload_n hC dX5_leaveFor_17 rfl ?_
  refine ka_iadd hC dX5_leaveFor_18 ?_
  refine kpp_X5_31 (by first | assumption | decide | exact wgIx_lt _ | exact plIx_lt _ | exact sp_recQ_lt | omega) (by first | assumption | decide | exact wgIx_lt _ | exact plIx_lt _ | exact sp_recQ_lt | omega) hC dX5_leaveFor_19 ?_
  exact ka_vret hC hR dX5_leaveFor_22 rfl (by first | with_reducible rfl | (simp only [sp_leaveFor, pU]; done) | (simp only [sp_leaveFor, pU]; done) | (simp [sp_leaveFor, pU]; done) | (simp [sp_leaveFor, pU]; done) | contradiction | rfl)
theorem ky_X5_standsAt : ka_y yX5_standsAt 1 := by unfold ka_y; decide +kernel
set_option maxHeartbeats 4000000 in
set_option maxRecDepth 100000 in
theorem m_X5_standsAt {G : ka_G} (hG : ka_AD G) {V : ka_W} {r : Nat} (hr : r < 6) {P : ka_P} {k : Nat} (hk : k < 20) {x : Int32}  : ka_M G yX5_standsAt cX5_standsAt 2 (some FieldType.boolean) 0 [.ref (ka_ad G r (8 + k)), .int x] (ka_sp V r P) (some (.int (ka_b (sp_standsAt P k x)))) (ka_sp V r P) := by
  refine ka_entry hG ka_pn_X5 (ka_cat1 rfl) (Nat.le_of_ble_eq_true rfl) (fun X hC hR => ?_)
  refine ka_aload_n hC dX5_standsAt_0 rfl ?_
  refine kgp_X5_18 (by first | assumption | decide | exact wgIx_lt _ | exact plIx_lt _ | exact sp_recQ_lt | omega) (by first | assumption | decide | exact wgIx_lt _ | exact plIx_lt _ | exact sp_recQ_lt | omega) hC dX5_standsAt_1 ?_
  refine ka_if_ne (tgt := 19) hC dX5_standsAt_4 (by decide) (fun c4 => ?_) (fun c4 => ?_)
  · skip
    refine ka_iconst (v := 0) hC dX5_standsAt_19 rfl ?_
    exact ka_bret hC hR dX5_standsAt_20 (by first | with_reducible rfl | (simp only [sp_standsAt, ka_b, c4]; done) | (simp only [sp_standsAt, ka_b, if_neg c4, if_pos c4]; done) | (simp [sp_standsAt, ka_b, c4]; done) | (simp [sp_standsAt, ka_b, if_neg c4, if_pos c4]; done) | contradiction | rfl) rfl (by first | with_reducible rfl | (simp only [sp_standsAt, ka_b, c4]; done) | (simp only [sp_standsAt, ka_b, if_neg c4, if_pos c4]; done) | (simp [sp_standsAt, ka_b, c4]; done) | (simp [sp_standsAt, ka_b, if_neg c4, if_pos c4]; done) | contradiction | rfl)
  · skip
    refine ka_aload_n hC dX5_standsAt_7 rfl ?_
    refine kgp_X5_15 (by first | assumption | decide | exact wgIx_lt _ | exact plIx_lt _ | exact sp_recQ_lt | omega) (by first | assumption | decide | exact wgIx_lt _ | exact plIx_lt _ | exact sp_recQ_lt | omega) hC dX5_standsAt_8 ?_
    refine ka_iload_n hC dX5_standsAt_11 rfl ?_
    refine ka_icmp_ne (tgt := 19) hC dX5_standsAt_12 (by decide) (fun c12 => ?_) (fun c12 => ?_)
    · skip
      refine ka_iconst (v := 0) hC dX5_standsAt_19 rfl ?_
      exact ka_bret hC hR dX5_standsAt_20 (by first | with_reducible rfl | (simp only [sp_standsAt, ka_b, c4, c12]; done) | (simp only [sp_standsAt, ka_b, if_pos c4, if_neg (not_not_intro c4), if_neg c12, if_pos c12]; done) | (simp [sp_standsAt, ka_b, c4, c12]; done) | (simp [sp_standsAt, ka_b, if_pos c4, if_neg (not_not_intro c4), if_neg c12, if_pos c12]; done) | contradiction | rfl) rfl (by first | with_reducible rfl | (simp only [sp_standsAt, ka_b, c4, c12]; done) | (simp only [sp_standsAt, ka_b, if_pos c4, if_neg (not_not_intro c4), if_neg c12, if_pos c12]; done) | (simp [sp_standsAt, ka_b, c4, c12]; done) | (simp [sp_standsAt, ka_b, if_pos c4, if_neg (not_not_intro c4), if_neg c12, if_pos c12]; done) | contradiction | rfl)
    · skip
      refine ka_iconst (v := 1) hC dX5_standsAt_15 rfl ?_
      refine ka_goto (tgt := 20) hC dX5_standsAt_16 (by decide) ?_
      exact ka_bret hC hR dX5_standsAt_20 (by first | with_reducible rfl | (simp only [sp_standsAt, ka_b, c4, c12]; done) | (simp only [sp_standsAt, ka_b, if_pos c4, if_neg (not_not_intro c4), if_pos c12, if_neg (not_not_intro c12)]; done) | (simp [sp_standsAt, ka_b, c4, c12]; done) | (simp [sp_standsAt, ka_b, if_pos c4, if_neg (not_not_intro c4), if_pos c12, if_neg (not_not_intro c12)]; done) | contradiction | rfl) rfl (by first | with_reducible rfl | (simp only [sp_standsAt, ka_b, c4, c12]; done) | (simp only [sp_standsAt, ka_b, if_pos c4, if_neg (not_not_intro c4), if_pos c12, if_neg (not_not_intro c12)]; done) | (simp [sp_standsAt, ka_b, c4, c12]; done) | (simp [sp_standsAt, ka_b, if_pos c4, if_neg (not_not_intro c4), if_pos c12, if_neg (not_not_intro c12)]; done) | contradiction | rfl)
theorem ky_X5_isOnItsWayTo : ka_y yX5_isOnItsWayTo 1 := by unfold ka_y; decide +kernel
set_option maxHeartbeats 4000000 in
set_option maxRecDepth 100000 in
theorem m_X5_isOnItsWayTo {G : ka_G} (hG : ka_AD G) {V : ka_W} {r : Nat} (hr : r < 6) {P : ka_P} {k : Nat} (hk : k < 20) {x : Int32}  : ka_M G yX5_isOnItsWayTo cX5_isOnItsWayTo 2 (some FieldType.boolean) 0 [.ref (ka_ad G r (8 + k)), .int x] (ka_sp V r P) (some (.int (ka_b (sp_goesTo P k x)))) (ka_sp V r P) := by
  refine ka_entry hG ka_pn_X5 (ka_cat1 rfl) (Nat.le_of_ble_eq_true rfl) (fun X hC hR => ?_)
  refine ka_aload_n hC dX5_isOnItsWayTo_0 rfl ?_
  refine kgp_X5_18 (by first | assumption | decide | exact wgIx_lt _ | exact plIx_lt _ | exact sp_recQ_lt | omega) (by first | assumption | decide | exact wgIx_lt _ | exact plIx_lt _ | exact sp_recQ_lt | omega) hC dX5_isOnItsWayTo_1 ?_
  refine ka_iconst (v := 1) hC dX5_isOnItsWayTo_4 rfl ?_
  refine ka_icmp_ne (tgt := 20) hC dX5_isOnItsWayTo_5 (by decide) (fun c5 => ?_) (fun c5 => ?_)
  · skip
    refine ka_iconst (v := 0) hC dX5_isOnItsWayTo_20 rfl ?_
    exact ka_bret hC hR dX5_isOnItsWayTo_21 (by first | with_reducible rfl | (simp only [sp_goesTo, ka_b, c5]; done) | (simp only [sp_goesTo, ka_b, if_neg c5, if_pos c5]; done) | (simp [sp_goesTo, ka_b, c5]; done) | (simp [sp_goesTo, ka_b, if_neg c5, if_pos c5]; done) | contradiction | rfl) rfl (by first | with_reducible rfl | (simp only [sp_goesTo, ka_b, c5]; done) | (simp only [sp_goesTo, ka_b, if_neg c5, if_pos c5]; done) | (simp [sp_goesTo, ka_b, c5]; done) | (simp [sp_goesTo, ka_b, if_neg c5, if_pos c5]; done) | contradiction | rfl)
  · skip
    refine ka_aload_n hC dX5_isOnItsWayTo_8 rfl ?_
    refine kgp_X5_15 (by first | assumption | decide | exact wgIx_lt _ | exact plIx_lt _ | exact sp_recQ_lt | omega) (by first | assumption | decide | exact wgIx_lt _ | exact plIx_lt _ | exact sp_recQ_lt | omega) hC dX5_isOnItsWayTo_9 ?_
    refine ka_iload_n hC dX5_isOnItsWayTo_12 rfl ?_
    refine ka_icmp_ne (tgt := 20) hC dX5_isOnItsWayTo_13 (by decide) (fun c13 => ?_) (fun c13 => ?_)
    · skip
      refine ka_iconst (v := 0) hC dX5_isOnItsWayTo_20 rfl ?_
      exact ka_bret hC hR dX5_isOnItsWayTo_21 (by first | with_reducible rfl | (simp only [sp_goesTo, ka_b, c5, c13]; done) | (simp only [sp_goesTo, ka_b, if_pos c5, if_neg (not_not_intro c5), if_neg c13, if_pos c13]; done) | (simp [sp_goesTo, ka_b, c5, c13]; done) | (simp [sp_goesTo, ka_b, if_pos c5, if_neg (not_not_intro c5), if_neg c13, if_pos c13]; done) | contradiction | rfl) rfl (by first | with_reducible rfl | (simp only [sp_goesTo, ka_b, c5, c13]; done) | (simp only [sp_goesTo, ka_b, if_pos c5, if_neg (not_not_intro c5), if_neg c13, if_pos c13]; done) | (simp [sp_goesTo, ka_b, c5, c13]; done) | (simp [sp_goesTo, ka_b, if_pos c5, if_neg (not_not_intro c5), if_neg c13, if_pos c13]; done) | contradiction | rfl)
    · skip
      refine ka_iconst (v := 1) hC dX5_isOnItsWayTo_16 rfl ?_
      refine ka_goto (tgt := 21) hC dX5_isOnItsWayTo_17 (by decide) ?_
      exact ka_bret hC hR dX5_isOnItsWayTo_21 (by first | with_reducible rfl | (simp only [sp_goesTo, ka_b, c5, c13]; done) | (simp only [sp_goesTo, ka_b, if_pos c5, if_neg (not_not_intro c5), if_pos c13, if_neg (not_not_intro c13)]; done) | (simp [sp_goesTo, ka_b, c5, c13]; done) | (simp [sp_goesTo, ka_b, if_pos c5, if_neg (not_not_intro c5), if_pos c13, if_neg (not_not_intro c13)]; done) | contradiction | rfl) rfl (by first | with_reducible rfl | (simp only [sp_goesTo, ka_b, c5, c13]; done) | (simp only [sp_goesTo, ka_b, if_pos c5, if_neg (not_not_intro c5), if_pos c13, if_neg (not_not_intro c13)]; done) | (simp [sp_goesTo, ka_b, c5, c13]; done) | (simp [sp_goesTo, ka_b, if_pos c5, if_neg (not_not_intro c5), if_pos c13, if_neg (not_not_intro c13)]; done) | contradiction | rfl)
theorem ky_X5_isHired : ka_y yX5_isHired 0 := by unfold ka_y; decide +kernel
set_option maxHeartbeats 4000000 in
set_option maxRecDepth 100000 in
theorem m_X5_isHired {G : ka_G} (hG : ka_AD G) {V : ka_W} {r : Nat} (hr : r < 6) {P : ka_P} {k : Nat} (hk : k < 20)  : ka_M G yX5_isHired cX5_isHired 1 (some FieldType.boolean) 0 [.ref (ka_ad G r (8 + k))] (ka_sp V r P) (some (.int (ka_b (sp_isHired P k)))) (ka_sp V r P) := by
  refine ka_entry hG ka_pn_X5 (ka_cat1 rfl) (Nat.le_of_ble_eq_true rfl) (fun X hC hR => ?_)
  refine ka_aload_n hC dX5_isHired_0 rfl ?_
  refine kgp_X5_18 (by first | assumption | decide | exact wgIx_lt _ | exact plIx_lt _ | exact sp_recQ_lt | omega) (by first | assumption | decide | exact wgIx_lt _ | exact plIx_lt _ | exact sp_recQ_lt | omega) hC dX5_isHired_1 ?_
  refine ka_if_ne (tgt := 29) hC dX5_isHired_4 (by decide) (fun c4 => ?_) (fun c4 => ?_)
  · skip
    refine ka_iconst (v := 0) hC dX5_isHired_29 rfl ?_
    exact ka_bret hC hR dX5_isHired_30 (by first | with_reducible rfl | (simp only [sp_isHired, ka_b, c4]; done) | (simp only [sp_isHired, ka_b, if_neg c4, if_pos c4]; done) | (simp [sp_isHired, ka_b, c4]; done) | (simp [sp_isHired, ka_b, if_neg c4, if_pos c4]; done) | contradiction | rfl) rfl (by first | with_reducible rfl | (simp only [sp_isHired, ka_b, c4]; done) | (simp only [sp_isHired, ka_b, if_neg c4, if_pos c4]; done) | (simp [sp_isHired, ka_b, c4]; done) | (simp [sp_isHired, ka_b, if_neg c4, if_pos c4]; done) | contradiction | rfl)
  · skip
    refine ka_aload_n hC dX5_isHired_7 rfl ?_
    refine kgp_X5_15 (by first | assumption | decide | exact wgIx_lt _ | exact plIx_lt _ | exact sp_recQ_lt | omega) (by first | assumption | decide | exact wgIx_lt _ | exact plIx_lt _ | exact sp_recQ_lt | omega) hC dX5_isHired_8 ?_
    refine ka_if_eq (tgt := 29) hC dX5_isHired_11 (by decide) (fun c11 => ?_) (fun c11 => ?_)
    · skip
      refine ka_iconst (v := 0) hC dX5_isHired_29 rfl ?_
      exact ka_bret hC hR dX5_isHired_30 (by first | with_reducible rfl | (simp only [sp_isHired, ka_b, c4, c11]; done) | (simp only [sp_isHired, ka_b, if_pos c4, if_neg (not_not_intro c4), if_pos c11, if_neg (not_not_intro c11)]; done) | (simp [sp_isHired, ka_b, c4, c11]; done) | (simp [sp_isHired, ka_b, if_pos c4, if_neg (not_not_intro c4), if_pos c11, if_neg (not_not_intro c11)]; done) | contradiction | rfl) rfl (by first | with_reducible rfl | (simp only [sp_isHired, ka_b, c4, c11]; done) | (simp only [sp_isHired, ka_b, if_pos c4, if_neg (not_not_intro c4), if_pos c11, if_neg (not_not_intro c11)]; done) | (simp [sp_isHired, ka_b, c4, c11]; done) | (simp [sp_isHired, ka_b, if_pos c4, if_neg (not_not_intro c4), if_pos c11, if_neg (not_not_intro c11)]; done) | contradiction | rfl)
    · skip
      refine ka_aload_n hC dX5_isHired_14 rfl ?_
      refine kgp_X5_15 (by first | assumption | decide | exact wgIx_lt _ | exact plIx_lt _ | exact sp_recQ_lt | omega) (by first | assumption | decide | exact wgIx_lt _ | exact plIx_lt _ | exact sp_recQ_lt | omega) hC dX5_isHired_15 ?_
      refine ka_aload_n hC dX5_isHired_18 rfl ?_
      refine kgp_X5_9 (by first | assumption | decide | exact wgIx_lt _ | exact plIx_lt _ | exact sp_recQ_lt | omega) (by first | assumption | decide | exact wgIx_lt _ | exact plIx_lt _ | exact sp_recQ_lt | omega) hC dX5_isHired_19 ?_
      refine ka_icmp_eq (tgt := 29) hC dX5_isHired_22 (by decide) (fun c22 => ?_) (fun c22 => ?_)
      · skip
        refine ka_iconst (v := 0) hC dX5_isHired_29 rfl ?_
        exact ka_bret hC hR dX5_isHired_30 (by first | with_reducible rfl | (simp only [sp_isHired, ka_b, c4, c11, c22]; done) | (simp only [sp_isHired, ka_b, if_pos c4, if_neg (not_not_intro c4), if_neg c11, if_pos c11, if_pos c22, if_neg (not_not_intro c22)]; done) | (simp [sp_isHired, ka_b, c4, c11, c22]; done) | (simp [sp_isHired, ka_b, if_pos c4, if_neg (not_not_intro c4), if_neg c11, if_pos c11, if_pos c22, if_neg (not_not_intro c22)]; done) | contradiction | rfl) rfl (by first | with_reducible rfl | (simp only [sp_isHired, ka_b, c4, c11, c22]; done) | (simp only [sp_isHired, ka_b, if_pos c4, if_neg (not_not_intro c4), if_neg c11, if_pos c11, if_pos c22, if_neg (not_not_intro c22)]; done) | (simp [sp_isHired, ka_b, c4, c11, c22]; done) | (simp [sp_isHired, ka_b, if_pos c4, if_neg (not_not_intro c4), if_neg c11, if_pos c11, if_pos c22, if_neg (not_not_intro c22)]; done) | contradiction | rfl)
      · skip
        refine ka_iconst (v := 1) hC dX5_isHired_25 rfl ?_
        refine ka_goto (tgt := 30) hC dX5_isHired_26 (by decide) ?_
        exact ka_bret hC hR dX5_isHired_30 (by first | with_reducible rfl | (simp only [sp_isHired, ka_b, c4, c11, c22]; done) | (simp only [sp_isHired, ka_b, if_pos c4, if_neg (not_not_intro c4), if_neg c11, if_pos c11, if_neg c22, if_pos c22]; done) | (simp [sp_isHired, ka_b, c4, c11, c22]; done) | (simp [sp_isHired, ka_b, if_pos c4, if_neg (not_not_intro c4), if_neg c11, if_pos c11, if_neg c22, if_pos c22]; done) | contradiction | rfl) rfl (by first | with_reducible rfl | (simp only [sp_isHired, ka_b, c4, c11, c22]; done) | (simp only [sp_isHired, ka_b, if_pos c4, if_neg (not_not_intro c4), if_neg c11, if_pos c11, if_neg c22, if_pos c22]; done) | (simp [sp_isHired, ka_b, c4, c11, c22]; done) | (simp [sp_isHired, ka_b, if_pos c4, if_neg (not_not_intro c4), if_neg c11, if_pos c11, if_neg c22, if_pos c22]; done) | contradiction | rfl)
theorem ky_X5_isLoadedAtPort : ka_y yX5_isLoadedAtPort 0 := by unfold ka_y; decide +kernel
set_option maxHeartbeats 4000000 in
set_option maxRecDepth 100000 in
theorem m_X5_isLoadedAtPort {G : ka_G} (hG : ka_AD G) {V : ka_W} {r : Nat} (hr : r < 6) {P : ka_P} {k : Nat} (hk : k < 20)  : ka_M G yX5_isLoadedAtPort cX5_isLoadedAtPort 1 (some FieldType.boolean) 0 [.ref (ka_ad G r (8 + k))] (ka_sp V r P) (some (.int (ka_b (sp_isLoadedAtPort P k)))) (ka_sp V r P) := by
  refine ka_entry hG ka_pn_X5 (ka_cat1 rfl) (Nat.le_of_ble_eq_true rfl) (fun X hC hR => ?_)
  refine ka_aload_n hC dX5_isLoadedAtPort_0 rfl ?_
  refine kgp_X5_21 (by first | assumption | decide | exact wgIx_lt _ | exact plIx_lt _ | exact sp_recQ_lt | omega) (by first | assumption | decide | exact wgIx_lt _ | exact plIx_lt _ | exact sp_recQ_lt | omega) hC dX5_isLoadedAtPort_1 ?_
  refine ka_if_eq_b (tgt := 25) hC dX5_isLoadedAtPort_4 (by decide) (fun c4 => ?_) (fun c4 => ?_)
  · skip
    refine ka_iconst (v := 0) hC dX5_isLoadedAtPort_25 rfl ?_
    exact ka_bret hC hR dX5_isLoadedAtPort_26 (by first | with_reducible rfl | (simp only [sp_isLoadedAtPort, sp_full, ka_b, c4]; done) | (simp only [sp_isLoadedAtPort, sp_full, ka_b, c4]; done) | (simp [sp_isLoadedAtPort, sp_full, ka_b, c4]; done) | (simp [sp_isLoadedAtPort, sp_full, ka_b, c4]; done) | contradiction | rfl) rfl (by first | with_reducible rfl | (simp only [sp_isLoadedAtPort, sp_full, ka_b, c4]; done) | (simp only [sp_isLoadedAtPort, sp_full, ka_b, c4]; done) | (simp [sp_isLoadedAtPort, sp_full, ka_b, c4]; done) | (simp [sp_isLoadedAtPort, sp_full, ka_b, c4]; done) | contradiction | rfl)
  · skip
    refine ka_aload_n hC dX5_isLoadedAtPort_7 rfl ?_
    refine kgp_X5_18 (by first | assumption | decide | exact wgIx_lt _ | exact plIx_lt _ | exact sp_recQ_lt | omega) (by first | assumption | decide | exact wgIx_lt _ | exact plIx_lt _ | exact sp_recQ_lt | omega) hC dX5_isLoadedAtPort_8 ?_
    refine ka_if_ne (tgt := 25) hC dX5_isLoadedAtPort_11 (by decide) (fun c11 => ?_) (fun c11 => ?_)
    · skip
      refine ka_iconst (v := 0) hC dX5_isLoadedAtPort_25 rfl ?_
      exact ka_bret hC hR dX5_isLoadedAtPort_26 (by first | with_reducible rfl | (simp only [sp_isLoadedAtPort, sp_full, ka_b, c4, c11]; done) | (simp only [sp_isLoadedAtPort, sp_full, ka_b, c4, if_neg c11, if_pos c11]; done) | (simp [sp_isLoadedAtPort, sp_full, ka_b, c4, c11]; done) | (simp [sp_isLoadedAtPort, sp_full, ka_b, c4, if_neg c11, if_pos c11]; done) | contradiction | rfl) rfl (by first | with_reducible rfl | (simp only [sp_isLoadedAtPort, sp_full, ka_b, c4, c11]; done) | (simp only [sp_isLoadedAtPort, sp_full, ka_b, c4, if_neg c11, if_pos c11]; done) | (simp [sp_isLoadedAtPort, sp_full, ka_b, c4, c11]; done) | (simp [sp_isLoadedAtPort, sp_full, ka_b, c4, if_neg c11, if_pos c11]; done) | contradiction | rfl)
    · skip
      refine ka_aload_n hC dX5_isLoadedAtPort_14 rfl ?_
      refine kgp_X5_15 (by first | assumption | decide | exact wgIx_lt _ | exact plIx_lt _ | exact sp_recQ_lt | omega) (by first | assumption | decide | exact wgIx_lt _ | exact plIx_lt _ | exact sp_recQ_lt | omega) hC dX5_isLoadedAtPort_15 ?_
      refine ka_if_ne (tgt := 25) hC dX5_isLoadedAtPort_18 (by decide) (fun c18 => ?_) (fun c18 => ?_)
      · skip
        refine ka_iconst (v := 0) hC dX5_isLoadedAtPort_25 rfl ?_
        exact ka_bret hC hR dX5_isLoadedAtPort_26 (by first | with_reducible rfl | (simp only [sp_isLoadedAtPort, sp_full, ka_b, c4, c11, c18]; done) | (simp only [sp_isLoadedAtPort, sp_full, ka_b, c4, if_pos c11, if_neg (not_not_intro c11), if_neg c18, if_pos c18]; done) | (simp [sp_isLoadedAtPort, sp_full, ka_b, c4, c11, c18]; done) | (simp [sp_isLoadedAtPort, sp_full, ka_b, c4, if_pos c11, if_neg (not_not_intro c11), if_neg c18, if_pos c18]; done) | contradiction | rfl) rfl (by first | with_reducible rfl | (simp only [sp_isLoadedAtPort, sp_full, ka_b, c4, c11, c18]; done) | (simp only [sp_isLoadedAtPort, sp_full, ka_b, c4, if_pos c11, if_neg (not_not_intro c11), if_neg c18, if_pos c18]; done) | (simp [sp_isLoadedAtPort, sp_full, ka_b, c4, c11, c18]; done) | (simp [sp_isLoadedAtPort, sp_full, ka_b, c4, if_pos c11, if_neg (not_not_intro c11), if_neg c18, if_pos c18]; done) | contradiction | rfl)
      · skip
        refine ka_iconst (v := 1) hC dX5_isLoadedAtPort_21 rfl ?_
        refine ka_goto (tgt := 26) hC dX5_isLoadedAtPort_22 (by decide) ?_
        exact ka_bret hC hR dX5_isLoadedAtPort_26 (by first | with_reducible rfl | (simp only [sp_isLoadedAtPort, sp_full, ka_b, c4, c11, c18]; done) | (simp only [sp_isLoadedAtPort, sp_full, ka_b, c4, if_pos c11, if_neg (not_not_intro c11), if_pos c18, if_neg (not_not_intro c18)]; done) | (simp [sp_isLoadedAtPort, sp_full, ka_b, c4, c11, c18]; done) | (simp [sp_isLoadedAtPort, sp_full, ka_b, c4, if_pos c11, if_neg (not_not_intro c11), if_pos c18, if_neg (not_not_intro c18)]; done) | contradiction | rfl) rfl (by first | with_reducible rfl | (simp only [sp_isLoadedAtPort, sp_full, ka_b, c4, c11, c18]; done) | (simp only [sp_isLoadedAtPort, sp_full, ka_b, c4, if_pos c11, if_neg (not_not_intro c11), if_pos c18, if_neg (not_not_intro c18)]; done) | (simp [sp_isLoadedAtPort, sp_full, ka_b, c4, c11, c18]; done) | (simp [sp_isLoadedAtPort, sp_full, ka_b, c4, if_pos c11, if_neg (not_not_intro c11), if_pos c18, if_neg (not_not_intro c18)]; done) | contradiction | rfl)
theorem ky_X5_isOfKind : ka_y yX5_isOfKind 1 := by unfold ka_y; decide +kernel
set_option maxHeartbeats 4000000 in
set_option maxRecDepth 100000 in
theorem m_X5_isOfKind {G : ka_G} (hG : ka_AD G) {V : ka_W} {r : Nat} (hr : r < 6) {P : ka_P} {k : Nat} (hk : k < 20) {x : Int32}  : ka_M G yX5_isOfKind cX5_isOfKind 2 (some FieldType.boolean) 0 [.ref (ka_ad G r (8 + k)), .int x] (ka_sp V r P) (some (.int (ka_b (sp_isOfKind P k x)))) (ka_sp V r P) := by
  refine ka_entry hG ka_pn_X5 (ka_cat1 rfl) (Nat.le_of_ble_eq_true rfl) (fun X hC hR => ?_)
  refine ka_iload_n hC dX5_isOfKind_0 rfl ?_
  refine ka_iconst (v := 2) hC dX5_isOfKind_1 rfl ?_
  refine ka_icmp_eq (tgt := 22) hC dX5_isOfKind_2 (by decide) (fun c2 => ?_) (fun c2 => ?_)
  · skip
    refine ka_iconst (v := 1) hC dX5_isOfKind_22 rfl ?_
    refine ka_goto (tgt := 27) hC dX5_isOfKind_23 (by decide) ?_
    exact ka_bret hC hR dX5_isOfKind_27 (by first | (simp [sp_isOfKind, ka_b, c2]; done) | (revert c19; simp only [sp_isOfKind, sp_full, c2, c11]; cases ka_t (P (8 + k) 3) <;> decide)) rfl (by first | with_reducible rfl | (simp only [sp_isOfKind, sp_full, ka_b, c2]; done) | (simp only [sp_isOfKind, sp_full, ka_b, if_pos c2, if_neg (not_not_intro c2)]; done) | (simp [sp_isOfKind, sp_full, ka_b, c2]; done) | (simp [sp_isOfKind, sp_full, ka_b, if_pos c2, if_neg (not_not_intro c2)]; done) | contradiction | rfl)
  · skip
    refine ka_aload_n hC dX5_isOfKind_5 rfl ?_
    refine kgp_X5_21 (by first | assumption | decide | exact wgIx_lt _ | exact plIx_lt _ | exact sp_recQ_lt | omega) (by first | assumption | decide | exact wgIx_lt _ | exact plIx_lt _ | exact sp_recQ_lt | omega) hC dX5_isOfKind_6 ?_
    refine ka_iload_n hC dX5_isOfKind_9 rfl ?_
    refine ka_iconst (v := 1) hC dX5_isOfKind_10 rfl ?_
    refine ka_icmp_ne (tgt := 18) hC dX5_isOfKind_11 (by decide) (fun c11 => ?_) (fun c11 => ?_)
    · skip
      refine ka_iconst (v := 0) hC dX5_isOfKind_18 rfl ?_
      refine ka_icmp_ne (tgt := 26) hC dX5_isOfKind_19 (by decide) (fun c19 => ?_) (fun c19 => ?_)
      · skip
        refine ka_iconst (v := 0) hC dX5_isOfKind_26 rfl ?_
        exact ka_bret hC hR dX5_isOfKind_27 (by first | (simp [sp_isOfKind, ka_b, c2, c11, c19]; done) | (revert c19; simp only [sp_isOfKind, sp_full, c2, c11]; cases ka_t (P (8 + k) 3) <;> decide)) rfl (by first | with_reducible rfl | (simp only [sp_isOfKind, sp_full, ka_b, c2, c11, c19]; done) | (simp only [sp_isOfKind, sp_full, ka_b, if_neg c2, if_pos c2, if_neg c11, if_pos c11, if_neg c19, if_pos c19]; done) | (simp [sp_isOfKind, sp_full, ka_b, c2, c11, c19]; done) | (simp [sp_isOfKind, sp_full, ka_b, if_neg c2, if_pos c2, if_neg c11, if_pos c11, if_neg c19, if_pos c19]; done) | contradiction | rfl)
      · skip
        refine ka_iconst (v := 1) hC dX5_isOfKind_22 rfl ?_
        refine ka_goto (tgt := 27) hC dX5_isOfKind_23 (by decide) ?_
        exact ka_bret hC hR dX5_isOfKind_27 (by first | (simp [sp_isOfKind, ka_b, c2, c11, c19]; done) | (revert c19; simp only [sp_isOfKind, sp_full, c2, c11]; cases ka_t (P (8 + k) 3) <;> decide)) rfl (by first | with_reducible rfl | (simp only [sp_isOfKind, sp_full, ka_b, c2, c11, c19]; done) | (simp only [sp_isOfKind, sp_full, ka_b, if_neg c2, if_pos c2, if_neg c11, if_pos c11, if_pos c19, if_neg (not_not_intro c19)]; done) | (simp [sp_isOfKind, sp_full, ka_b, c2, c11, c19]; done) | (simp [sp_isOfKind, sp_full, ka_b, if_neg c2, if_pos c2, if_neg c11, if_pos c11, if_pos c19, if_neg (not_not_intro c19)]; done) | contradiction | rfl)
    · skip
      refine ka_iconst (v := 1) hC dX5_isOfKind_14 rfl ?_
      refine ka_goto (tgt := 19) hC dX5_isOfKind_15 (by decide) ?_
      refine ka_icmp_ne (tgt := 26) hC dX5_isOfKind_19 (by decide) (fun c19 => ?_) (fun c19 => ?_)
      · skip
        refine ka_iconst (v := 0) hC dX5_isOfKind_26 rfl ?_
        exact ka_bret hC hR dX5_isOfKind_27 (by first | (simp [sp_isOfKind, ka_b, c2, c11, c19]; done) | (revert c19; simp only [sp_isOfKind, sp_full, c2, c11]; cases ka_t (P (8 + k) 3) <;> decide)) rfl (by first | with_reducible rfl | (simp only [sp_isOfKind, sp_full, ka_b, c2, c11, c19]; done) | (simp only [sp_isOfKind, sp_full, ka_b, if_neg c2, if_pos c2, if_pos c11, if_neg (not_not_intro c11), if_neg c19, if_pos c19]; done) | (simp [sp_isOfKind, sp_full, ka_b, c2, c11, c19]; done) | (simp [sp_isOfKind, sp_full, ka_b, if_neg c2, if_pos c2, if_pos c11, if_neg (not_not_intro c11), if_neg c19, if_pos c19]; done) | contradiction | rfl)
      · skip
        refine ka_iconst (v := 1) hC dX5_isOfKind_22 rfl ?_
        refine ka_goto (tgt := 27) hC dX5_isOfKind_23 (by decide) ?_
        exact ka_bret hC hR dX5_isOfKind_27 (by first | (simp [sp_isOfKind, ka_b, c2, c11, c19]; done) | (revert c19; simp only [sp_isOfKind, sp_full, c2, c11]; cases ka_t (P (8 + k) 3) <;> decide)) rfl (by first | with_reducible rfl | (simp only [sp_isOfKind, sp_full, ka_b, c2, c11, c19]; done) | (simp only [sp_isOfKind, sp_full, ka_b, if_neg c2, if_pos c2, if_pos c11, if_neg (not_not_intro c11), if_pos c19, if_neg (not_not_intro c19)]; done) | (simp [sp_isOfKind, sp_full, ka_b, c2, c11, c19]; done) | (simp [sp_isOfKind, sp_full, ka_b, if_neg c2, if_pos c2, if_pos c11, if_neg (not_not_intro c11), if_pos c19, if_neg (not_not_intro c19)]; done) | contradiction | rfl)
theorem ky_X2_grow : ka_y yX2_grow 0 := by unfold ka_y; decide +kernel
set_option maxHeartbeats 4000000 in
set_option maxRecDepth 100000 in
theorem m_X2_grow {G : ka_G} (hG : ka_AD G) {V : ka_W} {r : Nat} (hr : r < 6) {P : ka_P} {q : Nat} (hq : q < 5)  : ka_M G yX2_grow cX2_grow 1 none 0 [.ref (ka_ad G r (2 + q))] (ka_sp V r P) none (ka_sp V r (sp_grow P q)) := by
  refine ka_entry hG ka_pn_X2 (ka_cat1 rfl) (Nat.le_of_ble_eq_true rfl) (fun X hC hR => ?_)
  refine ka_aload_n hC dX2_grow_0 rfl ?_
  refine ka_aload_n hC dX2_grow_1 rfl ?_
  refine kgp_X2_15 (by first | assumption | decide | exact wgIx_lt _ | exact plIx_lt _ | exact sp_recQ_lt | omega) (by first | assumption | decide | exact wgIx_lt _ | exact plIx_lt _ | exact sp_recQ_lt | omega) hC dX2_grow_2 ?_
  refine ka_aload_n hC dX2_grow_5 rfl ?_
  refine kgp_X2_9 (by first | assumption | decide | exact wgIx_lt _ | exact plIx_lt _ | exact sp_recQ_lt | omega) (by first | assumption | decide | exact wgIx_lt _ | exact plIx_lt _ | exact sp_recQ_lt | omega) hC dX2_grow_6 ?_
  refine ka_iadd hC dX2_grow_9 ?_
  refine ka_sipush (v := 999) hC dX2_grow_10 rfl ?_
  refine ka_icmp_le (tgt := 22) hC dX2_grow_13 (by decide) (fun c13 => ?_) (fun c13 => ?_)
  · skip
    refine ka_aload_n hC dX2_grow_22 rfl ?_
    refine kgp_X2_15 (by first | assumption | decide | exact wgIx_lt _ | exact plIx_lt _ | exact sp_recQ_lt | omega) (by first | assumption | decide | exact wgIx_lt _ | exact plIx_lt _ | exact sp_recQ_lt | omega) hC dX2_grow_23 ?_
    refine ka_aload_n hC dX2_grow_26 rfl ?_
    refine kgp_X2_9 (by first | assumption | decide | exact wgIx_lt _ | exact plIx_lt _ | exact sp_recQ_lt | omega) (by first | assumption | decide | exact wgIx_lt _ | exact plIx_lt _ | exact sp_recQ_lt | omega) hC dX2_grow_27 ?_
    refine ka_iadd hC dX2_grow_30 ?_
    refine kpp_X2_15 (by first | assumption | decide | exact wgIx_lt _ | exact plIx_lt _ | exact sp_recQ_lt | omega) (by first | assumption | decide | exact wgIx_lt _ | exact plIx_lt _ | exact sp_recQ_lt | omega) hC dX2_grow_31 ?_
    exact ka_vret hC hR dX2_grow_34 rfl (by first | with_reducible rfl | (simp only [sp_grow, pU, c13]; done) | (simp only [sp_grow, pU, if_neg c13, if_pos c13]; done) | (simp [sp_grow, pU, c13]; done) | (simp [sp_grow, pU, if_neg c13, if_pos c13]; done) | contradiction | rfl)
  · skip
    refine ka_sipush (v := 999) hC dX2_grow_16 rfl ?_
    refine ka_goto (tgt := 31) hC dX2_grow_19 (by decide) ?_
    refine kpp_X2_15 (by first | assumption | decide | exact wgIx_lt _ | exact plIx_lt _ | exact sp_recQ_lt | omega) (by first | assumption | decide | exact wgIx_lt _ | exact plIx_lt _ | exact sp_recQ_lt | omega) hC dX2_grow_31 ?_
    exact ka_vret hC hR dX2_grow_34 rfl (by first | with_reducible rfl | (simp only [sp_grow, pU, c13]; done) | (simp only [sp_grow, pU, if_pos c13, if_neg (not_not_intro c13)]; done) | (simp [sp_grow, pU, c13]; done) | (simp [sp_grow, pU, if_pos c13, if_neg (not_not_intro c13)]; done) | contradiction | rfl)
theorem ky_X2_pay : ka_y yX2_pay 2 := by unfold ka_y; decide +kernel
set_option maxHeartbeats 4000000 in
set_option maxRecDepth 100000 in
theorem m_X2_pay {G : ka_G} (hG : ka_AD G) {V : ka_W} {r : Nat} (hr : r < 6) {P : ka_P} {q : Nat} (hq : q < 5) {b : Nat} (hb : b < 5) {x : Int32}  : ka_M G yX2_pay cX2_pay 3 none 0 [.ref (ka_ad G r (2 + q)), .ref (ka_ad G r (2 + b)), .int x] (ka_sp V r P) none (ka_sp V r (sp_pay P q b x)) := by
  refine ka_entry hG ka_pn_X2 (ka_cat1 rfl) (Nat.le_of_ble_eq_true rfl) (fun X hC hR => ?_)
  refine ka_aload_n hC dX2_pay_0 rfl ?_
  refine ka_dup hC dX2_pay_1 rfl ?_
  refine kgp_X2_18 (by first | assumption | decide | exact wgIx_lt _ | exact plIx_lt _ | exact sp_recQ_lt | omega) (by first | assumption | decide | exact wgIx_lt _ | exact plIx_lt _ | exact sp_recQ_lt | omega) hC dX2_pay_2 ?_
  refine ka_iload_n hC dX2_pay_5 rfl ?_
  refine ka_isub hC dX2_pay_6 ?_
  refine kpp_X2_18 (by first | assumption | decide | exact wgIx_lt _ | exact plIx_lt _ | exact sp_recQ_lt | omega) (by first | assumption | decide | exact wgIx_lt _ | exact plIx_lt _ | exact sp_recQ_lt | omega) hC dX2_pay_7 ?_
  refine ka_aload_n hC dX2_pay_10 rfl ?_
  refine ka_dup hC dX2_pay_11 rfl ?_
  refine kgp_X2_18 (by first | assumption | decide | exact wgIx_lt _ | exact plIx_lt _ | exact sp_recQ_lt | omega) (by first | assumption | decide | exact wgIx_lt _ | exact plIx_lt _ | exact sp_recQ_lt | omega) hC dX2_pay_12 ?_
  refine ka_iload_n hC dX2_pay_15 rfl ?_
  refine ka_iadd hC dX2_pay_16 ?_
  refine kpp_X2_18 (by first | assumption | decide | exact wgIx_lt _ | exact plIx_lt _ | exact sp_recQ_lt | omega) (by first | assumption | decide | exact wgIx_lt _ | exact plIx_lt _ | exact sp_recQ_lt | omega) hC dX2_pay_17 ?_
  exact ka_vret hC hR dX2_pay_20 rfl (by first | with_reducible rfl | (simp only [sp_pay, pU]; done) | (simp only [sp_pay, pU]; done) | (simp [sp_pay, pU]; done) | (simp [sp_pay, pU]; done) | contradiction | rfl)
theorem ky_X2_payHire : ka_y yX2_payHire 2 := by unfold ka_y; decide +kernel
set_option maxHeartbeats 4000000 in
set_option maxRecDepth 100000 in
theorem m_X2_payHire {G : ka_G} (hG : ka_AD G) {V : ka_W} {r : Nat} (hr : r < 6) {P : ka_P} {q : Nat} (hq : q < 5) {b : Nat} (hb : b < 5) {x : Int32}  : ka_M G yX2_payHire cX2_payHire 3 none 0 [.ref (ka_ad G r (2 + q)), .ref (ka_ad G r (2 + b)), .int x] (ka_sp V r P) none (ka_sp V r (sp_payHire P q b x)) := by
  refine ka_entry hG ka_pn_X2 (ka_cat1 rfl) (Nat.le_of_ble_eq_true rfl) (fun X hC hR => ?_)
  refine ka_aload_n hC dX2_payHire_0 rfl ?_
  refine ka_dup hC dX2_payHire_1 rfl ?_
  refine kgp_X2_18 (by first | assumption | decide | exact wgIx_lt _ | exact plIx_lt _ | exact sp_recQ_lt | omega) (by first | assumption | decide | exact wgIx_lt _ | exact plIx_lt _ | exact sp_recQ_lt | omega) hC dX2_payHire_2 ?_
  refine ka_iload_n hC dX2_payHire_5 rfl ?_
  refine ka_isub hC dX2_payHire_6 ?_
  refine kpp_X2_18 (by first | assumption | decide | exact wgIx_lt _ | exact plIx_lt _ | exact sp_recQ_lt | omega) (by first | assumption | decide | exact wgIx_lt _ | exact plIx_lt _ | exact sp_recQ_lt | omega) hC dX2_payHire_7 ?_
  refine ka_aload_n hC dX2_payHire_10 rfl ?_
  refine ka_dup hC dX2_payHire_11 rfl ?_
  refine kgp_X2_24 (by first | assumption | decide | exact wgIx_lt _ | exact plIx_lt _ | exact sp_recQ_lt | omega) (by first | assumption | decide | exact wgIx_lt _ | exact plIx_lt _ | exact sp_recQ_lt | omega) hC dX2_payHire_12 ?_
  refine ka_iload_n hC dX2_payHire_15 rfl ?_
  refine ka_isub hC dX2_payHire_16 ?_
  refine kpp_X2_24 (by first | assumption | decide | exact wgIx_lt _ | exact plIx_lt _ | exact sp_recQ_lt | omega) (by first | assumption | decide | exact wgIx_lt _ | exact plIx_lt _ | exact sp_recQ_lt | omega) hC dX2_payHire_17 ?_
  refine ka_aload_n hC dX2_payHire_20 rfl ?_
  refine ka_dup hC dX2_payHire_21 rfl ?_
  refine kgp_X2_18 (by first | assumption | decide | exact wgIx_lt _ | exact plIx_lt _ | exact sp_recQ_lt | omega) (by first | assumption | decide | exact wgIx_lt _ | exact plIx_lt _ | exact sp_recQ_lt | omega) hC dX2_payHire_22 ?_
  refine ka_iload_n hC dX2_payHire_25 rfl ?_
  refine ka_iadd hC dX2_payHire_26 ?_
  refine kpp_X2_18 (by first | assumption | decide | exact wgIx_lt _ | exact plIx_lt _ | exact sp_recQ_lt | omega) (by first | assumption | decide | exact wgIx_lt _ | exact plIx_lt _ | exact sp_recQ_lt | omega) hC dX2_payHire_27 ?_
  refine ka_aload_n hC dX2_payHire_30 rfl ?_
  refine ka_dup hC dX2_payHire_31 rfl ?_
  refine kgp_X2_24 (by first | assumption | decide | exact wgIx_lt _ | exact plIx_lt _ | exact sp_recQ_lt | omega) (by first | assumption | decide | exact wgIx_lt _ | exact plIx_lt _ | exact sp_recQ_lt | omega) hC dX2_payHire_32 ?_
  refine ka_iload_n hC dX2_payHire_35 rfl ?_
  refine ka_iadd hC dX2_payHire_36 ?_
  refine kpp_X2_24 (by first | assumption | decide | exact wgIx_lt _ | exact plIx_lt _ | exact sp_recQ_lt | omega) (by first | assumption | decide | exact wgIx_lt _ | exact plIx_lt _ | exact sp_recQ_lt | omega) hC dX2_payHire_37 ?_
  exact ka_vret hC hR dX2_payHire_40 rfl (by first | with_reducible rfl | (simp only [sp_payHire, sp_add, sp_sub, pU]; done) | (simp only [sp_payHire, sp_add, sp_sub, pU]; done) | (simp [sp_payHire, sp_add, sp_sub, pU]; done) | (simp [sp_payHire, sp_add, sp_sub, pU]; done) | contradiction | rfl)
theorem ky_X2_payDemurrage : ka_y yX2_payDemurrage 2 := by unfold ka_y; decide +kernel
set_option maxHeartbeats 4000000 in
set_option maxRecDepth 100000 in
theorem m_X2_payDemurrage {G : ka_G} (hG : ka_AD G) {V : ka_W} {r : Nat} (hr : r < 6) {P : ka_P} {q : Nat} (hq : q < 5) {b : Nat} (hb : b < 5) {x : Int32}  : ka_M G yX2_payDemurrage cX2_payDemurrage 3 none 0 [.ref (ka_ad G r (2 + q)), .ref (ka_ad G r (2 + b)), .int x] (ka_sp V r P) none (ka_sp V r (sp_payDem P q b x)) := by
  refine ka_entry hG ka_pn_X2 (ka_cat1 rfl) (Nat.le_of_ble_eq_true rfl) (fun X hC hR => ?_)
  refine ka_aload_n hC dX2_payDemurrage_0 rfl ?_
  refine ka_dup hC dX2_payDemurrage_1 rfl ?_
  refine kgp_X2_18 (by first | assumption | decide | exact wgIx_lt _ | exact plIx_lt _ | exact sp_recQ_lt | omega) (by first | assumption | decide | exact wgIx_lt _ | exact plIx_lt _ | exact sp_recQ_lt | omega) hC dX2_payDemurrage_2 ?_
  refine ka_iload_n hC dX2_payDemurrage_5 rfl ?_
  refine ka_isub hC dX2_payDemurrage_6 ?_
  refine kpp_X2_18 (by first | assumption | decide | exact wgIx_lt _ | exact plIx_lt _ | exact sp_recQ_lt | omega) (by first | assumption | decide | exact wgIx_lt _ | exact plIx_lt _ | exact sp_recQ_lt | omega) hC dX2_payDemurrage_7 ?_
  refine ka_aload_n hC dX2_payDemurrage_10 rfl ?_
  refine ka_dup hC dX2_payDemurrage_11 rfl ?_
  refine kgp_X2_21 (by first | assumption | decide | exact wgIx_lt _ | exact plIx_lt _ | exact sp_recQ_lt | omega) (by first | assumption | decide | exact wgIx_lt _ | exact plIx_lt _ | exact sp_recQ_lt | omega) hC dX2_payDemurrage_12 ?_
  refine ka_iload_n hC dX2_payDemurrage_15 rfl ?_
  refine ka_iadd hC dX2_payDemurrage_16 ?_
  refine kpp_X2_21 (by first | assumption | decide | exact wgIx_lt _ | exact plIx_lt _ | exact sp_recQ_lt | omega) (by first | assumption | decide | exact wgIx_lt _ | exact plIx_lt _ | exact sp_recQ_lt | omega) hC dX2_payDemurrage_17 ?_
  refine ka_aload_n hC dX2_payDemurrage_20 rfl ?_
  refine ka_dup hC dX2_payDemurrage_21 rfl ?_
  refine kgp_X2_18 (by first | assumption | decide | exact wgIx_lt _ | exact plIx_lt _ | exact sp_recQ_lt | omega) (by first | assumption | decide | exact wgIx_lt _ | exact plIx_lt _ | exact sp_recQ_lt | omega) hC dX2_payDemurrage_22 ?_
  refine ka_iload_n hC dX2_payDemurrage_25 rfl ?_
  refine ka_iadd hC dX2_payDemurrage_26 ?_
  refine kpp_X2_18 (by first | assumption | decide | exact wgIx_lt _ | exact plIx_lt _ | exact sp_recQ_lt | omega) (by first | assumption | decide | exact wgIx_lt _ | exact plIx_lt _ | exact sp_recQ_lt | omega) hC dX2_payDemurrage_27 ?_
  refine ka_aload_n hC dX2_payDemurrage_30 rfl ?_
  refine ka_dup hC dX2_payDemurrage_31 rfl ?_
  refine kgp_X2_21 (by first | assumption | decide | exact wgIx_lt _ | exact plIx_lt _ | exact sp_recQ_lt | omega) (by first | assumption | decide | exact wgIx_lt _ | exact plIx_lt _ | exact sp_recQ_lt | omega) hC dX2_payDemurrage_32 ?_
  refine ka_iload_n hC dX2_payDemurrage_35 rfl ?_
  refine ka_iadd hC dX2_payDemurrage_36 ?_
  refine kpp_X2_21 (by first | assumption | decide | exact wgIx_lt _ | exact plIx_lt _ | exact sp_recQ_lt | omega) (by first | assumption | decide | exact wgIx_lt _ | exact plIx_lt _ | exact sp_recQ_lt | omega) hC dX2_payDemurrage_37 ?_
  exact ka_vret hC hR dX2_payDemurrage_40 rfl (by first | with_reducible rfl | (simp only [sp_payDem, sp_add, sp_sub, pU]; done) | (simp only [sp_payDem, sp_add, sp_sub, pU]; done) | (simp [sp_payDem, sp_add, sp_sub, pU]; done) | (simp [sp_payDem, sp_add, sp_sub, pU]; done) | contradiction | rfl)
theorem ky_X2_loadsOfHeap : ka_y yX2_loadsOfHeap 0 := by unfold ka_y; decide +kernel
set_option maxHeartbeats 4000000 in
set_option maxRecDepth 100000 in
theorem m_X2_loadsOfHeap {G : ka_G} (hG : ka_AD G) {V : ka_W} {r : Nat} (hr : r < 6) {P : ka_P} {q : Nat} (hq : q < 5)  : ka_M G yX2_loadsOfHeap cX2_loadsOfHeap 1 (some FieldType.int) 0 [.ref (ka_ad G r (2 + q))] (ka_sp V r P) (some (.int (sp_loadsOfHeap P q))) (ka_sp V r P) := by
  refine ka_entry hG ka_pn_X2 (ka_cat1 rfl) (Nat.le_of_ble_eq_true rfl) (fun X hC hR => ?_)
  refine ka_aload_n hC dX2_loadsOfHeap_0 rfl ?_
  refine kgp_X2_15 (by first | assumption | decide | exact wgIx_lt _ | exact plIx_lt _ | exact sp_recQ_lt | omega) (by first | assumption | decide | exact wgIx_lt _ | exact plIx_lt _ | exact sp_recQ_lt | omega) hC dX2_loadsOfHeap_1 ?_
  refine ka_bipush (v := 30) hC dX2_loadsOfHeap_4 rfl ?_
  refine ka_idiv hC dX2_loadsOfHeap_6 (by decide) ?_
  exact ka_iret hC hR dX2_loadsOfHeap_7 (by first | with_reducible rfl | (simp only [sp_loadsOfHeap]; done) | (simp only [sp_loadsOfHeap]; done) | (simp [sp_loadsOfHeap]; done) | (simp [sp_loadsOfHeap]; done) | contradiction | rfl) (by first | with_reducible rfl | (simp only [sp_loadsOfHeap]; done) | (simp only [sp_loadsOfHeap]; done) | (simp [sp_loadsOfHeap]; done) | (simp [sp_loadsOfHeap]; done) | contradiction | rfl)
theorem ky_X4_size : ka_y yX4_size 0 := by unfold ka_y; decide +kernel
set_option maxHeartbeats 4000000 in
set_option maxRecDepth 100000 in
theorem m_X4_size {G : ka_G} (hG : ka_AD G) {V : ka_W} {r : Nat} (hr : r < 6) {P : ka_P}  : ka_M G yX4_size cX4_size 1 (some FieldType.int) 0 [.ref (ka_ad G r 30)] (ka_sp V r P) (some (.int (P 30 1))) (ka_sp V r P) := by
  refine ka_entry hG ka_pn_X4 (ka_cat1 rfl) (Nat.le_of_ble_eq_true rfl) (fun X hC hR => ?_)
  refine ka_aload_n hC dX4_size_0 rfl ?_
  refine kgp_X4_21 (by first | assumption | decide | exact wgIx_lt _ | exact plIx_lt _ | exact sp_recQ_lt | omega) hC dX4_size_1 ?_
  exact ka_iret hC hR dX4_size_4 (by first | with_reducible rfl | (simp only []; done) | (simp only []; done) | (simp []; done) | (simp []; done) | contradiction | rfl) (by first | with_reducible rfl | (simp only []; done) | (simp only []; done) | (simp []; done) | (simp []; done) | contradiction | rfl)
theorem ky_X4_atWork : ka_y yX4_atWork 0 := by unfold ka_y; decide +kernel
set_option maxHeartbeats 4000000 in
set_option maxRecDepth 100000 in
theorem m_X4_atWork {G : ka_G} (hG : ka_AD G) {V : ka_W} {r : Nat} (hr : r < 6) {P : ka_P}  : ka_M G yX4_atWork cX4_atWork 1 (some FieldType.int) 0 [.ref (ka_ad G r 30)] (ka_sp V r P) (some (.int (sp_atWork P))) (ka_sp V r P) := by
  refine ka_entry hG ka_pn_X4 (ka_cat1 rfl) (Nat.le_of_ble_eq_true rfl) (fun X hC hR => ?_)
  refine ka_aload_n hC dX4_atWork_0 rfl ?_
  refine kgp_X4_21 (by first | assumption | decide | exact wgIx_lt _ | exact plIx_lt _ | exact sp_recQ_lt | omega) hC dX4_atWork_1 ?_
  refine ka_iconst (v := 2) hC dX4_atWork_4 rfl ?_
  refine ka_icmp_ge (tgt := 15) hC dX4_atWork_5 (by decide) (fun c5 => ?_) (fun c5 => ?_)
  · skip
    refine ka_iconst (v := 2) hC dX4_atWork_15 rfl ?_
    exact ka_iret hC hR dX4_atWork_16 (by first | with_reducible rfl | (simp only [sp_atWork, c5]; done) | (simp only [sp_atWork, if_neg c5, if_pos c5]; done) | (simp [sp_atWork, c5]; done) | (simp [sp_atWork, if_neg c5, if_pos c5]; done) | contradiction | rfl) (by first | with_reducible rfl | (simp only [sp_atWork, c5]; done) | (simp only [sp_atWork, if_neg c5, if_pos c5]; done) | (simp [sp_atWork, c5]; done) | (simp [sp_atWork, if_neg c5, if_pos c5]; done) | contradiction | rfl)
  · skip
    refine ka_aload_n hC dX4_atWork_8 rfl ?_
    refine kgp_X4_21 (by first | assumption | decide | exact wgIx_lt _ | exact plIx_lt _ | exact sp_recQ_lt | omega) hC dX4_atWork_9 ?_
    refine ka_goto (tgt := 16) hC dX4_atWork_12 (by decide) ?_
    exact ka_iret hC hR dX4_atWork_16 (by first | with_reducible rfl | (simp only [sp_atWork, c5]; done) | (simp only [sp_atWork, if_pos c5, if_neg (not_not_intro c5)]; done) | (simp [sp_atWork, c5]; done) | (simp [sp_atWork, if_pos c5, if_neg (not_not_intro c5)]; done) | contradiction | rfl) (by first | with_reducible rfl | (simp only [sp_atWork, c5]; done) | (simp only [sp_atWork, if_pos c5, if_neg (not_not_intro c5)]; done) | (simp [sp_atWork, c5]; done) | (simp [sp_atWork, if_pos c5, if_neg (not_not_intro c5)]; done) | contradiction | rfl)
theorem ky_X4_numberAt : ka_y yX4_numberAt 1 := by unfold ka_y; decide +kernel
set_option maxHeartbeats 4000000 in
set_option maxRecDepth 100000 in
theorem m_X4_numberAt {G : ka_G} (hG : ka_AD G) {V : ka_W} {r : Nat} (hr : r < 6) {P : ka_P} {x : Int32}  : ka_M G yX4_numberAt cX4_numberAt 2 (some FieldType.int) 0 [.ref (ka_ad G r 30), .int x] (ka_sp V r P) (some (.int (sp_numberAt P x))) (ka_sp V r P) := by
  refine ka_entry hG ka_pn_X4 (ka_cat1 rfl) (Nat.le_of_ble_eq_true rfl) (fun X hC hR => ?_)
  refine ka_iload_n hC dX4_numberAt_0 rfl ?_
  refine ka_if_lt (tgt := 22) hC dX4_numberAt_1 (by decide) (fun c1 => ?_) (fun c1 => ?_)
  · skip
    refine ka_iconst (v := 0) hC dX4_numberAt_22 rfl ?_
    exact ka_iret hC hR dX4_numberAt_23 (by first | with_reducible rfl | (simp only [sp_numberAt, cn, c1]; done) | (simp only [sp_numberAt, cn, if_pos c1, if_neg (not_not_intro c1)]; done) | (simp [sp_numberAt, cn, c1]; done) | (simp [sp_numberAt, cn, if_pos c1, if_neg (not_not_intro c1)]; done) | contradiction | rfl) (by first | with_reducible rfl | (simp only [sp_numberAt, cn, c1]; done) | (simp only [sp_numberAt, cn, if_pos c1, if_neg (not_not_intro c1)]; done) | (simp [sp_numberAt, cn, c1]; done) | (simp [sp_numberAt, cn, if_pos c1, if_neg (not_not_intro c1)]; done) | contradiction | rfl)
  · skip
    refine ka_iload_n hC dX4_numberAt_4 rfl ?_
    refine ka_aload_n hC dX4_numberAt_5 rfl ?_
    refine kg_X4_9 (by first | assumption | decide | exact wgIx_lt _ | exact plIx_lt _ | exact sp_recQ_lt | omega) hC dX4_numberAt_6 ?_
    refine kl_queue (by first | assumption | decide | exact wgIx_lt _ | exact plIx_lt _ | exact sp_recQ_lt | omega) hC dX4_numberAt_9 ?_
    refine ka_icmp_ge (tgt := 22) hC dX4_numberAt_10 (by decide) (fun c10 => ?_) (fun c10 => ?_)
    · skip
      refine ka_iconst (v := 0) hC dX4_numberAt_22 rfl ?_
      exact ka_iret hC hR dX4_numberAt_23 (by first | with_reducible rfl | (simp only [sp_numberAt, cn, c1, c10]; done) | (simp only [sp_numberAt, cn, if_neg c1, if_pos c1, if_neg c10, if_pos c10]; done) | (simp [sp_numberAt, cn, c1, c10]; done) | (simp [sp_numberAt, cn, if_neg c1, if_pos c1, if_neg c10, if_pos c10]; done) | contradiction | rfl) (by first | with_reducible rfl | (simp only [sp_numberAt, cn, c1, c10]; done) | (simp only [sp_numberAt, cn, if_neg c1, if_pos c1, if_neg c10, if_pos c10]; done) | (simp [sp_numberAt, cn, c1, c10]; done) | (simp [sp_numberAt, cn, if_neg c1, if_pos c1, if_neg c10, if_pos c10]; done) | contradiction | rfl)
    · skip
      refine ka_aload_n hC dX4_numberAt_13 rfl ?_
      refine kg_X4_9 (by first | assumption | decide | exact wgIx_lt _ | exact plIx_lt _ | exact sp_recQ_lt | omega) hC dX4_numberAt_14 ?_
      refine ka_iload_n hC dX4_numberAt_17 rfl ?_
      refine kip_queue (by first | assumption | decide | exact wgIx_lt _ | exact plIx_lt _ | exact sp_recQ_lt | omega) hC (ka_vpin 20 rfl (by decide) c1 c10) dX4_numberAt_18 ?_
      refine ka_goto (tgt := 23) hC dX4_numberAt_19 (by decide) ?_
      exact ka_iret hC hR dX4_numberAt_23 (by first | with_reducible rfl | (simp only [sp_numberAt, cn, c1, c10]; done) | (simp only [sp_numberAt, cn, if_neg c1, if_pos c1, if_pos c10, if_neg (not_not_intro c10)]; done) | (simp [sp_numberAt, cn, c1, c10]; done) | (simp [sp_numberAt, cn, if_neg c1, if_pos c1, if_pos c10, if_neg (not_not_intro c10)]; done) | contradiction | rfl) (by first | with_reducible rfl | (simp only [sp_numberAt, cn, c1, c10]; done) | (simp only [sp_numberAt, cn, if_neg c1, if_pos c1, if_pos c10, if_neg (not_not_intro c10)]; done) | (simp [sp_numberAt, cn, c1, c10]; done) | (simp [sp_numberAt, cn, if_neg c1, if_pos c1, if_pos c10, if_neg (not_not_intro c10)]; done) | contradiction | rfl)
theorem ky_X4_enter : ka_y yX4_enter 1 := by unfold ka_y; decide +kernel
set_option maxHeartbeats 4000000 in
set_option maxRecDepth 100000 in
theorem m_X4_enter {G : ka_G} (hG : ka_AD G) {V : ka_W} {r : Nat} (hr : r < 6) {P : ka_P} {x : Int32}  : ka_M G yX4_enter cX4_enter 2 none 0 [.ref (ka_ad G r 30), .int x] (ka_sp V r P) none (ka_sp V r (sp_enter P x)) := by
  refine ka_entry hG ka_pn_X4 (ka_cat1 rfl) (Nat.le_of_ble_eq_true rfl) (fun X hC hR => ?_)
  refine ka_aload_n hC dX4_enter_0 rfl ?_
  refine kgp_X4_21 (by first | assumption | decide | exact wgIx_lt _ | exact plIx_lt _ | exact sp_recQ_lt | omega) hC dX4_enter_1 ?_
  refine ka_if_lt (tgt := 39) hC dX4_enter_4 (by decide) (fun c4 => ?_) (fun c4 => ?_)
  · skip
    exact ka_vret hC hR dX4_enter_39 rfl (by first | with_reducible rfl | (simp only [sp_enter, cn, sp_add, pU, c4]; done) | (simp only [sp_enter, cn, sp_add, pU, if_pos c4, if_neg (not_not_intro c4)]; done) | (simp [sp_enter, cn, sp_add, pU, c4]; done) | (simp [sp_enter, cn, sp_add, pU, if_pos c4, if_neg (not_not_intro c4)]; done) | contradiction | rfl)
  · skip
    refine ka_aload_n hC dX4_enter_7 rfl ?_
    refine kgp_X4_21 (by first | assumption | decide | exact wgIx_lt _ | exact plIx_lt _ | exact sp_recQ_lt | omega) hC dX4_enter_8 ?_
    refine ka_aload_n hC dX4_enter_11 rfl ?_
    refine kg_X4_9 (by first | assumption | decide | exact wgIx_lt _ | exact plIx_lt _ | exact sp_recQ_lt | omega) hC dX4_enter_12 ?_
    refine kl_queue (by first | assumption | decide | exact wgIx_lt _ | exact plIx_lt _ | exact sp_recQ_lt | omega) hC dX4_enter_15 ?_
    refine ka_icmp_ge (tgt := 39) hC dX4_enter_16 (by decide) (fun c16 => ?_) (fun c16 => ?_)
    · skip
      exact ka_vret hC hR dX4_enter_39 rfl (by first | with_reducible rfl | (simp only [sp_enter, cn, sp_add, pU, c4, c16]; done) | (simp only [sp_enter, cn, sp_add, pU, if_neg c4, if_pos c4, if_neg c16, if_pos c16]; done) | (simp [sp_enter, cn, sp_add, pU, c4, c16]; done) | (simp [sp_enter, cn, sp_add, pU, if_neg c4, if_pos c4, if_neg c16, if_pos c16]; done) | contradiction | rfl)
    · skip
      refine ka_aload_n hC dX4_enter_19 rfl ?_
      refine kg_X4_9 (by first | assumption | decide | exact wgIx_lt _ | exact plIx_lt _ | exact sp_recQ_lt | omega) hC dX4_enter_20 ?_
      refine ka_aload_n hC dX4_enter_23 rfl ?_
      refine kgp_X4_21 (by first | assumption | decide | exact wgIx_lt _ | exact plIx_lt _ | exact sp_recQ_lt | omega) hC dX4_enter_24 ?_
      refine ka_iload_n hC dX4_enter_27 rfl ?_
      refine ksp_queue (by first | assumption | decide | exact wgIx_lt _ | exact plIx_lt _ | exact sp_recQ_lt | omega) hC (ka_vpin 20 rfl (by decide) c4 c16) dX4_enter_28 ?_
      refine ka_aload_n hC dX4_enter_29 rfl ?_
      refine ka_dup hC dX4_enter_30 rfl ?_
      refine kgp_X4_21 (by first | assumption | decide | exact wgIx_lt _ | exact plIx_lt _ | exact sp_recQ_lt | omega) hC dX4_enter_31 ?_
      refine ka_iconst (v := 1) hC dX4_enter_34 rfl ?_
      refine ka_iadd hC dX4_enter_35 ?_
      refine kpp_X4_21 (by first | assumption | decide | exact wgIx_lt _ | exact plIx_lt _ | exact sp_recQ_lt | omega) hC dX4_enter_36 ?_
      exact ka_vret hC hR dX4_enter_39 rfl (by first | with_reducible rfl | (simp only [sp_enter, cn, sp_add, pU, c4, c16]; done) | (simp only [sp_enter, cn, sp_add, pU, if_neg c4, if_pos c4, if_pos c16, if_neg (not_not_intro c16)]; done) | (simp [sp_enter, cn, sp_add, pU, c4, c16]; done) | (simp [sp_enter, cn, sp_add, pU, if_neg c4, if_pos c4, if_pos c16, if_neg (not_not_intro c16)]; done) | contradiction | rfl)
theorem ky_X3_isPlace : ka_y yX3_isPlace 1 := by unfold ka_y; decide +kernel
set_option maxHeartbeats 4000000 in
set_option maxRecDepth 100000 in
theorem m_X3_isPlace {G : ka_G} (hG : ka_AD G) {V : ka_W} {r : Nat} (hr : r < 6) {P : ka_P} {x : Int32}  : ka_M G yX3_isPlace cX3_isPlace 2 (some FieldType.boolean) 1 [.ref (ka_ad G r 0), .int x] (ka_sp V r P) (some (.int (ka_b (sp_isPlace P x)))) (ka_sp V r P) := by
  refine ka_entry hG ka_pn_X3 (ka_cat1 rfl) (Nat.le_of_ble_eq_true rfl) (fun X hC hR => ?_)
  refine ka_iload_n hC dX3_isPlace_0 rfl ?_
  refine ka_iconst (v := 0) hC dX3_isPlace_1 rfl ?_
  refine ka_aload_n hC dX3_isPlace_2 rfl ?_
  refine kgp_X3_58 (by first | assumption | decide | exact wgIx_lt _ | exact plIx_lt _ | exact sp_recQ_lt | omega) hC dX3_isPlace_3 ?_
  refine ka_callSN hC (m_X6_within hG) (List.mem_of_getElem? (i := 2) rfl) ka_q_st_X6_within ka_q_in_X6 ka_q_co_X6_within ky_X6_within (by decide) (by decide) (Nat.le_of_ble_eq_true rfl) rfl dX3_isPlace_6 ?_
  exact ka_bret hC hR dX3_isPlace_9 (by first | with_reducible rfl | (simp only []; done) | (simp only []; done) | (simp []; done) | (simp []; done) | contradiction | rfl) rfl (by first | with_reducible rfl | (simp only []; done) | (simp only []; done) | (simp []; done) | (simp []; done) | contradiction | rfl)
theorem ky_X3_isMine : ka_y yX3_isMine 1 := by unfold ka_y; decide +kernel
set_option maxHeartbeats 4000000 in
set_option maxRecDepth 100000 in
theorem m_X3_isMine {G : ka_G} (hG : ka_AD G) {V : ka_W} {r : Nat} (hr : r < 6) {P : ka_P} {x : Int32}  : ka_M G yX3_isMine cX3_isMine 2 (some FieldType.boolean) 1 [.ref (ka_ad G r 0), .int x] (ka_sp V r P) (some (.int (ka_b (sp_isMine P x)))) (ka_sp V r P) := by
  refine ka_entry hG ka_pn_X3 (ka_cat1 rfl) (Nat.le_of_ble_eq_true rfl) (fun X hC hR => ?_)
  refine ka_iload_n hC dX3_isMine_0 rfl ?_
  refine ka_iconst (v := 1) hC dX3_isMine_1 rfl ?_
  refine ka_aload_n hC dX3_isMine_2 rfl ?_
  refine kgp_X3_58 (by first | assumption | decide | exact wgIx_lt _ | exact plIx_lt _ | exact sp_recQ_lt | omega) hC dX3_isMine_3 ?_
  refine ka_callSN hC (m_X6_within hG) (List.mem_of_getElem? (i := 2) rfl) ka_q_st_X6_within ka_q_in_X6 ka_q_co_X6_within ky_X6_within (by decide) (by decide) (Nat.le_of_ble_eq_true rfl) rfl dX3_isMine_6 ?_
  exact ka_bret hC hR dX3_isMine_9 (by first | with_reducible rfl | (simp only []; done) | (simp only []; done) | (simp []; done) | (simp []; done) | contradiction | rfl) rfl (by first | with_reducible rfl | (simp only []; done) | (simp only []; done) | (simp []; done) | (simp []; done) | contradiction | rfl)
theorem ky_X3_isLeg : ka_y yX3_isLeg 2 := by unfold ka_y; decide +kernel
set_option maxHeartbeats 4000000 in
set_option maxRecDepth 100000 in
theorem m_X3_isLeg {G : ka_G} (hG : ka_AD G) {V : ka_W} {r : Nat} (hr : r < 6) {P : ka_P} {a b : Int32}  : ka_M G yX3_isLeg cX3_isLeg 3 (some FieldType.boolean) 2 [.ref (ka_ad G r 0), .int a, .int b] (ka_sp V r P) (some (.int (ka_b (sp_isLeg P a b)))) (ka_sp V r P) := by
  refine ka_entry hG ka_pn_X3 (ka_cat1 rfl) (Nat.le_of_ble_eq_true rfl) (fun X hC hR => ?_)
  refine ka_aload_n hC dX3_isLeg_0 rfl ?_
  refine ka_iload_n hC dX3_isLeg_1 rfl ?_
  refine ka_callV hC (m_X3_isPlace hG (by first | assumption | decide | exact wgIx_lt _ | exact plIx_lt _ | exact sp_recQ_lt | omega)) (ka_Rc_pool (by first | assumption | decide | exact wgIx_lt _ | exact plIx_lt _ | exact sp_recQ_lt | omega)) rfl ka_q_ml_X3_81 ka_q_im_X3_isPlace ka_q_se_X3_isPlace ka_q_in_X3 ka_q_co_X3_isPlace ky_X3_isPlace (by decide) (by decide) (Nat.le_of_ble_eq_true rfl) rfl dX3_isLeg_2 ?_
  refine ka_if_eq_b (tgt := 25) hC dX3_isLeg_5 (by decide) (fun c5 => ?_) (fun c5 => ?_)
  · skip
    refine ka_iconst (v := 0) hC dX3_isLeg_25 rfl ?_
    exact ka_bret hC hR dX3_isLeg_26 (by first | with_reducible rfl | (simp only [sp_isLeg, ka_b, c5]; done) | (simp only [sp_isLeg, ka_b, c5]; done) | (simp [sp_isLeg, ka_b, c5]; done) | (simp [sp_isLeg, ka_b, c5]; done) | contradiction | rfl) rfl (by first | with_reducible rfl | (simp only [sp_isLeg, ka_b, c5]; done) | (simp only [sp_isLeg, ka_b, c5]; done) | (simp [sp_isLeg, ka_b, c5]; done) | (simp [sp_isLeg, ka_b, c5]; done) | contradiction | rfl)
  · skip
    refine ka_aload_n hC dX3_isLeg_8 rfl ?_
    refine ka_iload_n hC dX3_isLeg_9 rfl ?_
    refine ka_callV hC (m_X3_isPlace hG (by first | assumption | decide | exact wgIx_lt _ | exact plIx_lt _ | exact sp_recQ_lt | omega)) (ka_Rc_pool (by first | assumption | decide | exact wgIx_lt _ | exact plIx_lt _ | exact sp_recQ_lt | omega)) rfl ka_q_ml_X3_81 ka_q_im_X3_isPlace ka_q_se_X3_isPlace ka_q_in_X3 ka_q_co_X3_isPlace ky_X3_isPlace (by decide) (by decide) (Nat.le_of_ble_eq_true rfl) rfl dX3_isLeg_10 ?_
    refine ka_if_eq_b (tgt := 25) hC dX3_isLeg_13 (by decide) (fun c13 => ?_) (fun c13 => ?_)
    · skip
      refine ka_iconst (v := 0) hC dX3_isLeg_25 rfl ?_
      exact ka_bret hC hR dX3_isLeg_26 (by first | with_reducible rfl | (simp only [sp_isLeg, ka_b, c5, c13]; done) | (simp only [sp_isLeg, ka_b, c5, c13]; done) | (simp [sp_isLeg, ka_b, c5, c13]; done) | (simp [sp_isLeg, ka_b, c5, c13]; done) | contradiction | rfl) rfl (by first | with_reducible rfl | (simp only [sp_isLeg, ka_b, c5, c13]; done) | (simp only [sp_isLeg, ka_b, c5, c13]; done) | (simp [sp_isLeg, ka_b, c5, c13]; done) | (simp [sp_isLeg, ka_b, c5, c13]; done) | contradiction | rfl)
    · skip
      refine ka_iload_n hC dX3_isLeg_16 rfl ?_
      refine ka_iload_n hC dX3_isLeg_17 rfl ?_
      refine ka_icmp_eq (tgt := 25) hC dX3_isLeg_18 (by decide) (fun c18 => ?_) (fun c18 => ?_)
      · skip
        refine ka_iconst (v := 0) hC dX3_isLeg_25 rfl ?_
        exact ka_bret hC hR dX3_isLeg_26 (by first | with_reducible rfl | (simp only [sp_isLeg, ka_b, c5, c13, c18]; done) | (simp only [sp_isLeg, ka_b, c5, c13, if_pos c18, if_neg (not_not_intro c18)]; done) | (simp [sp_isLeg, ka_b, c5, c13, c18]; done) | (simp [sp_isLeg, ka_b, c5, c13, if_pos c18, if_neg (not_not_intro c18)]; done) | contradiction | rfl) rfl (by first | with_reducible rfl | (simp only [sp_isLeg, ka_b, c5, c13, c18]; done) | (simp only [sp_isLeg, ka_b, c5, c13, if_pos c18, if_neg (not_not_intro c18)]; done) | (simp [sp_isLeg, ka_b, c5, c13, c18]; done) | (simp [sp_isLeg, ka_b, c5, c13, if_pos c18, if_neg (not_not_intro c18)]; done) | contradiction | rfl)
      · skip
        refine ka_iconst (v := 1) hC dX3_isLeg_21 rfl ?_
        refine ka_goto (tgt := 26) hC dX3_isLeg_22 (by decide) ?_
        exact ka_bret hC hR dX3_isLeg_26 (by first | with_reducible rfl | (simp only [sp_isLeg, ka_b, c5, c13, c18]; done) | (simp only [sp_isLeg, ka_b, c5, c13, if_neg c18, if_pos c18]; done) | (simp [sp_isLeg, ka_b, c5, c13, c18]; done) | (simp [sp_isLeg, ka_b, c5, c13, if_neg c18, if_pos c18]; done) | contradiction | rfl) rfl (by first | with_reducible rfl | (simp only [sp_isLeg, ka_b, c5, c13, c18]; done) | (simp only [sp_isLeg, ka_b, c5, c13, if_neg c18, if_pos c18]; done) | (simp [sp_isLeg, ka_b, c5, c13, c18]; done) | (simp [sp_isLeg, ka_b, c5, c13, if_neg c18, if_pos c18]; done) | contradiction | rfl)
theorem ky_X3_isWagon : ka_y yX3_isWagon 1 := by unfold ka_y; decide +kernel
set_option maxHeartbeats 4000000 in
set_option maxRecDepth 100000 in
theorem m_X3_isWagon {G : ka_G} (hG : ka_AD G) {V : ka_W} {r : Nat} (hr : r < 6) {P : ka_P} {x : Int32}  : ka_M G yX3_isWagon cX3_isWagon 2 (some FieldType.boolean) 1 [.ref (ka_ad G r 0), .int x] (ka_sp V r P) (some (.int (ka_b (sp_isWagon P x)))) (ka_sp V r P) := by
  refine ka_entry hG ka_pn_X3 (ka_cat1 rfl) (Nat.le_of_ble_eq_true rfl) (fun X hC hR => ?_)
  refine ka_iload_n hC dX3_isWagon_0 rfl ?_
  refine ka_iconst (v := 0) hC dX3_isWagon_1 rfl ?_
  refine ka_aload_n hC dX3_isWagon_2 rfl ?_
  refine kgp_X3_62 (by first | assumption | decide | exact wgIx_lt _ | exact plIx_lt _ | exact sp_recQ_lt | omega) hC dX3_isWagon_3 ?_
  refine ka_iconst (v := 1) hC dX3_isWagon_6 rfl ?_
  refine ka_isub hC dX3_isWagon_7 ?_
  refine ka_callSN hC (m_X6_within hG) (List.mem_of_getElem? (i := 2) rfl) ka_q_st_X6_within ka_q_in_X6 ka_q_co_X6_within ky_X6_within (by decide) (by decide) (Nat.le_of_ble_eq_true rfl) rfl dX3_isWagon_8 ?_
  exact ka_bret hC hR dX3_isWagon_11 (by first | with_reducible rfl | (simp only []; done) | (simp only []; done) | (simp []; done) | (simp []; done) | contradiction | rfl) rfl (by first | with_reducible rfl | (simp only []; done) | (simp only []; done) | (simp []; done) | (simp []; done) | contradiction | rfl)
theorem ky_X3_placeAt : ka_y yX3_placeAt 1 := by unfold ka_y; decide +kernel
set_option maxHeartbeats 4000000 in
set_option maxRecDepth 100000 in
theorem m_X3_placeAt {G : ka_G} (hG : ka_AD G) {V : ka_W} {r : Nat} (hr : r < 6) {P : ka_P} {x : Int32}  : ka_M G yX3_placeAt cX3_placeAt 2 (some (FieldType.object RX2)) 0 [.ref (ka_ad G r 0), .int x] (ka_sp V r P) (some (.ref (ka_ad G r (2 + plIx x)))) (ka_sp V r P) := by
  refine ka_entry hG ka_pn_X3 (ka_cat1 rfl) (Nat.le_of_ble_eq_true rfl) (fun X hC hR => ?_)
  refine ka_iload_n hC dX3_placeAt_0 rfl ?_
  refine ka_if_lt (tgt := 22) hC dX3_placeAt_1 (by decide) (fun c1 => ?_) (fun c1 => ?_)
  · skip
    refine ka_aload_n hC dX3_placeAt_22 rfl ?_
    refine kg_X3_11 (by first | assumption | decide | exact wgIx_lt _ | exact plIx_lt _ | exact sp_recQ_lt | omega) hC dX3_placeAt_23 ?_
    refine ka_iconst (v := 0) hC dX3_placeAt_26 rfl ?_
    refine kqn_places (by first | assumption | decide | exact wgIx_lt _ | exact plIx_lt _ | exact sp_recQ_lt | omega) 0 (by decide) rfl hC dX3_placeAt_27 ?_
    exact ka_aret hC hR dX3_placeAt_28 (by first | with_reducible rfl | (simp only [plIx, cn, c1]; done) | (simp only [plIx, cn, if_pos c1, if_neg (not_not_intro c1)]; done) | (simp [plIx, cn, c1]; done) | (simp [plIx, cn, if_pos c1, if_neg (not_not_intro c1)]; done) | contradiction | rfl) (by first | with_reducible rfl | (simp only [plIx, cn, c1]; done) | (simp only [plIx, cn, if_pos c1, if_neg (not_not_intro c1)]; done) | (simp [plIx, cn, c1]; done) | (simp [plIx, cn, if_pos c1, if_neg (not_not_intro c1)]; done) | contradiction | rfl)
  · skip
    refine ka_iload_n hC dX3_placeAt_4 rfl ?_
    refine ka_aload_n hC dX3_placeAt_5 rfl ?_
    refine kg_X3_11 (by first | assumption | decide | exact wgIx_lt _ | exact plIx_lt _ | exact sp_recQ_lt | omega) hC dX3_placeAt_6 ?_
    refine kl_places (by first | assumption | decide | exact wgIx_lt _ | exact plIx_lt _ | exact sp_recQ_lt | omega) hC dX3_placeAt_9 ?_
    refine ka_icmp_ge (tgt := 22) hC dX3_placeAt_10 (by decide) (fun c10 => ?_) (fun c10 => ?_)
    · skip
      refine ka_aload_n hC dX3_placeAt_22 rfl ?_
      refine kg_X3_11 (by first | assumption | decide | exact wgIx_lt _ | exact plIx_lt _ | exact sp_recQ_lt | omega) hC dX3_placeAt_23 ?_
      refine ka_iconst (v := 0) hC dX3_placeAt_26 rfl ?_
      refine kqn_places (by first | assumption | decide | exact wgIx_lt _ | exact plIx_lt _ | exact sp_recQ_lt | omega) 0 (by decide) rfl hC dX3_placeAt_27 ?_
      exact ka_aret hC hR dX3_placeAt_28 (by first | with_reducible rfl | (simp only [plIx, cn, c1, c10]; done) | (simp only [plIx, cn, if_neg c1, if_pos c1, if_neg c10, if_pos c10]; done) | (simp [plIx, cn, c1, c10]; done) | (simp [plIx, cn, if_neg c1, if_pos c1, if_neg c10, if_pos c10]; done) | contradiction | rfl) (by first | with_reducible rfl | (simp only [plIx, cn, c1, c10]; done) | (simp only [plIx, cn, if_neg c1, if_pos c1, if_neg c10, if_pos c10]; done) | (simp [plIx, cn, c1, c10]; done) | (simp [plIx, cn, if_neg c1, if_pos c1, if_neg c10, if_pos c10]; done) | contradiction | rfl)
    · skip
      refine ka_aload_n hC dX3_placeAt_13 rfl ?_
      refine kg_X3_11 (by first | assumption | decide | exact wgIx_lt _ | exact plIx_lt _ | exact sp_recQ_lt | omega) hC dX3_placeAt_14 ?_
      refine ka_iload_n hC dX3_placeAt_17 rfl ?_
      refine kq_places (by first | assumption | decide | exact wgIx_lt _ | exact plIx_lt _ | exact sp_recQ_lt | omega) hC (ka_vpin 5 rfl (by decide) c1 c10) dX3_placeAt_18 ?_
      refine ka_goto (tgt := 28) hC dX3_placeAt_19 (by decide) ?_
      exact ka_aret hC hR dX3_placeAt_28 (by first | with_reducible rfl | (simp only [plIx, cn, c1, c10]; done) | (simp only [plIx, cn, if_neg c1, if_pos c1, if_pos c10, if_neg (not_not_intro c10)]; done) | (simp [plIx, cn, c1, c10]; done) | (simp [plIx, cn, if_neg c1, if_pos c1, if_pos c10, if_neg (not_not_intro c10)]; done) | contradiction | rfl) (by first | with_reducible rfl | (simp only [plIx, cn, c1, c10]; done) | (simp only [plIx, cn, if_neg c1, if_pos c1, if_pos c10, if_neg (not_not_intro c10)]; done) | (simp [plIx, cn, c1, c10]; done) | (simp [plIx, cn, if_neg c1, if_pos c1, if_pos c10, if_neg (not_not_intro c10)]; done) | contradiction | rfl)
theorem ky_X3_wagonAt : ka_y yX3_wagonAt 1 := by unfold ka_y; decide +kernel
set_option maxHeartbeats 4000000 in
set_option maxRecDepth 100000 in
theorem m_X3_wagonAt {G : ka_G} (hG : ka_AD G) {V : ka_W} {r : Nat} (hr : r < 6) {P : ka_P} {x : Int32}  : ka_M G yX3_wagonAt cX3_wagonAt 2 (some (FieldType.object RX5)) 0 [.ref (ka_ad G r 0), .int x] (ka_sp V r P) (some (.ref (ka_ad G r (8 + wgIx x)))) (ka_sp V r P) := by
  refine ka_entry hG ka_pn_X3 (ka_cat1 rfl) (Nat.le_of_ble_eq_true rfl) (fun X hC hR => ?_)
  refine ka_iload_n hC dX3_wagonAt_0 rfl ?_
  refine ka_if_lt (tgt := 22) hC dX3_wagonAt_1 (by decide) (fun c1 => ?_) (fun c1 => ?_)
  · skip
    refine ka_aload_n hC dX3_wagonAt_22 rfl ?_
    refine kg_X3_20 (by first | assumption | decide | exact wgIx_lt _ | exact plIx_lt _ | exact sp_recQ_lt | omega) hC dX3_wagonAt_23 ?_
    refine ka_iconst (v := 0) hC dX3_wagonAt_26 rfl ?_
    refine kqn_wagons (by first | assumption | decide | exact wgIx_lt _ | exact plIx_lt _ | exact sp_recQ_lt | omega) 0 (by decide) rfl hC dX3_wagonAt_27 ?_
    exact ka_aret hC hR dX3_wagonAt_28 (by first | with_reducible rfl | (simp only [wgIx, cn, c1]; done) | (simp only [wgIx, cn, if_pos c1, if_neg (not_not_intro c1)]; done) | (simp [wgIx, cn, c1]; done) | (simp [wgIx, cn, if_pos c1, if_neg (not_not_intro c1)]; done) | contradiction | rfl) (by first | with_reducible rfl | (simp only [wgIx, cn, c1]; done) | (simp only [wgIx, cn, if_pos c1, if_neg (not_not_intro c1)]; done) | (simp [wgIx, cn, c1]; done) | (simp [wgIx, cn, if_pos c1, if_neg (not_not_intro c1)]; done) | contradiction | rfl)
  · skip
    refine ka_iload_n hC dX3_wagonAt_4 rfl ?_
    refine ka_aload_n hC dX3_wagonAt_5 rfl ?_
    refine kg_X3_20 (by first | assumption | decide | exact wgIx_lt _ | exact plIx_lt _ | exact sp_recQ_lt | omega) hC dX3_wagonAt_6 ?_
    refine kl_wagons (by first | assumption | decide | exact wgIx_lt _ | exact plIx_lt _ | exact sp_recQ_lt | omega) hC dX3_wagonAt_9 ?_
    refine ka_icmp_ge (tgt := 22) hC dX3_wagonAt_10 (by decide) (fun c10 => ?_) (fun c10 => ?_)
    · skip
      refine ka_aload_n hC dX3_wagonAt_22 rfl ?_
      refine kg_X3_20 (by first | assumption | decide | exact wgIx_lt _ | exact plIx_lt _ | exact sp_recQ_lt | omega) hC dX3_wagonAt_23 ?_
      refine ka_iconst (v := 0) hC dX3_wagonAt_26 rfl ?_
      refine kqn_wagons (by first | assumption | decide | exact wgIx_lt _ | exact plIx_lt _ | exact sp_recQ_lt | omega) 0 (by decide) rfl hC dX3_wagonAt_27 ?_
      exact ka_aret hC hR dX3_wagonAt_28 (by first | with_reducible rfl | (simp only [wgIx, cn, c1, c10]; done) | (simp only [wgIx, cn, if_neg c1, if_pos c1, if_neg c10, if_pos c10]; done) | (simp [wgIx, cn, c1, c10]; done) | (simp [wgIx, cn, if_neg c1, if_pos c1, if_neg c10, if_pos c10]; done) | contradiction | rfl) (by first | with_reducible rfl | (simp only [wgIx, cn, c1, c10]; done) | (simp only [wgIx, cn, if_neg c1, if_pos c1, if_neg c10, if_pos c10]; done) | (simp [wgIx, cn, c1, c10]; done) | (simp [wgIx, cn, if_neg c1, if_pos c1, if_neg c10, if_pos c10]; done) | contradiction | rfl)
    · skip
      refine ka_aload_n hC dX3_wagonAt_13 rfl ?_
      refine kg_X3_20 (by first | assumption | decide | exact wgIx_lt _ | exact plIx_lt _ | exact sp_recQ_lt | omega) hC dX3_wagonAt_14 ?_
      refine ka_iload_n hC dX3_wagonAt_17 rfl ?_
      refine kq_wagons (by first | assumption | decide | exact wgIx_lt _ | exact plIx_lt _ | exact sp_recQ_lt | omega) hC (ka_vpin 20 rfl (by decide) c1 c10) dX3_wagonAt_18 ?_
      refine ka_goto (tgt := 28) hC dX3_wagonAt_19 (by decide) ?_
      exact ka_aret hC hR dX3_wagonAt_28 (by first | with_reducible rfl | (simp only [wgIx, cn, c1, c10]; done) | (simp only [wgIx, cn, if_neg c1, if_pos c1, if_pos c10, if_neg (not_not_intro c10)]; done) | (simp [wgIx, cn, c1, c10]; done) | (simp [wgIx, cn, if_neg c1, if_pos c1, if_pos c10, if_neg (not_not_intro c10)]; done) | contradiction | rfl) (by first | with_reducible rfl | (simp only [wgIx, cn, c1, c10]; done) | (simp only [wgIx, cn, if_neg c1, if_pos c1, if_pos c10, if_neg (not_not_intro c10)]; done) | (simp [wgIx, cn, c1, c10]; done) | (simp [wgIx, cn, if_neg c1, if_pos c1, if_pos c10, if_neg (not_not_intro c10)]; done) | contradiction | rfl)
theorem ky_X3_setting : ka_y yX3_setting 1 := by unfold ka_y; decide +kernel
set_option maxHeartbeats 4000000 in
set_option maxRecDepth 100000 in
theorem m_X3_setting {G : ka_G} (hG : ka_AD G) {V : ka_W} {r : Nat} (hr : r < 6) {P : ka_P} {x : Int32}  : ka_M G yX3_setting cX3_setting 2 (some FieldType.int) 0 [.ref (ka_ad G r 0), .int x] (ka_sp V r P) (some (.int (sp_setting P x))) (ka_sp V r P) := by
  refine ka_entry hG ka_pn_X3 (ka_cat1 rfl) (Nat.le_of_ble_eq_true rfl) (fun X hC hR => ?_)
  refine ka_iload_n hC dX3_setting_0 rfl ?_
  refine ka_if_lt (tgt := 22) hC dX3_setting_1 (by decide) (fun c1 => ?_) (fun c1 => ?_)
  · skip
    refine ka_iconst (v := 0) hC dX3_setting_22 rfl ?_
    exact ka_iret hC hR dX3_setting_23 (by first | with_reducible rfl | (simp only [sp_setting, cn, c1]; done) | (simp only [sp_setting, cn, if_pos c1, if_neg (not_not_intro c1)]; done) | (simp [sp_setting, cn, c1]; done) | (simp [sp_setting, cn, if_pos c1, if_neg (not_not_intro c1)]; done) | contradiction | rfl) (by first | with_reducible rfl | (simp only [sp_setting, cn, c1]; done) | (simp only [sp_setting, cn, if_pos c1, if_neg (not_not_intro c1)]; done) | (simp [sp_setting, cn, c1]; done) | (simp [sp_setting, cn, if_pos c1, if_neg (not_not_intro c1)]; done) | contradiction | rfl)
  · skip
    refine ka_iload_n hC dX3_setting_4 rfl ?_
    refine ka_aload_n hC dX3_setting_5 rfl ?_
    refine kg_X3_29 (by first | assumption | decide | exact wgIx_lt _ | exact plIx_lt _ | exact sp_recQ_lt | omega) hC dX3_setting_6 ?_
    refine kl_sett (by first | assumption | decide | exact wgIx_lt _ | exact plIx_lt _ | exact sp_recQ_lt | omega) hC dX3_setting_9 ?_
    refine ka_icmp_ge (tgt := 22) hC dX3_setting_10 (by decide) (fun c10 => ?_) (fun c10 => ?_)
    · skip
      refine ka_iconst (v := 0) hC dX3_setting_22 rfl ?_
      exact ka_iret hC hR dX3_setting_23 (by first | with_reducible rfl | (simp only [sp_setting, cn, c1, c10]; done) | (simp only [sp_setting, cn, if_neg c1, if_pos c1, if_neg c10, if_pos c10]; done) | (simp [sp_setting, cn, c1, c10]; done) | (simp [sp_setting, cn, if_neg c1, if_pos c1, if_neg c10, if_pos c10]; done) | contradiction | rfl) (by first | with_reducible rfl | (simp only [sp_setting, cn, c1, c10]; done) | (simp only [sp_setting, cn, if_neg c1, if_pos c1, if_neg c10, if_pos c10]; done) | (simp [sp_setting, cn, c1, c10]; done) | (simp [sp_setting, cn, if_neg c1, if_pos c1, if_neg c10, if_pos c10]; done) | contradiction | rfl)
    · skip
      refine ka_aload_n hC dX3_setting_13 rfl ?_
      refine kg_X3_29 (by first | assumption | decide | exact wgIx_lt _ | exact plIx_lt _ | exact sp_recQ_lt | omega) hC dX3_setting_14 ?_
      refine ka_iload_n hC dX3_setting_17 rfl ?_
      refine kip_sett (by first | assumption | decide | exact wgIx_lt _ | exact plIx_lt _ | exact sp_recQ_lt | omega) hC (ka_vpin 7 rfl (by decide) c1 c10) dX3_setting_18 ?_
      refine ka_goto (tgt := 23) hC dX3_setting_19 (by decide) ?_
      exact ka_iret hC hR dX3_setting_23 (by first | with_reducible rfl | (simp only [sp_setting, cn, c1, c10]; done) | (simp only [sp_setting, cn, if_neg c1, if_pos c1, if_pos c10, if_neg (not_not_intro c10)]; done) | (simp [sp_setting, cn, c1, c10]; done) | (simp [sp_setting, cn, if_neg c1, if_pos c1, if_pos c10, if_neg (not_not_intro c10)]; done) | contradiction | rfl) (by first | with_reducible rfl | (simp only [sp_setting, cn, c1, c10]; done) | (simp only [sp_setting, cn, if_neg c1, if_pos c1, if_pos c10, if_neg (not_not_intro c10)]; done) | (simp [sp_setting, cn, c1, c10]; done) | (simp [sp_setting, cn, if_neg c1, if_pos c1, if_pos c10, if_neg (not_not_intro c10)]; done) | contradiction | rfl)
theorem ky_X3_legDays : ka_y yX3_legDays 2 := by unfold ka_y; decide +kernel
set_option maxHeartbeats 4000000 in
set_option maxRecDepth 100000 in
theorem m_X3_legDays {G : ka_G} (hG : ka_AD G) {V : ka_W} {r : Nat} (hr : r < 6) {P : ka_P} {a b : Int32}  : ka_M G yX3_legDays cX3_legDays 4 (some FieldType.int) 0 [.ref (ka_ad G r 0), .int a, .int b] (ka_sp V r P) (some (.int (sp_legDays P a b))) (ka_sp V r P) := by
  refine ka_entry hG ka_pn_X3 (ka_cat1 rfl) (Nat.le_of_ble_eq_true rfl) (fun X hC hR => ?_)
  refine ka_iload_n hC dX3_legDays_0 rfl ?_
  refine ka_iconst (v := 5) hC dX3_legDays_1 rfl ?_
  refine ka_imul hC dX3_legDays_2 ?_
  refine ka_iload_n hC dX3_legDays_3 rfl ?_
  refine ka_iadd hC dX3_legDays_4 ?_
  refine ka_istore_n_p3 hC dX3_legDays_5 (by decide) ?_
  refine ka_iload_n hC dX3_legDays_6 rfl ?_
  refine ka_if_lt (tgt := 28) hC dX3_legDays_7 (by decide) (fun c7 => ?_) (fun c7 => ?_)
  · skip
    refine ka_iconst (v := 2) hC dX3_legDays_28 rfl ?_
    exact ka_iret hC hR dX3_legDays_29 (by first | with_reducible rfl | (simp only [sp_legDays, cn, c7]; done) | (simp only [sp_legDays, cn, if_pos c7, if_neg (not_not_intro c7)]; done) | (simp [sp_legDays, cn, c7]; done) | (simp [sp_legDays, cn, if_pos c7, if_neg (not_not_intro c7)]; done) | contradiction | rfl) (by first | with_reducible rfl | (simp only [sp_legDays, cn, c7]; done) | (simp only [sp_legDays, cn, if_pos c7, if_neg (not_not_intro c7)]; done) | (simp [sp_legDays, cn, c7]; done) | (simp [sp_legDays, cn, if_pos c7, if_neg (not_not_intro c7)]; done) | contradiction | rfl)
  · skip
    refine ka_iload_n hC dX3_legDays_10 rfl ?_
    refine ka_aload_n hC dX3_legDays_11 rfl ?_
    refine kg_X3_25 (by first | assumption | decide | exact wgIx_lt _ | exact plIx_lt _ | exact sp_recQ_lt | omega) hC dX3_legDays_12 ?_
    refine kl_legs (by first | assumption | decide | exact wgIx_lt _ | exact plIx_lt _ | exact sp_recQ_lt | omega) hC dX3_legDays_15 ?_
    refine ka_icmp_ge (tgt := 28) hC dX3_legDays_16 (by decide) (fun c16 => ?_) (fun c16 => ?_)
    · skip
      refine ka_iconst (v := 2) hC dX3_legDays_28 rfl ?_
      exact ka_iret hC hR dX3_legDays_29 (by first | with_reducible rfl | (simp only [sp_legDays, cn, c7, c16]; done) | (simp only [sp_legDays, cn, if_neg c7, if_pos c7, if_neg c16, if_pos c16]; done) | (simp [sp_legDays, cn, c7, c16]; done) | (simp [sp_legDays, cn, if_neg c7, if_pos c7, if_neg c16, if_pos c16]; done) | contradiction | rfl) (by first | with_reducible rfl | (simp only [sp_legDays, cn, c7, c16]; done) | (simp only [sp_legDays, cn, if_neg c7, if_pos c7, if_neg c16, if_pos c16]; done) | (simp [sp_legDays, cn, c7, c16]; done) | (simp [sp_legDays, cn, if_neg c7, if_pos c7, if_neg c16, if_pos c16]; done) | contradiction | rfl)
    · skip
      refine ka_aload_n hC dX3_legDays_19 rfl ?_
      refine kg_X3_25 (by first | assumption | decide | exact wgIx_lt _ | exact plIx_lt _ | exact sp_recQ_lt | omega) hC dX3_legDays_20 ?_
      refine ka_iload_n hC dX3_legDays_23 rfl ?_
      refine kip_legs (by first | assumption | decide | exact wgIx_lt _ | exact plIx_lt _ | exact sp_recQ_lt | omega) hC (ka_vpin 25 rfl (by decide) c7 c16) dX3_legDays_24 ?_
      refine ka_goto (tgt := 29) hC dX3_legDays_25 (by decide) ?_
      exact ka_iret hC hR dX3_legDays_29 (by first | with_reducible rfl | (simp only [sp_legDays, cn, c7, c16]; done) | (simp only [sp_legDays, cn, if_neg c7, if_pos c7, if_pos c16, if_neg (not_not_intro c16)]; done) | (simp [sp_legDays, cn, c7, c16]; done) | (simp [sp_legDays, cn, if_neg c7, if_pos c7, if_pos c16, if_neg (not_not_intro c16)]; done) | contradiction | rfl) (by first | with_reducible rfl | (simp only [sp_legDays, cn, c7, c16]; done) | (simp only [sp_legDays, cn, if_neg c7, if_pos c7, if_pos c16, if_neg (not_not_intro c16)]; done) | (simp [sp_legDays, cn, c7, c16]; done) | (simp [sp_legDays, cn, if_neg c7, if_pos c7, if_pos c16, if_neg (not_not_intro c16)]; done) | contradiction | rfl)
theorem ky_X3_keepLeg : ka_y yX3_keepLeg 3 := by unfold ka_y; decide +kernel
set_option maxHeartbeats 4000000 in
set_option maxRecDepth 100000 in
theorem m_X3_keepLeg {G : ka_G} (hG : ka_AD G) {V : ka_W} {r : Nat} (hr : r < 6) {P : ka_P} {a b v : Int32}  : ka_M G yX3_keepLeg cX3_keepLeg 5 none 0 [.ref (ka_ad G r 0), .int a, .int b, .int v] (ka_sp V r P) none (ka_sp V r (sp_keepLeg P a b v)) := by
  refine ka_entry hG ka_pn_X3 (ka_cat1 rfl) (Nat.le_of_ble_eq_true rfl) (fun X hC hR => ?_)
  refine ka_iload_n hC dX3_keepLeg_0 rfl ?_
  refine ka_iconst (v := 5) hC dX3_keepLeg_1 rfl ?_
  refine ka_imul hC dX3_keepLeg_2 ?_
  refine ka_iload_n hC dX3_keepLeg_3 rfl ?_
  refine ka_iadd hC dX3_keepLeg_4 ?_
  refine ka_istore_p4 hC dX3_keepLeg_5 (by decide) ?_
  refine ka_iload hC dX3_keepLeg_7 rfl ?_
  refine ka_if_lt (tgt := 30) hC dX3_keepLeg_9 (by decide) (fun c9 => ?_) (fun c9 => ?_)
  · skip
    exact ka_vret hC hR dX3_keepLeg_30 rfl (by first | with_reducible rfl | (simp only [sp_keepLeg, cn, c9]; done) | (simp only [sp_keepLeg, cn, if_pos c9, if_neg (not_not_intro c9)]; done) | (simp [sp_keepLeg, cn, c9]; done) | (simp [sp_keepLeg, cn, if_pos c9, if_neg (not_not_intro c9)]; done) | contradiction | rfl)
  · skip
    refine ka_iload hC dX3_keepLeg_12 rfl ?_
    refine ka_aload_n hC dX3_keepLeg_14 rfl ?_
    refine kg_X3_25 (by first | assumption | decide | exact wgIx_lt _ | exact plIx_lt _ | exact sp_recQ_lt | omega) hC dX3_keepLeg_15 ?_
    refine kl_legs (by first | assumption | decide | exact wgIx_lt _ | exact plIx_lt _ | exact sp_recQ_lt | omega) hC dX3_keepLeg_18 ?_
    refine ka_icmp_ge (tgt := 30) hC dX3_keepLeg_19 (by decide) (fun c19 => ?_) (fun c19 => ?_)
    · skip
      exact ka_vret hC hR dX3_keepLeg_30 rfl (by first | with_reducible rfl | (simp only [sp_keepLeg, cn, c9, c19]; done) | (simp only [sp_keepLeg, cn, if_neg c9, if_pos c9, if_neg c19, if_pos c19]; done) | (simp [sp_keepLeg, cn, c9, c19]; done) | (simp [sp_keepLeg, cn, if_neg c9, if_pos c9, if_neg c19, if_pos c19]; done) | contradiction | rfl)
    · skip
      refine ka_aload_n hC dX3_keepLeg_22 rfl ?_
      refine kg_X3_25 (by first | assumption | decide | exact wgIx_lt _ | exact plIx_lt _ | exact sp_recQ_lt | omega) hC dX3_keepLeg_23 ?_
      refine ka_iload hC dX3_keepLeg_26 rfl ?_
      refine ka_iload_n hC dX3_keepLeg_28 rfl ?_
      refine ksp_legs (by first | assumption | decide | exact wgIx_lt _ | exact plIx_lt _ | exact sp_recQ_lt | omega) hC (ka_vpin 25 rfl (by decide) c9 c19) dX3_keepLeg_29 ?_
      exact ka_vret hC hR dX3_keepLeg_30 rfl (by first | with_reducible rfl | (simp only [sp_keepLeg, cn, c9, c19]; done) | (simp only [sp_keepLeg, cn, if_neg c9, if_pos c9, if_pos c19, if_neg (not_not_intro c19)]; done) | (simp [sp_keepLeg, cn, c9, c19]; done) | (simp [sp_keepLeg, cn, if_neg c9, if_pos c9, if_pos c19, if_neg (not_not_intro c19)]; done) | contradiction | rfl)
theorem ky_X3_accountOf : ka_y yX3_accountOf 1 := by unfold ka_y; decide +kernel
set_option maxHeartbeats 4000000 in
set_option maxRecDepth 100000 in
theorem m_X3_accountOf {G : ka_G} (hG : ka_AD G) {V : ka_W} {r : Nat} (hr : r < 6) {P : ka_P} {x : Int32}  : ka_M G yX3_accountOf cX3_accountOf 2 (some FieldType.int) 1 [.ref (ka_ad G r 0), .int x] (ka_sp V r P) (some (.int (sp_accountOf P x))) (ka_sp V r P) := by
  refine ka_entry hG ka_pn_X3 (ka_cat1 rfl) (Nat.le_of_ble_eq_true rfl) (fun X hC hR => ?_)
  refine ka_aload_n hC dX3_accountOf_0 rfl ?_
  refine ka_iload_n hC dX3_accountOf_1 rfl ?_
  refine ka_callV hC (m_X3_placeAt hG (by first | assumption | decide | exact wgIx_lt _ | exact plIx_lt _ | exact sp_recQ_lt | omega)) (ka_Rc_pool (by first | assumption | decide | exact wgIx_lt _ | exact plIx_lt _ | exact sp_recQ_lt | omega)) rfl ka_q_ml_X3_85 ka_q_im_X3_placeAt ka_q_se_X3_placeAt ka_q_in_X3 ka_q_co_X3_placeAt ky_X3_placeAt (by decide) (by decide) (Nat.le_of_ble_eq_true rfl) rfl dX3_accountOf_2 ?_
  refine kgp_X3_89 (by first | assumption | decide | exact wgIx_lt _ | exact plIx_lt _ | exact sp_recQ_lt | omega) (by first | assumption | decide | exact wgIx_lt _ | exact plIx_lt _ | exact sp_recQ_lt | omega) hC dX3_accountOf_5 ?_
  exact ka_iret hC hR dX3_accountOf_8 (by first | with_reducible rfl | (simp only [sp_accountOf]; done) | (simp only [sp_accountOf]; done) | (simp [sp_accountOf]; done) | (simp [sp_accountOf]; done) | contradiction | rfl) (by first | with_reducible rfl | (simp only [sp_accountOf]; done) | (simp only [sp_accountOf]; done) | (simp [sp_accountOf]; done) | (simp [sp_accountOf]; done) | contradiction | rfl)
theorem ky_X3_isDue : ka_y yX3_isDue 1 := by unfold ka_y; decide +kernel
set_option maxHeartbeats 4000000 in
set_option maxRecDepth 100000 in
theorem m_X3_isDue {G : ka_G} (hG : ka_AD G) {V : ka_W} {r : Nat} (hr : r < 6) {P : ka_P} {k : Nat} (hk : k < 20)  : ka_M G yX3_isDue cX3_isDue 2 (some FieldType.boolean) 1 [.ref (ka_ad G r 0), .ref (ka_ad G r (8 + k))] (ka_sp V r P) (some (.int (ka_b (sp_isDue P k)))) (ka_sp V r P) := by
  refine ka_entry hG ka_pn_X3 (ka_cat1 rfl) (Nat.le_of_ble_eq_true rfl) (fun X hC hR => ?_)
  refine ka_aload_n hC dX3_isDue_0 rfl ?_
  refine kgp_X3_92 (by first | assumption | decide | exact wgIx_lt _ | exact plIx_lt _ | exact sp_recQ_lt | omega) (by first | assumption | decide | exact wgIx_lt _ | exact plIx_lt _ | exact sp_recQ_lt | omega) hC dX3_isDue_1 ?_
  refine ka_aload_n hC dX3_isDue_4 rfl ?_
  refine ka_iconst (v := 3) hC dX3_isDue_5 rfl ?_
  refine ka_callV hC (m_X3_setting hG (by first | assumption | decide | exact wgIx_lt _ | exact plIx_lt _ | exact sp_recQ_lt | omega)) (ka_Rc_pool (by first | assumption | decide | exact wgIx_lt _ | exact plIx_lt _ | exact sp_recQ_lt | omega)) rfl ka_q_ml_X3_95 ka_q_im_X3_setting ka_q_se_X3_setting ka_q_in_X3 ka_q_co_X3_setting ky_X3_setting (by decide) (by decide) (Nat.le_of_ble_eq_true rfl) rfl dX3_isDue_6 ?_
  refine ka_icmp_lt (tgt := 16) hC dX3_isDue_9 (by decide) (fun c9 => ?_) (fun c9 => ?_)
  · skip
    refine ka_iconst (v := 0) hC dX3_isDue_16 rfl ?_
    exact ka_bret hC hR dX3_isDue_17 (by first | with_reducible rfl | (simp only [sp_isDue, ka_b, c9]; done) | (simp only [sp_isDue, ka_b, if_pos c9, if_neg (not_not_intro c9)]; done) | (simp [sp_isDue, ka_b, c9]; done) | (simp [sp_isDue, ka_b, if_pos c9, if_neg (not_not_intro c9)]; done) | contradiction | rfl) rfl (by first | with_reducible rfl | (simp only [sp_isDue, ka_b, c9]; done) | (simp only [sp_isDue, ka_b, if_pos c9, if_neg (not_not_intro c9)]; done) | (simp [sp_isDue, ka_b, c9]; done) | (simp [sp_isDue, ka_b, if_pos c9, if_neg (not_not_intro c9)]; done) | contradiction | rfl)
  · skip
    refine ka_iconst (v := 1) hC dX3_isDue_12 rfl ?_
    refine ka_goto (tgt := 17) hC dX3_isDue_13 (by decide) ?_
    exact ka_bret hC hR dX3_isDue_17 (by first | with_reducible rfl | (simp only [sp_isDue, ka_b, c9]; done) | (simp only [sp_isDue, ka_b, if_neg c9, if_pos c9]; done) | (simp [sp_isDue, ka_b, c9]; done) | (simp [sp_isDue, ka_b, if_neg c9, if_pos c9]; done) | contradiction | rfl) rfl (by first | with_reducible rfl | (simp only [sp_isDue, ka_b, c9]; done) | (simp only [sp_isDue, ka_b, if_neg c9, if_pos c9]; done) | (simp [sp_isDue, ka_b, c9]; done) | (simp [sp_isDue, ka_b, if_neg c9, if_pos c9]; done) | contradiction | rfl)
