theorem ky_X2_copyFrom : ka_y yX2_copyFrom 1 := by unfold ka_y; decide +kernel
set_option maxHeartbeats 4000000 in
set_option maxRecDepth 100000 in
theorem m_X2_copyFrom {G : ka_G} (hG : ka_AD G) {V : ka_W} {r : Nat} (hr : r < 6) {P : ka_P} {r2 : Nat} (hr2 : r2 < 6) (hne : r2 ≠ r) {q : Nat} (hq : q < 5)  : ka_M G yX2_copyFrom cX2_copyFrom 2 none 0 [.ref (ka_ad G r (2 + q)), .ref (ka_ad G r2 (2 + q))] (ka_sp V r P) none (ka_sp V r (ka_s2 P (2 + q) (cpP (V r2 (2 + q)) (P (2 + q))))) := by
  refine ka_entry hG ka_pn_X2 (ka_cat1 rfl) (Nat.le_of_ble_eq_true rfl) (fun X hC hR => ?_)
  refine ka_aload_n hC dX2_copyFrom_0 rfl ?_
  refine ka_aload_n hC dX2_copyFrom_1 rfl ?_
  refine kg_X2_9 (by first | assumption | decide | exact wgIx_lt _ | exact plIx_lt _ | exact sp_recQ_lt | omega) (by first | assumption | decide | exact wgIx_lt _ | exact plIx_lt _ | exact sp_recQ_lt | omega) hC dX2_copyFrom_2 ?_
  refine kpp_X2_9 (by first | assumption | decide | exact wgIx_lt _ | exact plIx_lt _ | exact sp_recQ_lt | omega) (by first | assumption | decide | exact wgIx_lt _ | exact plIx_lt _ | exact sp_recQ_lt | omega) hC dX2_copyFrom_5 ?_
  refine ka_aload_n hC dX2_copyFrom_8 rfl ?_
  refine ka_aload_n hC dX2_copyFrom_9 rfl ?_
  refine kg_X2_15 (by first | assumption | decide | exact wgIx_lt _ | exact plIx_lt _ | exact sp_recQ_lt | omega) (by first | assumption | decide | exact wgIx_lt _ | exact plIx_lt _ | exact sp_recQ_lt | omega) hC dX2_copyFrom_10 ?_
  refine kpp_X2_15 (by first | assumption | decide | exact wgIx_lt _ | exact plIx_lt _ | exact sp_recQ_lt | omega) (by first | assumption | decide | exact wgIx_lt _ | exact plIx_lt _ | exact sp_recQ_lt | omega) hC dX2_copyFrom_13 ?_
  refine ka_aload_n hC dX2_copyFrom_16 rfl ?_
  refine ka_aload_n hC dX2_copyFrom_17 rfl ?_
  refine kg_X2_18 (by first | assumption | decide | exact wgIx_lt _ | exact plIx_lt _ | exact sp_recQ_lt | omega) (by first | assumption | decide | exact wgIx_lt _ | exact plIx_lt _ | exact sp_recQ_lt | omega) hC dX2_copyFrom_18 ?_
  refine kpp_X2_18 (by first | assumption | decide | exact wgIx_lt _ | exact plIx_lt _ | exact sp_recQ_lt | omega) (by first | assumption | decide | exact wgIx_lt _ | exact plIx_lt _ | exact sp_recQ_lt | omega) hC dX2_copyFrom_21 ?_
  refine ka_aload_n hC dX2_copyFrom_24 rfl ?_
  refine ka_aload_n hC dX2_copyFrom_25 rfl ?_
  refine kg_X2_21 (by first | assumption | decide | exact wgIx_lt _ | exact plIx_lt _ | exact sp_recQ_lt | omega) (by first | assumption | decide | exact wgIx_lt _ | exact plIx_lt _ | exact sp_recQ_lt | omega) hC dX2_copyFrom_26 ?_
  refine kpp_X2_21 (by first | assumption | decide | exact wgIx_lt _ | exact plIx_lt _ | exact sp_recQ_lt | omega) (by first | assumption | decide | exact wgIx_lt _ | exact plIx_lt _ | exact sp_recQ_lt | omega) hC dX2_copyFrom_29 ?_
  refine ka_aload_n hC dX2_copyFrom_32 rfl ?_
  refine ka_aload_n hC dX2_copyFrom_33 rfl ?_
  refine kg_X2_24 (by first | assumption | decide | exact wgIx_lt _ | exact plIx_lt _ | exact sp_recQ_lt | omega) (by first | assumption | decide | exact wgIx_lt _ | exact plIx_lt _ | exact sp_recQ_lt | omega) hC dX2_copyFrom_34 ?_
  refine kpp_X2_24 (by first | assumption | decide | exact wgIx_lt _ | exact plIx_lt _ | exact sp_recQ_lt | omega) (by first | assumption | decide | exact wgIx_lt _ | exact plIx_lt _ | exact sp_recQ_lt | omega) hC dX2_copyFrom_37 ?_
  refine ka_aload_n hC dX2_copyFrom_40 rfl ?_
  refine ka_aload_n hC dX2_copyFrom_41 rfl ?_
  refine kg_X2_27 (by first | assumption | decide | exact wgIx_lt _ | exact plIx_lt _ | exact sp_recQ_lt | omega) (by first | assumption | decide | exact wgIx_lt _ | exact plIx_lt _ | exact sp_recQ_lt | omega) hC dX2_copyFrom_42 ?_
  refine kpp_X2_27 (by first | assumption | decide | exact wgIx_lt _ | exact plIx_lt _ | exact sp_recQ_lt | omega) (by first | assumption | decide | exact wgIx_lt _ | exact plIx_lt _ | exact sp_recQ_lt | omega) hC dX2_copyFrom_45 ?_
  exact ka_vret hC hR dX2_copyFrom_48 rfl (by simp only [ka_sp_n hne, ka_s2_s, ka_s2_s2, cpP_eq])
theorem ky_X5_copyFrom : ka_y yX5_copyFrom 1 := by unfold ka_y; decide +kernel
set_option maxHeartbeats 4000000 in
set_option maxRecDepth 100000 in
theorem m_X5_copyFrom {G : ka_G} (hG : ka_AD G) {V : ka_W} {r : Nat} (hr : r < 6) {P : ka_P} {r2 : Nat} (hr2 : r2 < 6) (hne : r2 ≠ r) {k : Nat} (hk : k < 20)  : ka_M G yX5_copyFrom cX5_copyFrom 2 none 0 [.ref (ka_ad G r (8 + k)), .ref (ka_ad G r2 (8 + k))] (ka_sp V r P) none (ka_sp V r (ka_s2 P (8 + k) (cpW (V r2 (8 + k)) (P (8 + k))))) := by
  refine ka_entry hG ka_pn_X5 (ka_cat1 rfl) (Nat.le_of_ble_eq_true rfl) (fun X hC hR => ?_)
  refine ka_aload_n hC dX5_copyFrom_0 rfl ?_
  refine ka_aload_n hC dX5_copyFrom_1 rfl ?_
  refine kg_X5_9 (by first | assumption | decide | exact wgIx_lt _ | exact plIx_lt _ | exact sp_recQ_lt | omega) (by first | assumption | decide | exact wgIx_lt _ | exact plIx_lt _ | exact sp_recQ_lt | omega) hC dX5_copyFrom_2 ?_
  refine kpp_X5_9 (by first | assumption | decide | exact wgIx_lt _ | exact plIx_lt _ | exact sp_recQ_lt | omega) (by first | assumption | decide | exact wgIx_lt _ | exact plIx_lt _ | exact sp_recQ_lt | omega) hC dX5_copyFrom_5 ?_
  refine ka_aload_n hC dX5_copyFrom_8 rfl ?_
  refine ka_aload_n hC dX5_copyFrom_9 rfl ?_
  refine kg_X5_15 (by first | assumption | decide | exact wgIx_lt _ | exact plIx_lt _ | exact sp_recQ_lt | omega) (by first | assumption | decide | exact wgIx_lt _ | exact plIx_lt _ | exact sp_recQ_lt | omega) hC dX5_copyFrom_10 ?_
  refine kpp_X5_15 (by first | assumption | decide | exact wgIx_lt _ | exact plIx_lt _ | exact sp_recQ_lt | omega) (by first | assumption | decide | exact wgIx_lt _ | exact plIx_lt _ | exact sp_recQ_lt | omega) hC dX5_copyFrom_13 ?_
  refine ka_aload_n hC dX5_copyFrom_16 rfl ?_
  refine ka_aload_n hC dX5_copyFrom_17 rfl ?_
  refine kg_X5_18 (by first | assumption | decide | exact wgIx_lt _ | exact plIx_lt _ | exact sp_recQ_lt | omega) (by first | assumption | decide | exact wgIx_lt _ | exact plIx_lt _ | exact sp_recQ_lt | omega) hC dX5_copyFrom_18 ?_
  refine kpp_X5_18 (by first | assumption | decide | exact wgIx_lt _ | exact plIx_lt _ | exact sp_recQ_lt | omega) (by first | assumption | decide | exact wgIx_lt _ | exact plIx_lt _ | exact sp_recQ_lt | omega) hC dX5_copyFrom_21 ?_
  refine ka_aload_n hC dX5_copyFrom_24 rfl ?_
  refine ka_aload_n hC dX5_copyFrom_25 rfl ?_
  refine kg_X5_21 (by first | assumption | decide | exact wgIx_lt _ | exact plIx_lt _ | exact sp_recQ_lt | omega) (by first | assumption | decide | exact wgIx_lt _ | exact plIx_lt _ | exact sp_recQ_lt | omega) hC dX5_copyFrom_26 ?_
  refine kpp_X5_21 (by first | assumption | decide | exact wgIx_lt _ | exact plIx_lt _ | exact sp_recQ_lt | omega) (by first | assumption | decide | exact wgIx_lt _ | exact plIx_lt _ | exact sp_recQ_lt | omega) (b := _) rfl hC dX5_copyFrom_29 ?_
  refine ka_aload_n hC dX5_copyFrom_32 rfl ?_
  refine ka_aload_n hC dX5_copyFrom_33 rfl ?_
  refine kg_X5_25 (by first | assumption | decide | exact wgIx_lt _ | exact plIx_lt _ | exact sp_recQ_lt | omega) (by first | assumption | decide | exact wgIx_lt _ | exact plIx_lt _ | exact sp_recQ_lt | omega) hC dX5_copyFrom_34 ?_
  refine kpp_X5_25 (by first | assumption | decide | exact wgIx_lt _ | exact plIx_lt _ | exact sp_recQ_lt | omega) (by first | assumption | decide | exact wgIx_lt _ | exact plIx_lt _ | exact sp_recQ_lt | omega) hC dX5_copyFrom_37 ?_
  refine ka_aload_n hC dX5_copyFrom_40 rfl ?_
  refine ka_aload_n hC dX5_copyFrom_41 rfl ?_
  refine kg_X5_28 (by first | assumption | decide | exact wgIx_lt _ | exact plIx_lt _ | exact sp_recQ_lt | omega) (by first | assumption | decide | exact wgIx_lt _ | exact plIx_lt _ | exact sp_recQ_lt | omega) hC dX5_copyFrom_42 ?_
  refine kpp_X5_28 (by first | assumption | decide | exact wgIx_lt _ | exact plIx_lt _ | exact sp_recQ_lt | omega) (by first | assumption | decide | exact wgIx_lt _ | exact plIx_lt _ | exact sp_recQ_lt | omega) hC dX5_copyFrom_45 ?_
  refine ka_aload_n hC dX5_copyFrom_48 rfl ?_
  refine ka_aload_n hC dX5_copyFrom_49 rfl ?_
  refine kg_X5_31 (by first | assumption | decide | exact wgIx_lt _ | exact plIx_lt _ | exact sp_recQ_lt | omega) (by first | assumption | decide | exact wgIx_lt _ | exact plIx_lt _ | exact sp_recQ_lt | omega) hC dX5_copyFrom_50 ?_
  refine kpp_X5_31 (by first | assumption | decide | exact wgIx_lt _ | exact plIx_lt _ | exact sp_recQ_lt | omega) (by first | assumption | decide | exact wgIx_lt _ | exact plIx_lt _ | exact sp_recQ_lt | omega) hC dX5_copyFrom_53 ?_
  refine ka_aload_n hC dX5_copyFrom_56 rfl ?_
  refine ka_aload_n hC dX5_copyFrom_57 rfl ?_
  refine kg_X5_34 (by first | assumption | decide | exact wgIx_lt _ | exact plIx_lt _ | exact sp_recQ_lt | omega) (by first | assumption | decide | exact wgIx_lt _ | exact plIx_lt _ | exact sp_recQ_lt | omega) hC dX5_copyFrom_58 ?_
  refine kpp_X5_34 (by first | assumption | decide | exact wgIx_lt _ | exact plIx_lt _ | exact sp_recQ_lt | omega) (by first | assumption | decide | exact wgIx_lt _ | exact plIx_lt _ | exact sp_recQ_lt | omega) hC dX5_copyFrom_61 ?_
  refine ka_aload_n hC dX5_copyFrom_64 rfl ?_
  refine ka_aload_n hC dX5_copyFrom_65 rfl ?_
  refine kg_X5_37 (by first | assumption | decide | exact wgIx_lt _ | exact plIx_lt _ | exact sp_recQ_lt | omega) (by first | assumption | decide | exact wgIx_lt _ | exact plIx_lt _ | exact sp_recQ_lt | omega) hC dX5_copyFrom_66 ?_
  refine kpp_X5_37 (by first | assumption | decide | exact wgIx_lt _ | exact plIx_lt _ | exact sp_recQ_lt | omega) (by first | assumption | decide | exact wgIx_lt _ | exact plIx_lt _ | exact sp_recQ_lt | omega) hC dX5_copyFrom_69 ?_
  exact ka_vret hC hR dX5_copyFrom_72 rfl (by simp only [ka_sp_n hne, ka_s2_s, ka_s2_s2, cpW_eq])
theorem ky_X4_copyFrom : ka_y yX4_copyFrom 1 := by unfold ka_y; decide +kernel
set_option maxHeartbeats 4000000 in
set_option maxRecDepth 100000 in
theorem m_X4_copyFrom {G : ka_G} (hG : ka_AD G) {V : ka_W} {r : Nat} (hr : r < 6) {P : ka_P} {r2 : Nat} (hr2 : r2 < 6) (hne : r2 ≠ r)  : ka_M G yX4_copyFrom cX4_copyFrom 2 none 2 [.ref (ka_ad G r 30), .ref (ka_ad G r2 30)] (ka_sp V r P) none (ka_sp V r (sp_cpShop (V r2) P)) := by
  refine ka_entry hG ka_pn_X4 (ka_cat1 rfl) (Nat.le_of_ble_eq_true rfl) (fun X hC hR => ?_)
  refine ka_aload_n hC dX4_copyFrom_0 rfl ?_
  refine kg_X4_9 (by first | assumption | decide | exact wgIx_lt _ | exact plIx_lt _ | exact sp_recQ_lt | omega) hC dX4_copyFrom_1 ?_
  refine ka_iconst (v := 0) hC dX4_copyFrom_4 rfl ?_
  refine ka_aload_n hC dX4_copyFrom_5 rfl ?_
  refine kg_X4_9 (by first | assumption | decide | exact wgIx_lt _ | exact plIx_lt _ | exact sp_recQ_lt | omega) hC dX4_copyFrom_6 ?_
  refine ka_iconst (v := 0) hC dX4_copyFrom_9 rfl ?_
  refine ka_bipush (v := 20) hC dX4_copyFrom_10 rfl ?_
  refine ka_copyp (nn := 20) hne (by decide) hC (ka_ixp _ (by first | assumption | decide | exact wgIx_lt _ | exact plIx_lt _ | exact sp_recQ_lt | omega) 31 (by decide)) (ka_ixp _ (by first | assumption | decide | exact wgIx_lt _ | exact plIx_lt _ | exact sp_recQ_lt | omega) 31 (by decide)) (fun f => ka_E_queue (by first | assumption | decide | exact wgIx_lt _ | exact plIx_lt _ | exact sp_recQ_lt | omega)) (fun f => ka_E_queue (by first | assumption | decide | exact wgIx_lt _ | exact plIx_lt _ | exact sp_recQ_lt | omega)) ka_q_ml_X4_15 ka_q_na_arraycopy ka_q_st_arraycopy ka_q_in_J10 (by decide) (by decide) (by decide) (Nat.le_of_ble_eq_true rfl) (by decide) dX4_copyFrom_12 ?_
  refine ka_aload_n hC dX4_copyFrom_15 rfl ?_
  refine ka_aload_n hC dX4_copyFrom_16 rfl ?_
  refine kg_X4_21 (by first | assumption | decide | exact wgIx_lt _ | exact plIx_lt _ | exact sp_recQ_lt | omega) hC dX4_copyFrom_17 ?_
  refine kpp_X4_21 (by first | assumption | decide | exact wgIx_lt _ | exact plIx_lt _ | exact sp_recQ_lt | omega) hC dX4_copyFrom_20 ?_
  exact ka_vret hC hR dX4_copyFrom_23 rfl (by simp only [ka_sp_n hne, sp_cpShop, pU])
theorem ky_X3_copyFrom : ka_y yX3_copyFrom 1 := by unfold ka_y; decide +kernel
set_option maxHeartbeats 4000000 in
set_option maxRecDepth 100000 in
theorem m_X3_copyFrom {G : ka_G} (hG : ka_AD G) {V : ka_W} {r : Nat} (hr : r < 6) {P : ka_P} {r2 : Nat} (hr2 : r2 < 6) (hne : r2 ≠ r)  : ka_M G yX3_copyFrom cX3_copyFrom 3 none 3 [.ref (ka_ad G r 0), .ref (ka_ad G r2 0)] (ka_sp V r P) none (ka_sp V r (sp_copy (V r2) P)) := by
  refine ka_entry hG ka_pn_X3 (ka_cat1 rfl) (Nat.le_of_ble_eq_true rfl) (fun X hC hR => ?_)
  refine ka_iconst (v := 0) hC dX3_copyFrom_0 rfl ?_
  refine ka_istore_n_p2 hC dX3_copyFrom_1 (by decide) ?_
  suffices H2 : ∀ jj i : Nat, i ≤ 5 → 5 - i < jj → ka_I G X (ka_sp V r (sp_cpPlX (V r2) P i)) 2 [.ref (ka_ad G r 0), .ref (ka_ad G r2 0), .int (nI i)] [] from ka_I.back 3 (by first | with_reducible rfl | (simp only [sp_cpPlX_0, sp_cpPlX_s, sp_cpWgX_0, sp_cpWgX_s, nI_1]; done) | (simp only [sp_cpPlX_0, sp_cpPlX_s, sp_cpWgX_0, sp_cpWgX_s, nI_1]; done) | (simp [sp_cpPlX_0, sp_cpPlX_s, sp_cpWgX_0, sp_cpWgX_s, nI_1]; done) | (simp [sp_cpPlX_0, sp_cpPlX_s, sp_cpWgX_0, sp_cpWgX_s, nI_1]; done) | contradiction | rfl) (by first | with_reducible rfl | (simp only [sp_cpPlX_0, sp_cpPlX_s, sp_cpWgX_0, sp_cpWgX_s, nI_1]; done) | (simp only [sp_cpPlX_0, sp_cpPlX_s, sp_cpWgX_0, sp_cpWgX_s, nI_1]; done) | (simp [sp_cpPlX_0, sp_cpPlX_s, sp_cpWgX_0, sp_cpWgX_s, nI_1]; done) | (simp [sp_cpPlX_0, sp_cpPlX_s, sp_cpWgX_0, sp_cpWgX_s, nI_1]; done) | contradiction | rfl) (H2 (5 + 1) 0 (by omega) (by omega))
  intro j2
  induction j2 with
  | zero => intro i h1 h2 ; exact absurd h2 (Nat.not_lt_zero _)
  | succ j2 ih2 =>
    intro i hle2 hlt2 
    refine ka_iload_n hC dX3_copyFrom_2 rfl ?_
    refine ka_iconst (v := 5) hC dX3_copyFrom_3 rfl ?_
    refine ka_icmp_ge (tgt := 28) hC dX3_copyFrom_4 (by decide) (fun c4 => ?_) (fun c4 => ?_)
    · skip
      obtain rfl : i = 5 := nlt_nI (by decide) hle2 c4
      refine ka_iconst (v := 0) hC dX3_copyFrom_28 rfl ?_
      refine ka_istore_n_s2 hC dX3_copyFrom_29 (by decide) ?_
      suffices H30 : ∀ jj i : Nat, i ≤ 20 → 20 - i < jj → ka_I G X (ka_sp V r (sp_cpWgX (V r2) (sp_cpPlX (V r2) P 5) i)) 30 [.ref (ka_ad G r 0), .ref (ka_ad G r2 0), .int (nI i)] [] from ka_I.back 3 (by first | with_reducible rfl | (simp only [sp_cpPlX_0, sp_cpPlX_s, sp_cpWgX_0, sp_cpWgX_s, nI_1, c4]; done) | (simp only [sp_cpPlX_0, sp_cpPlX_s, sp_cpWgX_0, sp_cpWgX_s, nI_1, if_neg c4, if_pos c4]; done) | (simp [sp_cpPlX_0, sp_cpPlX_s, sp_cpWgX_0, sp_cpWgX_s, nI_1, c4]; done) | (simp [sp_cpPlX_0, sp_cpPlX_s, sp_cpWgX_0, sp_cpWgX_s, nI_1, if_neg c4, if_pos c4]; done) | contradiction | rfl) (by first | with_reducible rfl | (simp only [sp_cpPlX_0, sp_cpPlX_s, sp_cpWgX_0, sp_cpWgX_s, nI_1, c4]; done) | (simp only [sp_cpPlX_0, sp_cpPlX_s, sp_cpWgX_0, sp_cpWgX_s, nI_1, if_neg c4, if_pos c4]; done) | (simp [sp_cpPlX_0, sp_cpPlX_s, sp_cpWgX_0, sp_cpWgX_s, nI_1, c4]; done) | (simp [sp_cpPlX_0, sp_cpPlX_s, sp_cpWgX_0, sp_cpWgX_s, nI_1, if_neg c4, if_pos c4]; done) | contradiction | rfl) (H30 (20 + 1) 0 (by omega) (by omega))
      intro j30
      induction j30 with
      | zero => intro i h1 h2 ; exact absurd h2 (Nat.not_lt_zero _)
      | succ j30 ih30 =>
        intro i hle30 hlt30 
        refine ka_iload_n hC dX3_copyFrom_30 rfl ?_
        refine ka_bipush (v := 20) hC dX3_copyFrom_31 rfl ?_
        refine ka_icmp_ge (tgt := 57) hC dX3_copyFrom_33 (by decide) (fun c33 => ?_) (fun c33 => ?_)
        · skip
          obtain rfl : i = 20 := nlt_nI (by decide) hle30 c33
          refine ka_aload_n hC dX3_copyFrom_57 rfl ?_
          refine kg_X3_25 (by first | assumption | decide | exact wgIx_lt _ | exact plIx_lt _ | exact sp_recQ_lt | omega) hC dX3_copyFrom_58 ?_
          refine ka_iconst (v := 0) hC dX3_copyFrom_61 rfl ?_
          refine ka_aload_n hC dX3_copyFrom_62 rfl ?_
          refine kg_X3_25 (by first | assumption | decide | exact wgIx_lt _ | exact plIx_lt _ | exact sp_recQ_lt | omega) hC dX3_copyFrom_63 ?_
          refine ka_iconst (v := 0) hC dX3_copyFrom_66 rfl ?_
          refine ka_bipush (v := 25) hC dX3_copyFrom_67 rfl ?_
          refine ka_copyp (nn := 25) hne (by decide) hC (ka_ixp _ (by first | assumption | decide | exact wgIx_lt _ | exact plIx_lt _ | exact sp_recQ_lt | omega) 28 (by decide)) (ka_ixp _ (by first | assumption | decide | exact wgIx_lt _ | exact plIx_lt _ | exact sp_recQ_lt | omega) 28 (by decide)) (fun f => ka_E_legs (by first | assumption | decide | exact wgIx_lt _ | exact plIx_lt _ | exact sp_recQ_lt | omega)) (fun f => ka_E_legs (by first | assumption | decide | exact wgIx_lt _ | exact plIx_lt _ | exact sp_recQ_lt | omega)) ka_q_ml_X3_49 ka_q_na_arraycopy ka_q_st_arraycopy ka_q_in_J10 (by decide) (by decide) (by decide) (Nat.le_of_ble_eq_true rfl) (by decide) dX3_copyFrom_69 ?_
          refine ka_aload_n hC dX3_copyFrom_72 rfl ?_
          refine kg_X3_29 (by first | assumption | decide | exact wgIx_lt _ | exact plIx_lt _ | exact sp_recQ_lt | omega) hC dX3_copyFrom_73 ?_
          refine ka_iconst (v := 0) hC dX3_copyFrom_76 rfl ?_
          refine ka_aload_n hC dX3_copyFrom_77 rfl ?_
          refine kg_X3_29 (by first | assumption | decide | exact wgIx_lt _ | exact plIx_lt _ | exact sp_recQ_lt | omega) hC dX3_copyFrom_78 ?_
          refine ka_iconst (v := 0) hC dX3_copyFrom_81 rfl ?_
          refine ka_bipush (v := 7) hC dX3_copyFrom_82 rfl ?_
          refine ka_copyp (nn := 7) hne (by decide) hC (ka_ixp _ (by first | assumption | decide | exact wgIx_lt _ | exact plIx_lt _ | exact sp_recQ_lt | omega) 29 (by decide)) (ka_ixp _ (by first | assumption | decide | exact wgIx_lt _ | exact plIx_lt _ | exact sp_recQ_lt | omega) 29 (by decide)) (fun f => ka_E_sett (by first | assumption | decide | exact wgIx_lt _ | exact plIx_lt _ | exact sp_recQ_lt | omega)) (fun f => ka_E_sett (by first | assumption | decide | exact wgIx_lt _ | exact plIx_lt _ | exact sp_recQ_lt | omega)) ka_q_ml_X3_49 ka_q_na_arraycopy ka_q_st_arraycopy ka_q_in_J10 (by decide) (by decide) (by decide) (Nat.le_of_ble_eq_true rfl) (by decide) dX3_copyFrom_84 ?_
          refine ka_aload_n hC dX3_copyFrom_87 rfl ?_
          refine kg_X3_38 (by first | assumption | decide | exact wgIx_lt _ | exact plIx_lt _ | exact sp_recQ_lt | omega) hC dX3_copyFrom_88 ?_
          refine ka_aload_n hC dX3_copyFrom_91 rfl ?_
          refine kg_X3_38 (by first | assumption | decide | exact wgIx_lt _ | exact plIx_lt _ | exact sp_recQ_lt | omega) hC dX3_copyFrom_92 ?_
          refine ka_callV hC (m_X4_copyFrom hG (by first | assumption | decide | exact wgIx_lt _ | exact plIx_lt _ | exact sp_recQ_lt | omega) (by first | assumption | decide | exact wgIx_lt _ | exact plIx_lt _ | exact sp_recQ_lt | omega) (by first | assumption | decide | exact wgIx_lt _ | exact plIx_lt _ | exact sp_recQ_lt | omega)) (ka_Rc_shop (by first | assumption | decide | exact wgIx_lt _ | exact plIx_lt _ | exact sp_recQ_lt | omega)) rfl ka_q_ml_X3_55 ka_q_im_X4_copyFrom ka_q_se_X4_copyFrom ka_q_in_X4 ka_q_co_X4_copyFrom ky_X4_copyFrom (by decide) (by decide) (Nat.le_of_ble_eq_true rfl) rfl dX3_copyFrom_95 ?_
          refine ka_aload_n hC dX3_copyFrom_98 rfl ?_
          refine ka_aload_n hC dX3_copyFrom_99 rfl ?_
          refine kg_X3_58 (by first | assumption | decide | exact wgIx_lt _ | exact plIx_lt _ | exact sp_recQ_lt | omega) hC dX3_copyFrom_100 ?_
          refine kpp_X3_58 (by first | assumption | decide | exact wgIx_lt _ | exact plIx_lt _ | exact sp_recQ_lt | omega) hC dX3_copyFrom_103 ?_
          refine ka_aload_n hC dX3_copyFrom_106 rfl ?_
          refine ka_aload_n hC dX3_copyFrom_107 rfl ?_
          refine kg_X3_62 (by first | assumption | decide | exact wgIx_lt _ | exact plIx_lt _ | exact sp_recQ_lt | omega) hC dX3_copyFrom_108 ?_
          refine kpp_X3_62 (by first | assumption | decide | exact wgIx_lt _ | exact plIx_lt _ | exact sp_recQ_lt | omega) hC dX3_copyFrom_111 ?_
          refine ka_aload_n hC dX3_copyFrom_114 rfl ?_
          refine ka_aload_n hC dX3_copyFrom_115 rfl ?_
          refine kg_X3_65 (by first | assumption | decide | exact wgIx_lt _ | exact plIx_lt _ | exact sp_recQ_lt | omega) hC dX3_copyFrom_116 ?_
          refine kpp_X3_65 (by first | assumption | decide | exact wgIx_lt _ | exact plIx_lt _ | exact sp_recQ_lt | omega) hC dX3_copyFrom_119 ?_
          refine ka_aload_n hC dX3_copyFrom_122 rfl ?_
          refine ka_aload_n hC dX3_copyFrom_123 rfl ?_
          refine kg_X3_68 (by first | assumption | decide | exact wgIx_lt _ | exact plIx_lt _ | exact sp_recQ_lt | omega) hC dX3_copyFrom_124 ?_
          refine kpp_X3_68 (by first | assumption | decide | exact wgIx_lt _ | exact plIx_lt _ | exact sp_recQ_lt | omega) hC dX3_copyFrom_127 ?_
          refine ka_aload_n hC dX3_copyFrom_130 rfl ?_
          refine ka_aload_n hC dX3_copyFrom_131 rfl ?_
          refine kg_X3_71 (by first | assumption | decide | exact wgIx_lt _ | exact plIx_lt _ | exact sp_recQ_lt | omega) hC dX3_copyFrom_132 ?_
          refine kpp_X3_71 (by first | assumption | decide | exact wgIx_lt _ | exact plIx_lt _ | exact sp_recQ_lt | omega) hC dX3_copyFrom_135 ?_
          refine ka_aload_n hC dX3_copyFrom_138 rfl ?_
          refine ka_aload_n hC dX3_copyFrom_139 rfl ?_
          refine kg_X3_74 (by first | assumption | decide | exact wgIx_lt _ | exact plIx_lt _ | exact sp_recQ_lt | omega) hC dX3_copyFrom_140 ?_
          refine kpp_X3_74 (by first | assumption | decide | exact wgIx_lt _ | exact plIx_lt _ | exact sp_recQ_lt | omega) hC dX3_copyFrom_143 ?_
          exact ka_vret hC hR dX3_copyFrom_146 rfl (by simp only [ka_sp_n hne, sp_copy, sp_cp3, sp_cpSett, sp_cpLegs, sp_cp1, pU])
        · skip
          have hi : i < 20 := lt_nI (by decide) hle30 c33
          refine ka_aload_n hC dX3_copyFrom_36 rfl ?_
          refine kg_X3_20 (by first | assumption | decide | exact wgIx_lt _ | exact plIx_lt _ | exact sp_recQ_lt | omega) hC dX3_copyFrom_37 ?_
          refine ka_iload_n hC dX3_copyFrom_40 rfl ?_
          refine kqn_wagons (by first | assumption | decide | exact wgIx_lt _ | exact plIx_lt _ | exact sp_recQ_lt | omega) i hi rfl hC dX3_copyFrom_41 ?_
          refine ka_aload_n hC dX3_copyFrom_42 rfl ?_
          refine kg_X3_20 (by first | assumption | decide | exact wgIx_lt _ | exact plIx_lt _ | exact sp_recQ_lt | omega) hC dX3_copyFrom_43 ?_
          refine ka_iload_n hC dX3_copyFrom_46 rfl ?_
          refine kqn_wagons (by first | assumption | decide | exact wgIx_lt _ | exact plIx_lt _ | exact sp_recQ_lt | omega) i hi rfl hC dX3_copyFrom_47 ?_
          refine ka_callV hC (m_X5_copyFrom hG (by first | assumption | decide | exact wgIx_lt _ | exact plIx_lt _ | exact sp_recQ_lt | omega) (by first | assumption | decide | exact wgIx_lt _ | exact plIx_lt _ | exact sp_recQ_lt | omega) (by first | assumption | decide | exact wgIx_lt _ | exact plIx_lt _ | exact sp_recQ_lt | omega) (by first | assumption | decide | exact wgIx_lt _ | exact plIx_lt _ | exact sp_recQ_lt | omega)) (ka_Rc_wagon (by first | assumption | decide | exact wgIx_lt _ | exact plIx_lt _ | exact sp_recQ_lt | omega) (by first | assumption | decide | exact wgIx_lt _ | exact plIx_lt _ | exact sp_recQ_lt | omega)) rfl ka_q_ml_X3_46 ka_q_im_X5_copyFrom ka_q_se_X5_copyFrom ka_q_in_X5 ka_q_co_X5_copyFrom ky_X5_copyFrom (by decide) (by decide) (Nat.le_of_ble_eq_true rfl) rfl dX3_copyFrom_48 ?_
          refine ka_iinc_2 (v := 1) hC dX3_copyFrom_51 rfl (by decide) ?_
          refine ka_goto (tgt := 30) hC dX3_copyFrom_54 (by decide) ?_
          exact ka_I.back 3 (by first | with_reducible rfl | (simp only [sp_cpPlX_0, sp_cpPlX_s, sp_cpWgX_0, sp_cpWgX_s, nI_1, c4, c33]; done) | (simp only [sp_cpPlX_0, sp_cpPlX_s, sp_cpWgX_0, sp_cpWgX_s, nI_1, if_neg c4, if_pos c4, if_pos c33, if_neg (not_not_intro c33)]; done) | (simp [sp_cpPlX_0, sp_cpPlX_s, sp_cpWgX_0, sp_cpWgX_s, nI_1, c4, c33]; done) | (simp [sp_cpPlX_0, sp_cpPlX_s, sp_cpWgX_0, sp_cpWgX_s, nI_1, if_neg c4, if_pos c4, if_pos c33, if_neg (not_not_intro c33)]; done) | contradiction | rfl) (by first | with_reducible rfl | (simp only [sp_cpPlX_0, sp_cpPlX_s, sp_cpWgX_0, sp_cpWgX_s, nI_1, c4, c33]; done) | (simp only [sp_cpPlX_0, sp_cpPlX_s, sp_cpWgX_0, sp_cpWgX_s, nI_1, if_neg c4, if_pos c4, if_pos c33, if_neg (not_not_intro c33)]; done) | (simp [sp_cpPlX_0, sp_cpPlX_s, sp_cpWgX_0, sp_cpWgX_s, nI_1, c4, c33]; done) | (simp [sp_cpPlX_0, sp_cpPlX_s, sp_cpWgX_0, sp_cpWgX_s, nI_1, if_neg c4, if_pos c4, if_pos c33, if_neg (not_not_intro c33)]; done) | contradiction | rfl) (ih30 (i + 1) (by omega) (by omega))
    · skip
      have hi : i < 5 := lt_nI (by decide) hle2 c4
      refine ka_aload_n hC dX3_copyFrom_7 rfl ?_
      refine kg_X3_11 (by first | assumption | decide | exact wgIx_lt _ | exact plIx_lt _ | exact sp_recQ_lt | omega) hC dX3_copyFrom_8 ?_
      refine ka_iload_n hC dX3_copyFrom_11 rfl ?_
      refine kqn_places (by first | assumption | decide | exact wgIx_lt _ | exact plIx_lt _ | exact sp_recQ_lt | omega) i hi rfl hC dX3_copyFrom_12 ?_
      refine ka_aload_n hC dX3_copyFrom_13 rfl ?_
      refine kg_X3_11 (by first | assumption | decide | exact wgIx_lt _ | exact plIx_lt _ | exact sp_recQ_lt | omega) hC dX3_copyFrom_14 ?_
      refine ka_iload_n hC dX3_copyFrom_17 rfl ?_
      refine kqn_places (by first | assumption | decide | exact wgIx_lt _ | exact plIx_lt _ | exact sp_recQ_lt | omega) i hi rfl hC dX3_copyFrom_18 ?_
      refine ka_callV hC (m_X2_copyFrom hG (by first | assumption | decide | exact wgIx_lt _ | exact plIx_lt _ | exact sp_recQ_lt | omega) (by first | assumption | decide | exact wgIx_lt _ | exact plIx_lt _ | exact sp_recQ_lt | omega) (by first | assumption | decide | exact wgIx_lt _ | exact plIx_lt _ | exact sp_recQ_lt | omega) (by first | assumption | decide | exact wgIx_lt _ | exact plIx_lt _ | exact sp_recQ_lt | omega)) (ka_Rc_place (by first | assumption | decide | exact wgIx_lt _ | exact plIx_lt _ | exact sp_recQ_lt | omega) (by first | assumption | decide | exact wgIx_lt _ | exact plIx_lt _ | exact sp_recQ_lt | omega)) rfl ka_q_ml_X3_42 ka_q_im_X2_copyFrom ka_q_se_X2_copyFrom ka_q_in_X2 ka_q_co_X2_copyFrom ky_X2_copyFrom (by decide) (by decide) (Nat.le_of_ble_eq_true rfl) rfl dX3_copyFrom_19 ?_
      refine ka_iinc_2 (v := 1) hC dX3_copyFrom_22 rfl (by decide) ?_
      refine ka_goto (tgt := 2) hC dX3_copyFrom_25 (by decide) ?_
      exact ka_I.back 3 (by first | with_reducible rfl | (simp only [sp_cpPlX_0, sp_cpPlX_s, sp_cpWgX_0, sp_cpWgX_s, nI_1, c4]; done) | (simp only [sp_cpPlX_0, sp_cpPlX_s, sp_cpWgX_0, sp_cpWgX_s, nI_1, if_pos c4, if_neg (not_not_intro c4)]; done) | (simp [sp_cpPlX_0, sp_cpPlX_s, sp_cpWgX_0, sp_cpWgX_s, nI_1, c4]; done) | (simp [sp_cpPlX_0, sp_cpPlX_s, sp_cpWgX_0, sp_cpWgX_s, nI_1, if_pos c4, if_neg (not_not_intro c4)]; done) | contradiction | rfl) (by first | with_reducible rfl | (simp only [sp_cpPlX_0, sp_cpPlX_s, sp_cpWgX_0, sp_cpWgX_s, nI_1, c4]; done) | (simp only [sp_cpPlX_0, sp_cpPlX_s, sp_cpWgX_0, sp_cpWgX_s, nI_1, if_pos c4, if_neg (not_not_intro c4)]; done) | (simp [sp_cpPlX_0, sp_cpPlX_s, sp_cpWgX_0, sp_cpWgX_s, nI_1, c4]; done) | (simp [sp_cpPlX_0, sp_cpPlX_s, sp_cpWgX_0, sp_cpWgX_s, nI_1, if_pos c4, if_neg (not_not_intro c4)]; done) | contradiction | rfl) (ih2 (i + 1) (by omega) (by omega))
theorem ky_X0_size : ka_y yX0_size 0 := by unfold ka_y; decide +kernel
set_option maxHeartbeats 4000000 in
set_option maxRecDepth 100000 in
theorem m_X0_size {G : ka_G} (hG : ka_AD G) {V : ka_W}  : ka_M G yX0_size cX0_size 1 (some FieldType.int) 0 [.ref (ka_ad G 6 0)] (V) (some (.int (V 6 0 2))) (V) := by
  refine ka_entry hG ka_pn_X0 (ka_cat1 rfl) (Nat.le_of_ble_eq_true rfl) (fun X hC hR => ?_)
  refine ka_aload_n hC dX0_size_0 rfl ?_
  refine kg_X0_18  hC dX0_size_1 ?_
  exact ka_iret hC hR dX0_size_4 (by first | with_reducible rfl | (simp only []; done) | (simp only []; done) | (simp []; done) | (simp []; done) | contradiction | rfl) (by first | with_reducible rfl | (simp only []; done) | (simp only []; done) | (simp []; done) | (simp []; done) | contradiction | rfl)
theorem ky_X0_stateAt : ka_y yX0_stateAt 1 := by unfold ka_y; decide +kernel
set_option maxHeartbeats 4000000 in
set_option maxRecDepth 100000 in
theorem m_X0_stateAt {G : ka_G} (hG : ka_AD G) {V : ka_W} {x : Int32}  : ka_M G yX0_stateAt cX0_stateAt 2 (some (FieldType.object RX3)) 1 [.ref (ka_ad G 6 0), .int x] (V) (some (.ref (ka_ad G (2 + cn (sp_fm (V 6 0 1 + x) 4)) 0))) (V) := by
  refine ka_entry hG ka_pn_X0 (ka_cat1 rfl) (Nat.le_of_ble_eq_true rfl) (fun X hC hR => ?_)
  refine ka_aload_n hC dX0_stateAt_0 rfl ?_
  refine kg_X0_11  hC dX0_stateAt_1 ?_
  refine ka_aload_n hC dX0_stateAt_4 rfl ?_
  refine kg_X0_22  hC dX0_stateAt_5 ?_
  refine ka_iload_n hC dX0_stateAt_8 rfl ?_
  refine ka_iadd hC dX0_stateAt_9 ?_
  refine ka_iconst (v := 4) hC dX0_stateAt_10 rfl ?_
  refine ka_callS hC (m_J9_floorMod_7cf53 hG (by decide)) ka_q_ml_X0_25 ka_q_st_J9_floorMod_7cf53 ka_q_in_J9 ka_q_co_J9_floorMod_7cf53 ky_J9_floorMod_7cf53 (by decide) (by decide) (Nat.le_of_ble_eq_true rfl) rfl dX0_stateAt_11 ?_
  refine kq_states  hC (sp_fm_in _) dX0_stateAt_14 ?_
  exact ka_aret hC hR dX0_stateAt_15 (by first | with_reducible rfl | (simp only [cn]; done) | (simp only [cn]; done) | (simp [cn]; done) | (simp [cn]; done) | contradiction | rfl) (by first | with_reducible rfl | (simp only [cn]; done) | (simp only [cn]; done) | (simp [cn]; done) | (simp [cn]; done) | contradiction | rfl)
theorem ky_X0_record : ka_y yX0_record 1 := by unfold ka_y; decide +kernel
set_option maxHeartbeats 4000000 in
set_option maxRecDepth 100000 in
theorem m_X0_record {G : ka_G} (hG : ka_AD G) {V : ka_W} {r : Nat} (h2 : r < 2)  : ka_M G yX0_record cX0_record 2 none 4 [.ref (ka_ad G 6 0), .ref (ka_ad G r 0)] (V) none (sp_record V r) := by
  refine ka_entry hG ka_pn_X0 (ka_cat1 rfl) (Nat.le_of_ble_eq_true rfl) (fun X hC hR => ?_)
  refine ka_aload_n hC dX0_record_0 rfl ?_
  refine kg_X0_18  hC dX0_record_1 ?_
  refine ka_iconst (v := 4) hC dX0_record_4 rfl ?_
  refine ka_icmp_lt (tgt := 32) hC dX0_record_5 (by decide) (fun c5 => ?_) (fun c5 => ?_)
  · skip
    refine ka_I.eqW (V' := sp_rec1 V) (by first | (unfold sp_rec1; rw [if_pos c5]) | (unfold sp_rec1 sp_recM sp_recA; rw [if_neg c5])) ?_
    refine ka_aload_n hC dX0_record_32 rfl ?_
    refine ka_aload_n hC dX0_record_33 rfl ?_
    refine kg_X0_18  hC dX0_record_34 ?_
    refine ka_callV hC (m_X0_stateAt hG) (ka_Rc_hist ) rfl ka_q_ml_X0_31 ka_q_im_X0_stateAt ka_q_se_X0_stateAt ka_q_in_X0 ka_q_co_X0_stateAt ky_X0_stateAt (by decide) (by decide) (Nat.le_of_ble_eq_true rfl) rfl dX0_record_37 ?_
    refine ka_aload_n hC dX0_record_40 rfl ?_
    refine ka_I.eqW (ka_sp_self (V := sp_rec1 V) (r := sp_recQ (sp_rec1 V))).symm ?_
    refine ka_callV hC (m_X3_copyFrom hG (V := sp_rec1 V) (r := sp_recQ (sp_rec1 V)) (r2 := r) sp_recQ_lt (by omega) (sp_recQ_ne h2)) (ka_Rc_pool (by first | assumption | decide | exact wgIx_lt _ | exact plIx_lt _ | exact sp_recQ_lt | omega)) rfl ka_q_ml_X0_35 ka_q_im_X3_copyFrom ka_q_se_X3_copyFrom ka_q_in_X3 ka_q_co_X3_copyFrom ky_X3_copyFrom (by decide) (by decide) (Nat.le_of_ble_eq_true rfl) rfl dX0_record_41 ?_
    refine ka_aload_n hC dX0_record_44 rfl ?_
    refine ka_dup hC dX0_record_45 rfl ?_
    refine kg_X0_18  hC dX0_record_46 ?_
    refine ka_iconst (v := 1) hC dX0_record_49 rfl ?_
    refine ka_iadd hC dX0_record_50 ?_
    refine kp_X0_18  hC dX0_record_51 ?_
    exact ka_vret hC hR dX0_record_54 rfl (by simp only [sp_record, sp_recS, sp_rec2])
  · skip
    refine ka_aload_n hC dX0_record_8 rfl ?_
    refine ka_aload_n hC dX0_record_9 rfl ?_
    refine kg_X0_22  hC dX0_record_10 ?_
    refine ka_iconst (v := 1) hC dX0_record_13 rfl ?_
    refine ka_iadd hC dX0_record_14 ?_
    refine ka_iconst (v := 4) hC dX0_record_15 rfl ?_
    refine ka_callS hC (m_J9_floorMod_7cf53 hG (by decide)) ka_q_ml_X0_25 ka_q_st_J9_floorMod_7cf53 ka_q_in_J9 ka_q_co_J9_floorMod_7cf53 ky_J9_floorMod_7cf53 (by decide) (by decide) (Nat.le_of_ble_eq_true rfl) rfl dX0_record_16 ?_
    refine kp_X0_22  hC dX0_record_19 ?_
    refine ka_aload_n hC dX0_record_22 rfl ?_
    refine ka_dup hC dX0_record_23 rfl ?_
    refine kg_X0_18  hC dX0_record_24 ?_
    refine ka_iconst (v := 1) hC dX0_record_27 rfl ?_
    refine ka_isub hC dX0_record_28 ?_
    refine kp_X0_18  hC dX0_record_29 ?_
    refine ka_I.eqW (V' := sp_rec1 V) (by first | (unfold sp_rec1; rw [if_pos c5]) | (unfold sp_rec1 sp_recM sp_recA; rw [if_neg c5])) ?_
    refine ka_aload_n hC dX0_record_32 rfl ?_
    refine ka_aload_n hC dX0_record_33 rfl ?_
    refine kg_X0_18  hC dX0_record_34 ?_
    refine ka_callV hC (m_X0_stateAt hG) (ka_Rc_hist ) rfl ka_q_ml_X0_31 ka_q_im_X0_stateAt ka_q_se_X0_stateAt ka_q_in_X0 ka_q_co_X0_stateAt ky_X0_stateAt (by decide) (by decide) (Nat.le_of_ble_eq_true rfl) rfl dX0_record_37 ?_
    refine ka_aload_n hC dX0_record_40 rfl ?_
    refine ka_I.eqW (ka_sp_self (V := sp_rec1 V) (r := sp_recQ (sp_rec1 V))).symm ?_
    refine ka_callV hC (m_X3_copyFrom hG (V := sp_rec1 V) (r := sp_recQ (sp_rec1 V)) (r2 := r) sp_recQ_lt (by omega) (sp_recQ_ne h2)) (ka_Rc_pool (by first | assumption | decide | exact wgIx_lt _ | exact plIx_lt _ | exact sp_recQ_lt | omega)) rfl ka_q_ml_X0_35 ka_q_im_X3_copyFrom ka_q_se_X3_copyFrom ka_q_in_X3 ka_q_co_X3_copyFrom ky_X3_copyFrom (by decide) (by decide) (Nat.le_of_ble_eq_true rfl) rfl dX0_record_41 ?_
    refine ka_aload_n hC dX0_record_44 rfl ?_
    refine ka_dup hC dX0_record_45 rfl ?_
    refine kg_X0_18  hC dX0_record_46 ?_
    refine ka_iconst (v := 1) hC dX0_record_49 rfl ?_
    refine ka_iadd hC dX0_record_50 ?_
    refine kp_X0_18  hC dX0_record_51 ?_
    exact ka_vret hC hR dX0_record_54 rfl (by simp only [sp_record, sp_recS, sp_rec2])
theorem ky_X0_takeLatest : ka_y yX0_takeLatest 1 := by unfold ka_y; decide +kernel
set_option maxHeartbeats 4000000 in
set_option maxRecDepth 100000 in
theorem m_X0_takeLatest {G : ka_G} (hG : ka_AD G) {V : ka_W} {r : Nat} (h2 : r < 2)  : ka_M G yX0_takeLatest cX0_takeLatest 2 none 4 [.ref (ka_ad G 6 0), .ref (ka_ad G r 0)] (V) none (sp_take V r) := by
  refine ka_entry hG ka_pn_X0 (ka_cat1 rfl) (Nat.le_of_ble_eq_true rfl) (fun X hC hR => ?_)
  refine ka_aload_n hC dX0_takeLatest_0 rfl ?_
  refine kg_X0_18  hC dX0_takeLatest_1 ?_
  refine ka_if_le (tgt := 29) hC dX0_takeLatest_4 (by decide) (fun c4 => ?_) (fun c4 => ?_)
  · skip
    exact ka_vret hC hR dX0_takeLatest_29 rfl (by first | with_reducible rfl | (simp only [sp_take, c4]; done) | (simp only [sp_take, if_neg c4, if_pos c4]; done) | (simp [sp_take, c4]; done) | (simp [sp_take, if_neg c4, if_pos c4]; done) | contradiction | rfl)
  · skip
    refine ka_aload_n hC dX0_takeLatest_7 rfl ?_
    refine ka_dup hC dX0_takeLatest_8 rfl ?_
    refine kg_X0_18  hC dX0_takeLatest_9 ?_
    refine ka_iconst (v := 1) hC dX0_takeLatest_12 rfl ?_
    refine ka_isub hC dX0_takeLatest_13 ?_
    refine kp_X0_18  hC dX0_takeLatest_14 ?_
    refine ka_aload_n hC dX0_takeLatest_17 rfl ?_
    refine ka_aload_n hC dX0_takeLatest_18 rfl ?_
    refine ka_aload_n hC dX0_takeLatest_19 rfl ?_
    refine kg_X0_18  hC dX0_takeLatest_20 ?_
    refine ka_callV hC (m_X0_stateAt hG) (ka_Rc_hist ) rfl ka_q_ml_X0_31 ka_q_im_X0_stateAt ka_q_se_X0_stateAt ka_q_in_X0 ka_q_co_X0_stateAt ky_X0_stateAt (by decide) (by decide) (Nat.le_of_ble_eq_true rfl) rfl dX0_takeLatest_23 ?_
    refine ka_I.eqW (V' := ka_sp (sp_recM V) r (sp_recM V r)) (by rw [ka_sp_self]; rfl) ?_
    refine ka_callV hC (m_X3_copyFrom hG (V := sp_recM V) (r := r) (r2 := sp_recQ (sp_recM V)) (by omega) sp_recQ_lt (fun e => sp_recQ_ne h2 e.symm)) (ka_Rc_pool (by first | assumption | decide | exact wgIx_lt _ | exact plIx_lt _ | exact sp_recQ_lt | omega)) rfl ka_q_ml_X0_35 ka_q_im_X3_copyFrom ka_q_se_X3_copyFrom ka_q_in_X3 ka_q_co_X3_copyFrom ky_X3_copyFrom (by decide) (by decide) (Nat.le_of_ble_eq_true rfl) rfl dX0_takeLatest_26 ?_
    exact ka_vret hC hR dX0_takeLatest_29 rfl (by first | with_reducible rfl | (simp only [sp_take, c4]; done) | (simp only [sp_take, if_pos c4, if_neg (not_not_intro c4)]; done) | (simp [sp_take, c4]; done) | (simp [sp_take, if_pos c4, if_neg (not_not_intro c4)]; done) | contradiction | rfl)
theorem ky_X1_length : ka_y yX1_length 0 := by unfold ka_y; decide +kernel
set_option maxHeartbeats 4000000 in
set_option maxRecDepth 100000 in
theorem m_X1_length {G : ka_G} (hG : ka_AD G) {V : ka_W} {T : ka_P}  : ka_M G yX1_length cX1_length 1 (some FieldType.int) 0 [.ref (ka_ad G 7 0)] (ka_sp V 7 T) (some (.int (T 0 2))) (ka_sp V 7 T) := by
  refine ka_entry hG ka_pn_X1 (ka_cat1 rfl) (Nat.le_of_ble_eq_true rfl) (fun X hC hR => ?_)
  refine ka_aload_n hC dX1_length_0 rfl ?_
  refine kgp_X1_18  hC dX1_length_1 ?_
  exact ka_iret hC hR dX1_length_4 (by first | with_reducible rfl | (simp only []; done) | (simp only []; done) | (simp []; done) | (simp []; done) | contradiction | rfl) (by first | with_reducible rfl | (simp only []; done) | (simp only []; done) | (simp []; done) | (simp []; done) | contradiction | rfl)
theorem ky_X1_orders : ka_y yX1_orders 0 := by unfold ka_y; decide +kernel
set_option maxHeartbeats 4000000 in
set_option maxRecDepth 100000 in
theorem m_X1_orders {G : ka_G} (hG : ka_AD G) {V : ka_W} {T : ka_P}  : ka_M G yX1_orders cX1_orders 1 (some FieldType.int) 0 [.ref (ka_ad G 7 0)] (ka_sp V 7 T) (some (.int (T 0 5))) (ka_sp V 7 T) := by
  refine ka_entry hG ka_pn_X1 (ka_cat1 rfl) (Nat.le_of_ble_eq_true rfl) (fun X hC hR => ?_)
  refine ka_aload_n hC dX1_orders_0 rfl ?_
  refine kgp_X1_22  hC dX1_orders_1 ?_
  exact ka_iret hC hR dX1_orders_4 (by first | with_reducible rfl | (simp only []; done) | (simp only []; done) | (simp []; done) | (simp []; done) | contradiction | rfl) (by first | with_reducible rfl | (simp only []; done) | (simp only []; done) | (simp []; done) | (simp []; done) | contradiction | rfl)
theorem ky_X1_position : ka_y yX1_position 0 := by unfold ka_y; decide +kernel
set_option maxHeartbeats 4000000 in
set_option maxRecDepth 100000 in
theorem m_X1_position {G : ka_G} (hG : ka_AD G) {V : ka_W} {T : ka_P}  : ka_M G yX1_position cX1_position 1 (some FieldType.int) 0 [.ref (ka_ad G 7 0)] (ka_sp V 7 T) (some (.int (T 0 6))) (ka_sp V 7 T) := by
  refine ka_entry hG ka_pn_X1 (ka_cat1 rfl) (Nat.le_of_ble_eq_true rfl) (fun X hC hR => ?_)
  refine ka_aload_n hC dX1_position_0 rfl ?_
  refine kgp_X1_28  hC dX1_position_1 ?_
  exact ka_iret hC hR dX1_position_4 (by first | with_reducible rfl | (simp only []; done) | (simp only []; done) | (simp []; done) | (simp []; done) | contradiction | rfl) (by first | with_reducible rfl | (simp only []; done) | (simp only []; done) | (simp []; done) | (simp []; done) | contradiction | rfl)
theorem ky_X1_reason : ka_y yX1_reason 0 := by unfold ka_y; decide +kernel
set_option maxHeartbeats 4000000 in
set_option maxRecDepth 100000 in
theorem m_X1_reason {G : ka_G} (hG : ka_AD G) {V : ka_W} {T : ka_P}  : ka_M G yX1_reason cX1_reason 1 (some FieldType.int) 0 [.ref (ka_ad G 7 0)] (ka_sp V 7 T) (some (.int (T 0 7))) (ka_sp V 7 T) := by
  refine ka_entry hG ka_pn_X1 (ka_cat1 rfl) (Nat.le_of_ble_eq_true rfl) (fun X hC hR => ?_)
  refine ka_aload_n hC dX1_reason_0 rfl ?_
  refine kgp_X1_25  hC dX1_reason_1 ?_
  exact ka_iret hC hR dX1_reason_4 (by first | with_reducible rfl | (simp only []; done) | (simp only []; done) | (simp []; done) | (simp []; done) | contradiction | rfl) (by first | with_reducible rfl | (simp only []; done) | (simp only []; done) | (simp []; done) | (simp []; done) | contradiction | rfl)
theorem ky_X1_cause : ka_y yX1_cause 0 := by unfold ka_y; decide +kernel
set_option maxHeartbeats 4000000 in
set_option maxRecDepth 100000 in
theorem m_X1_cause {G : ka_G} (hG : ka_AD G) {V : ka_W} {T : ka_P}  : ka_M G yX1_cause cX1_cause 1 (some FieldType.int) 0 [.ref (ka_ad G 7 0)] (ka_sp V 7 T) (some (.int (T 0 8))) (ka_sp V 7 T) := by
  refine ka_entry hG ka_pn_X1 (ka_cat1 rfl) (Nat.le_of_ble_eq_true rfl) (fun X hC hR => ?_)
  refine ka_aload_n hC dX1_cause_0 rfl ?_
  refine kgp_X1_31  hC dX1_cause_1 ?_
  exact ka_iret hC hR dX1_cause_4 (by first | with_reducible rfl | (simp only []; done) | (simp only []; done) | (simp []; done) | (simp []; done) | contradiction | rfl) (by first | with_reducible rfl | (simp only []; done) | (simp only []; done) | (simp []; done) | (simp []; done) | contradiction | rfl)
theorem ky_X1_hasFault : ka_y yX1_hasFault 0 := by unfold ka_y; decide +kernel
set_option maxHeartbeats 4000000 in
set_option maxRecDepth 100000 in
theorem m_X1_hasFault {G : ka_G} (hG : ka_AD G) {V : ka_W} {T : ka_P}  : ka_M G yX1_hasFault cX1_hasFault 1 (some FieldType.boolean) 0 [.ref (ka_ad G 7 0)] (ka_sp V 7 T) (some (.int (ka_b (ka_t (T 0 7))))) (ka_sp V 7 T) := by
  refine ka_entry hG ka_pn_X1 (ka_cat1 rfl) (Nat.le_of_ble_eq_true rfl) (fun X hC hR => ?_)
  refine ka_aload_n hC dX1_hasFault_0 rfl ?_
  refine kgp_X1_25  hC dX1_hasFault_1 ?_
  refine ka_if_eq (tgt := 11) hC dX1_hasFault_4 (by decide) (fun c4 => ?_) (fun c4 => ?_)
  · skip
    refine ka_iconst (v := 0) hC dX1_hasFault_11 rfl ?_
    exact ka_bret hC hR dX1_hasFault_12 (by first | with_reducible rfl | (simp only [ka_t, ka_b, c4]; done) | (simp only [ka_t, ka_b, if_pos c4, if_neg (not_not_intro c4)]; done) | (simp [ka_t, ka_b, c4]; done) | (simp [ka_t, ka_b, if_pos c4, if_neg (not_not_intro c4)]; done) | contradiction | rfl) rfl (by first | with_reducible rfl | (simp only [ka_t, ka_b, c4]; done) | (simp only [ka_t, ka_b, if_pos c4, if_neg (not_not_intro c4)]; done) | (simp [ka_t, ka_b, c4]; done) | (simp [ka_t, ka_b, if_pos c4, if_neg (not_not_intro c4)]; done) | contradiction | rfl)
  · skip
    refine ka_iconst (v := 1) hC dX1_hasFault_7 rfl ?_
    refine ka_goto (tgt := 12) hC dX1_hasFault_8 (by decide) ?_
    exact ka_bret hC hR dX1_hasFault_12 (by first | with_reducible rfl | (simp only [ka_t, ka_b, c4]; done) | (simp only [ka_t, ka_b, if_neg c4, if_pos c4]; done) | (simp [ka_t, ka_b, c4]; done) | (simp [ka_t, ka_b, if_neg c4, if_pos c4]; done) | contradiction | rfl) rfl (by first | with_reducible rfl | (simp only [ka_t, ka_b, c4]; done) | (simp only [ka_t, ka_b, if_neg c4, if_pos c4]; done) | (simp [ka_t, ka_b, c4]; done) | (simp [ka_t, ka_b, if_neg c4, if_pos c4]; done) | contradiction | rfl)
theorem ky_X1_append : ka_y yX1_append 1 := by unfold ka_y; decide +kernel
set_option maxHeartbeats 4000000 in
set_option maxRecDepth 100000 in
theorem m_X1_append {G : ka_G} (hG : ka_AD G) {V : ka_W} {T : ka_P} {x : Int32}  : ka_M G yX1_append cX1_append 2 (some FieldType.int) 1 [.ref (ka_ad G 7 0), .int x] (ka_sp V 7 T) (some (.int ((st_append T x).1))) (ka_sp V 7 (st_append T x).2) := by
  refine ka_entry hG ka_pn_X1 (ka_cat1 rfl) (Nat.le_of_ble_eq_true rfl) (fun X hC hR => ?_)
  refine ka_iload_n hC dX1_append_0 rfl ?_
  refine ka_bipush (v := 32) hC dX1_append_1 rfl ?_
  refine ka_bipush (v := 126) hC dX1_append_3 rfl ?_
  refine ka_callSN hC (m_X6_within hG) (List.mem_of_getElem? (i := 3) rfl) ka_q_st_X6_within ka_q_in_X6 ka_q_co_X6_within ky_X6_within (by decide) (by decide) (Nat.le_of_ble_eq_true rfl) rfl dX1_append_5 ?_
  refine ka_if_ne_b (tgt := 14) hC dX1_append_8 (by decide) (fun c8 => ?_) (fun c8 => ?_)
  · skip
    refine ka_aload_n hC dX1_append_14 rfl ?_
    refine kgp_X1_18  hC dX1_append_15 ?_
    refine ka_if_lt (tgt := 33) hC dX1_append_18 (by decide) (fun c18 => ?_) (fun c18 => ?_)
    · skip
      refine ka_ldc hC ka_q_cn_X1_39 dX1_append_33 ?_
      exact ka_iret hC hR dX1_append_35 (by first | with_reducible rfl | (simp only [st_append, sp_add, pU, cn, ka_s2, c8, c18]; done) | (simp only [st_append, sp_add, pU, cn, ka_s2, c8, if_pos c18, if_neg (not_not_intro c18)]; done) | (simp [st_append, sp_add, pU, cn, ka_s2, c8, c18]; done) | (simp [st_append, sp_add, pU, cn, ka_s2, c8, if_pos c18, if_neg (not_not_intro c18)]; done) | contradiction | rfl) (by first | with_reducible rfl | (simp only [st_append, sp_add, pU, cn, ka_s2, c8, c18]; done) | (simp only [st_append, sp_add, pU, cn, ka_s2, c8, if_pos c18, if_neg (not_not_intro c18)]; done) | (simp [st_append, sp_add, pU, cn, ka_s2, c8, c18]; done) | (simp [st_append, sp_add, pU, cn, ka_s2, c8, if_pos c18, if_neg (not_not_intro c18)]; done) | contradiction | rfl)
    · skip
      refine ka_aload_n hC dX1_append_21 rfl ?_
      refine kgp_X1_18  hC dX1_append_22 ?_
      refine ka_aload_n hC dX1_append_25 rfl ?_
      refine kg_X1_9  hC dX1_append_26 ?_
      refine kl_signs  hC dX1_append_29 ?_
      refine ka_icmp_lt (tgt := 36) hC dX1_append_30 (by decide) (fun c30 => ?_) (fun c30 => ?_)
      · skip
        refine ka_aload_n hC dX1_append_36 rfl ?_
        refine kg_X1_9  hC dX1_append_37 ?_
        refine ka_aload_n hC dX1_append_40 rfl ?_
        refine kgp_X1_18  hC dX1_append_41 ?_
        refine ka_iload_n hC dX1_append_44 rfl ?_
        refine ksp_signs  hC (ka_vpin 60 rfl (by decide) c18 c30) dX1_append_45 ?_
        refine ka_aload_n hC dX1_append_46 rfl ?_
        refine ka_dup hC dX1_append_47 rfl ?_
        refine kgp_X1_18  hC dX1_append_48 ?_
        refine ka_iconst (v := 1) hC dX1_append_51 rfl ?_
        refine ka_iadd hC dX1_append_52 ?_
        refine kpp_X1_18  hC dX1_append_53 ?_
        refine ka_aload_n hC dX1_append_56 rfl ?_
        refine kgp_X1_18  hC dX1_append_57 ?_
        exact ka_iret hC hR dX1_append_60 (by simp only [st_append, c8]; rw [if_neg (by decide), if_neg c18, if_neg (not_not_intro c30)]; rfl) (by simp only [st_append, c8]; rw [if_neg (by decide), if_neg c18, if_neg (not_not_intro c30)]; rfl)
      · skip
        refine ka_ldc hC ka_q_cn_X1_39 dX1_append_33 ?_
        exact ka_iret hC hR dX1_append_35 (by first | with_reducible rfl | (simp only [st_append, sp_add, pU, cn, ka_s2, c8, c18, c30]; done) | (simp only [st_append, sp_add, pU, cn, ka_s2, c8, if_neg c18, if_pos c18, if_neg c30, if_pos c30]; done) | (simp [st_append, sp_add, pU, cn, ka_s2, c8, c18, c30]; done) | (simp [st_append, sp_add, pU, cn, ka_s2, c8, if_neg c18, if_pos c18, if_neg c30, if_pos c30]; done) | contradiction | rfl) (by first | with_reducible rfl | (simp only [st_append, sp_add, pU, cn, ka_s2, c8, c18, c30]; done) | (simp only [st_append, sp_add, pU, cn, ka_s2, c8, if_neg c18, if_pos c18, if_neg c30, if_pos c30]; done) | (simp [st_append, sp_add, pU, cn, ka_s2, c8, c18, c30]; done) | (simp [st_append, sp_add, pU, cn, ka_s2, c8, if_neg c18, if_pos c18, if_neg c30, if_pos c30]; done) | contradiction | rfl)
  · skip
    refine ka_ldc hC ka_q_cn_X1_38 dX1_append_11 ?_
    exact ka_iret hC hR dX1_append_13 (by first | with_reducible rfl | (simp only [st_append, sp_add, pU, cn, ka_s2, c8]; done) | (simp only [st_append, sp_add, pU, cn, ka_s2, c8]; done) | (simp [st_append, sp_add, pU, cn, ka_s2, c8]; done) | (simp [st_append, sp_add, pU, cn, ka_s2, c8]; done) | contradiction | rfl) (by first | with_reducible rfl | (simp only [st_append, sp_add, pU, cn, ka_s2, c8]; done) | (simp only [st_append, sp_add, pU, cn, ka_s2, c8]; done) | (simp [st_append, sp_add, pU, cn, ka_s2, c8]; done) | (simp [st_append, sp_add, pU, cn, ka_s2, c8]; done) | contradiction | rfl)
theorem ky_X1_clear : ka_y yX1_clear 0 := by unfold ka_y; decide +kernel
set_option maxHeartbeats 4000000 in
set_option maxRecDepth 100000 in
theorem m_X1_clear {G : ka_G} (hG : ka_AD G) {V : ka_W} {T : ka_P}  : ka_M G yX1_clear cX1_clear 2 (some FieldType.int) 0 [.ref (ka_ad G 7 0)] (ka_sp V 7 T) (some (.int (T 0 2))) (ka_sp V 7 (pU T 0 2 0)) := by
  refine ka_entry hG ka_pn_X1 (ka_cat1 rfl) (Nat.le_of_ble_eq_true rfl) (fun X hC hR => ?_)
  refine ka_aload_n hC dX1_clear_0 rfl ?_
  refine kgp_X1_18  hC dX1_clear_1 ?_
  refine ka_istore_n_p1 hC dX1_clear_4 (by decide) ?_
  refine ka_aload_n hC dX1_clear_5 rfl ?_
  refine ka_iconst (v := 0) hC dX1_clear_6 rfl ?_
  refine kpp_X1_18  hC dX1_clear_7 ?_
  refine ka_iload_n hC dX1_clear_10 rfl ?_
  exact ka_iret hC hR dX1_clear_11 (by first | with_reducible rfl | (simp only [pU]; done) | (simp only [pU]; done) | (simp [pU]; done) | (simp [pU]; done) | contradiction | rfl) (by first | with_reducible rfl | (simp only [pU]; done) | (simp only [pU]; done) | (simp [pU]; done) | (simp [pU]; done) | contradiction | rfl)
theorem ky_X1_blame : ka_y yX1_blame 3 := by unfold ka_y; decide +kernel
set_option maxHeartbeats 4000000 in
set_option maxRecDepth 100000 in
theorem m_X1_blame {G : ka_G} (hG : ka_AD G) {V : ka_W} {T : ka_P} {a b c : Int32}  : ka_M G yX1_blame cX1_blame 4 none 0 [.ref (ka_ad G 7 0), .int a, .int b, .int c] (ka_sp V 7 T) none (ka_sp V 7 (st_blame T a b c)) := by
  refine ka_entry hG ka_pn_X1 (ka_cat1 rfl) (Nat.le_of_ble_eq_true rfl) (fun X hC hR => ?_)
  refine ka_aload_n hC dX1_blame_0 rfl ?_
  refine ka_iload_n hC dX1_blame_1 rfl ?_
  refine kpp_X1_28  hC dX1_blame_2 ?_
  refine ka_aload_n hC dX1_blame_5 rfl ?_
  refine ka_iload_n hC dX1_blame_6 rfl ?_
  refine kpp_X1_25  hC dX1_blame_7 ?_
  refine ka_aload_n hC dX1_blame_10 rfl ?_
  refine ka_iload_n hC dX1_blame_11 rfl ?_
  refine kpp_X1_31  hC dX1_blame_12 ?_
  exact ka_vret hC hR dX1_blame_15 rfl (by first | with_reducible rfl | (simp only [st_blame, pU]; done) | (simp only [st_blame, pU]; done) | (simp [st_blame, pU]; done) | (simp [st_blame, pU]; done) | contradiction | rfl)
theorem ky_X1_signAt : ka_y yX1_signAt 1 := by unfold ka_y; decide +kernel
set_option maxHeartbeats 4000000 in
set_option maxRecDepth 100000 in
theorem m_X1_signAt {G : ka_G} (hG : ka_AD G) {V : ka_W} {T : ka_P} {x : Int32}  : ka_M G yX1_signAt cX1_signAt 2 (some FieldType.int) 0 [.ref (ka_ad G 7 0), .int x] (ka_sp V 7 T) (some (.int (st_signAt T x))) (ka_sp V 7 T) := by
  refine ka_entry hG ka_pn_X1 (ka_cat1 rfl) (Nat.le_of_ble_eq_true rfl) (fun X hC hR => ?_)
  refine ka_iload_n hC dX1_signAt_0 rfl ?_
  refine ka_if_lt (tgt := 30) hC dX1_signAt_1 (by decide) (fun c1 => ?_) (fun c1 => ?_)
  · skip
    refine ka_iconst (v := (-1)) hC dX1_signAt_30 rfl ?_
    exact ka_iret hC hR dX1_signAt_31 (by first | with_reducible rfl | (simp only [st_signAt, cn, c1]; done) | (simp only [st_signAt, cn, if_pos c1, if_neg (not_not_intro c1)]; done) | (simp [st_signAt, cn, c1]; done) | (simp [st_signAt, cn, if_pos c1, if_neg (not_not_intro c1)]; done) | contradiction | rfl) (by first | with_reducible rfl | (simp only [st_signAt, cn, c1]; done) | (simp only [st_signAt, cn, if_pos c1, if_neg (not_not_intro c1)]; done) | (simp [st_signAt, cn, c1]; done) | (simp [st_signAt, cn, if_pos c1, if_neg (not_not_intro c1)]; done) | contradiction | rfl)
  · skip
    refine ka_iload_n hC dX1_signAt_4 rfl ?_
    refine ka_aload_n hC dX1_signAt_5 rfl ?_
    refine kg_X1_9  hC dX1_signAt_6 ?_
    refine kl_signs  hC dX1_signAt_9 ?_
    refine ka_icmp_ge (tgt := 30) hC dX1_signAt_10 (by decide) (fun c10 => ?_) (fun c10 => ?_)
    · skip
      refine ka_iconst (v := (-1)) hC dX1_signAt_30 rfl ?_
      exact ka_iret hC hR dX1_signAt_31 (by first | with_reducible rfl | (simp only [st_signAt, cn, c1, c10]; done) | (simp only [st_signAt, cn, if_neg c1, if_pos c1, if_neg c10, if_pos c10]; done) | (simp [st_signAt, cn, c1, c10]; done) | (simp [st_signAt, cn, if_neg c1, if_pos c1, if_neg c10, if_pos c10]; done) | contradiction | rfl) (by first | with_reducible rfl | (simp only [st_signAt, cn, c1, c10]; done) | (simp only [st_signAt, cn, if_neg c1, if_pos c1, if_neg c10, if_pos c10]; done) | (simp [st_signAt, cn, c1, c10]; done) | (simp [st_signAt, cn, if_neg c1, if_pos c1, if_neg c10, if_pos c10]; done) | contradiction | rfl)
    · skip
      refine ka_iload_n hC dX1_signAt_13 rfl ?_
      refine ka_aload_n hC dX1_signAt_14 rfl ?_
      refine kgp_X1_18  hC dX1_signAt_15 ?_
      refine ka_icmp_ge (tgt := 30) hC dX1_signAt_18 (by decide) (fun c18 => ?_) (fun c18 => ?_)
      · skip
        refine ka_iconst (v := (-1)) hC dX1_signAt_30 rfl ?_
        exact ka_iret hC hR dX1_signAt_31 (by first | with_reducible rfl | (simp only [st_signAt, cn, c1, c10, c18]; done) | (simp only [st_signAt, cn, if_neg c1, if_pos c1, if_pos c10, if_neg (not_not_intro c10), if_neg c18, if_pos c18]; done) | (simp [st_signAt, cn, c1, c10, c18]; done) | (simp [st_signAt, cn, if_neg c1, if_pos c1, if_pos c10, if_neg (not_not_intro c10), if_neg c18, if_pos c18]; done) | contradiction | rfl) (by first | with_reducible rfl | (simp only [st_signAt, cn, c1, c10, c18]; done) | (simp only [st_signAt, cn, if_neg c1, if_pos c1, if_pos c10, if_neg (not_not_intro c10), if_neg c18, if_pos c18]; done) | (simp [st_signAt, cn, c1, c10, c18]; done) | (simp [st_signAt, cn, if_neg c1, if_pos c1, if_pos c10, if_neg (not_not_intro c10), if_neg c18, if_pos c18]; done) | contradiction | rfl)
      · skip
        refine ka_aload_n hC dX1_signAt_21 rfl ?_
        refine kg_X1_9  hC dX1_signAt_22 ?_
        refine ka_iload_n hC dX1_signAt_25 rfl ?_
        refine kip_signs  hC (ka_vpin 60 rfl (by decide) c1 c10) dX1_signAt_26 ?_
        refine ka_goto (tgt := 31) hC dX1_signAt_27 (by decide) ?_
        exact ka_iret hC hR dX1_signAt_31 (by first | with_reducible rfl | (simp only [st_signAt, cn, c1, c10, c18]; done) | (simp only [st_signAt, cn, if_neg c1, if_pos c1, if_pos c10, if_neg (not_not_intro c10), if_pos c18, if_neg (not_not_intro c18)]; done) | (simp [st_signAt, cn, c1, c10, c18]; done) | (simp [st_signAt, cn, if_neg c1, if_pos c1, if_pos c10, if_neg (not_not_intro c10), if_pos c18, if_neg (not_not_intro c18)]; done) | contradiction | rfl) (by first | with_reducible rfl | (simp only [st_signAt, cn, c1, c10, c18]; done) | (simp only [st_signAt, cn, if_neg c1, if_pos c1, if_pos c10, if_neg (not_not_intro c10), if_pos c18, if_neg (not_not_intro c18)]; done) | (simp [st_signAt, cn, c1, c10, c18]; done) | (simp [st_signAt, cn, if_neg c1, if_pos c1, if_pos c10, if_neg (not_not_intro c10), if_pos c18, if_neg (not_not_intro c18)]; done) | contradiction | rfl)
theorem ky_X1_isDigit : ka_y yX1_isDigit 1 := by unfold ka_y; decide +kernel
set_option maxHeartbeats 4000000 in
set_option maxRecDepth 100000 in
theorem m_X1_isDigit {G : ka_G} (hG : ka_AD G) {V : ka_W} {x : Int32}  : ka_M G yX1_isDigit cX1_isDigit 1 (some FieldType.boolean) 0 [.int x] (V) (some (.int (ka_b (kw x 48 57)))) (V) := by
  refine ka_entry hG ka_pn_X1 (ka_cat1 rfl) (Nat.le_of_ble_eq_true rfl) (fun X hC hR => ?_)
  refine ka_iload_n hC dX1_isDigit_0 rfl ?_
  refine ka_bipush (v := 48) hC dX1_isDigit_1 rfl ?_
  refine ka_icmp_lt (tgt := 16) hC dX1_isDigit_3 (by decide) (fun c3 => ?_) (fun c3 => ?_)
  · skip
    refine ka_iconst (v := 0) hC dX1_isDigit_16 rfl ?_
    exact ka_bret hC hR dX1_isDigit_17 (by first | with_reducible rfl | (simp only [kw, ka_b, c3]; done) | (simp only [kw, ka_b, if_pos c3, if_neg (not_not_intro c3)]; done) | (simp [kw, ka_b, c3]; done) | (simp [kw, ka_b, if_pos c3, if_neg (not_not_intro c3)]; done) | contradiction | rfl) rfl (by first | with_reducible rfl | (simp only [kw, ka_b, c3]; done) | (simp only [kw, ka_b, if_pos c3, if_neg (not_not_intro c3)]; done) | (simp [kw, ka_b, c3]; done) | (simp [kw, ka_b, if_pos c3, if_neg (not_not_intro c3)]; done) | contradiction | rfl)
  · skip
    refine ka_iload_n hC dX1_isDigit_6 rfl ?_
    refine ka_bipush (v := 57) hC dX1_isDigit_7 rfl ?_
    refine ka_icmp_gt (tgt := 16) hC dX1_isDigit_9 (by decide) (fun c9 => ?_) (fun c9 => ?_)
    · skip
      refine ka_iconst (v := 0) hC dX1_isDigit_16 rfl ?_
      exact ka_bret hC hR dX1_isDigit_17 (by first | with_reducible rfl | (simp only [kw, ka_b, c3, c9]; done) | (simp only [kw, ka_b, if_neg c3, if_pos c3, if_pos c9, if_neg (not_not_intro c9)]; done) | (simp [kw, ka_b, c3, c9]; done) | (simp [kw, ka_b, if_neg c3, if_pos c3, if_pos c9, if_neg (not_not_intro c9)]; done) | contradiction | rfl) rfl (by first | with_reducible rfl | (simp only [kw, ka_b, c3, c9]; done) | (simp only [kw, ka_b, if_neg c3, if_pos c3, if_pos c9, if_neg (not_not_intro c9)]; done) | (simp [kw, ka_b, c3, c9]; done) | (simp [kw, ka_b, if_neg c3, if_pos c3, if_pos c9, if_neg (not_not_intro c9)]; done) | contradiction | rfl)
    · skip
      refine ka_iconst (v := 1) hC dX1_isDigit_12 rfl ?_
      refine ka_goto (tgt := 17) hC dX1_isDigit_13 (by decide) ?_
      exact ka_bret hC hR dX1_isDigit_17 (by first | with_reducible rfl | (simp only [kw, ka_b, c3, c9]; done) | (simp only [kw, ka_b, if_neg c3, if_pos c3, if_neg c9, if_pos c9]; done) | (simp [kw, ka_b, c3, c9]; done) | (simp [kw, ka_b, if_neg c3, if_pos c3, if_neg c9, if_pos c9]; done) | contradiction | rfl) rfl (by first | with_reducible rfl | (simp only [kw, ka_b, c3, c9]; done) | (simp only [kw, ka_b, if_neg c3, if_pos c3, if_neg c9, if_pos c9]; done) | (simp [kw, ka_b, c3, c9]; done) | (simp [kw, ka_b, if_neg c3, if_pos c3, if_neg c9, if_pos c9]; done) | contradiction | rfl)
theorem ky_X1_numbersOf : ka_y yX1_numbersOf 1 := by unfold ka_y; decide +kernel
set_option maxHeartbeats 4000000 in
set_option maxRecDepth 100000 in
theorem m_X1_numbersOf {G : ka_G} (hG : ka_AD G) {V : ka_W} {x : Int32}  : ka_M G yX1_numbersOf cX1_numbersOf 1 (some FieldType.int) 0 [.int x] (V) (some (.int (st_numbersOf x))) (V) := by
  refine ka_entry hG ka_pn_X1 (ka_cat1 rfl) (Nat.le_of_ble_eq_true rfl) (fun X hC hR => ?_)
  refine ka_iload_n hC dX1_numbersOf_0 rfl ?_
  by_cases c1_100 : x = 100
  · skip
    refine ka_tsIn (tgt := 96) hC dX1_numbersOf_1 (by rw [c1_100]; decide) (by rw [c1_100]; decide) (by rw [c1_100]; rfl) (by decide) ?_
    refine ka_iconst (v := 1) hC dX1_numbersOf_96 rfl ?_
    exact ka_iret hC hR dX1_numbersOf_97 (by first | with_reducible rfl | (simp only [st_numbersOf, c1_100]; done) | (simp only [st_numbersOf, if_pos c1_100, if_neg (not_not_intro c1_100)]; done) | (simp [st_numbersOf, c1_100]; done) | (simp [st_numbersOf, if_pos c1_100, if_neg (not_not_intro c1_100)]; done) | contradiction | rfl) (by first | with_reducible rfl | (simp only [st_numbersOf, c1_100]; done) | (simp only [st_numbersOf, if_pos c1_100, if_neg (not_not_intro c1_100)]; done) | (simp [st_numbersOf, c1_100]; done) | (simp [st_numbersOf, if_pos c1_100, if_neg (not_not_intro c1_100)]; done) | contradiction | rfl)
  by_cases c1_108 : x = 108
  · skip
    refine ka_tsIn (tgt := 96) hC dX1_numbersOf_1 (by rw [c1_108]; decide) (by rw [c1_108]; decide) (by rw [c1_108]; rfl) (by decide) ?_
    refine ka_iconst (v := 1) hC dX1_numbersOf_96 rfl ?_
    exact ka_iret hC hR dX1_numbersOf_97 (by first | with_reducible rfl | (simp only [st_numbersOf, c1_100, c1_108]; done) | (simp only [st_numbersOf, if_neg c1_100, if_pos c1_100, if_pos c1_108, if_neg (not_not_intro c1_108)]; done) | (simp [st_numbersOf, c1_100, c1_108]; done) | (simp [st_numbersOf, if_neg c1_100, if_pos c1_100, if_pos c1_108, if_neg (not_not_intro c1_108)]; done) | contradiction | rfl) (by first | with_reducible rfl | (simp only [st_numbersOf, c1_100, c1_108]; done) | (simp only [st_numbersOf, if_neg c1_100, if_pos c1_100, if_pos c1_108, if_neg (not_not_intro c1_108)]; done) | (simp [st_numbersOf, c1_100, c1_108]; done) | (simp [st_numbersOf, if_neg c1_100, if_pos c1_100, if_pos c1_108, if_neg (not_not_intro c1_108)]; done) | contradiction | rfl)
  by_cases c1_114 : x = 114
  · skip
    refine ka_tsIn (tgt := 96) hC dX1_numbersOf_1 (by rw [c1_114]; decide) (by rw [c1_114]; decide) (by rw [c1_114]; rfl) (by decide) ?_
    refine ka_iconst (v := 1) hC dX1_numbersOf_96 rfl ?_
    exact ka_iret hC hR dX1_numbersOf_97 (by first | with_reducible rfl | (simp only [st_numbersOf, c1_100, c1_108, c1_114]; done) | (simp only [st_numbersOf, if_neg c1_100, if_pos c1_100, if_neg c1_108, if_pos c1_108, if_pos c1_114, if_neg (not_not_intro c1_114)]; done) | (simp [st_numbersOf, c1_100, c1_108, c1_114]; done) | (simp [st_numbersOf, if_neg c1_100, if_pos c1_100, if_neg c1_108, if_pos c1_108, if_pos c1_114, if_neg (not_not_intro c1_114)]; done) | contradiction | rfl) (by first | with_reducible rfl | (simp only [st_numbersOf, c1_100, c1_108, c1_114]; done) | (simp only [st_numbersOf, if_neg c1_100, if_pos c1_100, if_neg c1_108, if_pos c1_108, if_pos c1_114, if_neg (not_not_intro c1_114)]; done) | (simp [st_numbersOf, c1_100, c1_108, c1_114]; done) | (simp [st_numbersOf, if_neg c1_100, if_pos c1_100, if_neg c1_108, if_pos c1_108, if_pos c1_114, if_neg (not_not_intro c1_114)]; done) | contradiction | rfl)
  by_cases c1_116 : x = 116
  · skip
    refine ka_tsIn (tgt := 98) hC dX1_numbersOf_1 (by rw [c1_116]; decide) (by rw [c1_116]; decide) (by rw [c1_116]; rfl) (by decide) ?_
    refine ka_iconst (v := 4) hC dX1_numbersOf_98 rfl ?_
    exact ka_iret hC hR dX1_numbersOf_99 (by first | with_reducible rfl | (simp only [st_numbersOf, c1_100, c1_108, c1_114, c1_116]; done) | (simp only [st_numbersOf, if_neg c1_100, if_pos c1_100, if_neg c1_108, if_pos c1_108, if_neg c1_114, if_pos c1_114, if_pos c1_116, if_neg (not_not_intro c1_116)]; done) | (simp [st_numbersOf, c1_100, c1_108, c1_114, c1_116]; done) | (simp [st_numbersOf, if_neg c1_100, if_pos c1_100, if_neg c1_108, if_pos c1_108, if_neg c1_114, if_pos c1_114, if_pos c1_116, if_neg (not_not_intro c1_116)]; done) | contradiction | rfl) (by first | with_reducible rfl | (simp only [st_numbersOf, c1_100, c1_108, c1_114, c1_116]; done) | (simp only [st_numbersOf, if_neg c1_100, if_pos c1_100, if_neg c1_108, if_pos c1_108, if_neg c1_114, if_pos c1_114, if_pos c1_116, if_neg (not_not_intro c1_116)]; done) | (simp [st_numbersOf, c1_100, c1_108, c1_114, c1_116]; done) | (simp [st_numbersOf, if_neg c1_100, if_pos c1_100, if_neg c1_108, if_pos c1_108, if_neg c1_114, if_pos c1_114, if_pos c1_116, if_neg (not_not_intro c1_116)]; done) | contradiction | rfl)
  by_cases c1_117 : x = 117
  · skip
    refine ka_tsIn (tgt := 96) hC dX1_numbersOf_1 (by rw [c1_117]; decide) (by rw [c1_117]; decide) (by rw [c1_117]; rfl) (by decide) ?_
    refine ka_iconst (v := 1) hC dX1_numbersOf_96 rfl ?_
    exact ka_iret hC hR dX1_numbersOf_97 (by first | with_reducible rfl | (simp only [st_numbersOf, c1_100, c1_108, c1_114, c1_116, c1_117]; done) | (simp only [st_numbersOf, if_neg c1_100, if_pos c1_100, if_neg c1_108, if_pos c1_108, if_neg c1_114, if_pos c1_114, if_neg c1_116, if_pos c1_116, if_pos c1_117, if_neg (not_not_intro c1_117)]; done) | (simp [st_numbersOf, c1_100, c1_108, c1_114, c1_116, c1_117]; done) | (simp [st_numbersOf, if_neg c1_100, if_pos c1_100, if_neg c1_108, if_pos c1_108, if_neg c1_114, if_pos c1_114, if_neg c1_116, if_pos c1_116, if_pos c1_117, if_neg (not_not_intro c1_117)]; done) | contradiction | rfl) (by first | with_reducible rfl | (simp only [st_numbersOf, c1_100, c1_108, c1_114, c1_116, c1_117]; done) | (simp only [st_numbersOf, if_neg c1_100, if_pos c1_100, if_neg c1_108, if_pos c1_108, if_neg c1_114, if_pos c1_114, if_neg c1_116, if_pos c1_116, if_pos c1_117, if_neg (not_not_intro c1_117)]; done) | (simp [st_numbersOf, c1_100, c1_108, c1_114, c1_116, c1_117]; done) | (simp [st_numbersOf, if_neg c1_100, if_pos c1_100, if_neg c1_108, if_pos c1_108, if_neg c1_114, if_pos c1_114, if_neg c1_116, if_pos c1_116, if_pos c1_117, if_neg (not_not_intro c1_117)]; done) | contradiction | rfl)
  by_cases c1_119 : x = 119
  · skip
    refine ka_tsIn (tgt := 96) hC dX1_numbersOf_1 (by rw [c1_119]; decide) (by rw [c1_119]; decide) (by rw [c1_119]; rfl) (by decide) ?_
    refine ka_iconst (v := 1) hC dX1_numbersOf_96 rfl ?_
    exact ka_iret hC hR dX1_numbersOf_97 (by first | with_reducible rfl | (simp only [st_numbersOf, c1_100, c1_108, c1_114, c1_116, c1_117, c1_119]; done) | (simp only [st_numbersOf, if_neg c1_100, if_pos c1_100, if_neg c1_108, if_pos c1_108, if_neg c1_114, if_pos c1_114, if_neg c1_116, if_pos c1_116, if_neg c1_117, if_pos c1_117, if_pos c1_119, if_neg (not_not_intro c1_119)]; done) | (simp [st_numbersOf, c1_100, c1_108, c1_114, c1_116, c1_117, c1_119]; done) | (simp [st_numbersOf, if_neg c1_100, if_pos c1_100, if_neg c1_108, if_pos c1_108, if_neg c1_114, if_pos c1_114, if_neg c1_116, if_pos c1_116, if_neg c1_117, if_pos c1_117, if_pos c1_119, if_neg (not_not_intro c1_119)]; done) | contradiction | rfl) (by first | with_reducible rfl | (simp only [st_numbersOf, c1_100, c1_108, c1_114, c1_116, c1_117, c1_119]; done) | (simp only [st_numbersOf, if_neg c1_100, if_pos c1_100, if_neg c1_108, if_pos c1_108, if_neg c1_114, if_pos c1_114, if_neg c1_116, if_pos c1_116, if_neg c1_117, if_pos c1_117, if_pos c1_119, if_neg (not_not_intro c1_119)]; done) | (simp [st_numbersOf, c1_100, c1_108, c1_114, c1_116, c1_117, c1_119]; done) | (simp [st_numbersOf, if_neg c1_100, if_pos c1_100, if_neg c1_108, if_pos c1_108, if_neg c1_114, if_pos c1_114, if_neg c1_116, if_pos c1_116, if_neg c1_117, if_pos c1_117, if_pos c1_119, if_neg (not_not_intro c1_119)]; done) | contradiction | rfl)
  by_cases c1_101 : x = 101
  · skip
    refine ka_tsIn (tgt := 100) hC dX1_numbersOf_1 (by rw [c1_101]; decide) (by rw [c1_101]; decide) (by rw [c1_101]; rfl) (by decide) ?_
    refine ka_iconst (v := 0) hC dX1_numbersOf_100 rfl ?_
    exact ka_iret hC hR dX1_numbersOf_101 (by first | with_reducible rfl | (simp only [st_numbersOf, c1_100, c1_108, c1_114, c1_116, c1_117, c1_119, c1_101]; done) | (simp only [st_numbersOf, if_neg c1_100, if_pos c1_100, if_neg c1_108, if_pos c1_108, if_neg c1_114, if_pos c1_114, if_neg c1_116, if_pos c1_116, if_neg c1_117, if_pos c1_117, if_neg c1_119, if_pos c1_119, if_pos c1_101, if_neg (not_not_intro c1_101)]; done) | (simp [st_numbersOf, c1_100, c1_108, c1_114, c1_116, c1_117, c1_119, c1_101]; done) | (simp [st_numbersOf, if_neg c1_100, if_pos c1_100, if_neg c1_108, if_pos c1_108, if_neg c1_114, if_pos c1_114, if_neg c1_116, if_pos c1_116, if_neg c1_117, if_pos c1_117, if_neg c1_119, if_pos c1_119, if_pos c1_101, if_neg (not_not_intro c1_101)]; done) | contradiction | rfl) (by first | with_reducible rfl | (simp only [st_numbersOf, c1_100, c1_108, c1_114, c1_116, c1_117, c1_119, c1_101]; done) | (simp only [st_numbersOf, if_neg c1_100, if_pos c1_100, if_neg c1_108, if_pos c1_108, if_neg c1_114, if_pos c1_114, if_neg c1_116, if_pos c1_116, if_neg c1_117, if_pos c1_117, if_neg c1_119, if_pos c1_119, if_pos c1_101, if_neg (not_not_intro c1_101)]; done) | (simp [st_numbersOf, c1_100, c1_108, c1_114, c1_116, c1_117, c1_119, c1_101]; done) | (simp [st_numbersOf, if_neg c1_100, if_pos c1_100, if_neg c1_108, if_pos c1_108, if_neg c1_114, if_pos c1_114, if_neg c1_116, if_pos c1_116, if_neg c1_117, if_pos c1_117, if_neg c1_119, if_pos c1_119, if_pos c1_101, if_neg (not_not_intro c1_101)]; done) | contradiction | rfl)
  by_cases c1_102 : x = 102
  · skip
    refine ka_tsIn (tgt := 100) hC dX1_numbersOf_1 (by rw [c1_102]; decide) (by rw [c1_102]; decide) (by rw [c1_102]; rfl) (by decide) ?_
    refine ka_iconst (v := 0) hC dX1_numbersOf_100 rfl ?_
    exact ka_iret hC hR dX1_numbersOf_101 (by first | with_reducible rfl | (simp only [st_numbersOf, c1_100, c1_108, c1_114, c1_116, c1_117, c1_119, c1_101, c1_102]; done) | (simp only [st_numbersOf, if_neg c1_100, if_pos c1_100, if_neg c1_108, if_pos c1_108, if_neg c1_114, if_pos c1_114, if_neg c1_116, if_pos c1_116, if_neg c1_117, if_pos c1_117, if_neg c1_119, if_pos c1_119, if_neg c1_101, if_pos c1_101, if_pos c1_102, if_neg (not_not_intro c1_102)]; done) | (simp [st_numbersOf, c1_100, c1_108, c1_114, c1_116, c1_117, c1_119, c1_101, c1_102]; done) | (simp [st_numbersOf, if_neg c1_100, if_pos c1_100, if_neg c1_108, if_pos c1_108, if_neg c1_114, if_pos c1_114, if_neg c1_116, if_pos c1_116, if_neg c1_117, if_pos c1_117, if_neg c1_119, if_pos c1_119, if_neg c1_101, if_pos c1_101, if_pos c1_102, if_neg (not_not_intro c1_102)]; done) | contradiction | rfl) (by first | with_reducible rfl | (simp only [st_numbersOf, c1_100, c1_108, c1_114, c1_116, c1_117, c1_119, c1_101, c1_102]; done) | (simp only [st_numbersOf, if_neg c1_100, if_pos c1_100, if_neg c1_108, if_pos c1_108, if_neg c1_114, if_pos c1_114, if_neg c1_116, if_pos c1_116, if_neg c1_117, if_pos c1_117, if_neg c1_119, if_pos c1_119, if_neg c1_101, if_pos c1_101, if_pos c1_102, if_neg (not_not_intro c1_102)]; done) | (simp [st_numbersOf, c1_100, c1_108, c1_114, c1_116, c1_117, c1_119, c1_101, c1_102]; done) | (simp [st_numbersOf, if_neg c1_100, if_pos c1_100, if_neg c1_108, if_pos c1_108, if_neg c1_114, if_pos c1_114, if_neg c1_116, if_pos c1_116, if_neg c1_117, if_pos c1_117, if_neg c1_119, if_pos c1_119, if_neg c1_101, if_pos c1_101, if_pos c1_102, if_neg (not_not_intro c1_102)]; done) | contradiction | rfl)
  by_cases c1_103 : x = 103
  · skip
    refine ka_tsIn (tgt := 100) hC dX1_numbersOf_1 (by rw [c1_103]; decide) (by rw [c1_103]; decide) (by rw [c1_103]; rfl) (by decide) ?_
    refine ka_iconst (v := 0) hC dX1_numbersOf_100 rfl ?_
    exact ka_iret hC hR dX1_numbersOf_101 (by first | with_reducible rfl | (simp only [st_numbersOf, c1_100, c1_108, c1_114, c1_116, c1_117, c1_119, c1_101, c1_102, c1_103]; done) | (simp only [st_numbersOf, if_neg c1_100, if_pos c1_100, if_neg c1_108, if_pos c1_108, if_neg c1_114, if_pos c1_114, if_neg c1_116, if_pos c1_116, if_neg c1_117, if_pos c1_117, if_neg c1_119, if_pos c1_119, if_neg c1_101, if_pos c1_101, if_neg c1_102, if_pos c1_102, if_pos c1_103, if_neg (not_not_intro c1_103)]; done) | (simp [st_numbersOf, c1_100, c1_108, c1_114, c1_116, c1_117, c1_119, c1_101, c1_102, c1_103]; done) | (simp [st_numbersOf, if_neg c1_100, if_pos c1_100, if_neg c1_108, if_pos c1_108, if_neg c1_114, if_pos c1_114, if_neg c1_116, if_pos c1_116, if_neg c1_117, if_pos c1_117, if_neg c1_119, if_pos c1_119, if_neg c1_101, if_pos c1_101, if_neg c1_102, if_pos c1_102, if_pos c1_103, if_neg (not_not_intro c1_103)]; done) | contradiction | rfl) (by first | with_reducible rfl | (simp only [st_numbersOf, c1_100, c1_108, c1_114, c1_116, c1_117, c1_119, c1_101, c1_102, c1_103]; done) | (simp only [st_numbersOf, if_neg c1_100, if_pos c1_100, if_neg c1_108, if_pos c1_108, if_neg c1_114, if_pos c1_114, if_neg c1_116, if_pos c1_116, if_neg c1_117, if_pos c1_117, if_neg c1_119, if_pos c1_119, if_neg c1_101, if_pos c1_101, if_neg c1_102, if_pos c1_102, if_pos c1_103, if_neg (not_not_intro c1_103)]; done) | (simp [st_numbersOf, c1_100, c1_108, c1_114, c1_116, c1_117, c1_119, c1_101, c1_102, c1_103]; done) | (simp [st_numbersOf, if_neg c1_100, if_pos c1_100, if_neg c1_108, if_pos c1_108, if_neg c1_114, if_pos c1_114, if_neg c1_116, if_pos c1_116, if_neg c1_117, if_pos c1_117, if_neg c1_119, if_pos c1_119, if_neg c1_101, if_pos c1_101, if_neg c1_102, if_pos c1_102, if_pos c1_103, if_neg (not_not_intro c1_103)]; done) | contradiction | rfl)
  by_cases c1_104 : x = 104
  · skip
    refine ka_tsIn (tgt := 100) hC dX1_numbersOf_1 (by rw [c1_104]; decide) (by rw [c1_104]; decide) (by rw [c1_104]; rfl) (by decide) ?_
    refine ka_iconst (v := 0) hC dX1_numbersOf_100 rfl ?_
    exact ka_iret hC hR dX1_numbersOf_101 (by first | with_reducible rfl | (simp only [st_numbersOf, c1_100, c1_108, c1_114, c1_116, c1_117, c1_119, c1_101, c1_102, c1_103, c1_104]; done) | (simp only [st_numbersOf, if_neg c1_100, if_pos c1_100, if_neg c1_108, if_pos c1_108, if_neg c1_114, if_pos c1_114, if_neg c1_116, if_pos c1_116, if_neg c1_117, if_pos c1_117, if_neg c1_119, if_pos c1_119, if_neg c1_101, if_pos c1_101, if_neg c1_102, if_pos c1_102, if_neg c1_103, if_pos c1_103, if_pos c1_104, if_neg (not_not_intro c1_104)]; done) | (simp [st_numbersOf, c1_100, c1_108, c1_114, c1_116, c1_117, c1_119, c1_101, c1_102, c1_103, c1_104]; done) | (simp [st_numbersOf, if_neg c1_100, if_pos c1_100, if_neg c1_108, if_pos c1_108, if_neg c1_114, if_pos c1_114, if_neg c1_116, if_pos c1_116, if_neg c1_117, if_pos c1_117, if_neg c1_119, if_pos c1_119, if_neg c1_101, if_pos c1_101, if_neg c1_102, if_pos c1_102, if_neg c1_103, if_pos c1_103, if_pos c1_104, if_neg (not_not_intro c1_104)]; done) | contradiction | rfl) (by first | with_reducible rfl | (simp only [st_numbersOf, c1_100, c1_108, c1_114, c1_116, c1_117, c1_119, c1_101, c1_102, c1_103, c1_104]; done) | (simp only [st_numbersOf, if_neg c1_100, if_pos c1_100, if_neg c1_108, if_pos c1_108, if_neg c1_114, if_pos c1_114, if_neg c1_116, if_pos c1_116, if_neg c1_117, if_pos c1_117, if_neg c1_119, if_pos c1_119, if_neg c1_101, if_pos c1_101, if_neg c1_102, if_pos c1_102, if_neg c1_103, if_pos c1_103, if_pos c1_104, if_neg (not_not_intro c1_104)]; done) | (simp [st_numbersOf, c1_100, c1_108, c1_114, c1_116, c1_117, c1_119, c1_101, c1_102, c1_103, c1_104]; done) | (simp [st_numbersOf, if_neg c1_100, if_pos c1_100, if_neg c1_108, if_pos c1_108, if_neg c1_114, if_pos c1_114, if_neg c1_116, if_pos c1_116, if_neg c1_117, if_pos c1_117, if_neg c1_119, if_pos c1_119, if_neg c1_101, if_pos c1_101, if_neg c1_102, if_pos c1_102, if_neg c1_103, if_pos c1_103, if_pos c1_104, if_neg (not_not_intro c1_104)]; done) | contradiction | rfl)
  by_cases c1_105 : x = 105
  · skip
    refine ka_tsIn (tgt := 100) hC dX1_numbersOf_1 (by rw [c1_105]; decide) (by rw [c1_105]; decide) (by rw [c1_105]; rfl) (by decide) ?_
    refine ka_iconst (v := 0) hC dX1_numbersOf_100 rfl ?_
    exact ka_iret hC hR dX1_numbersOf_101 (by first | with_reducible rfl | (simp only [st_numbersOf, c1_100, c1_108, c1_114, c1_116, c1_117, c1_119, c1_101, c1_102, c1_103, c1_104, c1_105]; done) | (simp only [st_numbersOf, if_neg c1_100, if_pos c1_100, if_neg c1_108, if_pos c1_108, if_neg c1_114, if_pos c1_114, if_neg c1_116, if_pos c1_116, if_neg c1_117, if_pos c1_117, if_neg c1_119, if_pos c1_119, if_neg c1_101, if_pos c1_101, if_neg c1_102, if_pos c1_102, if_neg c1_103, if_pos c1_103, if_neg c1_104, if_pos c1_104, if_pos c1_105, if_neg (not_not_intro c1_105)]; done) | (simp [st_numbersOf, c1_100, c1_108, c1_114, c1_116, c1_117, c1_119, c1_101, c1_102, c1_103, c1_104, c1_105]; done) | (simp [st_numbersOf, if_neg c1_100, if_pos c1_100, if_neg c1_108, if_pos c1_108, if_neg c1_114, if_pos c1_114, if_neg c1_116, if_pos c1_116, if_neg c1_117, if_pos c1_117, if_neg c1_119, if_pos c1_119, if_neg c1_101, if_pos c1_101, if_neg c1_102, if_pos c1_102, if_neg c1_103, if_pos c1_103, if_neg c1_104, if_pos c1_104, if_pos c1_105, if_neg (not_not_intro c1_105)]; done) | contradiction | rfl) (by first | with_reducible rfl | (simp only [st_numbersOf, c1_100, c1_108, c1_114, c1_116, c1_117, c1_119, c1_101, c1_102, c1_103, c1_104, c1_105]; done) | (simp only [st_numbersOf, if_neg c1_100, if_pos c1_100, if_neg c1_108, if_pos c1_108, if_neg c1_114, if_pos c1_114, if_neg c1_116, if_pos c1_116, if_neg c1_117, if_pos c1_117, if_neg c1_119, if_pos c1_119, if_neg c1_101, if_pos c1_101, if_neg c1_102, if_pos c1_102, if_neg c1_103, if_pos c1_103, if_neg c1_104, if_pos c1_104, if_pos c1_105, if_neg (not_not_intro c1_105)]; done) | (simp [st_numbersOf, c1_100, c1_108, c1_114, c1_116, c1_117, c1_119, c1_101, c1_102, c1_103, c1_104, c1_105]; done) | (simp [st_numbersOf, if_neg c1_100, if_pos c1_100, if_neg c1_108, if_pos c1_108, if_neg c1_114, if_pos c1_114, if_neg c1_116, if_pos c1_116, if_neg c1_117, if_pos c1_117, if_neg c1_119, if_pos c1_119, if_neg c1_101, if_pos c1_101, if_neg c1_102, if_pos c1_102, if_neg c1_103, if_pos c1_103, if_neg c1_104, if_pos c1_104, if_pos c1_105, if_neg (not_not_intro c1_105)]; done) | contradiction | rfl)
  by_cases c1_106 : x = 106
  · skip
    refine ka_tsIn (tgt := 100) hC dX1_numbersOf_1 (by rw [c1_106]; decide) (by rw [c1_106]; decide) (by rw [c1_106]; rfl) (by decide) ?_
    refine ka_iconst (v := 0) hC dX1_numbersOf_100 rfl ?_
    exact ka_iret hC hR dX1_numbersOf_101 (by first | with_reducible rfl | (simp only [st_numbersOf, c1_100, c1_108, c1_114, c1_116, c1_117, c1_119, c1_101, c1_102, c1_103, c1_104, c1_105, c1_106]; done) | (simp only [st_numbersOf, if_neg c1_100, if_pos c1_100, if_neg c1_108, if_pos c1_108, if_neg c1_114, if_pos c1_114, if_neg c1_116, if_pos c1_116, if_neg c1_117, if_pos c1_117, if_neg c1_119, if_pos c1_119, if_neg c1_101, if_pos c1_101, if_neg c1_102, if_pos c1_102, if_neg c1_103, if_pos c1_103, if_neg c1_104, if_pos c1_104, if_neg c1_105, if_pos c1_105, if_pos c1_106, if_neg (not_not_intro c1_106)]; done) | (simp [st_numbersOf, c1_100, c1_108, c1_114, c1_116, c1_117, c1_119, c1_101, c1_102, c1_103, c1_104, c1_105, c1_106]; done) | (simp [st_numbersOf, if_neg c1_100, if_pos c1_100, if_neg c1_108, if_pos c1_108, if_neg c1_114, if_pos c1_114, if_neg c1_116, if_pos c1_116, if_neg c1_117, if_pos c1_117, if_neg c1_119, if_pos c1_119, if_neg c1_101, if_pos c1_101, if_neg c1_102, if_pos c1_102, if_neg c1_103, if_pos c1_103, if_neg c1_104, if_pos c1_104, if_neg c1_105, if_pos c1_105, if_pos c1_106, if_neg (not_not_intro c1_106)]; done) | contradiction | rfl) (by first | with_reducible rfl | (simp only [st_numbersOf, c1_100, c1_108, c1_114, c1_116, c1_117, c1_119, c1_101, c1_102, c1_103, c1_104, c1_105, c1_106]; done) | (simp only [st_numbersOf, if_neg c1_100, if_pos c1_100, if_neg c1_108, if_pos c1_108, if_neg c1_114, if_pos c1_114, if_neg c1_116, if_pos c1_116, if_neg c1_117, if_pos c1_117, if_neg c1_119, if_pos c1_119, if_neg c1_101, if_pos c1_101, if_neg c1_102, if_pos c1_102, if_neg c1_103, if_pos c1_103, if_neg c1_104, if_pos c1_104, if_neg c1_105, if_pos c1_105, if_pos c1_106, if_neg (not_not_intro c1_106)]; done) | (simp [st_numbersOf, c1_100, c1_108, c1_114, c1_116, c1_117, c1_119, c1_101, c1_102, c1_103, c1_104, c1_105, c1_106]; done) | (simp [st_numbersOf, if_neg c1_100, if_pos c1_100, if_neg c1_108, if_pos c1_108, if_neg c1_114, if_pos c1_114, if_neg c1_116, if_pos c1_116, if_neg c1_117, if_pos c1_117, if_neg c1_119, if_pos c1_119, if_neg c1_101, if_pos c1_101, if_neg c1_102, if_pos c1_102, if_neg c1_103, if_pos c1_103, if_neg c1_104, if_pos c1_104, if_neg c1_105, if_pos c1_105, if_pos c1_106, if_neg (not_not_intro c1_106)]; done) | contradiction | rfl)
  by_cases c1_107 : x = 107
  · skip
    refine ka_tsIn (tgt := 100) hC dX1_numbersOf_1 (by rw [c1_107]; decide) (by rw [c1_107]; decide) (by rw [c1_107]; rfl) (by decide) ?_
    refine ka_iconst (v := 0) hC dX1_numbersOf_100 rfl ?_
    exact ka_iret hC hR dX1_numbersOf_101 (by first | with_reducible rfl | (simp only [st_numbersOf, c1_100, c1_108, c1_114, c1_116, c1_117, c1_119, c1_101, c1_102, c1_103, c1_104, c1_105, c1_106, c1_107]; done) | (simp only [st_numbersOf, if_neg c1_100, if_pos c1_100, if_neg c1_108, if_pos c1_108, if_neg c1_114, if_pos c1_114, if_neg c1_116, if_pos c1_116, if_neg c1_117, if_pos c1_117, if_neg c1_119, if_pos c1_119, if_neg c1_101, if_pos c1_101, if_neg c1_102, if_pos c1_102, if_neg c1_103, if_pos c1_103, if_neg c1_104, if_pos c1_104, if_neg c1_105, if_pos c1_105, if_neg c1_106, if_pos c1_106, if_pos c1_107, if_neg (not_not_intro c1_107)]; done) | (simp [st_numbersOf, c1_100, c1_108, c1_114, c1_116, c1_117, c1_119, c1_101, c1_102, c1_103, c1_104, c1_105, c1_106, c1_107]; done) | (simp [st_numbersOf, if_neg c1_100, if_pos c1_100, if_neg c1_108, if_pos c1_108, if_neg c1_114, if_pos c1_114, if_neg c1_116, if_pos c1_116, if_neg c1_117, if_pos c1_117, if_neg c1_119, if_pos c1_119, if_neg c1_101, if_pos c1_101, if_neg c1_102, if_pos c1_102, if_neg c1_103, if_pos c1_103, if_neg c1_104, if_pos c1_104, if_neg c1_105, if_pos c1_105, if_neg c1_106, if_pos c1_106, if_pos c1_107, if_neg (not_not_intro c1_107)]; done) | contradiction | rfl) (by first | with_reducible rfl | (simp only [st_numbersOf, c1_100, c1_108, c1_114, c1_116, c1_117, c1_119, c1_101, c1_102, c1_103, c1_104, c1_105, c1_106, c1_107]; done) | (simp only [st_numbersOf, if_neg c1_100, if_pos c1_100, if_neg c1_108, if_pos c1_108, if_neg c1_114, if_pos c1_114, if_neg c1_116, if_pos c1_116, if_neg c1_117, if_pos c1_117, if_neg c1_119, if_pos c1_119, if_neg c1_101, if_pos c1_101, if_neg c1_102, if_pos c1_102, if_neg c1_103, if_pos c1_103, if_neg c1_104, if_pos c1_104, if_neg c1_105, if_pos c1_105, if_neg c1_106, if_pos c1_106, if_pos c1_107, if_neg (not_not_intro c1_107)]; done) | (simp [st_numbersOf, c1_100, c1_108, c1_114, c1_116, c1_117, c1_119, c1_101, c1_102, c1_103, c1_104, c1_105, c1_106, c1_107]; done) | (simp [st_numbersOf, if_neg c1_100, if_pos c1_100, if_neg c1_108, if_pos c1_108, if_neg c1_114, if_pos c1_114, if_neg c1_116, if_pos c1_116, if_neg c1_117, if_pos c1_117, if_neg c1_119, if_pos c1_119, if_neg c1_101, if_pos c1_101, if_neg c1_102, if_pos c1_102, if_neg c1_103, if_pos c1_103, if_neg c1_104, if_pos c1_104, if_neg c1_105, if_pos c1_105, if_neg c1_106, if_pos c1_106, if_pos c1_107, if_neg (not_not_intro c1_107)]; done) | contradiction | rfl)
  by_cases c1_109 : x = 109
  · skip
    refine ka_tsIn (tgt := 100) hC dX1_numbersOf_1 (by rw [c1_109]; decide) (by rw [c1_109]; decide) (by rw [c1_109]; rfl) (by decide) ?_
    refine ka_iconst (v := 0) hC dX1_numbersOf_100 rfl ?_
    exact ka_iret hC hR dX1_numbersOf_101 (by first | with_reducible rfl | (simp only [st_numbersOf, c1_100, c1_108, c1_114, c1_116, c1_117, c1_119, c1_101, c1_102, c1_103, c1_104, c1_105, c1_106, c1_107, c1_109]; done) | (simp only [st_numbersOf, if_neg c1_100, if_pos c1_100, if_neg c1_108, if_pos c1_108, if_neg c1_114, if_pos c1_114, if_neg c1_116, if_pos c1_116, if_neg c1_117, if_pos c1_117, if_neg c1_119, if_pos c1_119, if_neg c1_101, if_pos c1_101, if_neg c1_102, if_pos c1_102, if_neg c1_103, if_pos c1_103, if_neg c1_104, if_pos c1_104, if_neg c1_105, if_pos c1_105, if_neg c1_106, if_pos c1_106, if_neg c1_107, if_pos c1_107, if_pos c1_109, if_neg (not_not_intro c1_109)]; done) | (simp [st_numbersOf, c1_100, c1_108, c1_114, c1_116, c1_117, c1_119, c1_101, c1_102, c1_103, c1_104, c1_105, c1_106, c1_107, c1_109]; done) | (simp [st_numbersOf, if_neg c1_100, if_pos c1_100, if_neg c1_108, if_pos c1_108, if_neg c1_114, if_pos c1_114, if_neg c1_116, if_pos c1_116, if_neg c1_117, if_pos c1_117, if_neg c1_119, if_pos c1_119, if_neg c1_101, if_pos c1_101, if_neg c1_102, if_pos c1_102, if_neg c1_103, if_pos c1_103, if_neg c1_104, if_pos c1_104, if_neg c1_105, if_pos c1_105, if_neg c1_106, if_pos c1_106, if_neg c1_107, if_pos c1_107, if_pos c1_109, if_neg (not_not_intro c1_109)]; done) | contradiction | rfl) (by first | with_reducible rfl | (simp only [st_numbersOf, c1_100, c1_108, c1_114, c1_116, c1_117, c1_119, c1_101, c1_102, c1_103, c1_104, c1_105, c1_106, c1_107, c1_109]; done) | (simp only [st_numbersOf, if_neg c1_100, if_pos c1_100, if_neg c1_108, if_pos c1_108, if_neg c1_114, if_pos c1_114, if_neg c1_116, if_pos c1_116, if_neg c1_117, if_pos c1_117, if_neg c1_119, if_pos c1_119, if_neg c1_101, if_pos c1_101, if_neg c1_102, if_pos c1_102, if_neg c1_103, if_pos c1_103, if_neg c1_104, if_pos c1_104, if_neg c1_105, if_pos c1_105, if_neg c1_106, if_pos c1_106, if_neg c1_107, if_pos c1_107, if_pos c1_109, if_neg (not_not_intro c1_109)]; done) | (simp [st_numbersOf, c1_100, c1_108, c1_114, c1_116, c1_117, c1_119, c1_101, c1_102, c1_103, c1_104, c1_105, c1_106, c1_107, c1_109]; done) | (simp [st_numbersOf, if_neg c1_100, if_pos c1_100, if_neg c1_108, if_pos c1_108, if_neg c1_114, if_pos c1_114, if_neg c1_116, if_pos c1_116, if_neg c1_117, if_pos c1_117, if_neg c1_119, if_pos c1_119, if_neg c1_101, if_pos c1_101, if_neg c1_102, if_pos c1_102, if_neg c1_103, if_pos c1_103, if_neg c1_104, if_pos c1_104, if_neg c1_105, if_pos c1_105, if_neg c1_106, if_pos c1_106, if_neg c1_107, if_pos c1_107, if_pos c1_109, if_neg (not_not_intro c1_109)]; done) | contradiction | rfl)
  by_cases c1_110 : x = 110
  · skip
    refine ka_tsIn (tgt := 100) hC dX1_numbersOf_1 (by rw [c1_110]; decide) (by rw [c1_110]; decide) (by rw [c1_110]; rfl) (by decide) ?_
    refine ka_iconst (v := 0) hC dX1_numbersOf_100 rfl ?_
    exact ka_iret hC hR dX1_numbersOf_101 (by first | with_reducible rfl | (simp only [st_numbersOf, c1_100, c1_108, c1_114, c1_116, c1_117, c1_119, c1_101, c1_102, c1_103, c1_104, c1_105, c1_106, c1_107, c1_109, c1_110]; done) | (simp only [st_numbersOf, if_neg c1_100, if_pos c1_100, if_neg c1_108, if_pos c1_108, if_neg c1_114, if_pos c1_114, if_neg c1_116, if_pos c1_116, if_neg c1_117, if_pos c1_117, if_neg c1_119, if_pos c1_119, if_neg c1_101, if_pos c1_101, if_neg c1_102, if_pos c1_102, if_neg c1_103, if_pos c1_103, if_neg c1_104, if_pos c1_104, if_neg c1_105, if_pos c1_105, if_neg c1_106, if_pos c1_106, if_neg c1_107, if_pos c1_107, if_neg c1_109, if_pos c1_109, if_pos c1_110, if_neg (not_not_intro c1_110)]; done) | (simp [st_numbersOf, c1_100, c1_108, c1_114, c1_116, c1_117, c1_119, c1_101, c1_102, c1_103, c1_104, c1_105, c1_106, c1_107, c1_109, c1_110]; done) | (simp [st_numbersOf, if_neg c1_100, if_pos c1_100, if_neg c1_108, if_pos c1_108, if_neg c1_114, if_pos c1_114, if_neg c1_116, if_pos c1_116, if_neg c1_117, if_pos c1_117, if_neg c1_119, if_pos c1_119, if_neg c1_101, if_pos c1_101, if_neg c1_102, if_pos c1_102, if_neg c1_103, if_pos c1_103, if_neg c1_104, if_pos c1_104, if_neg c1_105, if_pos c1_105, if_neg c1_106, if_pos c1_106, if_neg c1_107, if_pos c1_107, if_neg c1_109, if_pos c1_109, if_pos c1_110, if_neg (not_not_intro c1_110)]; done) | contradiction | rfl) (by first | with_reducible rfl | (simp only [st_numbersOf, c1_100, c1_108, c1_114, c1_116, c1_117, c1_119, c1_101, c1_102, c1_103, c1_104, c1_105, c1_106, c1_107, c1_109, c1_110]; done) | (simp only [st_numbersOf, if_neg c1_100, if_pos c1_100, if_neg c1_108, if_pos c1_108, if_neg c1_114, if_pos c1_114, if_neg c1_116, if_pos c1_116, if_neg c1_117, if_pos c1_117, if_neg c1_119, if_pos c1_119, if_neg c1_101, if_pos c1_101, if_neg c1_102, if_pos c1_102, if_neg c1_103, if_pos c1_103, if_neg c1_104, if_pos c1_104, if_neg c1_105, if_pos c1_105, if_neg c1_106, if_pos c1_106, if_neg c1_107, if_pos c1_107, if_neg c1_109, if_pos c1_109, if_pos c1_110, if_neg (not_not_intro c1_110)]; done) | (simp [st_numbersOf, c1_100, c1_108, c1_114, c1_116, c1_117, c1_119, c1_101, c1_102, c1_103, c1_104, c1_105, c1_106, c1_107, c1_109, c1_110]; done) | (simp [st_numbersOf, if_neg c1_100, if_pos c1_100, if_neg c1_108, if_pos c1_108, if_neg c1_114, if_pos c1_114, if_neg c1_116, if_pos c1_116, if_neg c1_117, if_pos c1_117, if_neg c1_119, if_pos c1_119, if_neg c1_101, if_pos c1_101, if_neg c1_102, if_pos c1_102, if_neg c1_103, if_pos c1_103, if_neg c1_104, if_pos c1_104, if_neg c1_105, if_pos c1_105, if_neg c1_106, if_pos c1_106, if_neg c1_107, if_pos c1_107, if_neg c1_109, if_pos c1_109, if_pos c1_110, if_neg (not_not_intro c1_110)]; done) | contradiction | rfl)
  by_cases c1_111 : x = 111
  · skip
    refine ka_tsIn (tgt := 100) hC dX1_numbersOf_1 (by rw [c1_111]; decide) (by rw [c1_111]; decide) (by rw [c1_111]; rfl) (by decide) ?_
    refine ka_iconst (v := 0) hC dX1_numbersOf_100 rfl ?_
    exact ka_iret hC hR dX1_numbersOf_101 (by first | with_reducible rfl | (simp only [st_numbersOf, c1_100, c1_108, c1_114, c1_116, c1_117, c1_119, c1_101, c1_102, c1_103, c1_104, c1_105, c1_106, c1_107, c1_109, c1_110, c1_111]; done) | (simp only [st_numbersOf, if_neg c1_100, if_pos c1_100, if_neg c1_108, if_pos c1_108, if_neg c1_114, if_pos c1_114, if_neg c1_116, if_pos c1_116, if_neg c1_117, if_pos c1_117, if_neg c1_119, if_pos c1_119, if_neg c1_101, if_pos c1_101, if_neg c1_102, if_pos c1_102, if_neg c1_103, if_pos c1_103, if_neg c1_104, if_pos c1_104, if_neg c1_105, if_pos c1_105, if_neg c1_106, if_pos c1_106, if_neg c1_107, if_pos c1_107, if_neg c1_109, if_pos c1_109, if_neg c1_110, if_pos c1_110, if_pos c1_111, if_neg (not_not_intro c1_111)]; done) | (simp [st_numbersOf, c1_100, c1_108, c1_114, c1_116, c1_117, c1_119, c1_101, c1_102, c1_103, c1_104, c1_105, c1_106, c1_107, c1_109, c1_110, c1_111]; done) | (simp [st_numbersOf, if_neg c1_100, if_pos c1_100, if_neg c1_108, if_pos c1_108, if_neg c1_114, if_pos c1_114, if_neg c1_116, if_pos c1_116, if_neg c1_117, if_pos c1_117, if_neg c1_119, if_pos c1_119, if_neg c1_101, if_pos c1_101, if_neg c1_102, if_pos c1_102, if_neg c1_103, if_pos c1_103, if_neg c1_104, if_pos c1_104, if_neg c1_105, if_pos c1_105, if_neg c1_106, if_pos c1_106, if_neg c1_107, if_pos c1_107, if_neg c1_109, if_pos c1_109, if_neg c1_110, if_pos c1_110, if_pos c1_111, if_neg (not_not_intro c1_111)]; done) | contradiction | rfl) (by first | with_reducible rfl | (simp only [st_numbersOf, c1_100, c1_108, c1_114, c1_116, c1_117, c1_119, c1_101, c1_102, c1_103, c1_104, c1_105, c1_106, c1_107, c1_109, c1_110, c1_111]; done) | (simp only [st_numbersOf, if_neg c1_100, if_pos c1_100, if_neg c1_108, if_pos c1_108, if_neg c1_114, if_pos c1_114, if_neg c1_116, if_pos c1_116, if_neg c1_117, if_pos c1_117, if_neg c1_119, if_pos c1_119, if_neg c1_101, if_pos c1_101, if_neg c1_102, if_pos c1_102, if_neg c1_103, if_pos c1_103, if_neg c1_104, if_pos c1_104, if_neg c1_105, if_pos c1_105, if_neg c1_106, if_pos c1_106, if_neg c1_107, if_pos c1_107, if_neg c1_109, if_pos c1_109, if_neg c1_110, if_pos c1_110, if_pos c1_111, if_neg (not_not_intro c1_111)]; done) | (simp [st_numbersOf, c1_100, c1_108, c1_114, c1_116, c1_117, c1_119, c1_101, c1_102, c1_103, c1_104, c1_105, c1_106, c1_107, c1_109, c1_110, c1_111]; done) | (simp [st_numbersOf, if_neg c1_100, if_pos c1_100, if_neg c1_108, if_pos c1_108, if_neg c1_114, if_pos c1_114, if_neg c1_116, if_pos c1_116, if_neg c1_117, if_pos c1_117, if_neg c1_119, if_pos c1_119, if_neg c1_101, if_pos c1_101, if_neg c1_102, if_pos c1_102, if_neg c1_103, if_pos c1_103, if_neg c1_104, if_pos c1_104, if_neg c1_105, if_pos c1_105, if_neg c1_106, if_pos c1_106, if_neg c1_107, if_pos c1_107, if_neg c1_109, if_pos c1_109, if_neg c1_110, if_pos c1_110, if_pos c1_111, if_neg (not_not_intro c1_111)]; done) | contradiction | rfl)
  by_cases c1_112 : x = 112
  · skip
    refine ka_tsIn (tgt := 100) hC dX1_numbersOf_1 (by rw [c1_112]; decide) (by rw [c1_112]; decide) (by rw [c1_112]; rfl) (by decide) ?_
    refine ka_iconst (v := 0) hC dX1_numbersOf_100 rfl ?_
    exact ka_iret hC hR dX1_numbersOf_101 (by first | with_reducible rfl | (simp only [st_numbersOf, c1_100, c1_108, c1_114, c1_116, c1_117, c1_119, c1_101, c1_102, c1_103, c1_104, c1_105, c1_106, c1_107, c1_109, c1_110, c1_111, c1_112]; done) | (simp only [st_numbersOf, if_neg c1_100, if_pos c1_100, if_neg c1_108, if_pos c1_108, if_neg c1_114, if_pos c1_114, if_neg c1_116, if_pos c1_116, if_neg c1_117, if_pos c1_117, if_neg c1_119, if_pos c1_119, if_neg c1_101, if_pos c1_101, if_neg c1_102, if_pos c1_102, if_neg c1_103, if_pos c1_103, if_neg c1_104, if_pos c1_104, if_neg c1_105, if_pos c1_105, if_neg c1_106, if_pos c1_106, if_neg c1_107, if_pos c1_107, if_neg c1_109, if_pos c1_109, if_neg c1_110, if_pos c1_110, if_neg c1_111, if_pos c1_111, if_pos c1_112, if_neg (not_not_intro c1_112)]; done) | (simp [st_numbersOf, c1_100, c1_108, c1_114, c1_116, c1_117, c1_119, c1_101, c1_102, c1_103, c1_104, c1_105, c1_106, c1_107, c1_109, c1_110, c1_111, c1_112]; done) | (simp [st_numbersOf, if_neg c1_100, if_pos c1_100, if_neg c1_108, if_pos c1_108, if_neg c1_114, if_pos c1_114, if_neg c1_116, if_pos c1_116, if_neg c1_117, if_pos c1_117, if_neg c1_119, if_pos c1_119, if_neg c1_101, if_pos c1_101, if_neg c1_102, if_pos c1_102, if_neg c1_103, if_pos c1_103, if_neg c1_104, if_pos c1_104, if_neg c1_105, if_pos c1_105, if_neg c1_106, if_pos c1_106, if_neg c1_107, if_pos c1_107, if_neg c1_109, if_pos c1_109, if_neg c1_110, if_pos c1_110, if_neg c1_111, if_pos c1_111, if_pos c1_112, if_neg (not_not_intro c1_112)]; done) | contradiction | rfl) (by first | with_reducible rfl | (simp only [st_numbersOf, c1_100, c1_108, c1_114, c1_116, c1_117, c1_119, c1_101, c1_102, c1_103, c1_104, c1_105, c1_106, c1_107, c1_109, c1_110, c1_111, c1_112]; done) | (simp only [st_numbersOf, if_neg c1_100, if_pos c1_100, if_neg c1_108, if_pos c1_108, if_neg c1_114, if_pos c1_114, if_neg c1_116, if_pos c1_116, if_neg c1_117, if_pos c1_117, if_neg c1_119, if_pos c1_119, if_neg c1_101, if_pos c1_101, if_neg c1_102, if_pos c1_102, if_neg c1_103, if_pos c1_103, if_neg c1_104, if_pos c1_104, if_neg c1_105, if_pos c1_105, if_neg c1_106, if_pos c1_106, if_neg c1_107, if_pos c1_107, if_neg c1_109, if_pos c1_109, if_neg c1_110, if_pos c1_110, if_neg c1_111, if_pos c1_111, if_pos c1_112, if_neg (not_not_intro c1_112)]; done) | (simp [st_numbersOf, c1_100, c1_108, c1_114, c1_116, c1_117, c1_119, c1_101, c1_102, c1_103, c1_104, c1_105, c1_106, c1_107, c1_109, c1_110, c1_111, c1_112]; done) | (simp [st_numbersOf, if_neg c1_100, if_pos c1_100, if_neg c1_108, if_pos c1_108, if_neg c1_114, if_pos c1_114, if_neg c1_116, if_pos c1_116, if_neg c1_117, if_pos c1_117, if_neg c1_119, if_pos c1_119, if_neg c1_101, if_pos c1_101, if_neg c1_102, if_pos c1_102, if_neg c1_103, if_pos c1_103, if_neg c1_104, if_pos c1_104, if_neg c1_105, if_pos c1_105, if_neg c1_106, if_pos c1_106, if_neg c1_107, if_pos c1_107, if_neg c1_109, if_pos c1_109, if_neg c1_110, if_pos c1_110, if_neg c1_111, if_pos c1_111, if_pos c1_112, if_neg (not_not_intro c1_112)]; done) | contradiction | rfl)
  by_cases c1_113 : x = 113
  · skip
    refine ka_tsIn (tgt := 100) hC dX1_numbersOf_1 (by rw [c1_113]; decide) (by rw [c1_113]; decide) (by rw [c1_113]; rfl) (by decide) ?_
    refine ka_iconst (v := 0) hC dX1_numbersOf_100 rfl ?_
    exact ka_iret hC hR dX1_numbersOf_101 (by first | with_reducible rfl | (simp only [st_numbersOf, c1_100, c1_108, c1_114, c1_116, c1_117, c1_119, c1_101, c1_102, c1_103, c1_104, c1_105, c1_106, c1_107, c1_109, c1_110, c1_111, c1_112, c1_113]; done) | (simp only [st_numbersOf, if_neg c1_100, if_pos c1_100, if_neg c1_108, if_pos c1_108, if_neg c1_114, if_pos c1_114, if_neg c1_116, if_pos c1_116, if_neg c1_117, if_pos c1_117, if_neg c1_119, if_pos c1_119, if_neg c1_101, if_pos c1_101, if_neg c1_102, if_pos c1_102, if_neg c1_103, if_pos c1_103, if_neg c1_104, if_pos c1_104, if_neg c1_105, if_pos c1_105, if_neg c1_106, if_pos c1_106, if_neg c1_107, if_pos c1_107, if_neg c1_109, if_pos c1_109, if_neg c1_110, if_pos c1_110, if_neg c1_111, if_pos c1_111, if_neg c1_112, if_pos c1_112, if_pos c1_113, if_neg (not_not_intro c1_113)]; done) | (simp [st_numbersOf, c1_100, c1_108, c1_114, c1_116, c1_117, c1_119, c1_101, c1_102, c1_103, c1_104, c1_105, c1_106, c1_107, c1_109, c1_110, c1_111, c1_112, c1_113]; done) | (simp [st_numbersOf, if_neg c1_100, if_pos c1_100, if_neg c1_108, if_pos c1_108, if_neg c1_114, if_pos c1_114, if_neg c1_116, if_pos c1_116, if_neg c1_117, if_pos c1_117, if_neg c1_119, if_pos c1_119, if_neg c1_101, if_pos c1_101, if_neg c1_102, if_pos c1_102, if_neg c1_103, if_pos c1_103, if_neg c1_104, if_pos c1_104, if_neg c1_105, if_pos c1_105, if_neg c1_106, if_pos c1_106, if_neg c1_107, if_pos c1_107, if_neg c1_109, if_pos c1_109, if_neg c1_110, if_pos c1_110, if_neg c1_111, if_pos c1_111, if_neg c1_112, if_pos c1_112, if_pos c1_113, if_neg (not_not_intro c1_113)]; done) | contradiction | rfl) (by first | with_reducible rfl | (simp only [st_numbersOf, c1_100, c1_108, c1_114, c1_116, c1_117, c1_119, c1_101, c1_102, c1_103, c1_104, c1_105, c1_106, c1_107, c1_109, c1_110, c1_111, c1_112, c1_113]; done) | (simp only [st_numbersOf, if_neg c1_100, if_pos c1_100, if_neg c1_108, if_pos c1_108, if_neg c1_114, if_pos c1_114, if_neg c1_116, if_pos c1_116, if_neg c1_117, if_pos c1_117, if_neg c1_119, if_pos c1_119, if_neg c1_101, if_pos c1_101, if_neg c1_102, if_pos c1_102, if_neg c1_103, if_pos c1_103, if_neg c1_104, if_pos c1_104, if_neg c1_105, if_pos c1_105, if_neg c1_106, if_pos c1_106, if_neg c1_107, if_pos c1_107, if_neg c1_109, if_pos c1_109, if_neg c1_110, if_pos c1_110, if_neg c1_111, if_pos c1_111, if_neg c1_112, if_pos c1_112, if_pos c1_113, if_neg (not_not_intro c1_113)]; done) | (simp [st_numbersOf, c1_100, c1_108, c1_114, c1_116, c1_117, c1_119, c1_101, c1_102, c1_103, c1_104, c1_105, c1_106, c1_107, c1_109, c1_110, c1_111, c1_112, c1_113]; done) | (simp [st_numbersOf, if_neg c1_100, if_pos c1_100, if_neg c1_108, if_pos c1_108, if_neg c1_114, if_pos c1_114, if_neg c1_116, if_pos c1_116, if_neg c1_117, if_pos c1_117, if_neg c1_119, if_pos c1_119, if_neg c1_101, if_pos c1_101, if_neg c1_102, if_pos c1_102, if_neg c1_103, if_pos c1_103, if_neg c1_104, if_pos c1_104, if_neg c1_105, if_pos c1_105, if_neg c1_106, if_pos c1_106, if_neg c1_107, if_pos c1_107, if_neg c1_109, if_pos c1_109, if_neg c1_110, if_pos c1_110, if_neg c1_111, if_pos c1_111, if_neg c1_112, if_pos c1_112, if_pos c1_113, if_neg (not_not_intro c1_113)]; done) | contradiction | rfl)
  by_cases c1_115 : x = 115
  · skip
    refine ka_tsIn (tgt := 100) hC dX1_numbersOf_1 (by rw [c1_115]; decide) (by rw [c1_115]; decide) (by rw [c1_115]; rfl) (by decide) ?_
    refine ka_iconst (v := 0) hC dX1_numbersOf_100 rfl ?_
    exact ka_iret hC hR dX1_numbersOf_101 (by first | with_reducible rfl | (simp only [st_numbersOf, c1_100, c1_108, c1_114, c1_116, c1_117, c1_119, c1_101, c1_102, c1_103, c1_104, c1_105, c1_106, c1_107, c1_109, c1_110, c1_111, c1_112, c1_113, c1_115]; done) | (simp only [st_numbersOf, if_neg c1_100, if_pos c1_100, if_neg c1_108, if_pos c1_108, if_neg c1_114, if_pos c1_114, if_neg c1_116, if_pos c1_116, if_neg c1_117, if_pos c1_117, if_neg c1_119, if_pos c1_119, if_neg c1_101, if_pos c1_101, if_neg c1_102, if_pos c1_102, if_neg c1_103, if_pos c1_103, if_neg c1_104, if_pos c1_104, if_neg c1_105, if_pos c1_105, if_neg c1_106, if_pos c1_106, if_neg c1_107, if_pos c1_107, if_neg c1_109, if_pos c1_109, if_neg c1_110, if_pos c1_110, if_neg c1_111, if_pos c1_111, if_neg c1_112, if_pos c1_112, if_neg c1_113, if_pos c1_113, if_pos c1_115, if_neg (not_not_intro c1_115)]; done) | (simp [st_numbersOf, c1_100, c1_108, c1_114, c1_116, c1_117, c1_119, c1_101, c1_102, c1_103, c1_104, c1_105, c1_106, c1_107, c1_109, c1_110, c1_111, c1_112, c1_113, c1_115]; done) | (simp [st_numbersOf, if_neg c1_100, if_pos c1_100, if_neg c1_108, if_pos c1_108, if_neg c1_114, if_pos c1_114, if_neg c1_116, if_pos c1_116, if_neg c1_117, if_pos c1_117, if_neg c1_119, if_pos c1_119, if_neg c1_101, if_pos c1_101, if_neg c1_102, if_pos c1_102, if_neg c1_103, if_pos c1_103, if_neg c1_104, if_pos c1_104, if_neg c1_105, if_pos c1_105, if_neg c1_106, if_pos c1_106, if_neg c1_107, if_pos c1_107, if_neg c1_109, if_pos c1_109, if_neg c1_110, if_pos c1_110, if_neg c1_111, if_pos c1_111, if_neg c1_112, if_pos c1_112, if_neg c1_113, if_pos c1_113, if_pos c1_115, if_neg (not_not_intro c1_115)]; done) | contradiction | rfl) (by first | with_reducible rfl | (simp only [st_numbersOf, c1_100, c1_108, c1_114, c1_116, c1_117, c1_119, c1_101, c1_102, c1_103, c1_104, c1_105, c1_106, c1_107, c1_109, c1_110, c1_111, c1_112, c1_113, c1_115]; done) | (simp only [st_numbersOf, if_neg c1_100, if_pos c1_100, if_neg c1_108, if_pos c1_108, if_neg c1_114, if_pos c1_114, if_neg c1_116, if_pos c1_116, if_neg c1_117, if_pos c1_117, if_neg c1_119, if_pos c1_119, if_neg c1_101, if_pos c1_101, if_neg c1_102, if_pos c1_102, if_neg c1_103, if_pos c1_103, if_neg c1_104, if_pos c1_104, if_neg c1_105, if_pos c1_105, if_neg c1_106, if_pos c1_106, if_neg c1_107, if_pos c1_107, if_neg c1_109, if_pos c1_109, if_neg c1_110, if_pos c1_110, if_neg c1_111, if_pos c1_111, if_neg c1_112, if_pos c1_112, if_neg c1_113, if_pos c1_113, if_pos c1_115, if_neg (not_not_intro c1_115)]; done) | (simp [st_numbersOf, c1_100, c1_108, c1_114, c1_116, c1_117, c1_119, c1_101, c1_102, c1_103, c1_104, c1_105, c1_106, c1_107, c1_109, c1_110, c1_111, c1_112, c1_113, c1_115]; done) | (simp [st_numbersOf, if_neg c1_100, if_pos c1_100, if_neg c1_108, if_pos c1_108, if_neg c1_114, if_pos c1_114, if_neg c1_116, if_pos c1_116, if_neg c1_117, if_pos c1_117, if_neg c1_119, if_pos c1_119, if_neg c1_101, if_pos c1_101, if_neg c1_102, if_pos c1_102, if_neg c1_103, if_pos c1_103, if_neg c1_104, if_pos c1_104, if_neg c1_105, if_pos c1_105, if_neg c1_106, if_pos c1_106, if_neg c1_107, if_pos c1_107, if_neg c1_109, if_pos c1_109, if_neg c1_110, if_pos c1_110, if_neg c1_111, if_pos c1_111, if_neg c1_112, if_pos c1_112, if_neg c1_113, if_pos c1_113, if_pos c1_115, if_neg (not_not_intro c1_115)]; done) | contradiction | rfl)
  by_cases c1_118 : x = 118
  · skip
    refine ka_tsIn (tgt := 100) hC dX1_numbersOf_1 (by rw [c1_118]; decide) (by rw [c1_118]; decide) (by rw [c1_118]; rfl) (by decide) ?_
    refine ka_iconst (v := 0) hC dX1_numbersOf_100 rfl ?_
    exact ka_iret hC hR dX1_numbersOf_101 (by first | with_reducible rfl | (simp only [st_numbersOf, c1_100, c1_108, c1_114, c1_116, c1_117, c1_119, c1_101, c1_102, c1_103, c1_104, c1_105, c1_106, c1_107, c1_109, c1_110, c1_111, c1_112, c1_113, c1_115, c1_118]; done) | (simp only [st_numbersOf, if_neg c1_100, if_pos c1_100, if_neg c1_108, if_pos c1_108, if_neg c1_114, if_pos c1_114, if_neg c1_116, if_pos c1_116, if_neg c1_117, if_pos c1_117, if_neg c1_119, if_pos c1_119, if_neg c1_101, if_pos c1_101, if_neg c1_102, if_pos c1_102, if_neg c1_103, if_pos c1_103, if_neg c1_104, if_pos c1_104, if_neg c1_105, if_pos c1_105, if_neg c1_106, if_pos c1_106, if_neg c1_107, if_pos c1_107, if_neg c1_109, if_pos c1_109, if_neg c1_110, if_pos c1_110, if_neg c1_111, if_pos c1_111, if_neg c1_112, if_pos c1_112, if_neg c1_113, if_pos c1_113, if_neg c1_115, if_pos c1_115, if_pos c1_118, if_neg (not_not_intro c1_118)]; done) | (simp [st_numbersOf, c1_100, c1_108, c1_114, c1_116, c1_117, c1_119, c1_101, c1_102, c1_103, c1_104, c1_105, c1_106, c1_107, c1_109, c1_110, c1_111, c1_112, c1_113, c1_115, c1_118]; done) | (simp [st_numbersOf, if_neg c1_100, if_pos c1_100, if_neg c1_108, if_pos c1_108, if_neg c1_114, if_pos c1_114, if_neg c1_116, if_pos c1_116, if_neg c1_117, if_pos c1_117, if_neg c1_119, if_pos c1_119, if_neg c1_101, if_pos c1_101, if_neg c1_102, if_pos c1_102, if_neg c1_103, if_pos c1_103, if_neg c1_104, if_pos c1_104, if_neg c1_105, if_pos c1_105, if_neg c1_106, if_pos c1_106, if_neg c1_107, if_pos c1_107, if_neg c1_109, if_pos c1_109, if_neg c1_110, if_pos c1_110, if_neg c1_111, if_pos c1_111, if_neg c1_112, if_pos c1_112, if_neg c1_113, if_pos c1_113, if_neg c1_115, if_pos c1_115, if_pos c1_118, if_neg (not_not_intro c1_118)]; done) | contradiction | rfl) (by first | with_reducible rfl | (simp only [st_numbersOf, c1_100, c1_108, c1_114, c1_116, c1_117, c1_119, c1_101, c1_102, c1_103, c1_104, c1_105, c1_106, c1_107, c1_109, c1_110, c1_111, c1_112, c1_113, c1_115, c1_118]; done) | (simp only [st_numbersOf, if_neg c1_100, if_pos c1_100, if_neg c1_108, if_pos c1_108, if_neg c1_114, if_pos c1_114, if_neg c1_116, if_pos c1_116, if_neg c1_117, if_pos c1_117, if_neg c1_119, if_pos c1_119, if_neg c1_101, if_pos c1_101, if_neg c1_102, if_pos c1_102, if_neg c1_103, if_pos c1_103, if_neg c1_104, if_pos c1_104, if_neg c1_105, if_pos c1_105, if_neg c1_106, if_pos c1_106, if_neg c1_107, if_pos c1_107, if_neg c1_109, if_pos c1_109, if_neg c1_110, if_pos c1_110, if_neg c1_111, if_pos c1_111, if_neg c1_112, if_pos c1_112, if_neg c1_113, if_pos c1_113, if_neg c1_115, if_pos c1_115, if_pos c1_118, if_neg (not_not_intro c1_118)]; done) | (simp [st_numbersOf, c1_100, c1_108, c1_114, c1_116, c1_117, c1_119, c1_101, c1_102, c1_103, c1_104, c1_105, c1_106, c1_107, c1_109, c1_110, c1_111, c1_112, c1_113, c1_115, c1_118]; done) | (simp [st_numbersOf, if_neg c1_100, if_pos c1_100, if_neg c1_108, if_pos c1_108, if_neg c1_114, if_pos c1_114, if_neg c1_116, if_pos c1_116, if_neg c1_117, if_pos c1_117, if_neg c1_119, if_pos c1_119, if_neg c1_101, if_pos c1_101, if_neg c1_102, if_pos c1_102, if_neg c1_103, if_pos c1_103, if_neg c1_104, if_pos c1_104, if_neg c1_105, if_pos c1_105, if_neg c1_106, if_pos c1_106, if_neg c1_107, if_pos c1_107, if_neg c1_109, if_pos c1_109, if_neg c1_110, if_pos c1_110, if_neg c1_111, if_pos c1_111, if_neg c1_112, if_pos c1_112, if_neg c1_113, if_pos c1_113, if_neg c1_115, if_pos c1_115, if_pos c1_118, if_neg (not_not_intro c1_118)]; done) | contradiction | rfl)
  refine ka_tsOut (tgt := 100) hC dX1_numbersOf_1 (by
      have t1_100 : ¬ (x).toInt = 100 := fun e => c1_100 (Int32.toInt_inj.mp (e.trans (by decide)))
      have t1_101 : ¬ (x).toInt = 101 := fun e => c1_101 (Int32.toInt_inj.mp (e.trans (by decide)))
      have t1_102 : ¬ (x).toInt = 102 := fun e => c1_102 (Int32.toInt_inj.mp (e.trans (by decide)))
      have t1_103 : ¬ (x).toInt = 103 := fun e => c1_103 (Int32.toInt_inj.mp (e.trans (by decide)))
      have t1_104 : ¬ (x).toInt = 104 := fun e => c1_104 (Int32.toInt_inj.mp (e.trans (by decide)))
      have t1_105 : ¬ (x).toInt = 105 := fun e => c1_105 (Int32.toInt_inj.mp (e.trans (by decide)))
      have t1_106 : ¬ (x).toInt = 106 := fun e => c1_106 (Int32.toInt_inj.mp (e.trans (by decide)))
      have t1_107 : ¬ (x).toInt = 107 := fun e => c1_107 (Int32.toInt_inj.mp (e.trans (by decide)))
      have t1_108 : ¬ (x).toInt = 108 := fun e => c1_108 (Int32.toInt_inj.mp (e.trans (by decide)))
      have t1_109 : ¬ (x).toInt = 109 := fun e => c1_109 (Int32.toInt_inj.mp (e.trans (by decide)))
      have t1_110 : ¬ (x).toInt = 110 := fun e => c1_110 (Int32.toInt_inj.mp (e.trans (by decide)))
      have t1_111 : ¬ (x).toInt = 111 := fun e => c1_111 (Int32.toInt_inj.mp (e.trans (by decide)))
      have t1_112 : ¬ (x).toInt = 112 := fun e => c1_112 (Int32.toInt_inj.mp (e.trans (by decide)))
      have t1_113 : ¬ (x).toInt = 113 := fun e => c1_113 (Int32.toInt_inj.mp (e.trans (by decide)))
      have t1_114 : ¬ (x).toInt = 114 := fun e => c1_114 (Int32.toInt_inj.mp (e.trans (by decide)))
      have t1_115 : ¬ (x).toInt = 115 := fun e => c1_115 (Int32.toInt_inj.mp (e.trans (by decide)))
      have t1_116 : ¬ (x).toInt = 116 := fun e => c1_116 (Int32.toInt_inj.mp (e.trans (by decide)))
      have t1_117 : ¬ (x).toInt = 117 := fun e => c1_117 (Int32.toInt_inj.mp (e.trans (by decide)))
      have t1_118 : ¬ (x).toInt = 118 := fun e => c1_118 (Int32.toInt_inj.mp (e.trans (by decide)))
      have t1_119 : ¬ (x).toInt = 119 := fun e => c1_119 (Int32.toInt_inj.mp (e.trans (by decide)))
      omega) (by decide) ?_
  refine ka_iconst (v := 0) hC dX1_numbersOf_100 rfl ?_
  exact ka_iret hC hR dX1_numbersOf_101 (by first | with_reducible rfl | (simp only [st_numbersOf, c1_100, c1_108, c1_114, c1_116, c1_117, c1_119, c1_101, c1_102, c1_103, c1_104, c1_105, c1_106, c1_107, c1_109, c1_110, c1_111, c1_112, c1_113, c1_115, c1_118]; done) | (simp only [st_numbersOf, if_neg c1_100, if_pos c1_100, if_neg c1_108, if_pos c1_108, if_neg c1_114, if_pos c1_114, if_neg c1_116, if_pos c1_116, if_neg c1_117, if_pos c1_117, if_neg c1_119, if_pos c1_119, if_neg c1_101, if_pos c1_101, if_neg c1_102, if_pos c1_102, if_neg c1_103, if_pos c1_103, if_neg c1_104, if_pos c1_104, if_neg c1_105, if_pos c1_105, if_neg c1_106, if_pos c1_106, if_neg c1_107, if_pos c1_107, if_neg c1_109, if_pos c1_109, if_neg c1_110, if_pos c1_110, if_neg c1_111, if_pos c1_111, if_neg c1_112, if_pos c1_112, if_neg c1_113, if_pos c1_113, if_neg c1_115, if_pos c1_115, if_neg c1_118, if_pos c1_118]; done) | (simp [st_numbersOf, c1_100, c1_108, c1_114, c1_116, c1_117, c1_119, c1_101, c1_102, c1_103, c1_104, c1_105, c1_106, c1_107, c1_109, c1_110, c1_111, c1_112, c1_113, c1_115, c1_118]; done) | (simp [st_numbersOf, if_neg c1_100, if_pos c1_100, if_neg c1_108, if_pos c1_108, if_neg c1_114, if_pos c1_114, if_neg c1_116, if_pos c1_116, if_neg c1_117, if_pos c1_117, if_neg c1_119, if_pos c1_119, if_neg c1_101, if_pos c1_101, if_neg c1_102, if_pos c1_102, if_neg c1_103, if_pos c1_103, if_neg c1_104, if_pos c1_104, if_neg c1_105, if_pos c1_105, if_neg c1_106, if_pos c1_106, if_neg c1_107, if_pos c1_107, if_neg c1_109, if_pos c1_109, if_neg c1_110, if_pos c1_110, if_neg c1_111, if_pos c1_111, if_neg c1_112, if_pos c1_112, if_neg c1_113, if_pos c1_113, if_neg c1_115, if_pos c1_115, if_neg c1_118, if_pos c1_118]; done) | contradiction | rfl) (by first | with_reducible rfl | (simp only [st_numbersOf, c1_100, c1_108, c1_114, c1_116, c1_117, c1_119, c1_101, c1_102, c1_103, c1_104, c1_105, c1_106, c1_107, c1_109, c1_110, c1_111, c1_112, c1_113, c1_115, c1_118]; done) | (simp only [st_numbersOf, if_neg c1_100, if_pos c1_100, if_neg c1_108, if_pos c1_108, if_neg c1_114, if_pos c1_114, if_neg c1_116, if_pos c1_116, if_neg c1_117, if_pos c1_117, if_neg c1_119, if_pos c1_119, if_neg c1_101, if_pos c1_101, if_neg c1_102, if_pos c1_102, if_neg c1_103, if_pos c1_103, if_neg c1_104, if_pos c1_104, if_neg c1_105, if_pos c1_105, if_neg c1_106, if_pos c1_106, if_neg c1_107, if_pos c1_107, if_neg c1_109, if_pos c1_109, if_neg c1_110, if_pos c1_110, if_neg c1_111, if_pos c1_111, if_neg c1_112, if_pos c1_112, if_neg c1_113, if_pos c1_113, if_neg c1_115, if_pos c1_115, if_neg c1_118, if_pos c1_118]; done) | (simp [st_numbersOf, c1_100, c1_108, c1_114, c1_116, c1_117, c1_119, c1_101, c1_102, c1_103, c1_104, c1_105, c1_106, c1_107, c1_109, c1_110, c1_111, c1_112, c1_113, c1_115, c1_118]; done) | (simp [st_numbersOf, if_neg c1_100, if_pos c1_100, if_neg c1_108, if_pos c1_108, if_neg c1_114, if_pos c1_114, if_neg c1_116, if_pos c1_116, if_neg c1_117, if_pos c1_117, if_neg c1_119, if_pos c1_119, if_neg c1_101, if_pos c1_101, if_neg c1_102, if_pos c1_102, if_neg c1_103, if_pos c1_103, if_neg c1_104, if_pos c1_104, if_neg c1_105, if_pos c1_105, if_neg c1_106, if_pos c1_106, if_neg c1_107, if_pos c1_107, if_neg c1_109, if_pos c1_109, if_neg c1_110, if_pos c1_110, if_neg c1_111, if_pos c1_111, if_neg c1_112, if_pos c1_112, if_neg c1_113, if_pos c1_113, if_neg c1_115, if_pos c1_115, if_neg c1_118, if_pos c1_118]; done) | contradiction | rfl)
theorem ky_X1_readSign : ka_y yX1_readSign 1 := by unfold ka_y; decide +kernel
set_option maxHeartbeats 4000000 in
set_option maxRecDepth 100000 in
theorem m_X1_readSign {G : ka_G} (hG : ka_AD G) {V : ka_W} {T : ka_P} {x : Int32}  : ka_M G yX1_readSign cX1_readSign 2 (some FieldType.boolean) 1 [.ref (ka_ad G 7 0), .int x] (ka_sp V 7 T) (some (.int (ka_b ((st_readSign T x).1)))) (ka_sp V 7 (st_readSign T x).2) := by
  refine ka_entry hG ka_pn_X1 (ka_cat1 rfl) (Nat.le_of_ble_eq_true rfl) (fun X hC hR => ?_)
  refine ka_aload_n hC dX1_readSign_0 rfl ?_
  refine ka_aload_n hC dX1_readSign_1 rfl ?_
  refine kgp_X1_40  hC dX1_readSign_2 ?_
  refine ka_callV hC (m_X1_signAt hG) (ka_Rc_text ) rfl ka_q_ml_X1_87 ka_q_im_X1_signAt ka_q_se_X1_signAt ka_q_in_X1 ka_q_co_X1_signAt ky_X1_signAt (by decide) (by decide) (Nat.le_of_ble_eq_true rfl) rfl dX1_readSign_5 ?_
  refine ka_iload_n hC dX1_readSign_8 rfl ?_
  refine ka_icmp_eq (tgt := 14) hC dX1_readSign_9 (by decide) (fun c9 => ?_) (fun c9 => ?_)
  · skip
    refine ka_aload_n hC dX1_readSign_14 rfl ?_
    refine ka_dup hC dX1_readSign_15 rfl ?_
    refine kgp_X1_40  hC dX1_readSign_16 ?_
    refine ka_iconst (v := 1) hC dX1_readSign_19 rfl ?_
    refine ka_iadd hC dX1_readSign_20 ?_
    refine kpp_X1_40  hC dX1_readSign_21 ?_
    refine ka_iconst (v := 1) hC dX1_readSign_24 rfl ?_
    exact ka_bret hC hR dX1_readSign_25 (by first | with_reducible rfl | (simp only [st_readSign, st_here, st_next, sp_add, pU, ka_b, c9]; done) | (simp only [st_readSign, st_here, st_next, sp_add, pU, ka_b, if_pos c9, if_neg (not_not_intro c9)]; done) | (simp [st_readSign, st_here, st_next, sp_add, pU, ka_b, c9]; done) | (simp [st_readSign, st_here, st_next, sp_add, pU, ka_b, if_pos c9, if_neg (not_not_intro c9)]; done) | contradiction | rfl) rfl (by first | with_reducible rfl | (simp only [st_readSign, st_here, st_next, sp_add, pU, ka_b, c9]; done) | (simp only [st_readSign, st_here, st_next, sp_add, pU, ka_b, if_pos c9, if_neg (not_not_intro c9)]; done) | (simp [st_readSign, st_here, st_next, sp_add, pU, ka_b, c9]; done) | (simp [st_readSign, st_here, st_next, sp_add, pU, ka_b, if_pos c9, if_neg (not_not_intro c9)]; done) | contradiction | rfl)
  · skip
    refine ka_iconst (v := 0) hC dX1_readSign_12 rfl ?_
    exact ka_bret hC hR dX1_readSign_13 (by first | with_reducible rfl | (simp only [st_readSign, st_here, st_next, sp_add, pU, ka_b, c9]; done) | (simp only [st_readSign, st_here, st_next, sp_add, pU, ka_b, if_neg c9, if_pos c9]; done) | (simp [st_readSign, st_here, st_next, sp_add, pU, ka_b, c9]; done) | (simp [st_readSign, st_here, st_next, sp_add, pU, ka_b, if_neg c9, if_pos c9]; done) | contradiction | rfl) rfl (by first | with_reducible rfl | (simp only [st_readSign, st_here, st_next, sp_add, pU, ka_b, c9]; done) | (simp only [st_readSign, st_here, st_next, sp_add, pU, ka_b, if_neg c9, if_pos c9]; done) | (simp [st_readSign, st_here, st_next, sp_add, pU, ka_b, c9]; done) | (simp [st_readSign, st_here, st_next, sp_add, pU, ka_b, if_neg c9, if_pos c9]; done) | contradiction | rfl)
theorem ky_X1_readNumber : ka_y yX1_readNumber 1 := by unfold ka_y; decide +kernel
set_option maxHeartbeats 4000000 in
set_option maxRecDepth 100000 in
theorem m_X1_readNumber {G : ka_G} (hG : ka_AD G) {V : ka_W} {T : ka_P} {x : Int32}  : ka_M G yX1_readNumber cX1_readNumber 3 (some FieldType.boolean) 1 [.ref (ka_ad G 7 0), .int x] (ka_sp V 7 T) (some (.int (ka_b ((st_readNumber T x).1)))) (ka_sp V 7 (st_readNumber T x).2) := by
  refine ka_entry hG ka_pn_X1 (ka_cat1 rfl) (Nat.le_of_ble_eq_true rfl) (fun X hC hR => ?_)
  refine ka_aload_n hC dX1_readNumber_0 rfl ?_
  refine ka_aload_n hC dX1_readNumber_1 rfl ?_
  refine kgp_X1_40  hC dX1_readNumber_2 ?_
  refine ka_callV hC (m_X1_signAt hG) (ka_Rc_text ) rfl ka_q_ml_X1_87 ka_q_im_X1_signAt ka_q_se_X1_signAt ka_q_in_X1 ka_q_co_X1_signAt ky_X1_signAt (by decide) (by decide) (Nat.le_of_ble_eq_true rfl) rfl dX1_readNumber_5 ?_
  refine ka_callS hC (m_X1_isDigit hG) ka_q_ml_X1_99 ka_q_st_X1_isDigit ka_q_in_X1 ka_q_co_X1_isDigit ky_X1_isDigit (by decide) (by decide) (Nat.le_of_ble_eq_true rfl) rfl dX1_readNumber_8 ?_
  refine ka_if_eq_b (tgt := 27) hC dX1_readNumber_11 (by decide) (fun c11 => ?_) (fun c11 => ?_)
  · skip
    refine ka_iconst (v := 0) hC dX1_readNumber_27 rfl ?_
    exact ka_bret hC hR dX1_readNumber_28 (by first | with_reducible rfl | (simp only [st_readNumber, st_here, st_next, st_put, sp_add, pU, ka_b, cn, c11]; done) | (simp only [st_readNumber, st_here, st_next, st_put, sp_add, pU, ka_b, cn, c11]; done) | (simp [st_readNumber, st_here, st_next, st_put, sp_add, pU, ka_b, cn, c11]; done) | (simp [st_readNumber, st_here, st_next, st_put, sp_add, pU, ka_b, cn, c11]; done) | contradiction | rfl) rfl (by first | with_reducible rfl | (simp only [st_readNumber, st_here, st_next, st_put, sp_add, pU, ka_b, cn, c11]; done) | (simp only [st_readNumber, st_here, st_next, st_put, sp_add, pU, ka_b, cn, c11]; done) | (simp [st_readNumber, st_here, st_next, st_put, sp_add, pU, ka_b, cn, c11]; done) | (simp [st_readNumber, st_here, st_next, st_put, sp_add, pU, ka_b, cn, c11]; done) | contradiction | rfl)
  · skip
    refine ka_iload_n hC dX1_readNumber_14 rfl ?_
    refine ka_if_lt (tgt := 27) hC dX1_readNumber_15 (by decide) (fun c15 => ?_) (fun c15 => ?_)
    · skip
      refine ka_iconst (v := 0) hC dX1_readNumber_27 rfl ?_
      exact ka_bret hC hR dX1_readNumber_28 (by first | with_reducible rfl | (simp only [st_readNumber, st_here, st_next, st_put, sp_add, pU, ka_b, cn, c11, c15]; done) | (simp only [st_readNumber, st_here, st_next, st_put, sp_add, pU, ka_b, cn, c11, if_pos c15, if_neg (not_not_intro c15)]; done) | (simp [st_readNumber, st_here, st_next, st_put, sp_add, pU, ka_b, cn, c11, c15]; done) | (simp [st_readNumber, st_here, st_next, st_put, sp_add, pU, ka_b, cn, c11, if_pos c15, if_neg (not_not_intro c15)]; done) | contradiction | rfl) rfl (by first | with_reducible rfl | (simp only [st_readNumber, st_here, st_next, st_put, sp_add, pU, ka_b, cn, c11, c15]; done) | (simp only [st_readNumber, st_here, st_next, st_put, sp_add, pU, ka_b, cn, c11, if_pos c15, if_neg (not_not_intro c15)]; done) | (simp [st_readNumber, st_here, st_next, st_put, sp_add, pU, ka_b, cn, c11, c15]; done) | (simp [st_readNumber, st_here, st_next, st_put, sp_add, pU, ka_b, cn, c11, if_pos c15, if_neg (not_not_intro c15)]; done) | contradiction | rfl)
    · skip
      refine ka_iload_n hC dX1_readNumber_18 rfl ?_
      refine ka_aload_n hC dX1_readNumber_19 rfl ?_
      refine kg_X1_15  hC dX1_readNumber_20 ?_
      refine kl_nums  hC dX1_readNumber_23 ?_
      refine ka_icmp_lt (tgt := 29) hC dX1_readNumber_24 (by decide) (fun c24 => ?_) (fun c24 => ?_)
      · skip
        refine ka_aload_n hC dX1_readNumber_29 rfl ?_
        refine ka_aload_n hC dX1_readNumber_30 rfl ?_
        refine kgp_X1_40  hC dX1_readNumber_31 ?_
        refine ka_callV hC (m_X1_signAt hG) (ka_Rc_text ) rfl ka_q_ml_X1_87 ka_q_im_X1_signAt ka_q_se_X1_signAt ka_q_in_X1 ka_q_co_X1_signAt ky_X1_signAt (by decide) (by decide) (Nat.le_of_ble_eq_true rfl) rfl dX1_readNumber_34 ?_
        refine ka_bipush (v := 48) hC dX1_readNumber_37 rfl ?_
        refine ka_isub hC dX1_readNumber_39 ?_
        refine ka_istore_n_p2 hC dX1_readNumber_40 (by decide) ?_
        refine ka_aload_n hC dX1_readNumber_41 rfl ?_
        refine ka_dup hC dX1_readNumber_42 rfl ?_
        refine kgp_X1_40  hC dX1_readNumber_43 ?_
        refine ka_iconst (v := 1) hC dX1_readNumber_46 rfl ?_
        refine ka_iadd hC dX1_readNumber_47 ?_
        refine kpp_X1_40  hC dX1_readNumber_48 ?_
        refine ka_aload_n hC dX1_readNumber_51 rfl ?_
        refine ka_aload_n hC dX1_readNumber_52 rfl ?_
        refine kgp_X1_40  hC dX1_readNumber_53 ?_
        refine ka_callV hC (m_X1_signAt hG) (ka_Rc_text ) rfl ka_q_ml_X1_87 ka_q_im_X1_signAt ka_q_se_X1_signAt ka_q_in_X1 ka_q_co_X1_signAt ky_X1_signAt (by decide) (by decide) (Nat.le_of_ble_eq_true rfl) rfl dX1_readNumber_56 ?_
        refine ka_callS hC (m_X1_isDigit hG) ka_q_ml_X1_99 ka_q_st_X1_isDigit ka_q_in_X1 ka_q_co_X1_isDigit ky_X1_isDigit (by decide) (by decide) (Nat.le_of_ble_eq_true rfl) rfl dX1_readNumber_59 ?_
        refine ka_if_eq_b (tgt := 92) hC dX1_readNumber_62 (by decide) (fun c62 => ?_) (fun c62 => ?_)
        · skip
          refine ka_aload_n hC dX1_readNumber_92 rfl ?_
          refine kg_X1_15  hC dX1_readNumber_93 ?_
          refine ka_iload_n hC dX1_readNumber_96 rfl ?_
          refine ka_iload_n hC dX1_readNumber_97 rfl ?_
          refine ksp_nums  hC (ka_vpin 4 rfl (by decide) c15 c24) dX1_readNumber_98 ?_
          refine ka_iconst (v := 1) hC dX1_readNumber_99 rfl ?_
          exact ka_bret hC hR dX1_readNumber_100 (by first | with_reducible rfl | (simp only [st_readNumber, st_here, st_next, st_put, sp_add, pU, ka_b, cn, c11, c15, c24, c62]; done) | (simp only [st_readNumber, st_here, st_next, st_put, sp_add, pU, ka_b, cn, c11, if_neg c15, if_pos c15, if_pos c24, if_neg (not_not_intro c24), c62]; done) | (simp [st_readNumber, st_here, st_next, st_put, sp_add, pU, ka_b, cn, c11, c15, c24, c62]; done) | (simp [st_readNumber, st_here, st_next, st_put, sp_add, pU, ka_b, cn, c11, if_neg c15, if_pos c15, if_pos c24, if_neg (not_not_intro c24), c62]; done) | contradiction | rfl) rfl (by first | with_reducible rfl | (simp only [st_readNumber, st_here, st_next, st_put, sp_add, pU, ka_b, cn, c11, c15, c24, c62]; done) | (simp only [st_readNumber, st_here, st_next, st_put, sp_add, pU, ka_b, cn, c11, if_neg c15, if_pos c15, if_pos c24, if_neg (not_not_intro c24), c62]; done) | (simp [st_readNumber, st_here, st_next, st_put, sp_add, pU, ka_b, cn, c11, c15, c24, c62]; done) | (simp [st_readNumber, st_here, st_next, st_put, sp_add, pU, ka_b, cn, c11, if_neg c15, if_pos c15, if_pos c24, if_neg (not_not_intro c24), c62]; done) | contradiction | rfl)
        · skip
          refine ka_iload_n hC dX1_readNumber_65 rfl ?_
          refine ka_bipush (v := 10) hC dX1_readNumber_66 rfl ?_
          refine ka_imul hC dX1_readNumber_68 ?_
          refine ka_aload_n hC dX1_readNumber_69 rfl ?_
          refine ka_aload_n hC dX1_readNumber_70 rfl ?_
          refine kgp_X1_40  hC dX1_readNumber_71 ?_
          refine ka_callV hC (m_X1_signAt hG) (ka_Rc_text ) rfl ka_q_ml_X1_87 ka_q_im_X1_signAt ka_q_se_X1_signAt ka_q_in_X1 ka_q_co_X1_signAt ky_X1_signAt (by decide) (by decide) (Nat.le_of_ble_eq_true rfl) rfl dX1_readNumber_74 ?_
          refine ka_iadd hC dX1_readNumber_77 ?_
          refine ka_bipush (v := 48) hC dX1_readNumber_78 rfl ?_
          refine ka_isub hC dX1_readNumber_80 ?_
          refine ka_istore_n_s2 hC dX1_readNumber_81 (by decide) ?_
          refine ka_aload_n hC dX1_readNumber_82 rfl ?_
          refine ka_dup hC dX1_readNumber_83 rfl ?_
          refine kgp_X1_40  hC dX1_readNumber_84 ?_
          refine ka_iconst (v := 1) hC dX1_readNumber_87 rfl ?_
          refine ka_iadd hC dX1_readNumber_88 ?_
          refine kpp_X1_40  hC dX1_readNumber_89 ?_
          refine ka_aload_n hC dX1_readNumber_92 rfl ?_
          refine kg_X1_15  hC dX1_readNumber_93 ?_
          refine ka_iload_n hC dX1_readNumber_96 rfl ?_
          refine ka_iload_n hC dX1_readNumber_97 rfl ?_
          refine ksp_nums  hC (ka_vpin 4 rfl (by decide) c15 c24) dX1_readNumber_98 ?_
          refine ka_iconst (v := 1) hC dX1_readNumber_99 rfl ?_
          exact ka_bret hC hR dX1_readNumber_100 (by first | with_reducible rfl | (simp only [st_readNumber, st_here, st_next, st_put, sp_add, pU, ka_b, cn, c11, c15, c24, c62]; done) | (simp only [st_readNumber, st_here, st_next, st_put, sp_add, pU, ka_b, cn, c11, if_neg c15, if_pos c15, if_pos c24, if_neg (not_not_intro c24), c62]; done) | (simp [st_readNumber, st_here, st_next, st_put, sp_add, pU, ka_b, cn, c11, c15, c24, c62]; done) | (simp [st_readNumber, st_here, st_next, st_put, sp_add, pU, ka_b, cn, c11, if_neg c15, if_pos c15, if_pos c24, if_neg (not_not_intro c24), c62]; done) | contradiction | rfl) rfl (by first | with_reducible rfl | (simp only [st_readNumber, st_here, st_next, st_put, sp_add, pU, ka_b, cn, c11, c15, c24, c62]; done) | (simp only [st_readNumber, st_here, st_next, st_put, sp_add, pU, ka_b, cn, c11, if_neg c15, if_pos c15, if_pos c24, if_neg (not_not_intro c24), c62]; done) | (simp [st_readNumber, st_here, st_next, st_put, sp_add, pU, ka_b, cn, c11, c15, c24, c62]; done) | (simp [st_readNumber, st_here, st_next, st_put, sp_add, pU, ka_b, cn, c11, if_neg c15, if_pos c15, if_pos c24, if_neg (not_not_intro c24), c62]; done) | contradiction | rfl)
      · skip
        refine ka_iconst (v := 0) hC dX1_readNumber_27 rfl ?_
        exact ka_bret hC hR dX1_readNumber_28 (by first | with_reducible rfl | (simp only [st_readNumber, st_here, st_next, st_put, sp_add, pU, ka_b, cn, c11, c15, c24]; done) | (simp only [st_readNumber, st_here, st_next, st_put, sp_add, pU, ka_b, cn, c11, if_neg c15, if_pos c15, if_neg c24, if_pos c24]; done) | (simp [st_readNumber, st_here, st_next, st_put, sp_add, pU, ka_b, cn, c11, c15, c24]; done) | (simp [st_readNumber, st_here, st_next, st_put, sp_add, pU, ka_b, cn, c11, if_neg c15, if_pos c15, if_neg c24, if_pos c24]; done) | contradiction | rfl) rfl (by first | with_reducible rfl | (simp only [st_readNumber, st_here, st_next, st_put, sp_add, pU, ka_b, cn, c11, c15, c24]; done) | (simp only [st_readNumber, st_here, st_next, st_put, sp_add, pU, ka_b, cn, c11, if_neg c15, if_pos c15, if_neg c24, if_pos c24]; done) | (simp [st_readNumber, st_here, st_next, st_put, sp_add, pU, ka_b, cn, c11, c15, c24]; done) | (simp [st_readNumber, st_here, st_next, st_put, sp_add, pU, ka_b, cn, c11, if_neg c15, if_pos c15, if_neg c24, if_pos c24]; done) | contradiction | rfl)
theorem ky_X1_readOrder : ka_y yX1_readOrder 0 := by unfold ka_y; decide +kernel
set_option maxHeartbeats 4000000 in
set_option maxRecDepth 100000 in
theorem m_X1_readOrder {G : ka_G} (hG : ka_AD G) {V : ka_W} {T : ka_P}  : ka_M G yX1_readOrder cX1_readOrder 3 (some FieldType.boolean) 2 [.ref (ka_ad G 7 0)] (ka_sp V 7 T) (some (.int (ka_b ((st_readOrder T).1)))) (ka_sp V 7 (st_readOrder T).2) := by
  refine ka_entry hG ka_pn_X1 (ka_cat1 rfl) (Nat.le_of_ble_eq_true rfl) (fun X hC hR => ?_)
  refine ka_aload_n hC dX1_readOrder_0 rfl ?_
  refine ka_aload_n hC dX1_readOrder_1 rfl ?_
  refine ka_aload_n hC dX1_readOrder_2 rfl ?_
  refine kgp_X1_40  hC dX1_readOrder_3 ?_
  refine ka_callV hC (m_X1_signAt hG) (ka_Rc_text ) rfl ka_q_ml_X1_87 ka_q_im_X1_signAt ka_q_se_X1_signAt ka_q_in_X1 ka_q_co_X1_signAt ky_X1_signAt (by decide) (by decide) (Nat.le_of_ble_eq_true rfl) rfl dX1_readOrder_6 ?_
  refine kpp_X1_62  hC dX1_readOrder_9 ?_
  refine ka_I.eqW (V' := ka_sp V 7 (st_order0 T)) rfl ?_
  refine ka_aload_n hC dX1_readOrder_12 rfl ?_
  refine kgp_X1_62  hC dX1_readOrder_13 ?_
  refine ka_callS hC (m_X1_numbersOf hG) ka_q_ml_X1_90 ka_q_st_X1_numbersOf ka_q_in_X1 ka_q_co_X1_numbersOf ky_X1_numbersOf (by decide) (by decide) (Nat.le_of_ble_eq_true rfl) rfl dX1_readOrder_16 ?_
  refine ka_istore_n_p1 hC dX1_readOrder_19 (by decide) ?_
  refine ka_iload_n hC dX1_readOrder_20 rfl ?_
  refine ka_if_ne (tgt := 26) hC dX1_readOrder_21 (by decide) (fun c21 => ?_) (fun c21 => ?_)
  · skip
    refine ka_aload_n hC dX1_readOrder_26 rfl ?_
    refine ka_dup hC dX1_readOrder_27 rfl ?_
    refine kgp_X1_40  hC dX1_readOrder_28 ?_
    refine ka_iconst (v := 1) hC dX1_readOrder_31 rfl ?_
    refine ka_iadd hC dX1_readOrder_32 ?_
    refine kpp_X1_40  hC dX1_readOrder_33 ?_
    refine ka_I.eqW (V' := ka_sp V 7 (st_next (st_order0 T))) rfl ?_
    refine ka_iconst (v := 0) hC dX1_readOrder_36 rfl ?_
    refine ka_istore_n_p2 hC dX1_readOrder_37 (by decide) ?_
    suffices H38 : ∀ jj i : Nat, i ≤ cn (st_numbersOf (st_order0 T 0 3)) → cn (st_numbersOf (st_order0 T 0 3)) - i < jj → (st_numX (st_next (st_order0 T)) i).1 = true → ka_I G X (ka_sp V 7 (st_numX (st_next (st_order0 T)) i).2) 38 [.ref (ka_ad G 7 0), .int (st_numbersOf (st_order0 T 0 3)), .int (nI i)] [] from ka_I.back 3 (by first | with_reducible rfl | (simp only [st_readOrder, ka_b, c21]; done) | (simp only [st_readOrder, ka_b, if_neg c21, if_pos c21]; done) | (simp [st_readOrder, ka_b, c21]; done) | (simp [st_readOrder, ka_b, if_neg c21, if_pos c21]; done) | contradiction | rfl) (by first | with_reducible rfl | (simp only [st_readOrder, ka_b, c21]; done) | (simp only [st_readOrder, ka_b, if_neg c21, if_pos c21]; done) | (simp [st_readOrder, ka_b, c21]; done) | (simp [st_readOrder, ka_b, if_neg c21, if_pos c21]; done) | contradiction | rfl) (H38 (cn (st_numbersOf (st_order0 T 0 3)) + 1) 0 (by omega) (by omega) rfl)
    intro j38
    induction j38 with
    | zero => intro i h1 h2 hv; exact absurd h2 (Nat.not_lt_zero _)
    | succ j38 ih38 =>
      intro i hle38 hlt38 hv
      refine ka_iload_n hC dX1_readOrder_38 rfl ?_
      refine ka_iload_n hC dX1_readOrder_39 rfl ?_
      refine ka_icmp_ge (tgt := 74) hC dX1_readOrder_40 (by decide) (fun c40 => ?_) (fun c40 => ?_)
      · skip
        obtain rfl : i = cn (st_numbersOf (st_order0 T 0 3)) := nlt_cn hle38 c40
        refine ka_aload_n hC dX1_readOrder_74 rfl ?_
        refine ka_bipush (v := 59) hC dX1_readOrder_75 rfl ?_
        refine ka_callV hC (m_X1_readSign hG) (ka_Rc_text ) rfl ka_q_ml_X1_93 ka_q_im_X1_readSign ka_q_se_X1_readSign ka_q_in_X1 ka_q_co_X1_readSign ky_X1_readSign (by decide) (by decide) (Nat.le_of_ble_eq_true rfl) rfl dX1_readOrder_77 ?_
        exact ka_bret hC hR dX1_readOrder_80 (by first | with_reducible rfl | (simp only [st_readOrder, ka_b, c21, c40, hv]; done) | (simp only [st_readOrder, ka_b, if_neg c21, if_pos c21, if_neg c40, if_pos c40, hv]; done) | (simp [st_readOrder, ka_b, c21, c40, hv]; done) | (simp [st_readOrder, ka_b, if_neg c21, if_pos c21, if_neg c40, if_pos c40, hv]; done) | contradiction | rfl) rfl (by first | with_reducible rfl | (simp only [st_readOrder, ka_b, c21, c40, hv]; done) | (simp only [st_readOrder, ka_b, if_neg c21, if_pos c21, if_neg c40, if_pos c40, hv]; done) | (simp [st_readOrder, ka_b, c21, c40, hv]; done) | (simp [st_readOrder, ka_b, if_neg c21, if_pos c21, if_neg c40, if_pos c40, hv]; done) | contradiction | rfl)
      · skip
        have hi : i < cn (st_numbersOf (st_order0 T 0 3)) := lt_cn hle38 c40
        refine ka_iload_n hC dX1_readOrder_43 rfl ?_
        refine ka_if_le (tgt := 58) hC dX1_readOrder_44 (by decide) (fun c44 => ?_) (fun c44 => ?_)
        · skip
          have e := st_numX_step2 hv c44
          refine ka_aload_n hC dX1_readOrder_58 rfl ?_
          refine ka_iload_n hC dX1_readOrder_59 rfl ?_
          refine ka_callV hC (m_X1_readNumber hG) (ka_Rc_text ) rfl ka_q_ml_X1_96 ka_q_im_X1_readNumber ka_q_se_X1_readNumber ka_q_in_X1 ka_q_co_X1_readNumber ky_X1_readNumber (by decide) (by decide) (Nat.le_of_ble_eq_true rfl) rfl dX1_readOrder_60 ?_
          refine ka_if_ne_b (tgt := 68) hC dX1_readOrder_63 (by decide) (fun c63 => ?_) (fun c63 => ?_)
          · skip
            refine ka_iinc_2 (v := 1) hC dX1_readOrder_68 rfl (by decide) ?_
            refine ka_goto (tgt := 38) hC dX1_readOrder_71 (by decide) ?_
            exact ka_I.back 3 (by rw [e]) (by rw [← nI_1]; rfl) (ih38 (i + 1) (by omega) (by omega) (by rw [e]; exact c63))
          · skip
            have eN := st_numX_end e c63 hi
            refine ka_iconst (v := 0) hC dX1_readOrder_66 rfl ?_
            exact ka_bret hC hR dX1_readOrder_67 (by first | with_reducible rfl | (simp only [st_readOrder, ka_b, c21, c40, c44, c63, eN]; done) | (simp only [st_readOrder, ka_b, if_neg c21, if_pos c21, if_pos c40, if_neg (not_not_intro c40), if_neg c44, if_pos c44, c63, eN]; done) | (simp [st_readOrder, ka_b, c21, c40, c44, c63, eN]; done) | (simp [st_readOrder, ka_b, if_neg c21, if_pos c21, if_pos c40, if_neg (not_not_intro c40), if_neg c44, if_pos c44, c63, eN]; done) | contradiction | rfl) rfl (by first | with_reducible rfl | (simp only [st_readOrder, ka_b, c21, c40, c44, c63, eN]; done) | (simp only [st_readOrder, ka_b, if_neg c21, if_pos c21, if_pos c40, if_neg (not_not_intro c40), if_neg c44, if_pos c44, c63, eN]; done) | (simp [st_readOrder, ka_b, c21, c40, c44, c63, eN]; done) | (simp [st_readOrder, ka_b, if_neg c21, if_pos c21, if_pos c40, if_neg (not_not_intro c40), if_neg c44, if_pos c44, c63, eN]; done) | contradiction | rfl)
        · skip
          refine ka_aload_n hC dX1_readOrder_47 rfl ?_
          refine ka_bipush (v := 44) hC dX1_readOrder_48 rfl ?_
          refine ka_callV hC (m_X1_readSign hG) (ka_Rc_text ) rfl ka_q_ml_X1_93 ka_q_im_X1_readSign ka_q_se_X1_readSign ka_q_in_X1 ka_q_co_X1_readSign ky_X1_readSign (by decide) (by decide) (Nat.le_of_ble_eq_true rfl) rfl dX1_readOrder_50 ?_
          refine ka_if_ne_b (tgt := 58) hC dX1_readOrder_53 (by decide) (fun c53 => ?_) (fun c53 => ?_)
          · skip
            have e := st_numX_step1 hv c44 c53
            refine ka_aload_n hC dX1_readOrder_58 rfl ?_
            refine ka_iload_n hC dX1_readOrder_59 rfl ?_
            refine ka_callV hC (m_X1_readNumber hG) (ka_Rc_text ) rfl ka_q_ml_X1_96 ka_q_im_X1_readNumber ka_q_se_X1_readNumber ka_q_in_X1 ka_q_co_X1_readNumber ky_X1_readNumber (by decide) (by decide) (Nat.le_of_ble_eq_true rfl) rfl dX1_readOrder_60 ?_
            refine ka_if_ne_b (tgt := 68) hC dX1_readOrder_63 (by decide) (fun c63 => ?_) (fun c63 => ?_)
            · skip
              refine ka_iinc_2 (v := 1) hC dX1_readOrder_68 rfl (by decide) ?_
              refine ka_goto (tgt := 38) hC dX1_readOrder_71 (by decide) ?_
              exact ka_I.back 3 (by rw [e]) (by rw [← nI_1]; rfl) (ih38 (i + 1) (by omega) (by omega) (by rw [e]; exact c63))
            · skip
              have eN := st_numX_end e c63 hi
              refine ka_iconst (v := 0) hC dX1_readOrder_66 rfl ?_
              exact ka_bret hC hR dX1_readOrder_67 (by first | with_reducible rfl | (simp only [st_readOrder, ka_b, c21, c40, c44, c53, c63, eN]; done) | (simp only [st_readOrder, ka_b, if_neg c21, if_pos c21, if_pos c40, if_neg (not_not_intro c40), if_pos c44, if_neg (not_not_intro c44), c53, c63, eN]; done) | (simp [st_readOrder, ka_b, c21, c40, c44, c53, c63, eN]; done) | (simp [st_readOrder, ka_b, if_neg c21, if_pos c21, if_pos c40, if_neg (not_not_intro c40), if_pos c44, if_neg (not_not_intro c44), c53, c63, eN]; done) | contradiction | rfl) rfl (by first | with_reducible rfl | (simp only [st_readOrder, ka_b, c21, c40, c44, c53, c63, eN]; done) | (simp only [st_readOrder, ka_b, if_neg c21, if_pos c21, if_pos c40, if_neg (not_not_intro c40), if_pos c44, if_neg (not_not_intro c44), c53, c63, eN]; done) | (simp [st_readOrder, ka_b, c21, c40, c44, c53, c63, eN]; done) | (simp [st_readOrder, ka_b, if_neg c21, if_pos c21, if_pos c40, if_neg (not_not_intro c40), if_pos c44, if_neg (not_not_intro c44), c53, c63, eN]; done) | contradiction | rfl)
          · skip
            have eN := st_numX_fail1 hv hi c44 c53
            refine ka_iconst (v := 0) hC dX1_readOrder_56 rfl ?_
            exact ka_bret hC hR dX1_readOrder_57 (by first | with_reducible rfl | (simp only [st_readOrder, ka_b, c21, c40, c44, c53, eN]; done) | (simp only [st_readOrder, ka_b, if_neg c21, if_pos c21, if_pos c40, if_neg (not_not_intro c40), if_pos c44, if_neg (not_not_intro c44), c53, eN]; done) | (simp [st_readOrder, ka_b, c21, c40, c44, c53, eN]; done) | (simp [st_readOrder, ka_b, if_neg c21, if_pos c21, if_pos c40, if_neg (not_not_intro c40), if_pos c44, if_neg (not_not_intro c44), c53, eN]; done) | contradiction | rfl) rfl (by first | with_reducible rfl | (simp only [st_readOrder, ka_b, c21, c40, c44, c53, eN]; done) | (simp only [st_readOrder, ka_b, if_neg c21, if_pos c21, if_pos c40, if_neg (not_not_intro c40), if_pos c44, if_neg (not_not_intro c44), c53, eN]; done) | (simp [st_readOrder, ka_b, c21, c40, c44, c53, eN]; done) | (simp [st_readOrder, ka_b, if_neg c21, if_pos c21, if_pos c40, if_neg (not_not_intro c40), if_pos c44, if_neg (not_not_intro c44), c53, eN]; done) | contradiction | rfl)
  · skip
    refine ka_iconst (v := 0) hC dX1_readOrder_24 rfl ?_
    exact ka_bret hC hR dX1_readOrder_25 (by first | with_reducible rfl | (simp only [st_readOrder, ka_b, c21]; done) | (simp only [st_readOrder, ka_b, if_pos c21, if_neg (not_not_intro c21)]; done) | (simp [st_readOrder, ka_b, c21]; done) | (simp [st_readOrder, ka_b, if_pos c21, if_neg (not_not_intro c21)]; done) | contradiction | rfl) rfl (by first | with_reducible rfl | (simp only [st_readOrder, ka_b, c21]; done) | (simp only [st_readOrder, ka_b, if_pos c21, if_neg (not_not_intro c21)]; done) | (simp [st_readOrder, ka_b, c21]; done) | (simp [st_readOrder, ka_b, if_pos c21, if_neg (not_not_intro c21)]; done) | contradiction | rfl)
theorem ky_X1_doOrder : ka_y yX1_doOrder 1 := by unfold ka_y; decide +kernel
set_option maxHeartbeats 4000000 in
set_option maxRecDepth 100000 in
theorem m_X1_doOrder {G : ka_G} (hG : ka_AD G) {V : ka_W} {r : Nat} (hr : r < 6) {P T : ka_P} (hg : gd P)  : ka_M G yX1_doOrder cX1_doOrder 2 (some FieldType.int) 4 [.ref (ka_ad G 7 0), .ref (ka_ad G r 0)] (ka_sp (ka_sp V r P) 7 T) (some (.int ((st_doOrder T P).1))) (ka_sp (ka_sp V r (st_doOrder T P).2) 7 T) := by
  refine ka_entry hG ka_pn_X1 (ka_cat1 rfl) (Nat.le_of_ble_eq_true rfl) (fun X hC hR => ?_)
  refine ka_aload_n hC dX1_doOrder_0 rfl ?_
  refine kgp_X1_62  hC dX1_doOrder_1 ?_
  by_cases c4_108 : T 0 3 = 108
  · skip
    refine ka_tsIn (tgt := 79) hC dX1_doOrder_4 (by rw [c4_108]; decide) (by rw [c4_108]; decide) (by rw [c4_108]; rfl) (by decide) ?_
    refine ka_aload_n hC dX1_doOrder_79 rfl ?_
    refine ka_aload_n hC dX1_doOrder_80 rfl ?_
    refine kg_X1_15  hC dX1_doOrder_81 ?_
    refine ka_iconst (v := 0) hC dX1_doOrder_84 rfl ?_
    refine kin_nums  0 (by decide) rfl hC dX1_doOrder_85 ?_
    refine ka_I.eqW (ka_sp_comm (show r ≠ 7 by omega)) ?_
    refine ka_callV hC (m_X3_loadWagon hG (by first | assumption | decide | exact wgIx_lt _ | exact plIx_lt _ | exact sp_recQ_lt | omega)) (ka_Rc_pool (by first | assumption | decide | exact wgIx_lt _ | exact plIx_lt _ | exact sp_recQ_lt | omega)) rfl ka_q_ml_X1_71 ka_q_im_X3_loadWagon ka_q_se_X3_loadWagon ka_q_in_X3 ka_q_co_X3_loadWagon ky_X3_loadWagon (by decide) (by decide) (Nat.le_of_ble_eq_true rfl) rfl dX1_doOrder_86 ?_
    exact ka_iret hC hR dX1_doOrder_89 (by first | with_reducible rfl | (simp only [st_doOrder, c4_108]; done) | (simp only [st_doOrder, if_pos c4_108, if_neg (not_not_intro c4_108)]; done) | (simp [st_doOrder, c4_108]; done) | (simp [st_doOrder, if_pos c4_108, if_neg (not_not_intro c4_108)]; done) | contradiction | rfl) (by rw [ka_sp_comm (show 7 ≠ r by omega)]; first | with_reducible rfl | (simp only [st_doOrder, c4_108]; done) | (simp [st_doOrder, c4_108]; done) | rfl)
  by_cases c4_114 : T 0 3 = 114
  · skip
    refine ka_tsIn (tgt := 101) hC dX1_doOrder_4 (by rw [c4_114]; decide) (by rw [c4_114]; decide) (by rw [c4_114]; rfl) (by decide) ?_
    refine ka_aload_n hC dX1_doOrder_101 rfl ?_
    refine ka_aload_n hC dX1_doOrder_102 rfl ?_
    refine kg_X1_15  hC dX1_doOrder_103 ?_
    refine ka_iconst (v := 0) hC dX1_doOrder_106 rfl ?_
    refine kin_nums  0 (by decide) rfl hC dX1_doOrder_107 ?_
    refine ka_I.eqW (ka_sp_comm (show r ≠ 7 by omega)) ?_
    refine ka_callV hC (m_X3_repairWagon hG (by first | assumption | decide | exact wgIx_lt _ | exact plIx_lt _ | exact sp_recQ_lt | omega)) (ka_Rc_pool (by first | assumption | decide | exact wgIx_lt _ | exact plIx_lt _ | exact sp_recQ_lt | omega)) rfl ka_q_ml_X1_77 ka_q_im_X3_repairWagon ka_q_se_X3_repairWagon ka_q_in_X3 ka_q_co_X3_repairWagon ky_X3_repairWagon (by decide) (by decide) (Nat.le_of_ble_eq_true rfl) rfl dX1_doOrder_108 ?_
    exact ka_iret hC hR dX1_doOrder_111 (by first | with_reducible rfl | (simp only [st_doOrder, c4_108, c4_114]; done) | (simp only [st_doOrder, if_neg c4_108, if_pos c4_108, if_pos c4_114, if_neg (not_not_intro c4_114)]; done) | (simp [st_doOrder, c4_108, c4_114]; done) | (simp [st_doOrder, if_neg c4_108, if_pos c4_108, if_pos c4_114, if_neg (not_not_intro c4_114)]; done) | contradiction | rfl) (by rw [ka_sp_comm (show 7 ≠ r by omega)]; first | with_reducible rfl | (simp only [st_doOrder, c4_108, c4_114]; done) | (simp [st_doOrder, c4_108, c4_114]; done) | rfl)
  by_cases c4_116 : T 0 3 = 116
  · skip
    refine ka_tsIn (tgt := 112) hC dX1_doOrder_4 (by rw [c4_116]; decide) (by rw [c4_116]; decide) (by rw [c4_116]; rfl) (by decide) ?_
    refine ka_aload_n hC dX1_doOrder_112 rfl ?_
    refine ka_aload_n hC dX1_doOrder_113 rfl ?_
    refine kg_X1_15  hC dX1_doOrder_114 ?_
    refine ka_iconst (v := 0) hC dX1_doOrder_117 rfl ?_
    refine kin_nums  0 (by decide) rfl hC dX1_doOrder_118 ?_
    refine ka_aload_n hC dX1_doOrder_119 rfl ?_
    refine kg_X1_15  hC dX1_doOrder_120 ?_
    refine ka_iconst (v := 1) hC dX1_doOrder_123 rfl ?_
    refine kin_nums  1 (by decide) rfl hC dX1_doOrder_124 ?_
    refine ka_aload_n hC dX1_doOrder_125 rfl ?_
    refine kg_X1_15  hC dX1_doOrder_126 ?_
    refine ka_iconst (v := 2) hC dX1_doOrder_129 rfl ?_
    refine kin_nums  2 (by decide) rfl hC dX1_doOrder_130 ?_
    refine ka_aload_n hC dX1_doOrder_131 rfl ?_
    refine kg_X1_15  hC dX1_doOrder_132 ?_
    refine ka_iconst (v := 3) hC dX1_doOrder_135 rfl ?_
    refine kin_nums  3 (by decide) rfl hC dX1_doOrder_136 ?_
    refine ka_I.eqW (ka_sp_comm (show r ≠ 7 by omega)) ?_
    refine ka_callV hC (m_X3_sendTrain hG (by first | assumption | decide | exact wgIx_lt _ | exact plIx_lt _ | exact sp_recQ_lt | omega)) (ka_Rc_pool (by first | assumption | decide | exact wgIx_lt _ | exact plIx_lt _ | exact sp_recQ_lt | omega)) rfl ka_q_ml_X1_80 ka_q_im_X3_sendTrain ka_q_se_X3_sendTrain ka_q_in_X3 ka_q_co_X3_sendTrain ky_X3_sendTrain (by decide) (by decide) (Nat.le_of_ble_eq_true rfl) rfl dX1_doOrder_137 ?_
    exact ka_iret hC hR dX1_doOrder_140 (by first | with_reducible rfl | (simp only [st_doOrder, c4_108, c4_114, c4_116]; done) | (simp only [st_doOrder, if_neg c4_108, if_pos c4_108, if_neg c4_114, if_pos c4_114, if_pos c4_116, if_neg (not_not_intro c4_116)]; done) | (simp [st_doOrder, c4_108, c4_114, c4_116]; done) | (simp [st_doOrder, if_neg c4_108, if_pos c4_108, if_neg c4_114, if_pos c4_114, if_pos c4_116, if_neg (not_not_intro c4_116)]; done) | contradiction | rfl) (by rw [ka_sp_comm (show 7 ≠ r by omega)]; first | with_reducible rfl | (simp only [st_doOrder, c4_108, c4_114, c4_116]; done) | (simp [st_doOrder, c4_108, c4_114, c4_116]; done) | rfl)
  by_cases c4_117 : T 0 3 = 117
  · skip
    refine ka_tsIn (tgt := 90) hC dX1_doOrder_4 (by rw [c4_117]; decide) (by rw [c4_117]; decide) (by rw [c4_117]; rfl) (by decide) ?_
    refine ka_aload_n hC dX1_doOrder_90 rfl ?_
    refine ka_aload_n hC dX1_doOrder_91 rfl ?_
    refine kg_X1_15  hC dX1_doOrder_92 ?_
    refine ka_iconst (v := 0) hC dX1_doOrder_95 rfl ?_
    refine kin_nums  0 (by decide) rfl hC dX1_doOrder_96 ?_
    refine ka_I.eqW (ka_sp_comm (show r ≠ 7 by omega)) ?_
    refine ka_callV hC (m_X3_unloadWagon hG (by first | assumption | decide | exact wgIx_lt _ | exact plIx_lt _ | exact sp_recQ_lt | omega)) (ka_Rc_pool (by first | assumption | decide | exact wgIx_lt _ | exact plIx_lt _ | exact sp_recQ_lt | omega)) rfl ka_q_ml_X1_74 ka_q_im_X3_unloadWagon ka_q_se_X3_unloadWagon ka_q_in_X3 ka_q_co_X3_unloadWagon ky_X3_unloadWagon (by decide) (by decide) (Nat.le_of_ble_eq_true rfl) rfl dX1_doOrder_97 ?_
    exact ka_iret hC hR dX1_doOrder_100 (by first | with_reducible rfl | (simp only [st_doOrder, c4_108, c4_114, c4_116, c4_117]; done) | (simp only [st_doOrder, if_neg c4_108, if_pos c4_108, if_neg c4_114, if_pos c4_114, if_neg c4_116, if_pos c4_116, if_pos c4_117, if_neg (not_not_intro c4_117)]; done) | (simp [st_doOrder, c4_108, c4_114, c4_116, c4_117]; done) | (simp [st_doOrder, if_neg c4_108, if_pos c4_108, if_neg c4_114, if_pos c4_114, if_neg c4_116, if_pos c4_116, if_pos c4_117, if_neg (not_not_intro c4_117)]; done) | contradiction | rfl) (by rw [ka_sp_comm (show 7 ≠ r by omega)]; first | with_reducible rfl | (simp only [st_doOrder, c4_108, c4_114, c4_116, c4_117]; done) | (simp [st_doOrder, c4_108, c4_114, c4_116, c4_117]; done) | rfl)
  by_cases c4_119 : T 0 3 = 119
  · skip
    refine ka_tsIn (tgt := 68) hC dX1_doOrder_4 (by rw [c4_119]; decide) (by rw [c4_119]; decide) (by rw [c4_119]; rfl) (by decide) ?_
    refine ka_aload_n hC dX1_doOrder_68 rfl ?_
    refine ka_aload_n hC dX1_doOrder_69 rfl ?_
    refine kg_X1_15  hC dX1_doOrder_70 ?_
    refine ka_iconst (v := 0) hC dX1_doOrder_73 rfl ?_
    refine kin_nums  0 (by decide) rfl hC dX1_doOrder_74 ?_
    refine ka_I.eqW (ka_sp_comm (show r ≠ 7 by omega)) ?_
    refine ka_callV hC (m_X3_addWagon hG (by first | assumption | decide | exact wgIx_lt _ | exact plIx_lt _ | exact sp_recQ_lt | omega)) (ka_Rc_pool (by first | assumption | decide | exact wgIx_lt _ | exact plIx_lt _ | exact sp_recQ_lt | omega)) rfl ka_q_ml_X1_65 ka_q_im_X3_addWagon ka_q_se_X3_addWagon ka_q_in_X3 ka_q_co_X3_addWagon ky_X3_addWagon (by decide) (by decide) (Nat.le_of_ble_eq_true rfl) rfl dX1_doOrder_75 ?_
    exact ka_iret hC hR dX1_doOrder_78 (by first | with_reducible rfl | (simp only [st_doOrder, c4_108, c4_114, c4_116, c4_117, c4_119]; done) | (simp only [st_doOrder, if_neg c4_108, if_pos c4_108, if_neg c4_114, if_pos c4_114, if_neg c4_116, if_pos c4_116, if_neg c4_117, if_pos c4_117, if_pos c4_119, if_neg (not_not_intro c4_119)]; done) | (simp [st_doOrder, c4_108, c4_114, c4_116, c4_117, c4_119]; done) | (simp [st_doOrder, if_neg c4_108, if_pos c4_108, if_neg c4_114, if_pos c4_114, if_neg c4_116, if_pos c4_116, if_neg c4_117, if_pos c4_117, if_pos c4_119, if_neg (not_not_intro c4_119)]; done) | contradiction | rfl) (by rw [ka_sp_comm (show 7 ≠ r by omega)]; first | with_reducible rfl | (simp only [st_doOrder, c4_108, c4_114, c4_116, c4_117, c4_119]; done) | (simp [st_doOrder, c4_108, c4_114, c4_116, c4_117, c4_119]; done) | rfl)
  by_cases c4_109 : T 0 3 = 109
  · skip
    refine ka_tsIn (tgt := 141) hC dX1_doOrder_4 (by rw [c4_109]; decide) (by rw [c4_109]; decide) (by rw [c4_109]; rfl) (by decide) ?_
    refine ka_aload_n hC dX1_doOrder_141 rfl ?_
    refine ka_aload_n hC dX1_doOrder_142 rfl ?_
    refine kg_X1_15  hC dX1_doOrder_143 ?_
    refine ka_iconst (v := 0) hC dX1_doOrder_146 rfl ?_
    refine kin_nums  0 (by decide) rfl hC dX1_doOrder_147 ?_
    refine ka_I.eqW (ka_sp_comm (show r ≠ 7 by omega)) ?_
    refine ka_callV hC (m_X3_passDays hG (by first | assumption | decide | exact wgIx_lt _ | exact plIx_lt _ | exact sp_recQ_lt | omega) hg.1 hg.2) (ka_Rc_pool (by first | assumption | decide | exact wgIx_lt _ | exact plIx_lt _ | exact sp_recQ_lt | omega)) rfl ka_q_ml_X1_84 ka_q_im_X3_passDays ka_q_se_X3_passDays ka_q_in_X3 ka_q_co_X3_passDays ky_X3_passDays (by decide) (by decide) (Nat.le_of_ble_eq_true rfl) rfl dX1_doOrder_148 ?_
    exact ka_iret hC hR dX1_doOrder_151 (by first | with_reducible rfl | (simp only [st_doOrder, c4_108, c4_114, c4_116, c4_117, c4_119, c4_109]; done) | (simp only [st_doOrder, if_neg c4_108, if_pos c4_108, if_neg c4_114, if_pos c4_114, if_neg c4_116, if_pos c4_116, if_neg c4_117, if_pos c4_117, if_neg c4_119, if_pos c4_119, if_pos c4_109, if_neg (not_not_intro c4_109)]; done) | (simp [st_doOrder, c4_108, c4_114, c4_116, c4_117, c4_119, c4_109]; done) | (simp [st_doOrder, if_neg c4_108, if_pos c4_108, if_neg c4_114, if_pos c4_114, if_neg c4_116, if_pos c4_116, if_neg c4_117, if_pos c4_117, if_neg c4_119, if_pos c4_119, if_pos c4_109, if_neg (not_not_intro c4_109)]; done) | contradiction | rfl) (by rw [ka_sp_comm (show 7 ≠ r by omega)]; first | with_reducible rfl | (simp only [st_doOrder, c4_108, c4_114, c4_116, c4_117, c4_119, c4_109]; done) | (simp [st_doOrder, c4_108, c4_114, c4_116, c4_117, c4_119, c4_109]; done) | rfl)
  by_cases c4_110 : T 0 3 = 110
  · skip
    refine ka_tsIn (tgt := 141) hC dX1_doOrder_4 (by rw [c4_110]; decide) (by rw [c4_110]; decide) (by rw [c4_110]; rfl) (by decide) ?_
    refine ka_aload_n hC dX1_doOrder_141 rfl ?_
    refine ka_aload_n hC dX1_doOrder_142 rfl ?_
    refine kg_X1_15  hC dX1_doOrder_143 ?_
    refine ka_iconst (v := 0) hC dX1_doOrder_146 rfl ?_
    refine kin_nums  0 (by decide) rfl hC dX1_doOrder_147 ?_
    refine ka_I.eqW (ka_sp_comm (show r ≠ 7 by omega)) ?_
    refine ka_callV hC (m_X3_passDays hG (by first | assumption | decide | exact wgIx_lt _ | exact plIx_lt _ | exact sp_recQ_lt | omega) hg.1 hg.2) (ka_Rc_pool (by first | assumption | decide | exact wgIx_lt _ | exact plIx_lt _ | exact sp_recQ_lt | omega)) rfl ka_q_ml_X1_84 ka_q_im_X3_passDays ka_q_se_X3_passDays ka_q_in_X3 ka_q_co_X3_passDays ky_X3_passDays (by decide) (by decide) (Nat.le_of_ble_eq_true rfl) rfl dX1_doOrder_148 ?_
    exact ka_iret hC hR dX1_doOrder_151 (by first | with_reducible rfl | (simp only [st_doOrder, c4_108, c4_114, c4_116, c4_117, c4_119, c4_109, c4_110]; done) | (simp only [st_doOrder, if_neg c4_108, if_pos c4_108, if_neg c4_114, if_pos c4_114, if_neg c4_116, if_pos c4_116, if_neg c4_117, if_pos c4_117, if_neg c4_119, if_pos c4_119, if_neg c4_109, if_pos c4_109, if_pos c4_110, if_neg (not_not_intro c4_110)]; done) | (simp [st_doOrder, c4_108, c4_114, c4_116, c4_117, c4_119, c4_109, c4_110]; done) | (simp [st_doOrder, if_neg c4_108, if_pos c4_108, if_neg c4_114, if_pos c4_114, if_neg c4_116, if_pos c4_116, if_neg c4_117, if_pos c4_117, if_neg c4_119, if_pos c4_119, if_neg c4_109, if_pos c4_109, if_pos c4_110, if_neg (not_not_intro c4_110)]; done) | contradiction | rfl) (by rw [ka_sp_comm (show 7 ≠ r by omega)]; first | with_reducible rfl | (simp only [st_doOrder, c4_108, c4_114, c4_116, c4_117, c4_119, c4_109, c4_110]; done) | (simp [st_doOrder, c4_108, c4_114, c4_116, c4_117, c4_119, c4_109, c4_110]; done) | rfl)
  by_cases c4_111 : T 0 3 = 111
  · skip
    refine ka_tsIn (tgt := 141) hC dX1_doOrder_4 (by rw [c4_111]; decide) (by rw [c4_111]; decide) (by rw [c4_111]; rfl) (by decide) ?_
    refine ka_aload_n hC dX1_doOrder_141 rfl ?_
    refine ka_aload_n hC dX1_doOrder_142 rfl ?_
    refine kg_X1_15  hC dX1_doOrder_143 ?_
    refine ka_iconst (v := 0) hC dX1_doOrder_146 rfl ?_
    refine kin_nums  0 (by decide) rfl hC dX1_doOrder_147 ?_
    refine ka_I.eqW (ka_sp_comm (show r ≠ 7 by omega)) ?_
    refine ka_callV hC (m_X3_passDays hG (by first | assumption | decide | exact wgIx_lt _ | exact plIx_lt _ | exact sp_recQ_lt | omega) hg.1 hg.2) (ka_Rc_pool (by first | assumption | decide | exact wgIx_lt _ | exact plIx_lt _ | exact sp_recQ_lt | omega)) rfl ka_q_ml_X1_84 ka_q_im_X3_passDays ka_q_se_X3_passDays ka_q_in_X3 ka_q_co_X3_passDays ky_X3_passDays (by decide) (by decide) (Nat.le_of_ble_eq_true rfl) rfl dX1_doOrder_148 ?_
    exact ka_iret hC hR dX1_doOrder_151 (by first | with_reducible rfl | (simp only [st_doOrder, c4_108, c4_114, c4_116, c4_117, c4_119, c4_109, c4_110, c4_111]; done) | (simp only [st_doOrder, if_neg c4_108, if_pos c4_108, if_neg c4_114, if_pos c4_114, if_neg c4_116, if_pos c4_116, if_neg c4_117, if_pos c4_117, if_neg c4_119, if_pos c4_119, if_neg c4_109, if_pos c4_109, if_neg c4_110, if_pos c4_110, if_pos c4_111, if_neg (not_not_intro c4_111)]; done) | (simp [st_doOrder, c4_108, c4_114, c4_116, c4_117, c4_119, c4_109, c4_110, c4_111]; done) | (simp [st_doOrder, if_neg c4_108, if_pos c4_108, if_neg c4_114, if_pos c4_114, if_neg c4_116, if_pos c4_116, if_neg c4_117, if_pos c4_117, if_neg c4_119, if_pos c4_119, if_neg c4_109, if_pos c4_109, if_neg c4_110, if_pos c4_110, if_pos c4_111, if_neg (not_not_intro c4_111)]; done) | contradiction | rfl) (by rw [ka_sp_comm (show 7 ≠ r by omega)]; first | with_reducible rfl | (simp only [st_doOrder, c4_108, c4_114, c4_116, c4_117, c4_119, c4_109, c4_110, c4_111]; done) | (simp [st_doOrder, c4_108, c4_114, c4_116, c4_117, c4_119, c4_109, c4_110, c4_111]; done) | rfl)
  by_cases c4_112 : T 0 3 = 112
  · skip
    refine ka_tsIn (tgt := 141) hC dX1_doOrder_4 (by rw [c4_112]; decide) (by rw [c4_112]; decide) (by rw [c4_112]; rfl) (by decide) ?_
    refine ka_aload_n hC dX1_doOrder_141 rfl ?_
    refine ka_aload_n hC dX1_doOrder_142 rfl ?_
    refine kg_X1_15  hC dX1_doOrder_143 ?_
    refine ka_iconst (v := 0) hC dX1_doOrder_146 rfl ?_
    refine kin_nums  0 (by decide) rfl hC dX1_doOrder_147 ?_
    refine ka_I.eqW (ka_sp_comm (show r ≠ 7 by omega)) ?_
    refine ka_callV hC (m_X3_passDays hG (by first | assumption | decide | exact wgIx_lt _ | exact plIx_lt _ | exact sp_recQ_lt | omega) hg.1 hg.2) (ka_Rc_pool (by first | assumption | decide | exact wgIx_lt _ | exact plIx_lt _ | exact sp_recQ_lt | omega)) rfl ka_q_ml_X1_84 ka_q_im_X3_passDays ka_q_se_X3_passDays ka_q_in_X3 ka_q_co_X3_passDays ky_X3_passDays (by decide) (by decide) (Nat.le_of_ble_eq_true rfl) rfl dX1_doOrder_148 ?_
    exact ka_iret hC hR dX1_doOrder_151 (by first | with_reducible rfl | (simp only [st_doOrder, c4_108, c4_114, c4_116, c4_117, c4_119, c4_109, c4_110, c4_111, c4_112]; done) | (simp only [st_doOrder, if_neg c4_108, if_pos c4_108, if_neg c4_114, if_pos c4_114, if_neg c4_116, if_pos c4_116, if_neg c4_117, if_pos c4_117, if_neg c4_119, if_pos c4_119, if_neg c4_109, if_pos c4_109, if_neg c4_110, if_pos c4_110, if_neg c4_111, if_pos c4_111, if_pos c4_112, if_neg (not_not_intro c4_112)]; done) | (simp [st_doOrder, c4_108, c4_114, c4_116, c4_117, c4_119, c4_109, c4_110, c4_111, c4_112]; done) | (simp [st_doOrder, if_neg c4_108, if_pos c4_108, if_neg c4_114, if_pos c4_114, if_neg c4_116, if_pos c4_116, if_neg c4_117, if_pos c4_117, if_neg c4_119, if_pos c4_119, if_neg c4_109, if_pos c4_109, if_neg c4_110, if_pos c4_110, if_neg c4_111, if_pos c4_111, if_pos c4_112, if_neg (not_not_intro c4_112)]; done) | contradiction | rfl) (by rw [ka_sp_comm (show 7 ≠ r by omega)]; first | with_reducible rfl | (simp only [st_doOrder, c4_108, c4_114, c4_116, c4_117, c4_119, c4_109, c4_110, c4_111, c4_112]; done) | (simp [st_doOrder, c4_108, c4_114, c4_116, c4_117, c4_119, c4_109, c4_110, c4_111, c4_112]; done) | rfl)
  by_cases c4_113 : T 0 3 = 113
  · skip
    refine ka_tsIn (tgt := 141) hC dX1_doOrder_4 (by rw [c4_113]; decide) (by rw [c4_113]; decide) (by rw [c4_113]; rfl) (by decide) ?_
    refine ka_aload_n hC dX1_doOrder_141 rfl ?_
    refine ka_aload_n hC dX1_doOrder_142 rfl ?_
    refine kg_X1_15  hC dX1_doOrder_143 ?_
    refine ka_iconst (v := 0) hC dX1_doOrder_146 rfl ?_
    refine kin_nums  0 (by decide) rfl hC dX1_doOrder_147 ?_
    refine ka_I.eqW (ka_sp_comm (show r ≠ 7 by omega)) ?_
    refine ka_callV hC (m_X3_passDays hG (by first | assumption | decide | exact wgIx_lt _ | exact plIx_lt _ | exact sp_recQ_lt | omega) hg.1 hg.2) (ka_Rc_pool (by first | assumption | decide | exact wgIx_lt _ | exact plIx_lt _ | exact sp_recQ_lt | omega)) rfl ka_q_ml_X1_84 ka_q_im_X3_passDays ka_q_se_X3_passDays ka_q_in_X3 ka_q_co_X3_passDays ky_X3_passDays (by decide) (by decide) (Nat.le_of_ble_eq_true rfl) rfl dX1_doOrder_148 ?_
    exact ka_iret hC hR dX1_doOrder_151 (by first | with_reducible rfl | (simp only [st_doOrder, c4_108, c4_114, c4_116, c4_117, c4_119, c4_109, c4_110, c4_111, c4_112, c4_113]; done) | (simp only [st_doOrder, if_neg c4_108, if_pos c4_108, if_neg c4_114, if_pos c4_114, if_neg c4_116, if_pos c4_116, if_neg c4_117, if_pos c4_117, if_neg c4_119, if_pos c4_119, if_neg c4_109, if_pos c4_109, if_neg c4_110, if_pos c4_110, if_neg c4_111, if_pos c4_111, if_neg c4_112, if_pos c4_112, if_pos c4_113, if_neg (not_not_intro c4_113)]; done) | (simp [st_doOrder, c4_108, c4_114, c4_116, c4_117, c4_119, c4_109, c4_110, c4_111, c4_112, c4_113]; done) | (simp [st_doOrder, if_neg c4_108, if_pos c4_108, if_neg c4_114, if_pos c4_114, if_neg c4_116, if_pos c4_116, if_neg c4_117, if_pos c4_117, if_neg c4_119, if_pos c4_119, if_neg c4_109, if_pos c4_109, if_neg c4_110, if_pos c4_110, if_neg c4_111, if_pos c4_111, if_neg c4_112, if_pos c4_112, if_pos c4_113, if_neg (not_not_intro c4_113)]; done) | contradiction | rfl) (by rw [ka_sp_comm (show 7 ≠ r by omega)]; first | with_reducible rfl | (simp only [st_doOrder, c4_108, c4_114, c4_116, c4_117, c4_119, c4_109, c4_110, c4_111, c4_112, c4_113]; done) | (simp [st_doOrder, c4_108, c4_114, c4_116, c4_117, c4_119, c4_109, c4_110, c4_111, c4_112, c4_113]; done) | rfl)
  by_cases c4_115 : T 0 3 = 115
  · skip
    refine ka_tsIn (tgt := 141) hC dX1_doOrder_4 (by rw [c4_115]; decide) (by rw [c4_115]; decide) (by rw [c4_115]; rfl) (by decide) ?_
    refine ka_aload_n hC dX1_doOrder_141 rfl ?_
    refine ka_aload_n hC dX1_doOrder_142 rfl ?_
    refine kg_X1_15  hC dX1_doOrder_143 ?_
    refine ka_iconst (v := 0) hC dX1_doOrder_146 rfl ?_
    refine kin_nums  0 (by decide) rfl hC dX1_doOrder_147 ?_
    refine ka_I.eqW (ka_sp_comm (show r ≠ 7 by omega)) ?_
    refine ka_callV hC (m_X3_passDays hG (by first | assumption | decide | exact wgIx_lt _ | exact plIx_lt _ | exact sp_recQ_lt | omega) hg.1 hg.2) (ka_Rc_pool (by first | assumption | decide | exact wgIx_lt _ | exact plIx_lt _ | exact sp_recQ_lt | omega)) rfl ka_q_ml_X1_84 ka_q_im_X3_passDays ka_q_se_X3_passDays ka_q_in_X3 ka_q_co_X3_passDays ky_X3_passDays (by decide) (by decide) (Nat.le_of_ble_eq_true rfl) rfl dX1_doOrder_148 ?_
    exact ka_iret hC hR dX1_doOrder_151 (by first | with_reducible rfl | (simp only [st_doOrder, c4_108, c4_114, c4_116, c4_117, c4_119, c4_109, c4_110, c4_111, c4_112, c4_113, c4_115]; done) | (simp only [st_doOrder, if_neg c4_108, if_pos c4_108, if_neg c4_114, if_pos c4_114, if_neg c4_116, if_pos c4_116, if_neg c4_117, if_pos c4_117, if_neg c4_119, if_pos c4_119, if_neg c4_109, if_pos c4_109, if_neg c4_110, if_pos c4_110, if_neg c4_111, if_pos c4_111, if_neg c4_112, if_pos c4_112, if_neg c4_113, if_pos c4_113, if_pos c4_115, if_neg (not_not_intro c4_115)]; done) | (simp [st_doOrder, c4_108, c4_114, c4_116, c4_117, c4_119, c4_109, c4_110, c4_111, c4_112, c4_113, c4_115]; done) | (simp [st_doOrder, if_neg c4_108, if_pos c4_108, if_neg c4_114, if_pos c4_114, if_neg c4_116, if_pos c4_116, if_neg c4_117, if_pos c4_117, if_neg c4_119, if_pos c4_119, if_neg c4_109, if_pos c4_109, if_neg c4_110, if_pos c4_110, if_neg c4_111, if_pos c4_111, if_neg c4_112, if_pos c4_112, if_neg c4_113, if_pos c4_113, if_pos c4_115, if_neg (not_not_intro c4_115)]; done) | contradiction | rfl) (by rw [ka_sp_comm (show 7 ≠ r by omega)]; first | with_reducible rfl | (simp only [st_doOrder, c4_108, c4_114, c4_116, c4_117, c4_119, c4_109, c4_110, c4_111, c4_112, c4_113, c4_115]; done) | (simp [st_doOrder, c4_108, c4_114, c4_116, c4_117, c4_119, c4_109, c4_110, c4_111, c4_112, c4_113, c4_115]; done) | rfl)
  by_cases c4_118 : T 0 3 = 118
  · skip
    refine ka_tsIn (tgt := 141) hC dX1_doOrder_4 (by rw [c4_118]; decide) (by rw [c4_118]; decide) (by rw [c4_118]; rfl) (by decide) ?_
    refine ka_aload_n hC dX1_doOrder_141 rfl ?_
    refine ka_aload_n hC dX1_doOrder_142 rfl ?_
    refine kg_X1_15  hC dX1_doOrder_143 ?_
    refine ka_iconst (v := 0) hC dX1_doOrder_146 rfl ?_
    refine kin_nums  0 (by decide) rfl hC dX1_doOrder_147 ?_
    refine ka_I.eqW (ka_sp_comm (show r ≠ 7 by omega)) ?_
    refine ka_callV hC (m_X3_passDays hG (by first | assumption | decide | exact wgIx_lt _ | exact plIx_lt _ | exact sp_recQ_lt | omega) hg.1 hg.2) (ka_Rc_pool (by first | assumption | decide | exact wgIx_lt _ | exact plIx_lt _ | exact sp_recQ_lt | omega)) rfl ka_q_ml_X1_84 ka_q_im_X3_passDays ka_q_se_X3_passDays ka_q_in_X3 ka_q_co_X3_passDays ky_X3_passDays (by decide) (by decide) (Nat.le_of_ble_eq_true rfl) rfl dX1_doOrder_148 ?_
    exact ka_iret hC hR dX1_doOrder_151 (by first | with_reducible rfl | (simp only [st_doOrder, c4_108, c4_114, c4_116, c4_117, c4_119, c4_109, c4_110, c4_111, c4_112, c4_113, c4_115, c4_118]; done) | (simp only [st_doOrder, if_neg c4_108, if_pos c4_108, if_neg c4_114, if_pos c4_114, if_neg c4_116, if_pos c4_116, if_neg c4_117, if_pos c4_117, if_neg c4_119, if_pos c4_119, if_neg c4_109, if_pos c4_109, if_neg c4_110, if_pos c4_110, if_neg c4_111, if_pos c4_111, if_neg c4_112, if_pos c4_112, if_neg c4_113, if_pos c4_113, if_neg c4_115, if_pos c4_115, if_pos c4_118, if_neg (not_not_intro c4_118)]; done) | (simp [st_doOrder, c4_108, c4_114, c4_116, c4_117, c4_119, c4_109, c4_110, c4_111, c4_112, c4_113, c4_115, c4_118]; done) | (simp [st_doOrder, if_neg c4_108, if_pos c4_108, if_neg c4_114, if_pos c4_114, if_neg c4_116, if_pos c4_116, if_neg c4_117, if_pos c4_117, if_neg c4_119, if_pos c4_119, if_neg c4_109, if_pos c4_109, if_neg c4_110, if_pos c4_110, if_neg c4_111, if_pos c4_111, if_neg c4_112, if_pos c4_112, if_neg c4_113, if_pos c4_113, if_neg c4_115, if_pos c4_115, if_pos c4_118, if_neg (not_not_intro c4_118)]; done) | contradiction | rfl) (by rw [ka_sp_comm (show 7 ≠ r by omega)]; first | with_reducible rfl | (simp only [st_doOrder, c4_108, c4_114, c4_116, c4_117, c4_119, c4_109, c4_110, c4_111, c4_112, c4_113, c4_115, c4_118]; done) | (simp [st_doOrder, c4_108, c4_114, c4_116, c4_117, c4_119, c4_109, c4_110, c4_111, c4_112, c4_113, c4_115, c4_118]; done) | rfl)
  refine ka_tsOut (tgt := 141) hC dX1_doOrder_4 (by
      have t4_108 : ¬ (T 0 3).toInt = 108 := fun e => c4_108 (Int32.toInt_inj.mp (e.trans (by decide)))
      have t4_109 : ¬ (T 0 3).toInt = 109 := fun e => c4_109 (Int32.toInt_inj.mp (e.trans (by decide)))
      have t4_110 : ¬ (T 0 3).toInt = 110 := fun e => c4_110 (Int32.toInt_inj.mp (e.trans (by decide)))
      have t4_111 : ¬ (T 0 3).toInt = 111 := fun e => c4_111 (Int32.toInt_inj.mp (e.trans (by decide)))
      have t4_112 : ¬ (T 0 3).toInt = 112 := fun e => c4_112 (Int32.toInt_inj.mp (e.trans (by decide)))
      have t4_113 : ¬ (T 0 3).toInt = 113 := fun e => c4_113 (Int32.toInt_inj.mp (e.trans (by decide)))
      have t4_114 : ¬ (T 0 3).toInt = 114 := fun e => c4_114 (Int32.toInt_inj.mp (e.trans (by decide)))
      have t4_115 : ¬ (T 0 3).toInt = 115 := fun e => c4_115 (Int32.toInt_inj.mp (e.trans (by decide)))
      have t4_116 : ¬ (T 0 3).toInt = 116 := fun e => c4_116 (Int32.toInt_inj.mp (e.trans (by decide)))
      have t4_117 : ¬ (T 0 3).toInt = 117 := fun e => c4_117 (Int32.toInt_inj.mp (e.trans (by decide)))
      have t4_118 : ¬ (T 0 3).toInt = 118 := fun e => c4_118 (Int32.toInt_inj.mp (e.trans (by decide)))
      have t4_119 : ¬ (T 0 3).toInt = 119 := fun e => c4_119 (Int32.toInt_inj.mp (e.trans (by decide)))
      omega) (by decide) ?_
  refine ka_aload_n hC dX1_doOrder_141 rfl ?_
  refine ka_aload_n hC dX1_doOrder_142 rfl ?_
  refine kg_X1_15  hC dX1_doOrder_143 ?_
  refine ka_iconst (v := 0) hC dX1_doOrder_146 rfl ?_
  refine kin_nums  0 (by decide) rfl hC dX1_doOrder_147 ?_
  refine ka_I.eqW (ka_sp_comm (show r ≠ 7 by omega)) ?_
  refine ka_callV hC (m_X3_passDays hG (by first | assumption | decide | exact wgIx_lt _ | exact plIx_lt _ | exact sp_recQ_lt | omega) hg.1 hg.2) (ka_Rc_pool (by first | assumption | decide | exact wgIx_lt _ | exact plIx_lt _ | exact sp_recQ_lt | omega)) rfl ka_q_ml_X1_84 ka_q_im_X3_passDays ka_q_se_X3_passDays ka_q_in_X3 ka_q_co_X3_passDays ky_X3_passDays (by decide) (by decide) (Nat.le_of_ble_eq_true rfl) rfl dX1_doOrder_148 ?_
  exact ka_iret hC hR dX1_doOrder_151 (by first | with_reducible rfl | (simp only [st_doOrder, c4_108, c4_114, c4_116, c4_117, c4_119, c4_109, c4_110, c4_111, c4_112, c4_113, c4_115, c4_118]; done) | (simp only [st_doOrder, if_neg c4_108, if_pos c4_108, if_neg c4_114, if_pos c4_114, if_neg c4_116, if_pos c4_116, if_neg c4_117, if_pos c4_117, if_neg c4_119, if_pos c4_119, if_neg c4_109, if_pos c4_109, if_neg c4_110, if_pos c4_110, if_neg c4_111, if_pos c4_111, if_neg c4_112, if_pos c4_112, if_neg c4_113, if_pos c4_113, if_neg c4_115, if_pos c4_115, if_neg c4_118, if_pos c4_118]; done) | (simp [st_doOrder, c4_108, c4_114, c4_116, c4_117, c4_119, c4_109, c4_110, c4_111, c4_112, c4_113, c4_115, c4_118]; done) | (simp [st_doOrder, if_neg c4_108, if_pos c4_108, if_neg c4_114, if_pos c4_114, if_neg c4_116, if_pos c4_116, if_neg c4_117, if_pos c4_117, if_neg c4_119, if_pos c4_119, if_neg c4_109, if_pos c4_109, if_neg c4_110, if_pos c4_110, if_neg c4_111, if_pos c4_111, if_neg c4_112, if_pos c4_112, if_neg c4_113, if_pos c4_113, if_neg c4_115, if_pos c4_115, if_neg c4_118, if_pos c4_118]; done) | contradiction | rfl) (by rw [ka_sp_comm (show 7 ≠ r by omega)]; first | with_reducible rfl | (simp only [st_doOrder, c4_108, c4_114, c4_116, c4_117, c4_119, c4_109, c4_110, c4_111, c4_112, c4_113, c4_115, c4_118]; done) | (simp [st_doOrder, c4_108, c4_114, c4_116, c4_117, c4_119, c4_109, c4_110, c4_111, c4_112, c4_113, c4_115, c4_118]; done) | rfl)
theorem ky_X1_doAll : ka_y yX1_doAll 1 := by unfold ka_y; decide +kernel
set_option maxHeartbeats 4000000 in
set_option maxRecDepth 100000 in
theorem m_X1_doAll {G : ka_G} (hG : ka_AD G) {V : ka_W} {r : Nat} (hr : r < 6) {P T : ka_P} (hg : gd P)  : ka_M G yX1_doAll cX1_doAll 5 none 5 [.ref (ka_ad G 7 0), .ref (ka_ad G r 0)] (ka_sp (ka_sp V r P) 7 T) none (ka_sp (ka_sp V r (st_all T P).2) 7 (st_all T P).1) := by
  refine ka_entry hG ka_pn_X1 (ka_cat1 rfl) (Nat.le_of_ble_eq_true rfl) (fun X hC hR => ?_)
  refine ka_aload_n hC dX1_doAll_0 rfl ?_
  refine ka_iconst (v := 0) hC dX1_doAll_1 rfl ?_
  refine kpp_X1_40  hC dX1_doAll_2 ?_
  refine ka_aload_n hC dX1_doAll_5 rfl ?_
  refine ka_iconst (v := 0) hC dX1_doAll_6 rfl ?_
  refine kpp_X1_22  hC dX1_doAll_7 ?_
  refine ka_aload_n hC dX1_doAll_10 rfl ?_
  refine ka_iconst (v := 0) hC dX1_doAll_11 rfl ?_
  refine kpp_X1_25  hC dX1_doAll_12 ?_
  refine ka_iconst (v := 0) hC dX1_doAll_15 rfl ?_
  refine ka_istore_n_p2 hC dX1_doAll_16 (by decide) ?_
  suffices H17 : ∀ jj i : Nat, i ≤ 60 → 60 - i < jj → ka_I G X (ka_sp (ka_sp V r (st_allX T P i).2) 7 (st_allX T P i).1) 17 [.ref (ka_ad G 7 0), .ref (ka_ad G r 0), .int (nI i)] [] from ka_I.back 3 (by rfl) (by rfl) (H17 (60 + 1) 0 (by omega) (by omega))
  intro j17
  induction j17 with
  | zero => intro i h1 h2 ; exact absurd h2 (Nat.not_lt_zero _)
  | succ j17 ih17 =>
    intro i hle17 hlt17 
    have hgi := gd_allX (T := T) hg i
    refine ka_iload_n hC dX1_doAll_17 rfl ?_
    refine ka_bipush (v := 60) hC dX1_doAll_18 rfl ?_
    refine ka_icmp_ge (tgt := 107) hC dX1_doAll_20 (by decide) (fun c20 => ?_) (fun c20 => ?_)
    · skip
      obtain rfl : i = 60 := nlt_nI (by decide) hle17 c20
      exact ka_vret hC hR dX1_doAll_107 rfl (by first | with_reducible rfl | (simp only [st_all, c20]; done) | (simp only [st_all, if_neg c20, if_pos c20]; done) | (simp [st_all, c20]; done) | (simp [st_all, if_neg c20, if_pos c20]; done) | contradiction | rfl)
    · skip
      have hi : i < 60 := lt_nI (by decide) hle17 c20
      refine ka_aload_n hC dX1_doAll_23 rfl ?_
      refine kgp_X1_40  hC dX1_doAll_24 ?_
      refine ka_aload_n hC dX1_doAll_27 rfl ?_
      refine kgp_X1_18  hC dX1_doAll_28 ?_
      refine ka_icmp_ge (tgt := 107) hC dX1_doAll_31 (by decide) (fun c31 => ?_) (fun c31 => ?_)
      · skip
        rw [← st_allX_stop (n := 60) (Or.inl c31) hle17]
        exact ka_vret hC hR dX1_doAll_107 rfl (by first | with_reducible rfl | (simp only [st_all, c20, c31]; done) | (simp only [st_all, if_pos c20, if_neg (not_not_intro c20), if_neg c31, if_pos c31]; done) | (simp [st_all, c20, c31]; done) | (simp [st_all, if_pos c20, if_neg (not_not_intro c20), if_neg c31, if_pos c31]; done) | contradiction | rfl)
      · skip
        refine ka_aload_n hC dX1_doAll_34 rfl ?_
        refine ka_callV hC (m_X1_hasFault hG) (ka_Rc_text ) rfl ka_q_ml_X1_43 ka_q_im_X1_hasFault ka_q_se_X1_hasFault ka_q_in_X1 ka_q_co_X1_hasFault ky_X1_hasFault (by decide) (by decide) (Nat.le_of_ble_eq_true rfl) rfl dX1_doAll_35 ?_
        refine ka_if_ne_b (tgt := 107) hC dX1_doAll_38 (by decide) (fun c38 => ?_) (fun c38 => ?_)
        · skip
          rw [← st_allX_stop (n := 60) (Or.inr (ka_t_ne c38)) hle17]
          exact ka_vret hC hR dX1_doAll_107 rfl (by first | with_reducible rfl | (simp only [st_all, c20, c31, c38]; done) | (simp only [st_all, if_pos c20, if_neg (not_not_intro c20), if_pos c31, if_neg (not_not_intro c31), c38]; done) | (simp [st_all, c20, c31, c38]; done) | (simp [st_all, if_pos c20, if_neg (not_not_intro c20), if_pos c31, if_neg (not_not_intro c31), c38]; done) | contradiction | rfl)
        · skip
          have e7 := ka_t_eq c38
          refine ka_aload_n hC dX1_doAll_41 rfl ?_
          refine kgp_X1_40  hC dX1_doAll_42 ?_
          refine ka_istore_n_p3 hC dX1_doAll_45 (by decide) ?_
          refine ka_aload_n hC dX1_doAll_46 rfl ?_
          refine ka_callV hC (m_X1_readOrder hG) (ka_Rc_text ) rfl ka_q_ml_X1_47 ka_q_im_X1_readOrder ka_q_se_X1_readOrder ka_q_in_X1 ka_q_co_X1_readOrder ky_X1_readOrder (by decide) (by decide) (Nat.le_of_ble_eq_true rfl) rfl dX1_doAll_47 ?_
          refine ka_if_ne_b (tgt := 68) hC dX1_doAll_50 (by decide) (fun c50 => ?_) (fun c50 => ?_)
          · skip
            refine ka_aload_n hC dX1_doAll_68 rfl ?_
            refine ka_aload_n hC dX1_doAll_69 rfl ?_
            refine ka_callV hC (m_X1_doOrder hG (by first | assumption | decide | exact wgIx_lt _ | exact plIx_lt _ | exact sp_recQ_lt | omega) hgi) (ka_Rc_text ) rfl ka_q_ml_X1_54 ka_q_im_X1_doOrder ka_q_se_X1_doOrder ka_q_in_X1 ka_q_co_X1_doOrder ky_X1_doOrder (by decide) (by decide) (Nat.le_of_ble_eq_true rfl) rfl dX1_doAll_70 ?_
            refine ka_istore_p4 hC dX1_doAll_73 (by decide) ?_
            refine ka_iload hC dX1_doAll_75 rfl ?_
            refine ka_callSN hC (m_X6_isError hG) (List.mem_of_getElem? (i := 4) rfl) ka_q_st_X6_isError ka_q_in_X6 ka_q_co_X6_isError ky_X6_isError (by decide) (by decide) (Nat.le_of_ble_eq_true rfl) rfl dX1_doAll_77 ?_
            refine ka_if_eq_b (tgt := 91) hC dX1_doAll_80 (by decide) (fun c80 => ?_) (fun c80 => ?_)
            · skip
              refine ka_aload_n hC dX1_doAll_91 rfl ?_
              refine ka_dup hC dX1_doAll_92 rfl ?_
              refine kgp_X1_22  hC dX1_doAll_93 ?_
              refine ka_iconst (v := 1) hC dX1_doAll_96 rfl ?_
              refine ka_iadd hC dX1_doAll_97 ?_
              refine kpp_X1_22  hC dX1_doAll_98 ?_
              refine ka_iinc_2 (v := 1) hC dX1_doAll_101 rfl (by decide) ?_
              refine ka_goto (tgt := 17) hC dX1_doAll_104 (by decide) ?_
              exact ka_I.back 3 (by simp only [st_allX_s]; unfold st_allAt; rw [if_neg (not_not_intro c31), if_neg (not_not_intro e7)]; first | (rw [if_pos c50]; rfl) | (rw [if_neg (by rw [c50]; decide)]; unfold st_done sp_isErr; first | (rw [if_pos c80]; rfl) | (rw [if_neg (by rw [c80]; decide)]; rfl))) (by rw [← nI_1]; rfl) (ih17 (i + 1) (by omega) (by omega))
            · skip
              refine ka_aload_n hC dX1_doAll_83 rfl ?_
              refine ka_iload_n hC dX1_doAll_84 rfl ?_
              refine ka_iconst (v := 2) hC dX1_doAll_85 rfl ?_
              refine ka_iload hC dX1_doAll_86 rfl ?_
              refine ka_callV hC (m_X1_blame hG) (ka_Rc_text ) rfl ka_q_ml_X1_50 ka_q_im_X1_blame ka_q_se_X1_blame ka_q_in_X1 ka_q_co_X1_blame ky_X1_blame (by decide) (by decide) (Nat.le_of_ble_eq_true rfl) rfl dX1_doAll_88 ?_
              refine ka_aload_n hC dX1_doAll_91 rfl ?_
              refine ka_dup hC dX1_doAll_92 rfl ?_
              refine kgp_X1_22  hC dX1_doAll_93 ?_
              refine ka_iconst (v := 1) hC dX1_doAll_96 rfl ?_
              refine ka_iadd hC dX1_doAll_97 ?_
              refine kpp_X1_22  hC dX1_doAll_98 ?_
              refine ka_iinc_2 (v := 1) hC dX1_doAll_101 rfl (by decide) ?_
              refine ka_goto (tgt := 17) hC dX1_doAll_104 (by decide) ?_
              exact ka_I.back 3 (by simp only [st_allX_s]; unfold st_allAt; rw [if_neg (not_not_intro c31), if_neg (not_not_intro e7)]; first | (rw [if_pos c50]; rfl) | (rw [if_neg (by rw [c50]; decide)]; unfold st_done sp_isErr; first | (rw [if_pos c80]; rfl) | (rw [if_neg (by rw [c80]; decide)]; rfl))) (by rw [← nI_1]; rfl) (ih17 (i + 1) (by omega) (by omega))
          · skip
            refine ka_aload_n hC dX1_doAll_53 rfl ?_
            refine ka_iload_n hC dX1_doAll_54 rfl ?_
            refine ka_iconst (v := 1) hC dX1_doAll_55 rfl ?_
            refine ka_aload_n hC dX1_doAll_56 rfl ?_
            refine kgp_X1_40  hC dX1_doAll_57 ?_
            refine ka_iload_n hC dX1_doAll_60 rfl ?_
            refine ka_isub hC dX1_doAll_61 ?_
            refine ka_callV hC (m_X1_blame hG) (ka_Rc_text ) rfl ka_q_ml_X1_50 ka_q_im_X1_blame ka_q_se_X1_blame ka_q_in_X1 ka_q_co_X1_blame ky_X1_blame (by decide) (by decide) (Nat.le_of_ble_eq_true rfl) rfl dX1_doAll_62 ?_
            refine ka_goto (tgt := 101) hC dX1_doAll_65 (by decide) ?_
            refine ka_iinc_2 (v := 1) hC dX1_doAll_101 rfl (by decide) ?_
            refine ka_goto (tgt := 17) hC dX1_doAll_104 (by decide) ?_
            exact ka_I.back 3 (by simp only [st_allX_s]; unfold st_allAt; rw [if_neg (not_not_intro c31), if_neg (not_not_intro e7)]; first | (rw [if_pos c50]; rfl) | (rw [if_neg (by rw [c50]; decide)]; unfold st_done sp_isErr; first | (rw [if_pos c80]; rfl) | (rw [if_neg (by rw [c80]; decide)]; rfl))) (by rw [← nI_1]; rfl) (ih17 (i + 1) (by omega) (by omega))
theorem ky_X6_settle : ka_y yX6_settle 1 := by unfold ka_y; decide +kernel
set_option maxHeartbeats 4000000 in
set_option maxRecDepth 100000 in
theorem m_X6_settle {G : ka_G} (hG : ka_AD G) {V : ka_W} {x : Int32}  : ka_M G yX6_settle cX6_settle 2 (some FieldType.int) 5 [.ref (ka_ad G 8 0), .int x] (V) (some (.int (x))) (sp_settle V x) := by
  refine ka_entry hG ka_pn_X6 (ka_cat1 rfl) (Nat.le_of_ble_eq_true rfl) (fun X hC hR => ?_)
  refine ka_iload_n hC dX6_settle_0 rfl ?_
  refine ka_callS hC (m_X6_isError hG) ka_q_ml_X6_169 ka_q_st_X6_isError ka_q_in_X6 ka_q_co_X6_isError ky_X6_isError (by decide) (by decide) (Nat.le_of_ble_eq_true rfl) rfl dX6_settle_1 ?_
  refine ka_if_ne_b (tgt := 29) hC dX6_settle_4 (by decide) (fun c4 => ?_) (fun c4 => ?_)
  · skip
    refine ka_iload_n hC dX6_settle_29 rfl ?_
    exact ka_iret hC hR dX6_settle_30 (by first | with_reducible rfl | (simp only [sp_settle, sp_isErr, c4]; done) | (simp only [sp_settle, sp_isErr, c4]; done) | (simp [sp_settle, sp_isErr, c4]; done) | (simp [sp_settle, sp_isErr, c4]; done) | contradiction | rfl) (by first | with_reducible rfl | (simp only [sp_settle, sp_isErr, c4]; done) | (simp only [sp_settle, sp_isErr, c4]; done) | (simp [sp_settle, sp_isErr, c4]; done) | (simp [sp_settle, sp_isErr, c4]; done) | contradiction | rfl)
  · skip
    refine ka_aload_n hC dX6_settle_7 rfl ?_
    refine kg_X6_22  hC dX6_settle_8 ?_
    refine ka_aload_n hC dX6_settle_11 rfl ?_
    refine kg_X6_10  hC dX6_settle_12 ?_
    refine ka_callV hC (m_X0_record hG (r := 0) (by decide)) (ka_Rc_hist ) rfl ka_q_ml_X6_172 ka_q_im_X0_record ka_q_se_X0_record ka_q_in_X0 ka_q_co_X0_record ky_X0_record (by decide) (by decide) (Nat.le_of_ble_eq_true rfl) rfl dX6_settle_15 ?_
    refine ka_aload_n hC dX6_settle_18 rfl ?_
    refine kg_X6_10  hC dX6_settle_19 ?_
    refine ka_aload_n hC dX6_settle_22 rfl ?_
    refine kg_X6_16  hC dX6_settle_23 ?_
    refine ka_I.eqW (ka_sp_self (r := 0)).symm ?_
    refine ka_callV hC (m_X3_copyFrom hG (r := 0) (r2 := 1) (by decide) (by decide) (by decide)) (ka_Rc_pool (by first | assumption | decide | exact wgIx_lt _ | exact plIx_lt _ | exact sp_recQ_lt | omega)) rfl ka_q_ml_X6_33 ka_q_im_X3_copyFrom ka_q_se_X3_copyFrom ka_q_in_X3 ka_q_co_X3_copyFrom ky_X3_copyFrom (by decide) (by decide) (Nat.le_of_ble_eq_true rfl) rfl dX6_settle_26 ?_
    refine ka_iload_n hC dX6_settle_29 rfl ?_
    exact ka_iret hC hR dX6_settle_30 (by first | with_reducible rfl | (simp only [sp_settle, sp_isErr, c4]; done) | (simp only [sp_settle, sp_isErr, c4]; done) | (simp [sp_settle, sp_isErr, c4]; done) | (simp [sp_settle, sp_isErr, c4]; done) | contradiction | rfl) (by first | with_reducible rfl | (simp only [sp_settle, sp_isErr, c4]; done) | (simp only [sp_settle, sp_isErr, c4]; done) | (simp [sp_settle, sp_isErr, c4]; done) | (simp [sp_settle, sp_isErr, c4]; done) | contradiction | rfl)
theorem ky_X6_mine : ka_y yX6_mine 1 := by unfold ka_y; decide +kernel
set_option maxHeartbeats 4000000 in
set_option maxRecDepth 100000 in
theorem m_X6_mine {G : ka_G} (hG : ka_AD G) {V : ka_W} {x : Int32}  : ka_M G yX6_mine cX6_mine 2 (some FieldType.int) 6 [.ref (ka_ad G 8 0), .int x] (V) (some (.int ((sp_addMine (sp_tr V) x).1))) (sp_act V (sp_addMine (sp_tr V) x)) := by
  refine ka_entry hG ka_pn_X6 (ka_cat1 rfl) (Nat.le_of_ble_eq_true rfl) (fun X hC hR => ?_)
  refine ka_aload_n hC dX6_mine_0 rfl ?_
  refine kg_X6_16  hC dX6_mine_1 ?_
  refine ka_aload_n hC dX6_mine_4 rfl ?_
  refine kg_X6_10  hC dX6_mine_5 ?_
  refine ka_I.eqW (ka_sp_self (r := 1)).symm ?_
  refine ka_callV hC (m_X3_copyFrom hG (r := 1) (r2 := 0) (by decide) (by decide) (by decide)) (ka_Rc_pool (by first | assumption | decide | exact wgIx_lt _ | exact plIx_lt _ | exact sp_recQ_lt | omega)) rfl ka_q_ml_X6_33 ka_q_im_X3_copyFrom ka_q_se_X3_copyFrom ka_q_in_X3 ka_q_co_X3_copyFrom ky_X3_copyFrom (by decide) (by decide) (Nat.le_of_ble_eq_true rfl) rfl dX6_mine_8 ?_
  refine ka_aload_n hC dX6_mine_11 rfl ?_
  refine ka_aload_n hC dX6_mine_12 rfl ?_
  refine kg_X6_16  hC dX6_mine_13 ?_
  refine ka_iload_n hC dX6_mine_16 rfl ?_
  refine ka_callV hC (m_X3_addMine hG (by first | assumption | decide | exact wgIx_lt _ | exact plIx_lt _ | exact sp_recQ_lt | omega)) (ka_Rc_pool (by first | assumption | decide | exact wgIx_lt _ | exact plIx_lt _ | exact sp_recQ_lt | omega)) rfl ka_q_ml_X6_37 ka_q_im_X3_addMine ka_q_se_X3_addMine ka_q_in_X3 ka_q_co_X3_addMine ky_X3_addMine (by decide) (by decide) (Nat.le_of_ble_eq_true rfl) rfl dX6_mine_17 ?_
  refine ka_callV hC (m_X6_settle hG) (ka_Rc_coal ) rfl ka_q_ml_X6_41 ka_q_im_X6_settle ka_q_se_X6_settle ka_q_in_X6 ka_q_co_X6_settle ky_X6_settle (by decide) (by decide) (Nat.le_of_ble_eq_true rfl) rfl dX6_mine_20 ?_
  exact ka_iret hC hR dX6_mine_23 (by rfl) (by rfl)
theorem ky_X6_leg : ka_y yX6_leg 3 := by unfold ka_y; decide +kernel
set_option maxHeartbeats 4000000 in
set_option maxRecDepth 100000 in
theorem m_X6_leg {G : ka_G} (hG : ka_AD G) {V : ka_W} {a b c : Int32}  : ka_M G yX6_leg cX6_leg 4 (some FieldType.int) 6 [.ref (ka_ad G 8 0), .int a, .int b, .int c] (V) (some (.int ((sp_changeLeg (sp_tr V) a b c).1))) (sp_act V (sp_changeLeg (sp_tr V) a b c)) := by
  refine ka_entry hG ka_pn_X6 (ka_cat1 rfl) (Nat.le_of_ble_eq_true rfl) (fun X hC hR => ?_)
  refine ka_aload_n hC dX6_leg_0 rfl ?_
  refine kg_X6_16  hC dX6_leg_1 ?_
  refine ka_aload_n hC dX6_leg_4 rfl ?_
  refine kg_X6_10  hC dX6_leg_5 ?_
  refine ka_I.eqW (ka_sp_self (r := 1)).symm ?_
  refine ka_callV hC (m_X3_copyFrom hG (r := 1) (r2 := 0) (by decide) (by decide) (by decide)) (ka_Rc_pool (by first | assumption | decide | exact wgIx_lt _ | exact plIx_lt _ | exact sp_recQ_lt | omega)) rfl ka_q_ml_X6_33 ka_q_im_X3_copyFrom ka_q_se_X3_copyFrom ka_q_in_X3 ka_q_co_X3_copyFrom ky_X3_copyFrom (by decide) (by decide) (Nat.le_of_ble_eq_true rfl) rfl dX6_leg_8 ?_
  refine ka_aload_n hC dX6_leg_11 rfl ?_
  refine ka_aload_n hC dX6_leg_12 rfl ?_
  refine kg_X6_16  hC dX6_leg_13 ?_
  refine ka_iload_n hC dX6_leg_16 rfl ?_
  refine ka_iload_n hC dX6_leg_17 rfl ?_
  refine ka_iload_n hC dX6_leg_18 rfl ?_
  refine ka_callV hC (m_X3_changeLeg hG (by first | assumption | decide | exact wgIx_lt _ | exact plIx_lt _ | exact sp_recQ_lt | omega)) (ka_Rc_pool (by first | assumption | decide | exact wgIx_lt _ | exact plIx_lt _ | exact sp_recQ_lt | omega)) rfl ka_q_ml_X6_44 ka_q_im_X3_changeLeg ka_q_se_X3_changeLeg ka_q_in_X3 ka_q_co_X3_changeLeg ky_X3_changeLeg (by decide) (by decide) (Nat.le_of_ble_eq_true rfl) rfl dX6_leg_19 ?_
  refine ka_callV hC (m_X6_settle hG) (ka_Rc_coal ) rfl ka_q_ml_X6_41 ka_q_im_X6_settle ka_q_se_X6_settle ka_q_in_X6 ka_q_co_X6_settle ky_X6_settle (by decide) (by decide) (Nat.le_of_ble_eq_true rfl) rfl dX6_leg_22 ?_
  exact ka_iret hC hR dX6_leg_25 (by rfl) (by rfl)
theorem ky_X6_wagon : ka_y yX6_wagon 1 := by unfold ka_y; decide +kernel
set_option maxHeartbeats 4000000 in
set_option maxRecDepth 100000 in
theorem m_X6_wagon {G : ka_G} (hG : ka_AD G) {V : ka_W} {x : Int32}  : ka_M G yX6_wagon cX6_wagon 2 (some FieldType.int) 6 [.ref (ka_ad G 8 0), .int x] (V) (some (.int ((sp_addWagon (sp_tr V) x).1))) (sp_act V (sp_addWagon (sp_tr V) x)) := by
  refine ka_entry hG ka_pn_X6 (ka_cat1 rfl) (Nat.le_of_ble_eq_true rfl) (fun X hC hR => ?_)
  refine ka_aload_n hC dX6_wagon_0 rfl ?_
  refine kg_X6_16  hC dX6_wagon_1 ?_
  refine ka_aload_n hC dX6_wagon_4 rfl ?_
  refine kg_X6_10  hC dX6_wagon_5 ?_
  refine ka_I.eqW (ka_sp_self (r := 1)).symm ?_
  refine ka_callV hC (m_X3_copyFrom hG (r := 1) (r2 := 0) (by decide) (by decide) (by decide)) (ka_Rc_pool (by first | assumption | decide | exact wgIx_lt _ | exact plIx_lt _ | exact sp_recQ_lt | omega)) rfl ka_q_ml_X6_33 ka_q_im_X3_copyFrom ka_q_se_X3_copyFrom ka_q_in_X3 ka_q_co_X3_copyFrom ky_X3_copyFrom (by decide) (by decide) (Nat.le_of_ble_eq_true rfl) rfl dX6_wagon_8 ?_
  refine ka_aload_n hC dX6_wagon_11 rfl ?_
  refine ka_aload_n hC dX6_wagon_12 rfl ?_
  refine kg_X6_16  hC dX6_wagon_13 ?_
  refine ka_iload_n hC dX6_wagon_16 rfl ?_
  refine ka_callV hC (m_X3_addWagon hG (by first | assumption | decide | exact wgIx_lt _ | exact plIx_lt _ | exact sp_recQ_lt | omega)) (ka_Rc_pool (by first | assumption | decide | exact wgIx_lt _ | exact plIx_lt _ | exact sp_recQ_lt | omega)) rfl ka_q_ml_X6_48 ka_q_im_X3_addWagon ka_q_se_X3_addWagon ka_q_in_X3 ka_q_co_X3_addWagon ky_X3_addWagon (by decide) (by decide) (Nat.le_of_ble_eq_true rfl) rfl dX6_wagon_17 ?_
  refine ka_callV hC (m_X6_settle hG) (ka_Rc_coal ) rfl ka_q_ml_X6_41 ka_q_im_X6_settle ka_q_se_X6_settle ka_q_in_X6 ka_q_co_X6_settle ky_X6_settle (by decide) (by decide) (Nat.le_of_ble_eq_true rfl) rfl dX6_wagon_20 ?_
  exact ka_iret hC hR dX6_wagon_23 (by rfl) (by rfl)
theorem ky_X6_load : ka_y yX6_load 1 := by unfold ka_y; decide +kernel
set_option maxHeartbeats 4000000 in
set_option maxRecDepth 100000 in
theorem m_X6_load {G : ka_G} (hG : ka_AD G) {V : ka_W} {x : Int32}  : ka_M G yX6_load cX6_load 2 (some FieldType.int) 6 [.ref (ka_ad G 8 0), .int x] (V) (some (.int ((sp_load (sp_tr V) x).1))) (sp_act V (sp_load (sp_tr V) x)) := by
  refine ka_entry hG ka_pn_X6 (ka_cat1 rfl) (Nat.le_of_ble_eq_true rfl) (fun X hC hR => ?_)
  refine ka_aload_n hC dX6_load_0 rfl ?_
  refine kg_X6_16  hC dX6_load_1 ?_
  refine ka_aload_n hC dX6_load_4 rfl ?_
  refine kg_X6_10  hC dX6_load_5 ?_
  refine ka_I.eqW (ka_sp_self (r := 1)).symm ?_
  refine ka_callV hC (m_X3_copyFrom hG (r := 1) (r2 := 0) (by decide) (by decide) (by decide)) (ka_Rc_pool (by first | assumption | decide | exact wgIx_lt _ | exact plIx_lt _ | exact sp_recQ_lt | omega)) rfl ka_q_ml_X6_33 ka_q_im_X3_copyFrom ka_q_se_X3_copyFrom ka_q_in_X3 ka_q_co_X3_copyFrom ky_X3_copyFrom (by decide) (by decide) (Nat.le_of_ble_eq_true rfl) rfl dX6_load_8 ?_
  refine ka_aload_n hC dX6_load_11 rfl ?_
  refine ka_aload_n hC dX6_load_12 rfl ?_
  refine kg_X6_16  hC dX6_load_13 ?_
  refine ka_iload_n hC dX6_load_16 rfl ?_
  refine ka_callV hC (m_X3_loadWagon hG (by first | assumption | decide | exact wgIx_lt _ | exact plIx_lt _ | exact sp_recQ_lt | omega)) (ka_Rc_pool (by first | assumption | decide | exact wgIx_lt _ | exact plIx_lt _ | exact sp_recQ_lt | omega)) rfl ka_q_ml_X6_51 ka_q_im_X3_loadWagon ka_q_se_X3_loadWagon ka_q_in_X3 ka_q_co_X3_loadWagon ky_X3_loadWagon (by decide) (by decide) (Nat.le_of_ble_eq_true rfl) rfl dX6_load_17 ?_
  refine ka_callV hC (m_X6_settle hG) (ka_Rc_coal ) rfl ka_q_ml_X6_41 ka_q_im_X6_settle ka_q_se_X6_settle ka_q_in_X6 ka_q_co_X6_settle ky_X6_settle (by decide) (by decide) (Nat.le_of_ble_eq_true rfl) rfl dX6_load_20 ?_
  exact ka_iret hC hR dX6_load_23 (by rfl) (by rfl)
theorem ky_X6_unload : ka_y yX6_unload 1 := by unfold ka_y; decide +kernel
set_option maxHeartbeats 4000000 in
set_option maxRecDepth 100000 in
theorem m_X6_unload {G : ka_G} (hG : ka_AD G) {V : ka_W} {x : Int32}  : ka_M G yX6_unload cX6_unload 2 (some FieldType.int) 6 [.ref (ka_ad G 8 0), .int x] (V) (some (.int ((sp_unload (sp_tr V) x).1))) (sp_act V (sp_unload (sp_tr V) x)) := by
  refine ka_entry hG ka_pn_X6 (ka_cat1 rfl) (Nat.le_of_ble_eq_true rfl) (fun X hC hR => ?_)
  refine ka_aload_n hC dX6_unload_0 rfl ?_
  refine kg_X6_16  hC dX6_unload_1 ?_
  refine ka_aload_n hC dX6_unload_4 rfl ?_
  refine kg_X6_10  hC dX6_unload_5 ?_
  refine ka_I.eqW (ka_sp_self (r := 1)).symm ?_
  refine ka_callV hC (m_X3_copyFrom hG (r := 1) (r2 := 0) (by decide) (by decide) (by decide)) (ka_Rc_pool (by first | assumption | decide | exact wgIx_lt _ | exact plIx_lt _ | exact sp_recQ_lt | omega)) rfl ka_q_ml_X6_33 ka_q_im_X3_copyFrom ka_q_se_X3_copyFrom ka_q_in_X3 ka_q_co_X3_copyFrom ky_X3_copyFrom (by decide) (by decide) (Nat.le_of_ble_eq_true rfl) rfl dX6_unload_8 ?_
  refine ka_aload_n hC dX6_unload_11 rfl ?_
  refine ka_aload_n hC dX6_unload_12 rfl ?_
  refine kg_X6_16  hC dX6_unload_13 ?_
  refine ka_iload_n hC dX6_unload_16 rfl ?_
  refine ka_callV hC (m_X3_unloadWagon hG (by first | assumption | decide | exact wgIx_lt _ | exact plIx_lt _ | exact sp_recQ_lt | omega)) (ka_Rc_pool (by first | assumption | decide | exact wgIx_lt _ | exact plIx_lt _ | exact sp_recQ_lt | omega)) rfl ka_q_ml_X6_54 ka_q_im_X3_unloadWagon ka_q_se_X3_unloadWagon ka_q_in_X3 ka_q_co_X3_unloadWagon ky_X3_unloadWagon (by decide) (by decide) (Nat.le_of_ble_eq_true rfl) rfl dX6_unload_17 ?_
  refine ka_callV hC (m_X6_settle hG) (ka_Rc_coal ) rfl ka_q_ml_X6_41 ka_q_im_X6_settle ka_q_se_X6_settle ka_q_in_X6 ka_q_co_X6_settle ky_X6_settle (by decide) (by decide) (Nat.le_of_ble_eq_true rfl) rfl dX6_unload_20 ?_
  exact ka_iret hC hR dX6_unload_23 (by rfl) (by rfl)
theorem ky_X6_repair : ka_y yX6_repair 1 := by unfold ka_y; decide +kernel
set_option maxHeartbeats 4000000 in
set_option maxRecDepth 100000 in
theorem m_X6_repair {G : ka_G} (hG : ka_AD G) {V : ka_W} {x : Int32}  : ka_M G yX6_repair cX6_repair 2 (some FieldType.int) 6 [.ref (ka_ad G 8 0), .int x] (V) (some (.int ((sp_repair (sp_tr V) x).1))) (sp_act V (sp_repair (sp_tr V) x)) := by
  refine ka_entry hG ka_pn_X6 (ka_cat1 rfl) (Nat.le_of_ble_eq_true rfl) (fun X hC hR => ?_)
  refine ka_aload_n hC dX6_repair_0 rfl ?_
  refine kg_X6_16  hC dX6_repair_1 ?_
  refine ka_aload_n hC dX6_repair_4 rfl ?_
  refine kg_X6_10  hC dX6_repair_5 ?_
  refine ka_I.eqW (ka_sp_self (r := 1)).symm ?_
  refine ka_callV hC (m_X3_copyFrom hG (r := 1) (r2 := 0) (by decide) (by decide) (by decide)) (ka_Rc_pool (by first | assumption | decide | exact wgIx_lt _ | exact plIx_lt _ | exact sp_recQ_lt | omega)) rfl ka_q_ml_X6_33 ka_q_im_X3_copyFrom ka_q_se_X3_copyFrom ka_q_in_X3 ka_q_co_X3_copyFrom ky_X3_copyFrom (by decide) (by decide) (Nat.le_of_ble_eq_true rfl) rfl dX6_repair_8 ?_
  refine ka_aload_n hC dX6_repair_11 rfl ?_
  refine ka_aload_n hC dX6_repair_12 rfl ?_
  refine kg_X6_16  hC dX6_repair_13 ?_
  refine ka_iload_n hC dX6_repair_16 rfl ?_
  refine ka_callV hC (m_X3_repairWagon hG (by first | assumption | decide | exact wgIx_lt _ | exact plIx_lt _ | exact sp_recQ_lt | omega)) (ka_Rc_pool (by first | assumption | decide | exact wgIx_lt _ | exact plIx_lt _ | exact sp_recQ_lt | omega)) rfl ka_q_ml_X6_57 ka_q_im_X3_repairWagon ka_q_se_X3_repairWagon ka_q_in_X3 ka_q_co_X3_repairWagon ky_X3_repairWagon (by decide) (by decide) (Nat.le_of_ble_eq_true rfl) rfl dX6_repair_17 ?_
  refine ka_callV hC (m_X6_settle hG) (ka_Rc_coal ) rfl ka_q_ml_X6_41 ka_q_im_X6_settle ka_q_se_X6_settle ka_q_in_X6 ka_q_co_X6_settle ky_X6_settle (by decide) (by decide) (Nat.le_of_ble_eq_true rfl) rfl dX6_repair_20 ?_
  exact ka_iret hC hR dX6_repair_23 (by rfl) (by rfl)
theorem ky_X6_train : ka_y yX6_train 4 := by unfold ka_y; decide +kernel
set_option maxHeartbeats 4000000 in
set_option maxRecDepth 100000 in
theorem m_X6_train {G : ka_G} (hG : ka_AD G) {V : ka_W} {a b c e : Int32}  : ka_M G yX6_train cX6_train 5 (some FieldType.int) 6 [.ref (ka_ad G 8 0), .int a, .int b, .int c, .int e] (V) (some (.int ((sp_train (sp_tr V) a b c e).1))) (sp_act V (sp_train (sp_tr V) a b c e)) := by
  refine ka_entry hG ka_pn_X6 (ka_cat1 rfl) (Nat.le_of_ble_eq_true rfl) (fun X hC hR => ?_)
  refine ka_aload_n hC dX6_train_0 rfl ?_
  refine kg_X6_16  hC dX6_train_1 ?_
  refine ka_aload_n hC dX6_train_4 rfl ?_
  refine kg_X6_10  hC dX6_train_5 ?_
  refine ka_I.eqW (ka_sp_self (r := 1)).symm ?_
  refine ka_callV hC (m_X3_copyFrom hG (r := 1) (r2 := 0) (by decide) (by decide) (by decide)) (ka_Rc_pool (by first | assumption | decide | exact wgIx_lt _ | exact plIx_lt _ | exact sp_recQ_lt | omega)) rfl ka_q_ml_X6_33 ka_q_im_X3_copyFrom ka_q_se_X3_copyFrom ka_q_in_X3 ka_q_co_X3_copyFrom ky_X3_copyFrom (by decide) (by decide) (Nat.le_of_ble_eq_true rfl) rfl dX6_train_8 ?_
  refine ka_aload_n hC dX6_train_11 rfl ?_
  refine ka_aload_n hC dX6_train_12 rfl ?_
  refine kg_X6_16  hC dX6_train_13 ?_
  refine ka_iload_n hC dX6_train_16 rfl ?_
  refine ka_iload_n hC dX6_train_17 rfl ?_
  refine ka_iload_n hC dX6_train_18 rfl ?_
  refine ka_iload hC dX6_train_19 rfl ?_
  refine ka_callV hC (m_X3_sendTrain hG (by first | assumption | decide | exact wgIx_lt _ | exact plIx_lt _ | exact sp_recQ_lt | omega)) (ka_Rc_pool (by first | assumption | decide | exact wgIx_lt _ | exact plIx_lt _ | exact sp_recQ_lt | omega)) rfl ka_q_ml_X6_60 ka_q_im_X3_sendTrain ka_q_se_X3_sendTrain ka_q_in_X3 ka_q_co_X3_sendTrain ky_X3_sendTrain (by decide) (by decide) (Nat.le_of_ble_eq_true rfl) rfl dX6_train_21 ?_
  refine ka_callV hC (m_X6_settle hG) (ka_Rc_coal ) rfl ka_q_ml_X6_41 ka_q_im_X6_settle ka_q_se_X6_settle ka_q_in_X6 ka_q_co_X6_settle ky_X6_settle (by decide) (by decide) (Nat.le_of_ble_eq_true rfl) rfl dX6_train_24 ?_
  exact ka_iret hC hR dX6_train_27 (by rfl) (by rfl)
theorem ky_X6_pass : ka_y yX6_pass 1 := by unfold ka_y; decide +kernel
set_option maxHeartbeats 4000000 in
set_option maxRecDepth 100000 in
theorem m_X6_pass {G : ka_G} (hG : ka_AD G) {V : ka_W} (hg : gd (V 0)) {x : Int32}  : ka_M G yX6_pass cX6_pass 2 (some FieldType.int) 6 [.ref (ka_ad G 8 0), .int x] (V) (some (.int ((sp_pass (sp_tr V) x).1))) (sp_act V (sp_pass (sp_tr V) x)) := by
  refine ka_entry hG ka_pn_X6 (ka_cat1 rfl) (Nat.le_of_ble_eq_true rfl) (fun X hC hR => ?_)
  refine ka_aload_n hC dX6_pass_0 rfl ?_
  refine kg_X6_16  hC dX6_pass_1 ?_
  refine ka_aload_n hC dX6_pass_4 rfl ?_
  refine kg_X6_10  hC dX6_pass_5 ?_
  refine ka_I.eqW (ka_sp_self (r := 1)).symm ?_
  refine ka_callV hC (m_X3_copyFrom hG (r := 1) (r2 := 0) (by decide) (by decide) (by decide)) (ka_Rc_pool (by first | assumption | decide | exact wgIx_lt _ | exact plIx_lt _ | exact sp_recQ_lt | omega)) rfl ka_q_ml_X6_33 ka_q_im_X3_copyFrom ka_q_se_X3_copyFrom ka_q_in_X3 ka_q_co_X3_copyFrom ky_X3_copyFrom (by decide) (by decide) (Nat.le_of_ble_eq_true rfl) rfl dX6_pass_8 ?_
  refine ka_aload_n hC dX6_pass_11 rfl ?_
  refine ka_aload_n hC dX6_pass_12 rfl ?_
  refine kg_X6_16  hC dX6_pass_13 ?_
  refine ka_iload_n hC dX6_pass_16 rfl ?_
  refine ka_callV hC (m_X3_passDays hG (by first | assumption | decide | exact wgIx_lt _ | exact plIx_lt _ | exact sp_recQ_lt | omega) (gd_copy hg).1 (gd_copy hg).2) (ka_Rc_pool (by first | assumption | decide | exact wgIx_lt _ | exact plIx_lt _ | exact sp_recQ_lt | omega)) rfl ka_q_ml_X6_64 ka_q_im_X3_passDays ka_q_se_X3_passDays ka_q_in_X3 ka_q_co_X3_passDays ky_X3_passDays (by decide) (by decide) (Nat.le_of_ble_eq_true rfl) rfl dX6_pass_17 ?_
  refine ka_callV hC (m_X6_settle hG) (ka_Rc_coal ) rfl ka_q_ml_X6_41 ka_q_im_X6_settle ka_q_se_X6_settle ka_q_in_X6 ka_q_co_X6_settle ky_X6_settle (by decide) (by decide) (Nat.le_of_ble_eq_true rfl) rfl dX6_pass_20 ?_
  exact ka_iret hC hR dX6_pass_23 (by rfl) (by rfl)
theorem ky_X6_set : ka_y yX6_set 2 := by unfold ka_y; decide +kernel
set_option maxHeartbeats 4000000 in
set_option maxRecDepth 100000 in
theorem m_X6_set {G : ka_G} (hG : ka_AD G) {V : ka_W} {a b : Int32}  : ka_M G yX6_set cX6_set 3 (some FieldType.int) 6 [.ref (ka_ad G 8 0), .int a, .int b] (V) (some (.int ((sp_set (sp_tr V) a b).1))) (sp_act V (sp_set (sp_tr V) a b)) := by
  refine ka_entry hG ka_pn_X6 (ka_cat1 rfl) (Nat.le_of_ble_eq_true rfl) (fun X hC hR => ?_)
  refine ka_aload_n hC dX6_set_0 rfl ?_
  refine kg_X6_16  hC dX6_set_1 ?_
  refine ka_aload_n hC dX6_set_4 rfl ?_
  refine kg_X6_10  hC dX6_set_5 ?_
  refine ka_I.eqW (ka_sp_self (r := 1)).symm ?_
  refine ka_callV hC (m_X3_copyFrom hG (r := 1) (r2 := 0) (by decide) (by decide) (by decide)) (ka_Rc_pool (by first | assumption | decide | exact wgIx_lt _ | exact plIx_lt _ | exact sp_recQ_lt | omega)) rfl ka_q_ml_X6_33 ka_q_im_X3_copyFrom ka_q_se_X3_copyFrom ka_q_in_X3 ka_q_co_X3_copyFrom ky_X3_copyFrom (by decide) (by decide) (Nat.le_of_ble_eq_true rfl) rfl dX6_set_8 ?_
  refine ka_aload_n hC dX6_set_11 rfl ?_
  refine ka_aload_n hC dX6_set_12 rfl ?_
  refine kg_X6_16  hC dX6_set_13 ?_
  refine ka_iload_n hC dX6_set_16 rfl ?_
  refine ka_iload_n hC dX6_set_17 rfl ?_
  refine ka_callV hC (m_X3_changeSetting hG (by first | assumption | decide | exact wgIx_lt _ | exact plIx_lt _ | exact sp_recQ_lt | omega)) (ka_Rc_pool (by first | assumption | decide | exact wgIx_lt _ | exact plIx_lt _ | exact sp_recQ_lt | omega)) rfl ka_q_ml_X6_67 ka_q_im_X3_changeSetting ka_q_se_X3_changeSetting ka_q_in_X3 ka_q_co_X3_changeSetting ky_X3_changeSetting (by decide) (by decide) (Nat.le_of_ble_eq_true rfl) rfl dX6_set_18 ?_
  refine ka_callV hC (m_X6_settle hG) (ka_Rc_coal ) rfl ka_q_ml_X6_41 ka_q_im_X6_settle ka_q_se_X6_settle ka_q_in_X6 ka_q_co_X6_settle ky_X6_settle (by decide) (by decide) (Nat.le_of_ble_eq_true rfl) rfl dX6_set_21 ?_
  exact ka_iret hC hR dX6_set_24 (by rfl) (by rfl)
theorem ky_X6_wagonOf : ka_y yX6_wagonOf 2 := by unfold ka_y; decide +kernel
set_option maxHeartbeats 4000000 in
set_option maxRecDepth 100000 in
theorem m_X6_wagonOf {G : ka_G} (hG : ka_AD G) {V : ka_W} {a b : Int32}  : ka_M G yX6_wagonOf cX6_wagonOf 3 (some FieldType.int) 4 [.ref (ka_ad G 8 0), .int a, .int b] (V) (some (.int (sp_tellWagon (V 0) a b))) (V) := by
  refine ka_entry hG ka_pn_X6 (ka_cat1 rfl) (Nat.le_of_ble_eq_true rfl) (fun X hC hR => ?_)
  refine ka_I.eqW (ka_sp_self (r := 0)).symm ?_
  refine ka_aload_n hC dX6_wagonOf_0 rfl ?_
  refine kg_X6_10  hC dX6_wagonOf_1 ?_
  refine ka_iload_n hC dX6_wagonOf_4 rfl ?_
  refine ka_iload_n hC dX6_wagonOf_5 rfl ?_
  refine ka_callV hC (m_X3_tellOfWagon hG (by first | assumption | decide | exact wgIx_lt _ | exact plIx_lt _ | exact sp_recQ_lt | omega)) (ka_Rc_pool (by first | assumption | decide | exact wgIx_lt _ | exact plIx_lt _ | exact sp_recQ_lt | omega)) rfl ka_q_ml_X6_71 ka_q_im_X3_tellOfWagon ka_q_se_X3_tellOfWagon ka_q_in_X3 ka_q_co_X3_tellOfWagon ky_X3_tellOfWagon (by decide) (by decide) (Nat.le_of_ble_eq_true rfl) rfl dX6_wagonOf_6 ?_
  exact ka_iret hC hR dX6_wagonOf_9 (by first | with_reducible rfl | (simp only []; done) | (simp only []; done) | (simp []; done) | (simp []; done) | contradiction | rfl) (by exact ka_sp_self)
theorem ky_X6_placeOf : ka_y yX6_placeOf 2 := by unfold ka_y; decide +kernel
set_option maxHeartbeats 4000000 in
set_option maxRecDepth 100000 in
theorem m_X6_placeOf {G : ka_G} (hG : ka_AD G) {V : ka_W} {a b : Int32}  : ka_M G yX6_placeOf cX6_placeOf 3 (some FieldType.int) 3 [.ref (ka_ad G 8 0), .int a, .int b] (V) (some (.int (sp_tellPlace (V 0) a b))) (V) := by
  refine ka_entry hG ka_pn_X6 (ka_cat1 rfl) (Nat.le_of_ble_eq_true rfl) (fun X hC hR => ?_)
  refine ka_I.eqW (ka_sp_self (r := 0)).symm ?_
  refine ka_aload_n hC dX6_placeOf_0 rfl ?_
  refine kg_X6_10  hC dX6_placeOf_1 ?_
  refine ka_iload_n hC dX6_placeOf_4 rfl ?_
  refine ka_iload_n hC dX6_placeOf_5 rfl ?_
  refine ka_callV hC (m_X3_tellOfPlace hG (by first | assumption | decide | exact wgIx_lt _ | exact plIx_lt _ | exact sp_recQ_lt | omega)) (ka_Rc_pool (by first | assumption | decide | exact wgIx_lt _ | exact plIx_lt _ | exact sp_recQ_lt | omega)) rfl ka_q_ml_X6_74 ka_q_im_X3_tellOfPlace ka_q_se_X3_tellOfPlace ka_q_in_X3 ka_q_co_X3_tellOfPlace ky_X3_tellOfPlace (by decide) (by decide) (Nat.le_of_ble_eq_true rfl) rfl dX6_placeOf_6 ?_
  exact ka_iret hC hR dX6_placeOf_9 (by first | with_reducible rfl | (simp only []; done) | (simp only []; done) | (simp []; done) | (simp []; done) | contradiction | rfl) (by exact ka_sp_self)
theorem ky_X6_days : ka_y yX6_days 2 := by unfold ka_y; decide +kernel
set_option maxHeartbeats 4000000 in
set_option maxRecDepth 100000 in
theorem m_X6_days {G : ka_G} (hG : ka_AD G) {V : ka_W} {a b : Int32}  : ka_M G yX6_days cX6_days 3 (some FieldType.int) 3 [.ref (ka_ad G 8 0), .int a, .int b] (V) (some (.int (sp_daysOf (V 0) a b))) (V) := by
  refine ka_entry hG ka_pn_X6 (ka_cat1 rfl) (Nat.le_of_ble_eq_true rfl) (fun X hC hR => ?_)
  refine ka_I.eqW (ka_sp_self (r := 0)).symm ?_
  refine ka_aload_n hC dX6_days_0 rfl ?_
  refine kg_X6_10  hC dX6_days_1 ?_
  refine ka_iload_n hC dX6_days_4 rfl ?_
  refine ka_iload_n hC dX6_days_5 rfl ?_
  refine ka_callV hC (m_X3_isLeg hG (by first | assumption | decide | exact wgIx_lt _ | exact plIx_lt _ | exact sp_recQ_lt | omega)) (ka_Rc_pool (by first | assumption | decide | exact wgIx_lt _ | exact plIx_lt _ | exact sp_recQ_lt | omega)) rfl ka_q_ml_X6_77 ka_q_im_X3_isLeg ka_q_se_X3_isLeg ka_q_in_X3 ka_q_co_X3_isLeg ky_X3_isLeg (by decide) (by decide) (Nat.le_of_ble_eq_true rfl) rfl dX6_days_6 ?_
  refine ka_if_eq_b (tgt := 24) hC dX6_days_9 (by decide) (fun c9 => ?_) (fun c9 => ?_)
  · skip
    refine ka_ldc hC ka_q_cn_X6_84 dX6_days_24 ?_
    exact ka_iret hC hR dX6_days_26 (by first | with_reducible rfl | (simp only [sp_daysOf, c9]; done) | (simp only [sp_daysOf, c9]; done) | (simp [sp_daysOf, c9]; done) | (simp [sp_daysOf, c9]; done) | contradiction | rfl) (by exact ka_sp_self)
  · skip
    refine ka_aload_n hC dX6_days_12 rfl ?_
    refine kg_X6_10  hC dX6_days_13 ?_
    refine ka_iload_n hC dX6_days_16 rfl ?_
    refine ka_iload_n hC dX6_days_17 rfl ?_
    refine ka_callV hC (m_X3_legDays hG (by first | assumption | decide | exact wgIx_lt _ | exact plIx_lt _ | exact sp_recQ_lt | omega)) (ka_Rc_pool (by first | assumption | decide | exact wgIx_lt _ | exact plIx_lt _ | exact sp_recQ_lt | omega)) rfl ka_q_ml_X6_81 ka_q_im_X3_legDays ka_q_se_X3_legDays ka_q_in_X3 ka_q_co_X3_legDays ky_X3_legDays (by decide) (by decide) (Nat.le_of_ble_eq_true rfl) rfl dX6_days_18 ?_
    refine ka_goto (tgt := 26) hC dX6_days_21 (by decide) ?_
    exact ka_iret hC hR dX6_days_26 (by first | with_reducible rfl | (simp only [sp_daysOf, c9]; done) | (simp only [sp_daysOf, c9]; done) | (simp [sp_daysOf, c9]; done) | (simp [sp_daysOf, c9]; done) | contradiction | rfl) (by exact ka_sp_self)
theorem ky_X6_lacks : ka_y yX6_lacks 1 := by unfold ka_y; decide +kernel
set_option maxHeartbeats 4000000 in
set_option maxRecDepth 100000 in
theorem m_X6_lacks {G : ka_G} (hG : ka_AD G) {V : ka_W} {a : Int32}  : ka_M G yX6_lacks cX6_lacks 2 (some FieldType.int) 4 [.ref (ka_ad G 8 0), .int a] (V) (some (.int (sp_lacks (V 0) a))) (V) := by
  refine ka_entry hG ka_pn_X6 (ka_cat1 rfl) (Nat.le_of_ble_eq_true rfl) (fun X hC hR => ?_)
  refine ka_I.eqW (ka_sp_self (r := 0)).symm ?_
  refine ka_aload_n hC dX6_lacks_0 rfl ?_
  refine kg_X6_10  hC dX6_lacks_1 ?_
  refine ka_iload_n hC dX6_lacks_4 rfl ?_
  refine ka_callV hC (m_X3_isMine hG (by first | assumption | decide | exact wgIx_lt _ | exact plIx_lt _ | exact sp_recQ_lt | omega)) (ka_Rc_pool (by first | assumption | decide | exact wgIx_lt _ | exact plIx_lt _ | exact sp_recQ_lt | omega)) rfl ka_q_ml_X6_99 ka_q_im_X3_isMine ka_q_se_X3_isMine ka_q_in_X3 ka_q_co_X3_isMine ky_X3_isMine (by decide) (by decide) (Nat.le_of_ble_eq_true rfl) rfl dX6_lacks_5 ?_
  refine ka_if_eq_b (tgt := 22) hC dX6_lacks_8 (by decide) (fun c8 => ?_) (fun c8 => ?_)
  · skip
    refine ka_ldc hC ka_q_cn_X6_84 dX6_lacks_22 ?_
    exact ka_iret hC hR dX6_lacks_24 (by first | with_reducible rfl | (simp only [sp_lacks, c8]; done) | (simp only [sp_lacks, c8]; done) | (simp [sp_lacks, c8]; done) | (simp [sp_lacks, c8]; done) | contradiction | rfl) (by exact ka_sp_self)
  · skip
    refine ka_aload_n hC dX6_lacks_11 rfl ?_
    refine kg_X6_10  hC dX6_lacks_12 ?_
    refine ka_iload_n hC dX6_lacks_15 rfl ?_
    refine ka_callV hC (m_X3_lackOf hG (by first | assumption | decide | exact wgIx_lt _ | exact plIx_lt _ | exact sp_recQ_lt | omega)) (ka_Rc_pool (by first | assumption | decide | exact wgIx_lt _ | exact plIx_lt _ | exact sp_recQ_lt | omega)) rfl ka_q_ml_X6_102 ka_q_im_X3_lackOf ka_q_se_X3_lackOf ka_q_in_X3 ka_q_co_X3_lackOf ky_X3_lackOf (by decide) (by decide) (Nat.le_of_ble_eq_true rfl) rfl dX6_lacks_16 ?_
    refine ka_goto (tgt := 24) hC dX6_lacks_19 (by decide) ?_
    exact ka_iret hC hR dX6_lacks_24 (by first | with_reducible rfl | (simp only [sp_lacks, c8]; done) | (simp only [sp_lacks, c8]; done) | (simp [sp_lacks, c8]; done) | (simp [sp_lacks, c8]; done) | contradiction | rfl) (by exact ka_sp_self)
theorem ky_X6_bestTrain : ka_y yX6_bestTrain 1 := by unfold ka_y; decide +kernel
set_option maxHeartbeats 4000000 in
set_option maxRecDepth 100000 in
theorem m_X6_bestTrain {G : ka_G} (hG : ka_AD G) {V : ka_W} (hg : gd (V 0)) (h0 : ¬ V 0 0 5 < 0) {a : Int32}  : ka_M G yX6_bestTrain cX6_bestTrain 4 (some FieldType.int) 5 [.ref (ka_ad G 8 0), .int a] (V) (some (.int (sp_best (V 0) a))) (V) := by
  refine ka_entry hG ka_pn_X6 (ka_cat1 rfl) (Nat.le_of_ble_eq_true rfl) (fun X hC hR => ?_)
  refine ka_I.eqW (ka_sp_self (r := 0)).symm ?_
  refine ka_iload_n hC dX6_bestTrain_0 rfl ?_
  refine ka_iconst (v := 0) hC dX6_bestTrain_1 rfl ?_
  refine ka_iconst (v := 2) hC dX6_bestTrain_2 rfl ?_
  refine ka_callS hC (m_X6_within hG) ka_q_ml_X6_89 ka_q_st_X6_within ka_q_in_X6 ka_q_co_X6_within ky_X6_within (by decide) (by decide) (Nat.le_of_ble_eq_true rfl) rfl dX6_bestTrain_3 ?_
  refine ka_if_ne_b (tgt := 12) hC dX6_bestTrain_6 (by decide) (fun c6 => ?_) (fun c6 => ?_)
  · skip
    refine ka_aload_n hC dX6_bestTrain_12 rfl ?_
    refine kg_X6_10  hC dX6_bestTrain_13 ?_
    refine ka_callV hC (m_X3_neediestMine hG (by first | assumption | decide | exact wgIx_lt _ | exact plIx_lt _ | exact sp_recQ_lt | omega) hg.1) (ka_Rc_pool (by first | assumption | decide | exact wgIx_lt _ | exact plIx_lt _ | exact sp_recQ_lt | omega)) rfl ka_q_ml_X6_105 ka_q_im_X3_neediestMine ka_q_se_X3_neediestMine ka_q_in_X3 ka_q_co_X3_neediestMine ky_X3_neediestMine (by decide) (by decide) (Nat.le_of_ble_eq_true rfl) rfl dX6_bestTrain_16 ?_
    refine ka_istore_n_p2 hC dX6_bestTrain_19 (by decide) ?_
    refine ka_iload_n hC dX6_bestTrain_20 rfl ?_
    refine ka_iconst (v := (-1)) hC dX6_bestTrain_21 rfl ?_
    refine ka_icmp_ne (tgt := 29) hC dX6_bestTrain_22 (by decide) (fun c22 => ?_) (fun c22 => ?_)
    · skip
      refine ka_aload_n hC dX6_bestTrain_29 rfl ?_
      refine kg_X6_10  hC dX6_bestTrain_30 ?_
      refine ka_iload_n hC dX6_bestTrain_33 rfl ?_
      refine ka_callV hC (m_X3_nearestToSpare hG (by first | assumption | decide | exact wgIx_lt _ | exact plIx_lt _ | exact sp_recQ_lt | omega) hg.1 h0) (ka_Rc_pool (by first | assumption | decide | exact wgIx_lt _ | exact plIx_lt _ | exact sp_recQ_lt | omega)) rfl ka_q_ml_X6_109 ka_q_im_X3_nearestToSpare ka_q_se_X3_nearestToSpare ka_q_in_X3 ka_q_co_X3_nearestToSpare ky_X3_nearestToSpare (by decide) (by decide) (Nat.le_of_ble_eq_true rfl) rfl dX6_bestTrain_34 ?_
      refine ka_istore_n_p3 hC dX6_bestTrain_37 (by decide) ?_
      refine ka_iload_n hC dX6_bestTrain_38 rfl ?_
      refine ka_iconst (v := (-1)) hC dX6_bestTrain_39 rfl ?_
      refine ka_icmp_ne (tgt := 46) hC dX6_bestTrain_40 (by decide) (fun c40 => ?_) (fun c40 => ?_)
      · skip
        refine ka_iload_n hC dX6_bestTrain_46 rfl ?_
        refine ka_if_ne (tgt := 52) hC dX6_bestTrain_47 (by decide) (fun c47 => ?_) (fun c47 => ?_)
        · skip
          refine ka_iload_n hC dX6_bestTrain_52 rfl ?_
          refine ka_iconst (v := 1) hC dX6_bestTrain_53 rfl ?_
          refine ka_icmp_ne (tgt := 59) hC dX6_bestTrain_54 (by decide) (fun c54 => ?_) (fun c54 => ?_)
          · skip
            refine ka_bipush (v := 8) hC dX6_bestTrain_59 rfl ?_
            refine ka_aload_n hC dX6_bestTrain_61 rfl ?_
            refine kg_X6_10  hC dX6_bestTrain_62 ?_
            refine ka_iload_n hC dX6_bestTrain_65 rfl ?_
            refine ka_callV hC (m_X3_lackOf hG (by first | assumption | decide | exact wgIx_lt _ | exact plIx_lt _ | exact sp_recQ_lt | omega)) (ka_Rc_pool (by first | assumption | decide | exact wgIx_lt _ | exact plIx_lt _ | exact sp_recQ_lt | omega)) rfl ka_q_ml_X6_102 ka_q_im_X3_lackOf ka_q_se_X3_lackOf ka_q_in_X3 ka_q_co_X3_lackOf ky_X3_lackOf (by decide) (by decide) (Nat.le_of_ble_eq_true rfl) rfl dX6_bestTrain_66 ?_
            refine ka_aload_n hC dX6_bestTrain_69 rfl ?_
            refine kg_X6_10  hC dX6_bestTrain_70 ?_
            refine ka_iload_n hC dX6_bestTrain_73 rfl ?_
            refine ka_callV hC (m_X3_spareOf hG (by first | assumption | decide | exact wgIx_lt _ | exact plIx_lt _ | exact sp_recQ_lt | omega)) (ka_Rc_pool (by first | assumption | decide | exact wgIx_lt _ | exact plIx_lt _ | exact sp_recQ_lt | omega)) rfl ka_q_ml_X6_113 ka_q_im_X3_spareOf ka_q_se_X3_spareOf ka_q_in_X3 ka_q_co_X3_spareOf ky_X3_spareOf (by decide) (by decide) (Nat.le_of_ble_eq_true rfl) rfl dX6_bestTrain_74 ?_
            refine ka_min hC ka_q_ml_X6_116 ka_q_st_min ka_q_in_J9 ka_q_co_min (Nat.le_of_ble_eq_true rfl) (by decide) dX6_bestTrain_77 ?_
            refine ka_min hC ka_q_ml_X6_116 ka_q_st_min ka_q_in_J9 ka_q_co_min (Nat.le_of_ble_eq_true rfl) (by decide) dX6_bestTrain_80 ?_
            exact ka_iret hC hR dX6_bestTrain_83 (by first | contradiction | (rw [show sp_best (V 0) a = sp_mn 8 (sp_mn (sp_lackOf (V 0) (sp_neediest (V 0))) (sp_spareOf (V 0) (sp_nearest (V 0) (sp_neediest (V 0))))) from by unfold sp_best; rw [if_neg (by rw [c6]; decide), if_neg c22]; unfold sp_best3; rw [if_neg c40, if_neg c47, if_neg c54]]; rfl)) (by exact ka_sp_self)
          · skip
            refine ka_iload_n hC dX6_bestTrain_57 rfl ?_
            exact ka_iret hC hR dX6_bestTrain_58 (by first | with_reducible rfl | (simp only [sp_best, sp_best3, sp_mn, c6, c22, c40, c47, c54]; done) | (simp only [sp_best, sp_best3, sp_mn, c6, if_neg c22, if_pos c22, if_neg c40, if_pos c40, if_neg c47, if_pos c47, if_pos c54, if_neg (not_not_intro c54)]; done) | (simp [sp_best, sp_best3, sp_mn, c6, c22, c40, c47, c54]; done) | (simp [sp_best, sp_best3, sp_mn, c6, if_neg c22, if_pos c22, if_neg c40, if_pos c40, if_neg c47, if_pos c47, if_pos c54, if_neg (not_not_intro c54)]; done) | contradiction | rfl) (by exact ka_sp_self)
        · skip
          refine ka_iload_n hC dX6_bestTrain_50 rfl ?_
          exact ka_iret hC hR dX6_bestTrain_51 (by first | with_reducible rfl | (simp only [sp_best, sp_best3, sp_mn, c6, c22, c40, c47]; done) | (simp only [sp_best, sp_best3, sp_mn, c6, if_neg c22, if_pos c22, if_neg c40, if_pos c40, if_pos c47, if_neg (not_not_intro c47)]; done) | (simp [sp_best, sp_best3, sp_mn, c6, c22, c40, c47]; done) | (simp [sp_best, sp_best3, sp_mn, c6, if_neg c22, if_pos c22, if_neg c40, if_pos c40, if_pos c47, if_neg (not_not_intro c47)]; done) | contradiction | rfl) (by exact ka_sp_self)
      · skip
        refine ka_ldc hC ka_q_cn_X6_112 dX6_bestTrain_43 ?_
        exact ka_iret hC hR dX6_bestTrain_45 (by first | with_reducible rfl | (simp only [sp_best, sp_best3, sp_mn, c6, c22, c40]; done) | (simp only [sp_best, sp_best3, sp_mn, c6, if_neg c22, if_pos c22, if_pos c40, if_neg (not_not_intro c40)]; done) | (simp [sp_best, sp_best3, sp_mn, c6, c22, c40]; done) | (simp [sp_best, sp_best3, sp_mn, c6, if_neg c22, if_pos c22, if_pos c40, if_neg (not_not_intro c40)]; done) | contradiction | rfl) (by exact ka_sp_self)
    · skip
      refine ka_iconst (v := (-1)) hC dX6_bestTrain_25 rfl ?_
      refine ka_goto (tgt := 37) hC dX6_bestTrain_26 (by decide) ?_
      refine ka_istore_n_p3 hC dX6_bestTrain_37 (by decide) ?_
      refine ka_iload_n hC dX6_bestTrain_38 rfl ?_
      refine ka_iconst (v := (-1)) hC dX6_bestTrain_39 rfl ?_
      refine ka_icmp_ne (tgt := 46) hC dX6_bestTrain_40 (by decide) (fun c40 => ?_) (fun c40 => ?_)
      · skip
        refine ka_iload_n hC dX6_bestTrain_46 rfl ?_
        refine ka_if_ne (tgt := 52) hC dX6_bestTrain_47 (by decide) (fun c47 => ?_) (fun c47 => ?_)
        · skip
          refine ka_iload_n hC dX6_bestTrain_52 rfl ?_
          refine ka_iconst (v := 1) hC dX6_bestTrain_53 rfl ?_
          refine ka_icmp_ne (tgt := 59) hC dX6_bestTrain_54 (by decide) (fun c54 => ?_) (fun c54 => ?_)
          · skip
            refine ka_bipush (v := 8) hC dX6_bestTrain_59 rfl ?_
            refine ka_aload_n hC dX6_bestTrain_61 rfl ?_
            refine kg_X6_10  hC dX6_bestTrain_62 ?_
            refine ka_iload_n hC dX6_bestTrain_65 rfl ?_
            refine ka_callV hC (m_X3_lackOf hG (by first | assumption | decide | exact wgIx_lt _ | exact plIx_lt _ | exact sp_recQ_lt | omega)) (ka_Rc_pool (by first | assumption | decide | exact wgIx_lt _ | exact plIx_lt _ | exact sp_recQ_lt | omega)) rfl ka_q_ml_X6_102 ka_q_im_X3_lackOf ka_q_se_X3_lackOf ka_q_in_X3 ka_q_co_X3_lackOf ky_X3_lackOf (by decide) (by decide) (Nat.le_of_ble_eq_true rfl) rfl dX6_bestTrain_66 ?_
            refine ka_aload_n hC dX6_bestTrain_69 rfl ?_
            refine kg_X6_10  hC dX6_bestTrain_70 ?_
            refine ka_iload_n hC dX6_bestTrain_73 rfl ?_
            refine ka_callV hC (m_X3_spareOf hG (by first | assumption | decide | exact wgIx_lt _ | exact plIx_lt _ | exact sp_recQ_lt | omega)) (ka_Rc_pool (by first | assumption | decide | exact wgIx_lt _ | exact plIx_lt _ | exact sp_recQ_lt | omega)) rfl ka_q_ml_X6_113 ka_q_im_X3_spareOf ka_q_se_X3_spareOf ka_q_in_X3 ka_q_co_X3_spareOf ky_X3_spareOf (by decide) (by decide) (Nat.le_of_ble_eq_true rfl) rfl dX6_bestTrain_74 ?_
            refine ka_min hC ka_q_ml_X6_116 ka_q_st_min ka_q_in_J9 ka_q_co_min (Nat.le_of_ble_eq_true rfl) (by decide) dX6_bestTrain_77 ?_
            refine ka_min hC ka_q_ml_X6_116 ka_q_st_min ka_q_in_J9 ka_q_co_min (Nat.le_of_ble_eq_true rfl) (by decide) dX6_bestTrain_80 ?_
            exact ka_iret hC hR dX6_bestTrain_83 (by first | contradiction | (rw [show sp_best (V 0) a = sp_mn 8 (sp_mn (sp_lackOf (V 0) (sp_neediest (V 0))) (sp_spareOf (V 0) (sp_nearest (V 0) (sp_neediest (V 0))))) from by unfold sp_best; rw [if_neg (by rw [c6]; decide), if_neg c22]; unfold sp_best3; rw [if_neg c40, if_neg c47, if_neg c54]]; rfl)) (by exact ka_sp_self)
          · skip
            refine ka_iload_n hC dX6_bestTrain_57 rfl ?_
            exact ka_iret hC hR dX6_bestTrain_58 (by first | with_reducible rfl | (simp only [sp_best, sp_best3, sp_mn, c6, c22, c40, c47, c54]; done) | (simp only [sp_best, sp_best3, sp_mn, c6, if_pos c22, if_neg (not_not_intro c22), if_neg c40, if_pos c40, if_neg c47, if_pos c47, if_pos c54, if_neg (not_not_intro c54)]; done) | (simp [sp_best, sp_best3, sp_mn, c6, c22, c40, c47, c54]; done) | (simp [sp_best, sp_best3, sp_mn, c6, if_pos c22, if_neg (not_not_intro c22), if_neg c40, if_pos c40, if_neg c47, if_pos c47, if_pos c54, if_neg (not_not_intro c54)]; done) | contradiction | rfl) (by exact ka_sp_self)
        · skip
          refine ka_iload_n hC dX6_bestTrain_50 rfl ?_
          exact ka_iret hC hR dX6_bestTrain_51 (by first | with_reducible rfl | (simp only [sp_best, sp_best3, sp_mn, c6, c22, c40, c47]; done) | (simp only [sp_best, sp_best3, sp_mn, c6, if_pos c22, if_neg (not_not_intro c22), if_neg c40, if_pos c40, if_pos c47, if_neg (not_not_intro c47)]; done) | (simp [sp_best, sp_best3, sp_mn, c6, c22, c40, c47]; done) | (simp [sp_best, sp_best3, sp_mn, c6, if_pos c22, if_neg (not_not_intro c22), if_neg c40, if_pos c40, if_pos c47, if_neg (not_not_intro c47)]; done) | contradiction | rfl) (by exact ka_sp_self)
      · skip
        refine ka_ldc hC ka_q_cn_X6_112 dX6_bestTrain_43 ?_
        exact ka_iret hC hR dX6_bestTrain_45 (by first | with_reducible rfl | (simp only [sp_best, sp_best3, sp_mn, c6, c22, c40]; done) | (simp only [sp_best, sp_best3, sp_mn, c6, if_pos c22, if_neg (not_not_intro c22), if_pos c40, if_neg (not_not_intro c40)]; done) | (simp [sp_best, sp_best3, sp_mn, c6, c22, c40]; done) | (simp [sp_best, sp_best3, sp_mn, c6, if_pos c22, if_neg (not_not_intro c22), if_pos c40, if_neg (not_not_intro c40)]; done) | contradiction | rfl) (by exact ka_sp_self)
  · skip
    refine ka_ldc hC ka_q_cn_X6_84 dX6_bestTrain_9 ?_
    exact ka_iret hC hR dX6_bestTrain_11 (by first | with_reducible rfl | (simp only [sp_best, sp_best3, sp_mn, c6]; done) | (simp only [sp_best, sp_best3, sp_mn, c6]; done) | (simp [sp_best, sp_best3, sp_mn, c6]; done) | (simp [sp_best, sp_best3, sp_mn, c6]; done) | contradiction | rfl) (by exact ka_sp_self)
theorem ky_X6_would : ka_y yX6_would 2 := by unfold ka_y; decide +kernel
set_option maxHeartbeats 4000000 in
set_option maxRecDepth 100000 in
theorem m_X6_would {G : ka_G} (hG : ka_AD G) {V : ka_W} (hg : gd (V 0)) {a b : Int32}  : ka_M G yX6_would cX6_would 3 (some FieldType.int) 4 [.ref (ka_ad G 8 0), .int a, .int b] (V) (some (.int ((sp_would V a b).1))) ((sp_would V a b).2) := by
  refine ka_entry hG ka_pn_X6 (ka_cat1 rfl) (Nat.le_of_ble_eq_true rfl) (fun X hC hR => ?_)
  refine ka_I.eqW (ka_sp_self (r := 0)).symm ?_
  refine ka_aload_n hC dX6_would_0 rfl ?_
  refine kg_X6_10  hC dX6_would_1 ?_
  refine ka_iload_n hC dX6_would_4 rfl ?_
  refine ka_callV hC (m_X3_isPlace hG (by first | assumption | decide | exact wgIx_lt _ | exact plIx_lt _ | exact sp_recQ_lt | omega)) (ka_Rc_pool (by first | assumption | decide | exact wgIx_lt _ | exact plIx_lt _ | exact sp_recQ_lt | omega)) rfl ka_q_ml_X6_85 ka_q_im_X3_isPlace ka_q_se_X3_isPlace ka_q_in_X3 ka_q_co_X3_isPlace ky_X3_isPlace (by decide) (by decide) (Nat.le_of_ble_eq_true rfl) rfl dX6_would_5 ?_
  refine ka_if_eq_b (tgt := 21) hC dX6_would_8 (by decide) (fun c8 => ?_) (fun c8 => ?_)
  · skip
    refine ka_I.eqW ka_sp_self ?_
    refine ka_ldc hC ka_q_cn_X6_84 dX6_would_21 ?_
    exact ka_iret hC hR dX6_would_23 (by first | with_reducible rfl | (simp only [sp_would, sp_tr, ka_sp_self, c8]; done) | (simp only [sp_would, sp_tr, ka_sp_self, c8]; done) | (simp [sp_would, sp_tr, ka_sp_self, c8]; done) | (simp [sp_would, sp_tr, ka_sp_self, c8]; done) | contradiction | rfl) (by first | with_reducible rfl | (simp only [sp_would, sp_tr, ka_sp_self, c8]; done) | (simp only [sp_would, sp_tr, ka_sp_self, c8]; done) | (simp [sp_would, sp_tr, ka_sp_self, c8]; done) | (simp [sp_would, sp_tr, ka_sp_self, c8]; done) | contradiction | rfl)
  · skip
    refine ka_iload_n hC dX6_would_11 rfl ?_
    refine ka_iconst (v := 0) hC dX6_would_12 rfl ?_
    refine ka_bipush (v := 99) hC dX6_would_13 rfl ?_
    refine ka_callS hC (m_X6_within hG) ka_q_ml_X6_89 ka_q_st_X6_within ka_q_in_X6 ka_q_co_X6_within ky_X6_within (by decide) (by decide) (Nat.le_of_ble_eq_true rfl) rfl dX6_would_15 ?_
    refine ka_if_ne_b (tgt := 24) hC dX6_would_18 (by decide) (fun c18 => ?_) (fun c18 => ?_)
    · skip
      refine ka_I.eqW ka_sp_self ?_
      refine ka_aload_n hC dX6_would_24 rfl ?_
      refine kg_X6_16  hC dX6_would_25 ?_
      refine ka_aload_n hC dX6_would_28 rfl ?_
      refine kg_X6_10  hC dX6_would_29 ?_
      refine ka_I.eqW (ka_sp_self (r := 1)).symm ?_
      refine ka_callV hC (m_X3_copyFrom hG (r := 1) (r2 := 0) (by decide) (by decide) (by decide)) (ka_Rc_pool (by first | assumption | decide | exact wgIx_lt _ | exact plIx_lt _ | exact sp_recQ_lt | omega)) rfl ka_q_ml_X6_33 ka_q_im_X3_copyFrom ka_q_se_X3_copyFrom ka_q_in_X3 ka_q_co_X3_copyFrom ky_X3_copyFrom (by decide) (by decide) (Nat.le_of_ble_eq_true rfl) rfl dX6_would_32 ?_
      refine ka_aload_n hC dX6_would_35 rfl ?_
      refine kg_X6_16  hC dX6_would_36 ?_
      refine ka_iload_n hC dX6_would_39 rfl ?_
      refine ka_callV hC (m_X3_letDaysPass hG (by first | assumption | decide | exact wgIx_lt _ | exact plIx_lt _ | exact sp_recQ_lt | omega) (gd_copy hg).1 (gd_copy hg).2) (ka_Rc_pool (by first | assumption | decide | exact wgIx_lt _ | exact plIx_lt _ | exact sp_recQ_lt | omega)) rfl ka_q_ml_X6_93 ka_q_im_X3_letDaysPass ka_q_se_X3_letDaysPass ka_q_in_X3 ka_q_co_X3_letDaysPass ky_X3_letDaysPass (by decide) (by decide) (Nat.le_of_ble_eq_true rfl) rfl dX6_would_40 ?_
      refine ka_pop hC dX6_would_43 rfl ?_
      refine ka_aload_n hC dX6_would_44 rfl ?_
      refine kg_X6_16  hC dX6_would_45 ?_
      refine ka_iload_n hC dX6_would_48 rfl ?_
      refine ka_callV hC (m_X3_accountOf hG (by first | assumption | decide | exact wgIx_lt _ | exact plIx_lt _ | exact sp_recQ_lt | omega)) (ka_Rc_pool (by first | assumption | decide | exact wgIx_lt _ | exact plIx_lt _ | exact sp_recQ_lt | omega)) rfl ka_q_ml_X6_96 ka_q_im_X3_accountOf ka_q_se_X3_accountOf ka_q_in_X3 ka_q_co_X3_accountOf ky_X3_accountOf (by decide) (by decide) (Nat.le_of_ble_eq_true rfl) rfl dX6_would_49 ?_
      exact ka_iret hC hR dX6_would_52 (by first | with_reducible rfl | (simp only [sp_would, sp_tr, ka_sp_self, c8, c18]; done) | (simp only [sp_would, sp_tr, ka_sp_self, c8, c18]; done) | (simp [sp_would, sp_tr, ka_sp_self, c8, c18]; done) | (simp [sp_would, sp_tr, ka_sp_self, c8, c18]; done) | contradiction | rfl) (by first | with_reducible rfl | (simp only [sp_would, sp_tr, ka_sp_self, c8, c18]; done) | (simp only [sp_would, sp_tr, ka_sp_self, c8, c18]; done) | (simp [sp_would, sp_tr, ka_sp_self, c8, c18]; done) | (simp [sp_would, sp_tr, ka_sp_self, c8, c18]; done) | contradiction | rfl)
    · skip
      refine ka_I.eqW ka_sp_self ?_
      refine ka_ldc hC ka_q_cn_X6_84 dX6_would_21 ?_
      exact ka_iret hC hR dX6_would_23 (by first | with_reducible rfl | (simp only [sp_would, sp_tr, ka_sp_self, c8, c18]; done) | (simp only [sp_would, sp_tr, ka_sp_self, c8, c18]; done) | (simp [sp_would, sp_tr, ka_sp_self, c8, c18]; done) | (simp [sp_would, sp_tr, ka_sp_self, c8, c18]; done) | contradiction | rfl) (by first | with_reducible rfl | (simp only [sp_would, sp_tr, ka_sp_self, c8, c18]; done) | (simp only [sp_would, sp_tr, ka_sp_self, c8, c18]; done) | (simp [sp_would, sp_tr, ka_sp_self, c8, c18]; done) | (simp [sp_would, sp_tr, ka_sp_self, c8, c18]; done) | contradiction | rfl)
theorem ky_X6_count : ka_y yX6_count 1 := by unfold ka_y; decide +kernel
set_option maxHeartbeats 4000000 in
set_option maxRecDepth 100000 in
theorem m_X6_count {G : ka_G} (hG : ka_AD G) {V : ka_W} (hg : gd (V 0)) (h0 : ¬ V 0 0 5 < 0) {a : Int32}  : ka_M G yX6_count cX6_count 2 (some FieldType.int) 4 [.ref (ka_ad G 8 0), .int a] (V) (some (.int (sp_count V a))) (V) := by
  refine ka_entry hG ka_pn_X6 (ka_cat1 rfl) (Nat.le_of_ble_eq_true rfl) (fun X hC hR => ?_)
  refine ka_iload_n hC dX6_count_0 rfl ?_
  refine ka_bipush (v := 13) hC dX6_count_1 rfl ?_
  refine ka_icmp_ne (tgt := 14) hC dX6_count_3 (by decide) (fun c3 => ?_) (fun c3 => ?_)
  · skip
    refine ka_iload_n hC dX6_count_14 rfl ?_
    refine ka_bipush (v := 14) hC dX6_count_15 rfl ?_
    refine ka_icmp_ne (tgt := 28) hC dX6_count_17 (by decide) (fun c17 => ?_) (fun c17 => ?_)
    · skip
      refine ka_aload_n hC dX6_count_28 rfl ?_
      refine kg_X6_10  hC dX6_count_29 ?_
      refine ka_iload_n hC dX6_count_32 rfl ?_
      refine ka_I.eqW (ka_sp_self (r := 0)).symm ?_
      refine ka_callV hC (m_X3_tellNumber hG (by first | assumption | decide | exact wgIx_lt _ | exact plIx_lt _ | exact sp_recQ_lt | omega) hg.1 h0) (ka_Rc_pool (by first | assumption | decide | exact wgIx_lt _ | exact plIx_lt _ | exact sp_recQ_lt | omega)) rfl ka_q_ml_X6_137 ka_q_im_X3_tellNumber ka_q_se_X3_tellNumber ka_q_in_X3 ka_q_co_X3_tellNumber ky_X3_tellNumber (by decide) (by decide) (Nat.le_of_ble_eq_true rfl) rfl dX6_count_33 ?_
      exact ka_iret hC hR dX6_count_36 (by first | with_reducible rfl | (simp only [sp_count, c3, c17]; done) | (simp only [sp_count, if_neg c3, if_pos c3, if_neg c17, if_pos c17]; done) | (simp [sp_count, c3, c17]; done) | (simp [sp_count, if_neg c3, if_pos c3, if_neg c17, if_pos c17]; done) | contradiction | rfl) (by first | rfl | exact ka_sp_self)
    · skip
      refine ka_aload_n hC dX6_count_20 rfl ?_
      refine kg_X6_29  hC dX6_count_21 ?_
      refine ka_I.eqW (ka_sp_self (r := 7)).symm ?_
      refine ka_callV hC (m_X1_length hG) (ka_Rc_text ) rfl ka_q_ml_X6_134 ka_q_im_X1_length ka_q_se_X1_length ka_q_in_X1 ka_q_co_X1_length ky_X1_length (by decide) (by decide) (Nat.le_of_ble_eq_true rfl) rfl dX6_count_24 ?_
      exact ka_iret hC hR dX6_count_27 (by first | with_reducible rfl | (simp only [sp_count, c3, c17]; done) | (simp only [sp_count, if_neg c3, if_pos c3, if_pos c17, if_neg (not_not_intro c17)]; done) | (simp [sp_count, c3, c17]; done) | (simp [sp_count, if_neg c3, if_pos c3, if_pos c17, if_neg (not_not_intro c17)]; done) | contradiction | rfl) (by first | rfl | exact ka_sp_self)
  · skip
    refine ka_aload_n hC dX6_count_6 rfl ?_
    refine kg_X6_22  hC dX6_count_7 ?_
    refine ka_callV hC (m_X0_size hG) (ka_Rc_hist ) rfl ka_q_ml_X6_131 ka_q_im_X0_size ka_q_se_X0_size ka_q_in_X0 ka_q_co_X0_size ky_X0_size (by decide) (by decide) (Nat.le_of_ble_eq_true rfl) rfl dX6_count_10 ?_
    exact ka_iret hC hR dX6_count_13 (by first | with_reducible rfl | (simp only [sp_count, c3]; done) | (simp only [sp_count, if_pos c3, if_neg (not_not_intro c3)]; done) | (simp [sp_count, c3]; done) | (simp [sp_count, if_pos c3, if_neg (not_not_intro c3)]; done) | contradiction | rfl) (by first | rfl | exact ka_sp_self)
theorem ky_X6_undo : ka_y yX6_undo 0 := by unfold ka_y; decide +kernel
set_option maxHeartbeats 4000000 in
set_option maxRecDepth 100000 in
theorem m_X6_undo {G : ka_G} (hG : ka_AD G) {V : ka_W}  : ka_M G yX6_undo cX6_undo 1 (some FieldType.int) 5 [.ref (ka_ad G 8 0)] (V) (some (.int ((sp_undo V).1))) ((sp_undo V).2) := by
  refine ka_entry hG ka_pn_X6 (ka_cat1 rfl) (Nat.le_of_ble_eq_true rfl) (fun X hC hR => ?_)
  refine ka_aload_n hC dX6_undo_0 rfl ?_
  refine kg_X6_22  hC dX6_undo_1 ?_
  refine ka_callV hC (m_X0_size hG) (ka_Rc_hist ) rfl ka_q_ml_X6_131 ka_q_im_X0_size ka_q_se_X0_size ka_q_in_X0 ka_q_co_X0_size ky_X0_size (by decide) (by decide) (Nat.le_of_ble_eq_true rfl) rfl dX6_undo_4 ?_
  refine ka_if_ne (tgt := 13) hC dX6_undo_7 (by decide) (fun c7 => ?_) (fun c7 => ?_)
  · skip
    refine ka_aload_n hC dX6_undo_13 rfl ?_
    refine kg_X6_22  hC dX6_undo_14 ?_
    refine ka_aload_n hC dX6_undo_17 rfl ?_
    refine kg_X6_10  hC dX6_undo_18 ?_
    refine ka_callV hC (m_X0_takeLatest hG (r := 0) (by decide)) (ka_Rc_hist ) rfl ka_q_ml_X6_141 ka_q_im_X0_takeLatest ka_q_se_X0_takeLatest ka_q_in_X0 ka_q_co_X0_takeLatest ky_X0_takeLatest (by decide) (by decide) (Nat.le_of_ble_eq_true rfl) rfl dX6_undo_21 ?_
    refine ka_aload_n hC dX6_undo_24 rfl ?_
    refine kg_X6_22  hC dX6_undo_25 ?_
    refine ka_callV hC (m_X0_size hG) (ka_Rc_hist ) rfl ka_q_ml_X6_131 ka_q_im_X0_size ka_q_se_X0_size ka_q_in_X0 ka_q_co_X0_size ky_X0_size (by decide) (by decide) (Nat.le_of_ble_eq_true rfl) rfl dX6_undo_28 ?_
    exact ka_iret hC hR dX6_undo_31 (by first | with_reducible rfl | (simp only [sp_undo, c7]; done) | (simp only [sp_undo, if_neg c7, if_pos c7]; done) | (simp [sp_undo, c7]; done) | (simp [sp_undo, if_neg c7, if_pos c7]; done) | contradiction | rfl) (by first | with_reducible rfl | (simp only [sp_undo, c7]; done) | (simp only [sp_undo, if_neg c7, if_pos c7]; done) | (simp [sp_undo, c7]; done) | (simp [sp_undo, if_neg c7, if_pos c7]; done) | contradiction | rfl)
  · skip
    refine ka_ldc hC ka_q_cn_X6_140 dX6_undo_10 ?_
    exact ka_iret hC hR dX6_undo_12 (by first | with_reducible rfl | (simp only [sp_undo, c7]; done) | (simp only [sp_undo, if_pos c7, if_neg (not_not_intro c7)]; done) | (simp [sp_undo, c7]; done) | (simp [sp_undo, if_pos c7, if_neg (not_not_intro c7)]; done) | contradiction | rfl) (by first | with_reducible rfl | (simp only [sp_undo, c7]; done) | (simp only [sp_undo, if_pos c7, if_neg (not_not_intro c7)]; done) | (simp [sp_undo, c7]; done) | (simp [sp_undo, if_pos c7, if_neg (not_not_intro c7)]; done) | contradiction | rfl)
theorem ky_X6_type : ka_y yX6_type 1 := by unfold ka_y; decide +kernel
set_option maxHeartbeats 4000000 in
set_option maxRecDepth 100000 in
theorem m_X6_type {G : ka_G} (hG : ka_AD G) {V : ka_W} {a : Int32}  : ka_M G yX6_type cX6_type 2 (some FieldType.int) 2 [.ref (ka_ad G 8 0), .int a] (V) (some (.int ((st_append (V 7) a).1))) (ka_sp V 7 (st_append (V 7) a).2) := by
  refine ka_entry hG ka_pn_X6 (ka_cat1 rfl) (Nat.le_of_ble_eq_true rfl) (fun X hC hR => ?_)
  refine ka_aload_n hC dX6_type_0 rfl ?_
  refine kg_X6_29  hC dX6_type_1 ?_
  refine ka_iload_n hC dX6_type_4 rfl ?_
  refine ka_I.eqW (ka_sp_self (r := 7)).symm ?_
  refine ka_callV hC (m_X1_append hG) (ka_Rc_text ) rfl ka_q_ml_X6_144 ka_q_im_X1_append ka_q_se_X1_append ka_q_in_X1 ka_q_co_X1_append ky_X1_append (by decide) (by decide) (Nat.le_of_ble_eq_true rfl) rfl dX6_type_5 ?_
  exact ka_iret hC hR dX6_type_8 (by first | with_reducible rfl | (simp only []; done) | (simp only []; done) | (simp []; done) | (simp []; done) | contradiction | rfl) (by first | with_reducible rfl | (simp only []; done) | (simp only []; done) | (simp []; done) | (simp []; done) | contradiction | rfl)
theorem ky_X6_clearText : ka_y yX6_clearText 0 := by unfold ka_y; decide +kernel
set_option maxHeartbeats 4000000 in
set_option maxRecDepth 100000 in
theorem m_X6_clearText {G : ka_G} (hG : ka_AD G) {V : ka_W}  : ka_M G yX6_clearText cX6_clearText 1 (some FieldType.int) 1 [.ref (ka_ad G 8 0)] (V) (some (.int (V 7 0 2))) (ka_sp V 7 (pU (V 7) 0 2 0)) := by
  refine ka_entry hG ka_pn_X6 (ka_cat1 rfl) (Nat.le_of_ble_eq_true rfl) (fun X hC hR => ?_)
  refine ka_aload_n hC dX6_clearText_0 rfl ?_
  refine kg_X6_29  hC dX6_clearText_1 ?_
  refine ka_I.eqW (ka_sp_self (r := 7)).symm ?_
  refine ka_callV hC (m_X1_clear hG) (ka_Rc_text ) rfl ka_q_ml_X6_147 ka_q_im_X1_clear ka_q_se_X1_clear ka_q_in_X1 ka_q_co_X1_clear ky_X1_clear (by decide) (by decide) (Nat.le_of_ble_eq_true rfl) rfl dX6_clearText_4 ?_
  exact ka_iret hC hR dX6_clearText_7 (by first | with_reducible rfl | (simp only []; done) | (simp only []; done) | (simp []; done) | (simp []; done) | contradiction | rfl) (by first | with_reducible rfl | (simp only []; done) | (simp only []; done) | (simp []; done) | (simp []; done) | contradiction | rfl)
theorem ky_X6_fault : ka_y yX6_fault 1 := by unfold ka_y; decide +kernel
set_option maxHeartbeats 4000000 in
set_option maxRecDepth 100000 in
theorem m_X6_fault {G : ka_G} (hG : ka_AD G) {V : ka_W} (hg : gd (V 0)) {a : Int32}  : ka_M G yX6_fault cX6_fault 2 (some FieldType.int) 6 [.ref (ka_ad G 8 0), .int a] (V) (some (.int ((sp_fault V a).1))) ((sp_fault V a).2) := by
  refine ka_entry hG ka_pn_X6 (ka_cat1 rfl) (Nat.le_of_ble_eq_true rfl) (fun X hC hR => ?_)
  refine ka_iload_n hC dX6_fault_0 rfl ?_
  refine ka_iconst (v := 0) hC dX6_fault_1 rfl ?_
  refine ka_iconst (v := 2) hC dX6_fault_2 rfl ?_
  refine ka_callS hC (m_X6_within hG) ka_q_ml_X6_89 ka_q_st_X6_within ka_q_in_X6 ka_q_co_X6_within ky_X6_within (by decide) (by decide) (Nat.le_of_ble_eq_true rfl) rfl dX6_fault_3 ?_
  refine ka_if_ne_b (tgt := 12) hC dX6_fault_6 (by decide) (fun c6 => ?_) (fun c6 => ?_)
  · skip
    refine ka_aload_n hC dX6_fault_12 rfl ?_
    refine kg_X6_16  hC dX6_fault_13 ?_
    refine ka_aload_n hC dX6_fault_16 rfl ?_
    refine kg_X6_10  hC dX6_fault_17 ?_
    refine ka_I.eqW (ka_sp_self (r := 1)).symm ?_
    refine ka_callV hC (m_X3_copyFrom hG (r := 1) (r2 := 0) (by decide) (by decide) (by decide)) (ka_Rc_pool (by first | assumption | decide | exact wgIx_lt _ | exact plIx_lt _ | exact sp_recQ_lt | omega)) rfl ka_q_ml_X6_33 ka_q_im_X3_copyFrom ka_q_se_X3_copyFrom ka_q_in_X3 ka_q_co_X3_copyFrom ky_X3_copyFrom (by decide) (by decide) (Nat.le_of_ble_eq_true rfl) rfl dX6_fault_20 ?_
    refine ka_aload_n hC dX6_fault_23 rfl ?_
    refine kg_X6_29  hC dX6_fault_24 ?_
    refine ka_aload_n hC dX6_fault_27 rfl ?_
    refine kg_X6_16  hC dX6_fault_28 ?_
    refine ka_I.eqW (sp_try_text (V := V) (P := sp_tr V)) ?_
    refine ka_callV hC (m_X1_doAll hG (V := V) (r := 1) (P := sp_tr V) (T := V 7) (by decide) (gd_copy hg)) (ka_Rc_text ) rfl ka_q_ml_X6_150 ka_q_im_X1_doAll ka_q_se_X1_doAll ka_q_in_X1 ka_q_co_X1_doAll ky_X1_doAll (by decide) (by decide) (Nat.le_of_ble_eq_true rfl) rfl dX6_fault_31 ?_
    refine ka_aload_n hC dX6_fault_34 rfl ?_
    refine kg_X6_29  hC dX6_fault_35 ?_
    refine ka_callV hC (m_X1_hasFault hG) (ka_Rc_text ) rfl ka_q_ml_X6_153 ka_q_im_X1_hasFault ka_q_se_X1_hasFault ka_q_in_X1 ka_q_co_X1_hasFault ky_X1_hasFault (by decide) (by decide) (Nat.le_of_ble_eq_true rfl) rfl dX6_fault_38 ?_
    refine ka_if_ne_b (tgt := 47) hC dX6_fault_41 (by decide) (fun c41 => ?_) (fun c41 => ?_)
    · skip
      refine ka_iload_n hC dX6_fault_47 rfl ?_
      refine ka_if_ne (tgt := 59) hC dX6_fault_48 (by decide) (fun c48 => ?_) (fun c48 => ?_)
      · skip
        refine ka_iload_n hC dX6_fault_59 rfl ?_
        refine ka_iconst (v := 1) hC dX6_fault_60 rfl ?_
        refine ka_icmp_ne (tgt := 74) hC dX6_fault_61 (by decide) (fun c61 => ?_) (fun c61 => ?_)
        · skip
          refine ka_aload_n hC dX6_fault_74 rfl ?_
          refine kg_X6_29  hC dX6_fault_75 ?_
          refine ka_callV hC (m_X1_cause hG) (ka_Rc_text ) rfl ka_q_ml_X6_163 ka_q_im_X1_cause ka_q_se_X1_cause ka_q_in_X1 ka_q_co_X1_cause ky_X1_cause (by decide) (by decide) (Nat.le_of_ble_eq_true rfl) rfl dX6_fault_78 ?_
          exact ka_iret hC hR dX6_fault_81 (by first | with_reducible rfl | (simp only [sp_fault, sp_ran, sp_rt, c6, c41, c48, c61]; done) | (simp only [sp_fault, sp_ran, sp_rt, c6, c41, if_neg c48, if_pos c48, if_neg c61, if_pos c61]; done) | (simp [sp_fault, sp_ran, sp_rt, c6, c41, c48, c61]; done) | (simp [sp_fault, sp_ran, sp_rt, c6, c41, if_neg c48, if_pos c48, if_neg c61, if_pos c61]; done) | contradiction | rfl) (by first | with_reducible rfl | (simp only [sp_fault, sp_ran, sp_rt, c6, c41, c48, c61]; done) | (simp only [sp_fault, sp_ran, sp_rt, c6, c41, if_neg c48, if_pos c48, if_neg c61, if_pos c61]; done) | (simp [sp_fault, sp_ran, sp_rt, c6, c41, c48, c61]; done) | (simp [sp_fault, sp_ran, sp_rt, c6, c41, if_neg c48, if_pos c48, if_neg c61, if_pos c61]; done) | contradiction | rfl)
        · skip
          refine ka_aload_n hC dX6_fault_64 rfl ?_
          refine kg_X6_29  hC dX6_fault_65 ?_
          refine ka_callV hC (m_X1_reason hG) (ka_Rc_text ) rfl ka_q_ml_X6_160 ka_q_im_X1_reason ka_q_se_X1_reason ka_q_in_X1 ka_q_co_X1_reason ky_X1_reason (by decide) (by decide) (Nat.le_of_ble_eq_true rfl) rfl dX6_fault_68 ?_
          refine ka_goto (tgt := 81) hC dX6_fault_71 (by decide) ?_
          exact ka_iret hC hR dX6_fault_81 (by first | with_reducible rfl | (simp only [sp_fault, sp_ran, sp_rt, c6, c41, c48, c61]; done) | (simp only [sp_fault, sp_ran, sp_rt, c6, c41, if_neg c48, if_pos c48, if_pos c61, if_neg (not_not_intro c61)]; done) | (simp [sp_fault, sp_ran, sp_rt, c6, c41, c48, c61]; done) | (simp [sp_fault, sp_ran, sp_rt, c6, c41, if_neg c48, if_pos c48, if_pos c61, if_neg (not_not_intro c61)]; done) | contradiction | rfl) (by first | with_reducible rfl | (simp only [sp_fault, sp_ran, sp_rt, c6, c41, c48, c61]; done) | (simp only [sp_fault, sp_ran, sp_rt, c6, c41, if_neg c48, if_pos c48, if_pos c61, if_neg (not_not_intro c61)]; done) | (simp [sp_fault, sp_ran, sp_rt, c6, c41, c48, c61]; done) | (simp [sp_fault, sp_ran, sp_rt, c6, c41, if_neg c48, if_pos c48, if_pos c61, if_neg (not_not_intro c61)]; done) | contradiction | rfl)
      · skip
        refine ka_aload_n hC dX6_fault_51 rfl ?_
        refine kg_X6_29  hC dX6_fault_52 ?_
        refine ka_callV hC (m_X1_position hG) (ka_Rc_text ) rfl ka_q_ml_X6_157 ka_q_im_X1_position ka_q_se_X1_position ka_q_in_X1 ka_q_co_X1_position ky_X1_position (by decide) (by decide) (Nat.le_of_ble_eq_true rfl) rfl dX6_fault_55 ?_
        exact ka_iret hC hR dX6_fault_58 (by first | with_reducible rfl | (simp only [sp_fault, sp_ran, sp_rt, c6, c41, c48]; done) | (simp only [sp_fault, sp_ran, sp_rt, c6, c41, if_pos c48, if_neg (not_not_intro c48)]; done) | (simp [sp_fault, sp_ran, sp_rt, c6, c41, c48]; done) | (simp [sp_fault, sp_ran, sp_rt, c6, c41, if_pos c48, if_neg (not_not_intro c48)]; done) | contradiction | rfl) (by first | with_reducible rfl | (simp only [sp_fault, sp_ran, sp_rt, c6, c41, c48]; done) | (simp only [sp_fault, sp_ran, sp_rt, c6, c41, if_pos c48, if_neg (not_not_intro c48)]; done) | (simp [sp_fault, sp_ran, sp_rt, c6, c41, c48]; done) | (simp [sp_fault, sp_ran, sp_rt, c6, c41, if_pos c48, if_neg (not_not_intro c48)]; done) | contradiction | rfl)
    · skip
      refine ka_ldc hC ka_q_cn_X6_112 dX6_fault_44 ?_
      exact ka_iret hC hR dX6_fault_46 (by first | with_reducible rfl | (simp only [sp_fault, sp_ran, sp_rt, c6, c41]; done) | (simp only [sp_fault, sp_ran, sp_rt, c6, c41]; done) | (simp [sp_fault, sp_ran, sp_rt, c6, c41]; done) | (simp [sp_fault, sp_ran, sp_rt, c6, c41]; done) | contradiction | rfl) (by first | with_reducible rfl | (simp only [sp_fault, sp_ran, sp_rt, c6, c41]; done) | (simp only [sp_fault, sp_ran, sp_rt, c6, c41]; done) | (simp [sp_fault, sp_ran, sp_rt, c6, c41]; done) | (simp [sp_fault, sp_ran, sp_rt, c6, c41]; done) | contradiction | rfl)
  · skip
    refine ka_ldc hC ka_q_cn_X6_84 dX6_fault_9 ?_
    exact ka_iret hC hR dX6_fault_11 (by first | with_reducible rfl | (simp only [sp_fault, sp_ran, sp_rt, c6]; done) | (simp only [sp_fault, sp_ran, sp_rt, c6]; done) | (simp [sp_fault, sp_ran, sp_rt, c6]; done) | (simp [sp_fault, sp_ran, sp_rt, c6]; done) | contradiction | rfl) (by first | with_reducible rfl | (simp only [sp_fault, sp_ran, sp_rt, c6]; done) | (simp only [sp_fault, sp_ran, sp_rt, c6]; done) | (simp [sp_fault, sp_ran, sp_rt, c6]; done) | (simp [sp_fault, sp_ran, sp_rt, c6]; done) | contradiction | rfl)
theorem ky_X6_play : ka_y yX6_play 0 := by unfold ka_y; decide +kernel
set_option maxHeartbeats 4000000 in
set_option maxRecDepth 100000 in
theorem m_X6_play {G : ka_G} (hG : ka_AD G) {V : ka_W} (hg : gd (V 0))  : ka_M G yX6_play cX6_play 1 (some FieldType.int) 6 [.ref (ka_ad G 8 0)] (V) (some (.int (sp_playA V))) (sp_settle (sp_ran V) (sp_playA V)) := by
  refine ka_entry hG ka_pn_X6 (ka_cat1 rfl) (Nat.le_of_ble_eq_true rfl) (fun X hC hR => ?_)
  refine ka_aload_n hC dX6_play_0 rfl ?_
  refine kg_X6_16  hC dX6_play_1 ?_
  refine ka_aload_n hC dX6_play_4 rfl ?_
  refine kg_X6_10  hC dX6_play_5 ?_
  refine ka_I.eqW (ka_sp_self (r := 1)).symm ?_
  refine ka_callV hC (m_X3_copyFrom hG (r := 1) (r2 := 0) (by decide) (by decide) (by decide)) (ka_Rc_pool (by first | assumption | decide | exact wgIx_lt _ | exact plIx_lt _ | exact sp_recQ_lt | omega)) rfl ka_q_ml_X6_33 ka_q_im_X3_copyFrom ka_q_se_X3_copyFrom ka_q_in_X3 ka_q_co_X3_copyFrom ky_X3_copyFrom (by decide) (by decide) (Nat.le_of_ble_eq_true rfl) rfl dX6_play_8 ?_
  refine ka_aload_n hC dX6_play_11 rfl ?_
  refine kg_X6_29  hC dX6_play_12 ?_
  refine ka_aload_n hC dX6_play_15 rfl ?_
  refine kg_X6_16  hC dX6_play_16 ?_
  refine ka_I.eqW (sp_try_text (V := V) (P := sp_tr V)) ?_
  refine ka_callV hC (m_X1_doAll hG (V := V) (r := 1) (P := sp_tr V) (T := V 7) (by decide) (gd_copy hg)) (ka_Rc_text ) rfl ka_q_ml_X6_150 ka_q_im_X1_doAll ka_q_se_X1_doAll ka_q_in_X1 ka_q_co_X1_doAll ky_X1_doAll (by decide) (by decide) (Nat.le_of_ble_eq_true rfl) rfl dX6_play_19 ?_
  refine ka_aload_n hC dX6_play_22 rfl ?_
  refine ka_aload_n hC dX6_play_23 rfl ?_
  refine kg_X6_29  hC dX6_play_24 ?_
  refine ka_callV hC (m_X1_hasFault hG) (ka_Rc_text ) rfl ka_q_ml_X6_153 ka_q_im_X1_hasFault ka_q_se_X1_hasFault ka_q_in_X1 ka_q_co_X1_hasFault ky_X1_hasFault (by decide) (by decide) (Nat.le_of_ble_eq_true rfl) rfl dX6_play_27 ?_
  refine ka_if_eq_b (tgt := 38) hC dX6_play_30 (by decide) (fun c30 => ?_) (fun c30 => ?_)
  · skip
    refine ka_aload_n hC dX6_play_38 rfl ?_
    refine kg_X6_29  hC dX6_play_39 ?_
    refine ka_callV hC (m_X1_orders hG) (ka_Rc_text ) rfl ka_q_ml_X6_166 ka_q_im_X1_orders ka_q_se_X1_orders ka_q_in_X1 ka_q_co_X1_orders ky_X1_orders (by decide) (by decide) (Nat.le_of_ble_eq_true rfl) rfl dX6_play_42 ?_
    refine ka_callV hC (m_X6_settle hG) (ka_Rc_coal ) rfl ka_q_ml_X6_41 ka_q_im_X6_settle ka_q_se_X6_settle ka_q_in_X6 ka_q_co_X6_settle ky_X6_settle (by decide) (by decide) (Nat.le_of_ble_eq_true rfl) rfl dX6_play_45 ?_
    exact ka_iret hC hR dX6_play_48 (by first | with_reducible rfl | (simp only [sp_playA, sp_ran, sp_rt, c30]; done) | (simp only [sp_playA, sp_ran, sp_rt, c30]; done) | (simp [sp_playA, sp_ran, sp_rt, c30]; done) | (simp [sp_playA, sp_ran, sp_rt, c30]; done) | contradiction | rfl) (by first | with_reducible rfl | (simp only [sp_playA, sp_ran, sp_rt, c30]; done) | (simp only [sp_playA, sp_ran, sp_rt, c30]; done) | (simp [sp_playA, sp_ran, sp_rt, c30]; done) | (simp [sp_playA, sp_ran, sp_rt, c30]; done) | contradiction | rfl)
  · skip
    refine ka_ldc hC ka_q_cn_X6_140 dX6_play_33 ?_
    refine ka_goto (tgt := 45) hC dX6_play_35 (by decide) ?_
    refine ka_callV hC (m_X6_settle hG) (ka_Rc_coal ) rfl ka_q_ml_X6_41 ka_q_im_X6_settle ka_q_se_X6_settle ka_q_in_X6 ka_q_co_X6_settle ky_X6_settle (by decide) (by decide) (Nat.le_of_ble_eq_true rfl) rfl dX6_play_45 ?_
    exact ka_iret hC hR dX6_play_48 (by first | with_reducible rfl | (simp only [sp_playA, sp_ran, sp_rt, c30]; done) | (simp only [sp_playA, sp_ran, sp_rt, c30]; done) | (simp [sp_playA, sp_ran, sp_rt, c30]; done) | (simp [sp_playA, sp_ran, sp_rt, c30]; done) | contradiction | rfl) (by first | with_reducible rfl | (simp only [sp_playA, sp_ran, sp_rt, c30]; done) | (simp only [sp_playA, sp_ran, sp_rt, c30]; done) | (simp [sp_playA, sp_ran, sp_rt, c30]; done) | (simp [sp_playA, sp_ran, sp_rt, c30]; done) | contradiction | rfl)
