theorem ky_X7_number : ka_y yX7_number 0 := by unfold ka_y; decide +kernel
set_option maxHeartbeats 4000000 in
set_option maxRecDepth 100000 in
theorem m_X7_number {G : ka_G} (hG : ka_AD G) {V : ka_W} {M : ka_P} {S : ka_F} (hT : TK M)  : ka_M G yX7_number cX7_number 3 (some FieldType.int) 2 [.ref (ka_ad G 9 0)] (ka_ms V M S) (some (.int ((rt_number M).1))) (ka_ms V (rt_number M).2 S) := by
  refine ka_entry hG ka_pn_X7 (ka_cat1 rfl) (Nat.le_of_ble_eq_true rfl) (fun X hC hR => ?_)
  refine ka_aload_n hC dX7_number_0 rfl ?_
  refine ka_aload_n hC dX7_number_1 rfl ?_
  refine kmg_X7_181  hC dX7_number_2 ?_
  refine ka_if_eq_b (tgt := 19) hC dX7_number_5 (by decide) (fun c5 => ?_) (fun c5 => ?_)
  · skip
    refine ka_iconst (v := 0) hC dX7_number_19 rfl ?_
    refine kmp_X7_181  (b := false) rfl hC dX7_number_20 ?_
    refine ka_I.eqW (V' := ka_ms V (rt_num0 M) S) (by unfold rt_num0 rt_flag; simp [c5]) ?_
    refine ka_iconst (v := 0) hC dX7_number_23 rfl ?_
    refine ka_istore_n_p1 hC dX7_number_24 (by decide) ?_
    refine ka_iconst (v := 0) hC dX7_number_25 rfl ?_
    refine ka_istore_n_p2 hC dX7_number_26 (by decide) ?_
    suffices H27 : ∀ jj i : Nat, i ≤ 2 → 2 - i < jj → ka_I G X (ka_ms V (rt_numX M i).2 S) 27 [.ref (ka_ad G 9 0), .int (rt_numX M i).1, .int (nI i)] [] from ka_I.back 3 (by rfl) (by rfl) (H27 (2 + 1) 0 (by omega) (by omega))
    intro j27
    induction j27 with
    | zero => intro i h1 h2 ; exact absurd h2 (Nat.not_lt_zero _)
    | succ j27 ih27 =>
      intro i hle27 hlt27 
      have hTi := (tx_numX hT i).1.1
      refine ka_iload_n hC dX7_number_27 rfl ?_
      refine ka_iconst (v := 2) hC dX7_number_28 rfl ?_
      refine ka_icmp_ge (tgt := 75) hC dX7_number_29 (by decide) (fun c29 => ?_) (fun c29 => ?_)
      · skip
        obtain rfl : i = 2 := nlt_nI (by decide) hle27 c29
        refine ka_iload_n hC dX7_number_75 rfl ?_
        exact ka_iret hC hR dX7_number_76 (by rfl) (by rfl)
      · skip
        have hi : i < 2 := lt_nI (by decide) hle27 c29
        refine ka_aload_n hC dX7_number_32 rfl ?_
        refine kmg_X7_181  hC dX7_number_33 ?_
        refine ka_if_eq_b (tgt := 75) hC dX7_number_36 (by decide) (fun c36 => ?_) (fun c36 => ?_)
        · skip
          rw [← rt_numX_stop (n := 2) (Or.inl c36) hle27]
          refine ka_iload_n hC dX7_number_75 rfl ?_
          exact ka_iret hC hR dX7_number_76 (by rfl) (by rfl)
        · skip
          refine ka_aload_n hC dX7_number_39 rfl ?_
          refine ka_callV hC (m_X7_isDigit hG (by first | assumption | decide | exact wgIx_lt _ | exact plIx_lt _ | exact sp_recQ_lt | omega)) (ka_Rc_model ) rfl ka_q_ml_X7_185 ka_q_im_X7_isDigit ka_q_se_X7_isDigit ka_q_in_X7 ka_q_co_X7_isDigit ky_X7_isDigit (by decide) (by decide) (Nat.le_of_ble_eq_true rfl) rfl dX7_number_40 ?_
          refine ka_if_eq_b (tgt := 75) hC dX7_number_43 (by decide) (fun c43 => ?_) (fun c43 => ?_)
          · skip
            rw [← rt_numX_stop (n := 2) (Or.inr c43) hle27]
            refine ka_iload_n hC dX7_number_75 rfl ?_
            exact ka_iret hC hR dX7_number_76 (by rfl) (by rfl)
          · skip
            have e : rt_numX M (i + 1) = (10 * (rt_numX M i).1 + rt_here (rt_numX M i).2 - 48, sp_add (rt_numX M i).2 0 7 1) := by rw [rt_numX_s]; unfold rt_numAt; rw [if_neg (by rw [c36]; decide), if_neg (by rw [c43]; decide)]
            refine ka_bipush (v := 10) hC dX7_number_46 rfl ?_
            refine ka_iload_n hC dX7_number_48 rfl ?_
            refine ka_imul hC dX7_number_49 ?_
            refine ka_aload_n hC dX7_number_50 rfl ?_
            refine ka_callV hC (m_X7_here hG (by first | assumption | decide | exact wgIx_lt _ | exact plIx_lt _ | exact sp_recQ_lt | omega)) (ka_Rc_model ) rfl ka_q_ml_X7_178 ka_q_im_X7_here ka_q_se_X7_here ka_q_in_X7 ka_q_co_X7_here ky_X7_here (by decide) (by decide) (Nat.le_of_ble_eq_true rfl) rfl dX7_number_51 ?_
            refine ka_iadd hC dX7_number_54 ?_
            refine ka_bipush (v := 48) hC dX7_number_55 rfl ?_
            refine ka_isub hC dX7_number_57 ?_
            refine ka_istore_n_s1 hC dX7_number_58 (by decide) ?_
            refine ka_aload_n hC dX7_number_59 rfl ?_
            refine ka_dup hC dX7_number_60 rfl ?_
            refine kmg_X7_175  hC dX7_number_61 ?_
            refine ka_iconst (v := 1) hC dX7_number_64 rfl ?_
            refine ka_iadd hC dX7_number_65 ?_
            refine kmp_X7_175  hC dX7_number_66 ?_
            refine ka_iinc_2 (v := 1) hC dX7_number_69 rfl (by decide) ?_
            refine ka_goto (tgt := 27) hC dX7_number_72 (by decide) ?_
            exact ka_I.back 3 (by rw [e]; rfl) (by rw [e, ← nI_1]; rfl) (ih27 (i + 1) (by omega) (by omega))
  · skip
    refine ka_aload_n hC dX7_number_8 rfl ?_
    refine ka_callV hC (m_X7_isDigit hG (by first | assumption | decide | exact wgIx_lt _ | exact plIx_lt _ | exact sp_recQ_lt | omega)) (ka_Rc_model ) rfl ka_q_ml_X7_185 ka_q_im_X7_isDigit ka_q_se_X7_isDigit ka_q_in_X7 ka_q_co_X7_isDigit ky_X7_isDigit (by decide) (by decide) (Nat.le_of_ble_eq_true rfl) rfl dX7_number_9 ?_
    refine ka_if_eq_b (tgt := 19) hC dX7_number_12 (by decide) (fun c12 => ?_) (fun c12 => ?_)
    · skip
      refine ka_iconst (v := 0) hC dX7_number_19 rfl ?_
      refine kmp_X7_181  (b := false) rfl hC dX7_number_20 ?_
      refine ka_I.eqW (V' := ka_ms V (rt_num0 M) S) (by unfold rt_num0 rt_flag; simp [c5, c12]) ?_
      refine ka_iconst (v := 0) hC dX7_number_23 rfl ?_
      refine ka_istore_n_p1 hC dX7_number_24 (by decide) ?_
      refine ka_iconst (v := 0) hC dX7_number_25 rfl ?_
      refine ka_istore_n_p2 hC dX7_number_26 (by decide) ?_
      suffices H27 : ∀ jj i : Nat, i ≤ 2 → 2 - i < jj → ka_I G X (ka_ms V (rt_numX M i).2 S) 27 [.ref (ka_ad G 9 0), .int (rt_numX M i).1, .int (nI i)] [] from ka_I.back 3 (by rfl) (by rfl) (H27 (2 + 1) 0 (by omega) (by omega))
      intro j27
      induction j27 with
      | zero => intro i h1 h2 ; exact absurd h2 (Nat.not_lt_zero _)
      | succ j27 ih27 =>
        intro i hle27 hlt27 
        have hTi := (tx_numX hT i).1.1
        refine ka_iload_n hC dX7_number_27 rfl ?_
        refine ka_iconst (v := 2) hC dX7_number_28 rfl ?_
        refine ka_icmp_ge (tgt := 75) hC dX7_number_29 (by decide) (fun c29 => ?_) (fun c29 => ?_)
        · skip
          obtain rfl : i = 2 := nlt_nI (by decide) hle27 c29
          refine ka_iload_n hC dX7_number_75 rfl ?_
          exact ka_iret hC hR dX7_number_76 (by rfl) (by rfl)
        · skip
          have hi : i < 2 := lt_nI (by decide) hle27 c29
          refine ka_aload_n hC dX7_number_32 rfl ?_
          refine kmg_X7_181  hC dX7_number_33 ?_
          refine ka_if_eq_b (tgt := 75) hC dX7_number_36 (by decide) (fun c36 => ?_) (fun c36 => ?_)
          · skip
            rw [← rt_numX_stop (n := 2) (Or.inl c36) hle27]
            refine ka_iload_n hC dX7_number_75 rfl ?_
            exact ka_iret hC hR dX7_number_76 (by rfl) (by rfl)
          · skip
            refine ka_aload_n hC dX7_number_39 rfl ?_
            refine ka_callV hC (m_X7_isDigit hG (by first | assumption | decide | exact wgIx_lt _ | exact plIx_lt _ | exact sp_recQ_lt | omega)) (ka_Rc_model ) rfl ka_q_ml_X7_185 ka_q_im_X7_isDigit ka_q_se_X7_isDigit ka_q_in_X7 ka_q_co_X7_isDigit ky_X7_isDigit (by decide) (by decide) (Nat.le_of_ble_eq_true rfl) rfl dX7_number_40 ?_
            refine ka_if_eq_b (tgt := 75) hC dX7_number_43 (by decide) (fun c43 => ?_) (fun c43 => ?_)
            · skip
              rw [← rt_numX_stop (n := 2) (Or.inr c43) hle27]
              refine ka_iload_n hC dX7_number_75 rfl ?_
              exact ka_iret hC hR dX7_number_76 (by rfl) (by rfl)
            · skip
              have e : rt_numX M (i + 1) = (10 * (rt_numX M i).1 + rt_here (rt_numX M i).2 - 48, sp_add (rt_numX M i).2 0 7 1) := by rw [rt_numX_s]; unfold rt_numAt; rw [if_neg (by rw [c36]; decide), if_neg (by rw [c43]; decide)]
              refine ka_bipush (v := 10) hC dX7_number_46 rfl ?_
              refine ka_iload_n hC dX7_number_48 rfl ?_
              refine ka_imul hC dX7_number_49 ?_
              refine ka_aload_n hC dX7_number_50 rfl ?_
              refine ka_callV hC (m_X7_here hG (by first | assumption | decide | exact wgIx_lt _ | exact plIx_lt _ | exact sp_recQ_lt | omega)) (ka_Rc_model ) rfl ka_q_ml_X7_178 ka_q_im_X7_here ka_q_se_X7_here ka_q_in_X7 ka_q_co_X7_here ky_X7_here (by decide) (by decide) (Nat.le_of_ble_eq_true rfl) rfl dX7_number_51 ?_
              refine ka_iadd hC dX7_number_54 ?_
              refine ka_bipush (v := 48) hC dX7_number_55 rfl ?_
              refine ka_isub hC dX7_number_57 ?_
              refine ka_istore_n_s1 hC dX7_number_58 (by decide) ?_
              refine ka_aload_n hC dX7_number_59 rfl ?_
              refine ka_dup hC dX7_number_60 rfl ?_
              refine kmg_X7_175  hC dX7_number_61 ?_
              refine ka_iconst (v := 1) hC dX7_number_64 rfl ?_
              refine ka_iadd hC dX7_number_65 ?_
              refine kmp_X7_175  hC dX7_number_66 ?_
              refine ka_iinc_2 (v := 1) hC dX7_number_69 rfl (by decide) ?_
              refine ka_goto (tgt := 27) hC dX7_number_72 (by decide) ?_
              exact ka_I.back 3 (by rw [e]; rfl) (by rw [e, ← nI_1]; rfl) (ih27 (i + 1) (by omega) (by omega))
    · skip
      refine ka_iconst (v := 1) hC dX7_number_15 rfl ?_
      refine ka_goto (tgt := 20) hC dX7_number_16 (by decide) ?_
      refine kmp_X7_181  (b := true) rfl hC dX7_number_20 ?_
      refine ka_I.eqW (V' := ka_ms V (rt_num0 M) S) (by unfold rt_num0 rt_flag; simp [c5, c12]) ?_
      refine ka_iconst (v := 0) hC dX7_number_23 rfl ?_
      refine ka_istore_n_p1 hC dX7_number_24 (by decide) ?_
      refine ka_iconst (v := 0) hC dX7_number_25 rfl ?_
      refine ka_istore_n_p2 hC dX7_number_26 (by decide) ?_
      suffices H27 : ∀ jj i : Nat, i ≤ 2 → 2 - i < jj → ka_I G X (ka_ms V (rt_numX M i).2 S) 27 [.ref (ka_ad G 9 0), .int (rt_numX M i).1, .int (nI i)] [] from ka_I.back 3 (by rfl) (by rfl) (H27 (2 + 1) 0 (by omega) (by omega))
      intro j27
      induction j27 with
      | zero => intro i h1 h2 ; exact absurd h2 (Nat.not_lt_zero _)
      | succ j27 ih27 =>
        intro i hle27 hlt27 
        have hTi := (tx_numX hT i).1.1
        refine ka_iload_n hC dX7_number_27 rfl ?_
        refine ka_iconst (v := 2) hC dX7_number_28 rfl ?_
        refine ka_icmp_ge (tgt := 75) hC dX7_number_29 (by decide) (fun c29 => ?_) (fun c29 => ?_)
        · skip
          obtain rfl : i = 2 := nlt_nI (by decide) hle27 c29
          refine ka_iload_n hC dX7_number_75 rfl ?_
          exact ka_iret hC hR dX7_number_76 (by rfl) (by rfl)
        · skip
          have hi : i < 2 := lt_nI (by decide) hle27 c29
          refine ka_aload_n hC dX7_number_32 rfl ?_
          refine kmg_X7_181  hC dX7_number_33 ?_
          refine ka_if_eq_b (tgt := 75) hC dX7_number_36 (by decide) (fun c36 => ?_) (fun c36 => ?_)
          · skip
            rw [← rt_numX_stop (n := 2) (Or.inl c36) hle27]
            refine ka_iload_n hC dX7_number_75 rfl ?_
            exact ka_iret hC hR dX7_number_76 (by rfl) (by rfl)
          · skip
            refine ka_aload_n hC dX7_number_39 rfl ?_
            refine ka_callV hC (m_X7_isDigit hG (by first | assumption | decide | exact wgIx_lt _ | exact plIx_lt _ | exact sp_recQ_lt | omega)) (ka_Rc_model ) rfl ka_q_ml_X7_185 ka_q_im_X7_isDigit ka_q_se_X7_isDigit ka_q_in_X7 ka_q_co_X7_isDigit ky_X7_isDigit (by decide) (by decide) (Nat.le_of_ble_eq_true rfl) rfl dX7_number_40 ?_
            refine ka_if_eq_b (tgt := 75) hC dX7_number_43 (by decide) (fun c43 => ?_) (fun c43 => ?_)
            · skip
              rw [← rt_numX_stop (n := 2) (Or.inr c43) hle27]
              refine ka_iload_n hC dX7_number_75 rfl ?_
              exact ka_iret hC hR dX7_number_76 (by rfl) (by rfl)
            · skip
              have e : rt_numX M (i + 1) = (10 * (rt_numX M i).1 + rt_here (rt_numX M i).2 - 48, sp_add (rt_numX M i).2 0 7 1) := by rw [rt_numX_s]; unfold rt_numAt; rw [if_neg (by rw [c36]; decide), if_neg (by rw [c43]; decide)]
              refine ka_bipush (v := 10) hC dX7_number_46 rfl ?_
              refine ka_iload_n hC dX7_number_48 rfl ?_
              refine ka_imul hC dX7_number_49 ?_
              refine ka_aload_n hC dX7_number_50 rfl ?_
              refine ka_callV hC (m_X7_here hG (by first | assumption | decide | exact wgIx_lt _ | exact plIx_lt _ | exact sp_recQ_lt | omega)) (ka_Rc_model ) rfl ka_q_ml_X7_178 ka_q_im_X7_here ka_q_se_X7_here ka_q_in_X7 ka_q_co_X7_here ky_X7_here (by decide) (by decide) (Nat.le_of_ble_eq_true rfl) rfl dX7_number_51 ?_
              refine ka_iadd hC dX7_number_54 ?_
              refine ka_bipush (v := 48) hC dX7_number_55 rfl ?_
              refine ka_isub hC dX7_number_57 ?_
              refine ka_istore_n_s1 hC dX7_number_58 (by decide) ?_
              refine ka_aload_n hC dX7_number_59 rfl ?_
              refine ka_dup hC dX7_number_60 rfl ?_
              refine kmg_X7_175  hC dX7_number_61 ?_
              refine ka_iconst (v := 1) hC dX7_number_64 rfl ?_
              refine ka_iadd hC dX7_number_65 ?_
              refine kmp_X7_175  hC dX7_number_66 ?_
              refine ka_iinc_2 (v := 1) hC dX7_number_69 rfl (by decide) ?_
              refine ka_goto (tgt := 27) hC dX7_number_72 (by decide) ?_
              exact ka_I.back 3 (by rw [e]; rfl) (by rw [e, ← nI_1]; rfl) (ih27 (i + 1) (by omega) (by omega))
theorem ky_X7_called : ka_y yX7_called 1 := by unfold ka_y; decide +kernel
set_option maxHeartbeats 4000000 in
set_option maxRecDepth 100000 in
theorem m_X7_called {G : ka_G} (hG : ka_AD G) {V : ka_W} {M : ka_P} {S : ka_F} (hM : MK 1999 S) {s : Int32}  : ka_M G yX7_called cX7_called 2 (some FieldType.int) 6 [.ref (ka_ad G 9 0), .int s] (ka_ms V M S) (some (.int ((rt_called M S s).1))) (ka_ms V M (rt_called M S s).2) := by
  refine ka_entry hG ka_pn_X7 (ka_cat1 rfl) (Nat.le_of_ble_eq_true rfl) (fun X hC hR => ?_)
  refine ka_iload_n hC dX7_called_0 rfl ?_
  by_cases c1_108 : s = 108
  · skip
    refine ka_tsIn (tgt := 75) hC dX7_called_1 (by rw [c1_108]; decide) (by rw [c1_108]; decide) (by rw [c1_108]; rfl) (by decide) ?_
    refine ka_aload_n hC dX7_called_75 rfl ?_
    refine ka_aload_n hC dX7_called_76 rfl ?_
    refine kg_X7_25  hC dX7_called_77 ?_
    refine ka_iconst (v := 0) hC dX7_called_80 rfl ?_
    refine kmi_mnums 0 (by decide) rfl hC dX7_called_81 ?_
    refine ka_callV hC (m_X7_loads hG hM) (ka_Rc_model ) rfl ka_q_ml_X7_113 ka_q_im_X7_loads ka_q_se_X7_loads ka_q_in_X7 ka_q_co_X7_loads ky_X7_loads (by decide) (by decide) (Nat.le_of_ble_eq_true rfl) rfl dX7_called_82 ?_
    exact ka_iret hC hR dX7_called_85 (by first | with_reducible rfl | (simp only [rt_called, c1_108]; done) | (simp only [rt_called, if_pos c1_108, if_neg (not_not_intro c1_108)]; done) | (simp [rt_called, c1_108]; done) | (simp [rt_called, if_pos c1_108, if_neg (not_not_intro c1_108)]; done) | contradiction | rfl) (by first | with_reducible rfl | (simp only [rt_called, c1_108]; done) | (simp only [rt_called, if_pos c1_108, if_neg (not_not_intro c1_108)]; done) | (simp [rt_called, c1_108]; done) | (simp [rt_called, if_pos c1_108, if_neg (not_not_intro c1_108)]; done) | contradiction | rfl)
  by_cases c1_114 : s = 114
  · skip
    refine ka_tsIn (tgt := 97) hC dX7_called_1 (by rw [c1_114]; decide) (by rw [c1_114]; decide) (by rw [c1_114]; rfl) (by decide) ?_
    refine ka_aload_n hC dX7_called_97 rfl ?_
    refine ka_aload_n hC dX7_called_98 rfl ?_
    refine kg_X7_25  hC dX7_called_99 ?_
    refine ka_iconst (v := 0) hC dX7_called_102 rfl ?_
    refine kmi_mnums 0 (by decide) rfl hC dX7_called_103 ?_
    refine ka_callV hC (m_X7_sends hG hM (by decide)) (ka_Rc_model ) rfl ka_q_ml_X7_119 ka_q_im_X7_sends ka_q_se_X7_sends ka_q_in_X7 ka_q_co_X7_sends ky_X7_sends (by decide) (by decide) (Nat.le_of_ble_eq_true rfl) rfl dX7_called_104 ?_
    exact ka_iret hC hR dX7_called_107 (by first | with_reducible rfl | (simp only [rt_called, c1_108, c1_114]; done) | (simp only [rt_called, if_neg c1_108, if_pos c1_108, if_pos c1_114, if_neg (not_not_intro c1_114)]; done) | (simp [rt_called, c1_108, c1_114]; done) | (simp [rt_called, if_neg c1_108, if_pos c1_108, if_pos c1_114, if_neg (not_not_intro c1_114)]; done) | contradiction | rfl) (by first | with_reducible rfl | (simp only [rt_called, c1_108, c1_114]; done) | (simp only [rt_called, if_neg c1_108, if_pos c1_108, if_pos c1_114, if_neg (not_not_intro c1_114)]; done) | (simp [rt_called, c1_108, c1_114]; done) | (simp [rt_called, if_neg c1_108, if_pos c1_108, if_pos c1_114, if_neg (not_not_intro c1_114)]; done) | contradiction | rfl)
  by_cases c1_116 : s = 116
  · skip
    refine ka_tsIn (tgt := 108) hC dX7_called_1 (by rw [c1_116]; decide) (by rw [c1_116]; decide) (by rw [c1_116]; rfl) (by decide) ?_
    refine ka_aload_n hC dX7_called_108 rfl ?_
    refine ka_aload_n hC dX7_called_109 rfl ?_
    refine kg_X7_25  hC dX7_called_110 ?_
    refine ka_iconst (v := 0) hC dX7_called_113 rfl ?_
    refine kmi_mnums 0 (by decide) rfl hC dX7_called_114 ?_
    refine ka_aload_n hC dX7_called_115 rfl ?_
    refine kg_X7_25  hC dX7_called_116 ?_
    refine ka_iconst (v := 1) hC dX7_called_119 rfl ?_
    refine kmi_mnums 1 (by decide) rfl hC dX7_called_120 ?_
    refine ka_aload_n hC dX7_called_121 rfl ?_
    refine kg_X7_25  hC dX7_called_122 ?_
    refine ka_iconst (v := 2) hC dX7_called_125 rfl ?_
    refine kmi_mnums 2 (by decide) rfl hC dX7_called_126 ?_
    refine ka_aload_n hC dX7_called_127 rfl ?_
    refine kg_X7_25  hC dX7_called_128 ?_
    refine ka_iconst (v := 3) hC dX7_called_131 rfl ?_
    refine kmi_mnums 3 (by decide) rfl hC dX7_called_132 ?_
    refine ka_callV hC (m_X7_trains hG hM) (ka_Rc_model ) rfl ka_q_ml_X7_122 ka_q_im_X7_trains ka_q_se_X7_trains ka_q_in_X7 ka_q_co_X7_trains ky_X7_trains (by decide) (by decide) (Nat.le_of_ble_eq_true rfl) rfl dX7_called_133 ?_
    exact ka_iret hC hR dX7_called_136 (by first | with_reducible rfl | (simp only [rt_called, c1_108, c1_114, c1_116]; done) | (simp only [rt_called, if_neg c1_108, if_pos c1_108, if_neg c1_114, if_pos c1_114, if_pos c1_116, if_neg (not_not_intro c1_116)]; done) | (simp [rt_called, c1_108, c1_114, c1_116]; done) | (simp [rt_called, if_neg c1_108, if_pos c1_108, if_neg c1_114, if_pos c1_114, if_pos c1_116, if_neg (not_not_intro c1_116)]; done) | contradiction | rfl) (by first | with_reducible rfl | (simp only [rt_called, c1_108, c1_114, c1_116]; done) | (simp only [rt_called, if_neg c1_108, if_pos c1_108, if_neg c1_114, if_pos c1_114, if_pos c1_116, if_neg (not_not_intro c1_116)]; done) | (simp [rt_called, c1_108, c1_114, c1_116]; done) | (simp [rt_called, if_neg c1_108, if_pos c1_108, if_neg c1_114, if_pos c1_114, if_pos c1_116, if_neg (not_not_intro c1_116)]; done) | contradiction | rfl)
  by_cases c1_117 : s = 117
  · skip
    refine ka_tsIn (tgt := 86) hC dX7_called_1 (by rw [c1_117]; decide) (by rw [c1_117]; decide) (by rw [c1_117]; rfl) (by decide) ?_
    refine ka_aload_n hC dX7_called_86 rfl ?_
    refine ka_aload_n hC dX7_called_87 rfl ?_
    refine kg_X7_25  hC dX7_called_88 ?_
    refine ka_iconst (v := 0) hC dX7_called_91 rfl ?_
    refine kmi_mnums 0 (by decide) rfl hC dX7_called_92 ?_
    refine ka_callV hC (m_X7_unloads hG hM) (ka_Rc_model ) rfl ka_q_ml_X7_116 ka_q_im_X7_unloads ka_q_se_X7_unloads ka_q_in_X7 ka_q_co_X7_unloads ky_X7_unloads (by decide) (by decide) (Nat.le_of_ble_eq_true rfl) rfl dX7_called_93 ?_
    exact ka_iret hC hR dX7_called_96 (by first | with_reducible rfl | (simp only [rt_called, c1_108, c1_114, c1_116, c1_117]; done) | (simp only [rt_called, if_neg c1_108, if_pos c1_108, if_neg c1_114, if_pos c1_114, if_neg c1_116, if_pos c1_116, if_pos c1_117, if_neg (not_not_intro c1_117)]; done) | (simp [rt_called, c1_108, c1_114, c1_116, c1_117]; done) | (simp [rt_called, if_neg c1_108, if_pos c1_108, if_neg c1_114, if_pos c1_114, if_neg c1_116, if_pos c1_116, if_pos c1_117, if_neg (not_not_intro c1_117)]; done) | contradiction | rfl) (by first | with_reducible rfl | (simp only [rt_called, c1_108, c1_114, c1_116, c1_117]; done) | (simp only [rt_called, if_neg c1_108, if_pos c1_108, if_neg c1_114, if_pos c1_114, if_neg c1_116, if_pos c1_116, if_pos c1_117, if_neg (not_not_intro c1_117)]; done) | (simp [rt_called, c1_108, c1_114, c1_116, c1_117]; done) | (simp [rt_called, if_neg c1_108, if_pos c1_108, if_neg c1_114, if_pos c1_114, if_neg c1_116, if_pos c1_116, if_pos c1_117, if_neg (not_not_intro c1_117)]; done) | contradiction | rfl)
  by_cases c1_119 : s = 119
  · skip
    refine ka_tsIn (tgt := 64) hC dX7_called_1 (by rw [c1_119]; decide) (by rw [c1_119]; decide) (by rw [c1_119]; rfl) (by decide) ?_
    refine ka_aload_n hC dX7_called_64 rfl ?_
    refine ka_aload_n hC dX7_called_65 rfl ?_
    refine kg_X7_25  hC dX7_called_66 ?_
    refine ka_iconst (v := 0) hC dX7_called_69 rfl ?_
    refine kmi_mnums 0 (by decide) rfl hC dX7_called_70 ?_
    refine ka_callV hC (m_X7_joins hG hM) (ka_Rc_model ) rfl ka_q_ml_X7_110 ka_q_im_X7_joins ka_q_se_X7_joins ka_q_in_X7 ka_q_co_X7_joins ky_X7_joins (by decide) (by decide) (Nat.le_of_ble_eq_true rfl) rfl dX7_called_71 ?_
    exact ka_iret hC hR dX7_called_74 (by first | with_reducible rfl | (simp only [rt_called, c1_108, c1_114, c1_116, c1_117, c1_119]; done) | (simp only [rt_called, if_neg c1_108, if_pos c1_108, if_neg c1_114, if_pos c1_114, if_neg c1_116, if_pos c1_116, if_neg c1_117, if_pos c1_117, if_pos c1_119, if_neg (not_not_intro c1_119)]; done) | (simp [rt_called, c1_108, c1_114, c1_116, c1_117, c1_119]; done) | (simp [rt_called, if_neg c1_108, if_pos c1_108, if_neg c1_114, if_pos c1_114, if_neg c1_116, if_pos c1_116, if_neg c1_117, if_pos c1_117, if_pos c1_119, if_neg (not_not_intro c1_119)]; done) | contradiction | rfl) (by first | with_reducible rfl | (simp only [rt_called, c1_108, c1_114, c1_116, c1_117, c1_119]; done) | (simp only [rt_called, if_neg c1_108, if_pos c1_108, if_neg c1_114, if_pos c1_114, if_neg c1_116, if_pos c1_116, if_neg c1_117, if_pos c1_117, if_pos c1_119, if_neg (not_not_intro c1_119)]; done) | (simp [rt_called, c1_108, c1_114, c1_116, c1_117, c1_119]; done) | (simp [rt_called, if_neg c1_108, if_pos c1_108, if_neg c1_114, if_pos c1_114, if_neg c1_116, if_pos c1_116, if_neg c1_117, if_pos c1_117, if_pos c1_119, if_neg (not_not_intro c1_119)]; done) | contradiction | rfl)
  by_cases c1_109 : s = 109
  · skip
    refine ka_tsIn (tgt := 137) hC dX7_called_1 (by rw [c1_109]; decide) (by rw [c1_109]; decide) (by rw [c1_109]; rfl) (by decide) ?_
    refine ka_aload_n hC dX7_called_137 rfl ?_
    refine ka_aload_n hC dX7_called_138 rfl ?_
    refine kg_X7_25  hC dX7_called_139 ?_
    refine ka_iconst (v := 0) hC dX7_called_142 rfl ?_
    refine kmi_mnums 0 (by decide) rfl hC dX7_called_143 ?_
    refine ka_callV hC (m_X7_passes hG hM (by decide)) (ka_Rc_model ) rfl ka_q_ml_X7_126 ka_q_im_X7_passes ka_q_se_X7_passes ka_q_in_X7 ka_q_co_X7_passes ky_X7_passes (by decide) (by decide) (Nat.le_of_ble_eq_true rfl) rfl dX7_called_144 ?_
    exact ka_iret hC hR dX7_called_147 (by first | with_reducible rfl | (simp only [rt_called, c1_108, c1_114, c1_116, c1_117, c1_119, c1_109]; done) | (simp only [rt_called, if_neg c1_108, if_pos c1_108, if_neg c1_114, if_pos c1_114, if_neg c1_116, if_pos c1_116, if_neg c1_117, if_pos c1_117, if_neg c1_119, if_pos c1_119, if_pos c1_109, if_neg (not_not_intro c1_109)]; done) | (simp [rt_called, c1_108, c1_114, c1_116, c1_117, c1_119, c1_109]; done) | (simp [rt_called, if_neg c1_108, if_pos c1_108, if_neg c1_114, if_pos c1_114, if_neg c1_116, if_pos c1_116, if_neg c1_117, if_pos c1_117, if_neg c1_119, if_pos c1_119, if_pos c1_109, if_neg (not_not_intro c1_109)]; done) | contradiction | rfl) (by first | with_reducible rfl | (simp only [rt_called, c1_108, c1_114, c1_116, c1_117, c1_119, c1_109]; done) | (simp only [rt_called, if_neg c1_108, if_pos c1_108, if_neg c1_114, if_pos c1_114, if_neg c1_116, if_pos c1_116, if_neg c1_117, if_pos c1_117, if_neg c1_119, if_pos c1_119, if_pos c1_109, if_neg (not_not_intro c1_109)]; done) | (simp [rt_called, c1_108, c1_114, c1_116, c1_117, c1_119, c1_109]; done) | (simp [rt_called, if_neg c1_108, if_pos c1_108, if_neg c1_114, if_pos c1_114, if_neg c1_116, if_pos c1_116, if_neg c1_117, if_pos c1_117, if_neg c1_119, if_pos c1_119, if_pos c1_109, if_neg (not_not_intro c1_109)]; done) | contradiction | rfl)
  by_cases c1_110 : s = 110
  · skip
    refine ka_tsIn (tgt := 137) hC dX7_called_1 (by rw [c1_110]; decide) (by rw [c1_110]; decide) (by rw [c1_110]; rfl) (by decide) ?_
    refine ka_aload_n hC dX7_called_137 rfl ?_
    refine ka_aload_n hC dX7_called_138 rfl ?_
    refine kg_X7_25  hC dX7_called_139 ?_
    refine ka_iconst (v := 0) hC dX7_called_142 rfl ?_
    refine kmi_mnums 0 (by decide) rfl hC dX7_called_143 ?_
    refine ka_callV hC (m_X7_passes hG hM (by decide)) (ka_Rc_model ) rfl ka_q_ml_X7_126 ka_q_im_X7_passes ka_q_se_X7_passes ka_q_in_X7 ka_q_co_X7_passes ky_X7_passes (by decide) (by decide) (Nat.le_of_ble_eq_true rfl) rfl dX7_called_144 ?_
    exact ka_iret hC hR dX7_called_147 (by first | with_reducible rfl | (simp only [rt_called, c1_108, c1_114, c1_116, c1_117, c1_119, c1_109, c1_110]; done) | (simp only [rt_called, if_neg c1_108, if_pos c1_108, if_neg c1_114, if_pos c1_114, if_neg c1_116, if_pos c1_116, if_neg c1_117, if_pos c1_117, if_neg c1_119, if_pos c1_119, if_neg c1_109, if_pos c1_109, if_pos c1_110, if_neg (not_not_intro c1_110)]; done) | (simp [rt_called, c1_108, c1_114, c1_116, c1_117, c1_119, c1_109, c1_110]; done) | (simp [rt_called, if_neg c1_108, if_pos c1_108, if_neg c1_114, if_pos c1_114, if_neg c1_116, if_pos c1_116, if_neg c1_117, if_pos c1_117, if_neg c1_119, if_pos c1_119, if_neg c1_109, if_pos c1_109, if_pos c1_110, if_neg (not_not_intro c1_110)]; done) | contradiction | rfl) (by first | with_reducible rfl | (simp only [rt_called, c1_108, c1_114, c1_116, c1_117, c1_119, c1_109, c1_110]; done) | (simp only [rt_called, if_neg c1_108, if_pos c1_108, if_neg c1_114, if_pos c1_114, if_neg c1_116, if_pos c1_116, if_neg c1_117, if_pos c1_117, if_neg c1_119, if_pos c1_119, if_neg c1_109, if_pos c1_109, if_pos c1_110, if_neg (not_not_intro c1_110)]; done) | (simp [rt_called, c1_108, c1_114, c1_116, c1_117, c1_119, c1_109, c1_110]; done) | (simp [rt_called, if_neg c1_108, if_pos c1_108, if_neg c1_114, if_pos c1_114, if_neg c1_116, if_pos c1_116, if_neg c1_117, if_pos c1_117, if_neg c1_119, if_pos c1_119, if_neg c1_109, if_pos c1_109, if_pos c1_110, if_neg (not_not_intro c1_110)]; done) | contradiction | rfl)
  by_cases c1_111 : s = 111
  · skip
    refine ka_tsIn (tgt := 137) hC dX7_called_1 (by rw [c1_111]; decide) (by rw [c1_111]; decide) (by rw [c1_111]; rfl) (by decide) ?_
    refine ka_aload_n hC dX7_called_137 rfl ?_
    refine ka_aload_n hC dX7_called_138 rfl ?_
    refine kg_X7_25  hC dX7_called_139 ?_
    refine ka_iconst (v := 0) hC dX7_called_142 rfl ?_
    refine kmi_mnums 0 (by decide) rfl hC dX7_called_143 ?_
    refine ka_callV hC (m_X7_passes hG hM (by decide)) (ka_Rc_model ) rfl ka_q_ml_X7_126 ka_q_im_X7_passes ka_q_se_X7_passes ka_q_in_X7 ka_q_co_X7_passes ky_X7_passes (by decide) (by decide) (Nat.le_of_ble_eq_true rfl) rfl dX7_called_144 ?_
    exact ka_iret hC hR dX7_called_147 (by first | with_reducible rfl | (simp only [rt_called, c1_108, c1_114, c1_116, c1_117, c1_119, c1_109, c1_110, c1_111]; done) | (simp only [rt_called, if_neg c1_108, if_pos c1_108, if_neg c1_114, if_pos c1_114, if_neg c1_116, if_pos c1_116, if_neg c1_117, if_pos c1_117, if_neg c1_119, if_pos c1_119, if_neg c1_109, if_pos c1_109, if_neg c1_110, if_pos c1_110, if_pos c1_111, if_neg (not_not_intro c1_111)]; done) | (simp [rt_called, c1_108, c1_114, c1_116, c1_117, c1_119, c1_109, c1_110, c1_111]; done) | (simp [rt_called, if_neg c1_108, if_pos c1_108, if_neg c1_114, if_pos c1_114, if_neg c1_116, if_pos c1_116, if_neg c1_117, if_pos c1_117, if_neg c1_119, if_pos c1_119, if_neg c1_109, if_pos c1_109, if_neg c1_110, if_pos c1_110, if_pos c1_111, if_neg (not_not_intro c1_111)]; done) | contradiction | rfl) (by first | with_reducible rfl | (simp only [rt_called, c1_108, c1_114, c1_116, c1_117, c1_119, c1_109, c1_110, c1_111]; done) | (simp only [rt_called, if_neg c1_108, if_pos c1_108, if_neg c1_114, if_pos c1_114, if_neg c1_116, if_pos c1_116, if_neg c1_117, if_pos c1_117, if_neg c1_119, if_pos c1_119, if_neg c1_109, if_pos c1_109, if_neg c1_110, if_pos c1_110, if_pos c1_111, if_neg (not_not_intro c1_111)]; done) | (simp [rt_called, c1_108, c1_114, c1_116, c1_117, c1_119, c1_109, c1_110, c1_111]; done) | (simp [rt_called, if_neg c1_108, if_pos c1_108, if_neg c1_114, if_pos c1_114, if_neg c1_116, if_pos c1_116, if_neg c1_117, if_pos c1_117, if_neg c1_119, if_pos c1_119, if_neg c1_109, if_pos c1_109, if_neg c1_110, if_pos c1_110, if_pos c1_111, if_neg (not_not_intro c1_111)]; done) | contradiction | rfl)
  by_cases c1_112 : s = 112
  · skip
    refine ka_tsIn (tgt := 137) hC dX7_called_1 (by rw [c1_112]; decide) (by rw [c1_112]; decide) (by rw [c1_112]; rfl) (by decide) ?_
    refine ka_aload_n hC dX7_called_137 rfl ?_
    refine ka_aload_n hC dX7_called_138 rfl ?_
    refine kg_X7_25  hC dX7_called_139 ?_
    refine ka_iconst (v := 0) hC dX7_called_142 rfl ?_
    refine kmi_mnums 0 (by decide) rfl hC dX7_called_143 ?_
    refine ka_callV hC (m_X7_passes hG hM (by decide)) (ka_Rc_model ) rfl ka_q_ml_X7_126 ka_q_im_X7_passes ka_q_se_X7_passes ka_q_in_X7 ka_q_co_X7_passes ky_X7_passes (by decide) (by decide) (Nat.le_of_ble_eq_true rfl) rfl dX7_called_144 ?_
    exact ka_iret hC hR dX7_called_147 (by first | with_reducible rfl | (simp only [rt_called, c1_108, c1_114, c1_116, c1_117, c1_119, c1_109, c1_110, c1_111, c1_112]; done) | (simp only [rt_called, if_neg c1_108, if_pos c1_108, if_neg c1_114, if_pos c1_114, if_neg c1_116, if_pos c1_116, if_neg c1_117, if_pos c1_117, if_neg c1_119, if_pos c1_119, if_neg c1_109, if_pos c1_109, if_neg c1_110, if_pos c1_110, if_neg c1_111, if_pos c1_111, if_pos c1_112, if_neg (not_not_intro c1_112)]; done) | (simp [rt_called, c1_108, c1_114, c1_116, c1_117, c1_119, c1_109, c1_110, c1_111, c1_112]; done) | (simp [rt_called, if_neg c1_108, if_pos c1_108, if_neg c1_114, if_pos c1_114, if_neg c1_116, if_pos c1_116, if_neg c1_117, if_pos c1_117, if_neg c1_119, if_pos c1_119, if_neg c1_109, if_pos c1_109, if_neg c1_110, if_pos c1_110, if_neg c1_111, if_pos c1_111, if_pos c1_112, if_neg (not_not_intro c1_112)]; done) | contradiction | rfl) (by first | with_reducible rfl | (simp only [rt_called, c1_108, c1_114, c1_116, c1_117, c1_119, c1_109, c1_110, c1_111, c1_112]; done) | (simp only [rt_called, if_neg c1_108, if_pos c1_108, if_neg c1_114, if_pos c1_114, if_neg c1_116, if_pos c1_116, if_neg c1_117, if_pos c1_117, if_neg c1_119, if_pos c1_119, if_neg c1_109, if_pos c1_109, if_neg c1_110, if_pos c1_110, if_neg c1_111, if_pos c1_111, if_pos c1_112, if_neg (not_not_intro c1_112)]; done) | (simp [rt_called, c1_108, c1_114, c1_116, c1_117, c1_119, c1_109, c1_110, c1_111, c1_112]; done) | (simp [rt_called, if_neg c1_108, if_pos c1_108, if_neg c1_114, if_pos c1_114, if_neg c1_116, if_pos c1_116, if_neg c1_117, if_pos c1_117, if_neg c1_119, if_pos c1_119, if_neg c1_109, if_pos c1_109, if_neg c1_110, if_pos c1_110, if_neg c1_111, if_pos c1_111, if_pos c1_112, if_neg (not_not_intro c1_112)]; done) | contradiction | rfl)
  by_cases c1_113 : s = 113
  · skip
    refine ka_tsIn (tgt := 137) hC dX7_called_1 (by rw [c1_113]; decide) (by rw [c1_113]; decide) (by rw [c1_113]; rfl) (by decide) ?_
    refine ka_aload_n hC dX7_called_137 rfl ?_
    refine ka_aload_n hC dX7_called_138 rfl ?_
    refine kg_X7_25  hC dX7_called_139 ?_
    refine ka_iconst (v := 0) hC dX7_called_142 rfl ?_
    refine kmi_mnums 0 (by decide) rfl hC dX7_called_143 ?_
    refine ka_callV hC (m_X7_passes hG hM (by decide)) (ka_Rc_model ) rfl ka_q_ml_X7_126 ka_q_im_X7_passes ka_q_se_X7_passes ka_q_in_X7 ka_q_co_X7_passes ky_X7_passes (by decide) (by decide) (Nat.le_of_ble_eq_true rfl) rfl dX7_called_144 ?_
    exact ka_iret hC hR dX7_called_147 (by first | with_reducible rfl | (simp only [rt_called, c1_108, c1_114, c1_116, c1_117, c1_119, c1_109, c1_110, c1_111, c1_112, c1_113]; done) | (simp only [rt_called, if_neg c1_108, if_pos c1_108, if_neg c1_114, if_pos c1_114, if_neg c1_116, if_pos c1_116, if_neg c1_117, if_pos c1_117, if_neg c1_119, if_pos c1_119, if_neg c1_109, if_pos c1_109, if_neg c1_110, if_pos c1_110, if_neg c1_111, if_pos c1_111, if_neg c1_112, if_pos c1_112, if_pos c1_113, if_neg (not_not_intro c1_113)]; done) | (simp [rt_called, c1_108, c1_114, c1_116, c1_117, c1_119, c1_109, c1_110, c1_111, c1_112, c1_113]; done) | (simp [rt_called, if_neg c1_108, if_pos c1_108, if_neg c1_114, if_pos c1_114, if_neg c1_116, if_pos c1_116, if_neg c1_117, if_pos c1_117, if_neg c1_119, if_pos c1_119, if_neg c1_109, if_pos c1_109, if_neg c1_110, if_pos c1_110, if_neg c1_111, if_pos c1_111, if_neg c1_112, if_pos c1_112, if_pos c1_113, if_neg (not_not_intro c1_113)]; done) | contradiction | rfl) (by first | with_reducible rfl | (simp only [rt_called, c1_108, c1_114, c1_116, c1_117, c1_119, c1_109, c1_110, c1_111, c1_112, c1_113]; done) | (simp only [rt_called, if_neg c1_108, if_pos c1_108, if_neg c1_114, if_pos c1_114, if_neg c1_116, if_pos c1_116, if_neg c1_117, if_pos c1_117, if_neg c1_119, if_pos c1_119, if_neg c1_109, if_pos c1_109, if_neg c1_110, if_pos c1_110, if_neg c1_111, if_pos c1_111, if_neg c1_112, if_pos c1_112, if_pos c1_113, if_neg (not_not_intro c1_113)]; done) | (simp [rt_called, c1_108, c1_114, c1_116, c1_117, c1_119, c1_109, c1_110, c1_111, c1_112, c1_113]; done) | (simp [rt_called, if_neg c1_108, if_pos c1_108, if_neg c1_114, if_pos c1_114, if_neg c1_116, if_pos c1_116, if_neg c1_117, if_pos c1_117, if_neg c1_119, if_pos c1_119, if_neg c1_109, if_pos c1_109, if_neg c1_110, if_pos c1_110, if_neg c1_111, if_pos c1_111, if_neg c1_112, if_pos c1_112, if_pos c1_113, if_neg (not_not_intro c1_113)]; done) | contradiction | rfl)
  by_cases c1_115 : s = 115
  · skip
    refine ka_tsIn (tgt := 137) hC dX7_called_1 (by rw [c1_115]; decide) (by rw [c1_115]; decide) (by rw [c1_115]; rfl) (by decide) ?_
    refine ka_aload_n hC dX7_called_137 rfl ?_
    refine ka_aload_n hC dX7_called_138 rfl ?_
    refine kg_X7_25  hC dX7_called_139 ?_
    refine ka_iconst (v := 0) hC dX7_called_142 rfl ?_
    refine kmi_mnums 0 (by decide) rfl hC dX7_called_143 ?_
    refine ka_callV hC (m_X7_passes hG hM (by decide)) (ka_Rc_model ) rfl ka_q_ml_X7_126 ka_q_im_X7_passes ka_q_se_X7_passes ka_q_in_X7 ka_q_co_X7_passes ky_X7_passes (by decide) (by decide) (Nat.le_of_ble_eq_true rfl) rfl dX7_called_144 ?_
    exact ka_iret hC hR dX7_called_147 (by first | with_reducible rfl | (simp only [rt_called, c1_108, c1_114, c1_116, c1_117, c1_119, c1_109, c1_110, c1_111, c1_112, c1_113, c1_115]; done) | (simp only [rt_called, if_neg c1_108, if_pos c1_108, if_neg c1_114, if_pos c1_114, if_neg c1_116, if_pos c1_116, if_neg c1_117, if_pos c1_117, if_neg c1_119, if_pos c1_119, if_neg c1_109, if_pos c1_109, if_neg c1_110, if_pos c1_110, if_neg c1_111, if_pos c1_111, if_neg c1_112, if_pos c1_112, if_neg c1_113, if_pos c1_113, if_pos c1_115, if_neg (not_not_intro c1_115)]; done) | (simp [rt_called, c1_108, c1_114, c1_116, c1_117, c1_119, c1_109, c1_110, c1_111, c1_112, c1_113, c1_115]; done) | (simp [rt_called, if_neg c1_108, if_pos c1_108, if_neg c1_114, if_pos c1_114, if_neg c1_116, if_pos c1_116, if_neg c1_117, if_pos c1_117, if_neg c1_119, if_pos c1_119, if_neg c1_109, if_pos c1_109, if_neg c1_110, if_pos c1_110, if_neg c1_111, if_pos c1_111, if_neg c1_112, if_pos c1_112, if_neg c1_113, if_pos c1_113, if_pos c1_115, if_neg (not_not_intro c1_115)]; done) | contradiction | rfl) (by first | with_reducible rfl | (simp only [rt_called, c1_108, c1_114, c1_116, c1_117, c1_119, c1_109, c1_110, c1_111, c1_112, c1_113, c1_115]; done) | (simp only [rt_called, if_neg c1_108, if_pos c1_108, if_neg c1_114, if_pos c1_114, if_neg c1_116, if_pos c1_116, if_neg c1_117, if_pos c1_117, if_neg c1_119, if_pos c1_119, if_neg c1_109, if_pos c1_109, if_neg c1_110, if_pos c1_110, if_neg c1_111, if_pos c1_111, if_neg c1_112, if_pos c1_112, if_neg c1_113, if_pos c1_113, if_pos c1_115, if_neg (not_not_intro c1_115)]; done) | (simp [rt_called, c1_108, c1_114, c1_116, c1_117, c1_119, c1_109, c1_110, c1_111, c1_112, c1_113, c1_115]; done) | (simp [rt_called, if_neg c1_108, if_pos c1_108, if_neg c1_114, if_pos c1_114, if_neg c1_116, if_pos c1_116, if_neg c1_117, if_pos c1_117, if_neg c1_119, if_pos c1_119, if_neg c1_109, if_pos c1_109, if_neg c1_110, if_pos c1_110, if_neg c1_111, if_pos c1_111, if_neg c1_112, if_pos c1_112, if_neg c1_113, if_pos c1_113, if_pos c1_115, if_neg (not_not_intro c1_115)]; done) | contradiction | rfl)
  by_cases c1_118 : s = 118
  · skip
    refine ka_tsIn (tgt := 137) hC dX7_called_1 (by rw [c1_118]; decide) (by rw [c1_118]; decide) (by rw [c1_118]; rfl) (by decide) ?_
    refine ka_aload_n hC dX7_called_137 rfl ?_
    refine ka_aload_n hC dX7_called_138 rfl ?_
    refine kg_X7_25  hC dX7_called_139 ?_
    refine ka_iconst (v := 0) hC dX7_called_142 rfl ?_
    refine kmi_mnums 0 (by decide) rfl hC dX7_called_143 ?_
    refine ka_callV hC (m_X7_passes hG hM (by decide)) (ka_Rc_model ) rfl ka_q_ml_X7_126 ka_q_im_X7_passes ka_q_se_X7_passes ka_q_in_X7 ka_q_co_X7_passes ky_X7_passes (by decide) (by decide) (Nat.le_of_ble_eq_true rfl) rfl dX7_called_144 ?_
    exact ka_iret hC hR dX7_called_147 (by first | with_reducible rfl | (simp only [rt_called, c1_108, c1_114, c1_116, c1_117, c1_119, c1_109, c1_110, c1_111, c1_112, c1_113, c1_115, c1_118]; done) | (simp only [rt_called, if_neg c1_108, if_pos c1_108, if_neg c1_114, if_pos c1_114, if_neg c1_116, if_pos c1_116, if_neg c1_117, if_pos c1_117, if_neg c1_119, if_pos c1_119, if_neg c1_109, if_pos c1_109, if_neg c1_110, if_pos c1_110, if_neg c1_111, if_pos c1_111, if_neg c1_112, if_pos c1_112, if_neg c1_113, if_pos c1_113, if_neg c1_115, if_pos c1_115, if_pos c1_118, if_neg (not_not_intro c1_118)]; done) | (simp [rt_called, c1_108, c1_114, c1_116, c1_117, c1_119, c1_109, c1_110, c1_111, c1_112, c1_113, c1_115, c1_118]; done) | (simp [rt_called, if_neg c1_108, if_pos c1_108, if_neg c1_114, if_pos c1_114, if_neg c1_116, if_pos c1_116, if_neg c1_117, if_pos c1_117, if_neg c1_119, if_pos c1_119, if_neg c1_109, if_pos c1_109, if_neg c1_110, if_pos c1_110, if_neg c1_111, if_pos c1_111, if_neg c1_112, if_pos c1_112, if_neg c1_113, if_pos c1_113, if_neg c1_115, if_pos c1_115, if_pos c1_118, if_neg (not_not_intro c1_118)]; done) | contradiction | rfl) (by first | with_reducible rfl | (simp only [rt_called, c1_108, c1_114, c1_116, c1_117, c1_119, c1_109, c1_110, c1_111, c1_112, c1_113, c1_115, c1_118]; done) | (simp only [rt_called, if_neg c1_108, if_pos c1_108, if_neg c1_114, if_pos c1_114, if_neg c1_116, if_pos c1_116, if_neg c1_117, if_pos c1_117, if_neg c1_119, if_pos c1_119, if_neg c1_109, if_pos c1_109, if_neg c1_110, if_pos c1_110, if_neg c1_111, if_pos c1_111, if_neg c1_112, if_pos c1_112, if_neg c1_113, if_pos c1_113, if_neg c1_115, if_pos c1_115, if_pos c1_118, if_neg (not_not_intro c1_118)]; done) | (simp [rt_called, c1_108, c1_114, c1_116, c1_117, c1_119, c1_109, c1_110, c1_111, c1_112, c1_113, c1_115, c1_118]; done) | (simp [rt_called, if_neg c1_108, if_pos c1_108, if_neg c1_114, if_pos c1_114, if_neg c1_116, if_pos c1_116, if_neg c1_117, if_pos c1_117, if_neg c1_119, if_pos c1_119, if_neg c1_109, if_pos c1_109, if_neg c1_110, if_pos c1_110, if_neg c1_111, if_pos c1_111, if_neg c1_112, if_pos c1_112, if_neg c1_113, if_pos c1_113, if_neg c1_115, if_pos c1_115, if_pos c1_118, if_neg (not_not_intro c1_118)]; done) | contradiction | rfl)
  refine ka_tsOut (tgt := 137) hC dX7_called_1 (by
      have t1_108 : ¬ (s).toInt = 108 := fun e => c1_108 (Int32.toInt_inj.mp (e.trans (by decide)))
      have t1_109 : ¬ (s).toInt = 109 := fun e => c1_109 (Int32.toInt_inj.mp (e.trans (by decide)))
      have t1_110 : ¬ (s).toInt = 110 := fun e => c1_110 (Int32.toInt_inj.mp (e.trans (by decide)))
      have t1_111 : ¬ (s).toInt = 111 := fun e => c1_111 (Int32.toInt_inj.mp (e.trans (by decide)))
      have t1_112 : ¬ (s).toInt = 112 := fun e => c1_112 (Int32.toInt_inj.mp (e.trans (by decide)))
      have t1_113 : ¬ (s).toInt = 113 := fun e => c1_113 (Int32.toInt_inj.mp (e.trans (by decide)))
      have t1_114 : ¬ (s).toInt = 114 := fun e => c1_114 (Int32.toInt_inj.mp (e.trans (by decide)))
      have t1_115 : ¬ (s).toInt = 115 := fun e => c1_115 (Int32.toInt_inj.mp (e.trans (by decide)))
      have t1_116 : ¬ (s).toInt = 116 := fun e => c1_116 (Int32.toInt_inj.mp (e.trans (by decide)))
      have t1_117 : ¬ (s).toInt = 117 := fun e => c1_117 (Int32.toInt_inj.mp (e.trans (by decide)))
      have t1_118 : ¬ (s).toInt = 118 := fun e => c1_118 (Int32.toInt_inj.mp (e.trans (by decide)))
      have t1_119 : ¬ (s).toInt = 119 := fun e => c1_119 (Int32.toInt_inj.mp (e.trans (by decide)))
      omega) (by decide) ?_
  refine ka_aload_n hC dX7_called_137 rfl ?_
  refine ka_aload_n hC dX7_called_138 rfl ?_
  refine kg_X7_25  hC dX7_called_139 ?_
  refine ka_iconst (v := 0) hC dX7_called_142 rfl ?_
  refine kmi_mnums 0 (by decide) rfl hC dX7_called_143 ?_
  refine ka_callV hC (m_X7_passes hG hM (by decide)) (ka_Rc_model ) rfl ka_q_ml_X7_126 ka_q_im_X7_passes ka_q_se_X7_passes ka_q_in_X7 ka_q_co_X7_passes ky_X7_passes (by decide) (by decide) (Nat.le_of_ble_eq_true rfl) rfl dX7_called_144 ?_
  exact ka_iret hC hR dX7_called_147 (by first | with_reducible rfl | (simp only [rt_called, c1_108, c1_114, c1_116, c1_117, c1_119, c1_109, c1_110, c1_111, c1_112, c1_113, c1_115, c1_118]; done) | (simp only [rt_called, if_neg c1_108, if_pos c1_108, if_neg c1_114, if_pos c1_114, if_neg c1_116, if_pos c1_116, if_neg c1_117, if_pos c1_117, if_neg c1_119, if_pos c1_119, if_neg c1_109, if_pos c1_109, if_neg c1_110, if_pos c1_110, if_neg c1_111, if_pos c1_111, if_neg c1_112, if_pos c1_112, if_neg c1_113, if_pos c1_113, if_neg c1_115, if_pos c1_115, if_neg c1_118, if_pos c1_118]; done) | (simp [rt_called, c1_108, c1_114, c1_116, c1_117, c1_119, c1_109, c1_110, c1_111, c1_112, c1_113, c1_115, c1_118]; done) | (simp [rt_called, if_neg c1_108, if_pos c1_108, if_neg c1_114, if_pos c1_114, if_neg c1_116, if_pos c1_116, if_neg c1_117, if_pos c1_117, if_neg c1_119, if_pos c1_119, if_neg c1_109, if_pos c1_109, if_neg c1_110, if_pos c1_110, if_neg c1_111, if_pos c1_111, if_neg c1_112, if_pos c1_112, if_neg c1_113, if_pos c1_113, if_neg c1_115, if_pos c1_115, if_neg c1_118, if_pos c1_118]; done) | contradiction | rfl) (by first | with_reducible rfl | (simp only [rt_called, c1_108, c1_114, c1_116, c1_117, c1_119, c1_109, c1_110, c1_111, c1_112, c1_113, c1_115, c1_118]; done) | (simp only [rt_called, if_neg c1_108, if_pos c1_108, if_neg c1_114, if_pos c1_114, if_neg c1_116, if_pos c1_116, if_neg c1_117, if_pos c1_117, if_neg c1_119, if_pos c1_119, if_neg c1_109, if_pos c1_109, if_neg c1_110, if_pos c1_110, if_neg c1_111, if_pos c1_111, if_neg c1_112, if_pos c1_112, if_neg c1_113, if_pos c1_113, if_neg c1_115, if_pos c1_115, if_neg c1_118, if_pos c1_118]; done) | (simp [rt_called, c1_108, c1_114, c1_116, c1_117, c1_119, c1_109, c1_110, c1_111, c1_112, c1_113, c1_115, c1_118]; done) | (simp [rt_called, if_neg c1_108, if_pos c1_108, if_neg c1_114, if_pos c1_114, if_neg c1_116, if_pos c1_116, if_neg c1_117, if_pos c1_117, if_neg c1_119, if_pos c1_119, if_neg c1_109, if_pos c1_109, if_neg c1_110, if_pos c1_110, if_neg c1_111, if_pos c1_111, if_neg c1_112, if_pos c1_112, if_neg c1_113, if_pos c1_113, if_neg c1_115, if_pos c1_115, if_neg c1_118, if_pos c1_118]; done) | contradiction | rfl)
theorem ky_X7_doesAll : ka_y yX7_doesAll 0 := by unfold ka_y; decide +kernel
set_option maxHeartbeats 4000000 in
set_option maxRecDepth 100000 in
theorem m_X7_doesAll {G : ka_G} (hG : ka_AD G) {V : ka_W} {M : ka_P} {S : ka_F} (hl : ub 60 (M 0 6)) (hM : MK 1999 S)  : ka_M G yX7_doesAll cX7_doesAll 3 (some FieldType.boolean) 7 [.ref (ka_ad G 9 0)] (ka_ms V M S) (some (.int (ka_b ((rt_all M S).2.2)))) (ka_ms V (rt_all M S).1 (rt_all M S).2.1) := by
  refine ka_entry hG ka_pn_X7 (ka_cat1 rfl) (Nat.le_of_ble_eq_true rfl) (fun X hC hR => ?_)
  refine ka_aload_n hC dX7_doesAll_0 rfl ?_
  refine ka_iconst (v := 0) hC dX7_doesAll_1 rfl ?_
  refine kmp_X7_175  hC dX7_doesAll_2 ?_
  refine ka_aload_n hC dX7_doesAll_5 rfl ?_
  refine ka_iconst (v := 0) hC dX7_doesAll_6 rfl ?_
  refine kmp_X7_189  hC dX7_doesAll_7 ?_
  suffices H10 : ∀ jj i : Nat, i ≤ 60 → 60 - i < jj → (rt_allX M S i).2.2 = true → ka_I G X (ka_ms V (rt_allX M S i).1 (rt_allX M S i).2.1) 10 [.ref (ka_ad G 9 0)] [] from ka_I.back 1 (by rfl) (by rfl) (H10 (60 + 1) 0 (by omega) (by omega) rfl)
  intro j10
  induction j10 with
  | zero => intro i h1 h2 hv; exact absurd h2 (Nat.not_lt_zero _)
  | succ j10 ih10 =>
    intro i hle10 hlt10 hv
    have hin := rt_allX_inv hl hM i
    have hTi := hin.1.1
    have hMi := hin.2.1
    have hT1 := (tx_o1 hTi).1.1
    refine ka_aload_n hC dX7_doesAll_10 rfl ?_
    refine kmg_X7_175  hC dX7_doesAll_11 ?_
    refine ka_aload_n hC dX7_doesAll_14 rfl ?_
    refine kmg_X7_172  hC dX7_doesAll_15 ?_
    refine ka_icmp_ge (tgt := 164) hC dX7_doesAll_18 (by decide) (fun c18 => ?_) (fun c18 => ?_)
    · skip
      have e60 : rt_all M S = (rt_allX M S i) := rt_allX_stop (n := 60) (Or.inr c18) hle10
      refine ka_iconst (v := 1) hC dX7_doesAll_164 rfl ?_
      exact ka_bret hC hR dX7_doesAll_165 (by rw [e60, hv]; rfl) rfl (by rw [e60])
    · skip
      have hi : i < 60 := rt_all_lt hl hM hv c18
      refine ka_aload_n hC dX7_doesAll_21 rfl ?_
      refine ka_aload_n hC dX7_doesAll_22 rfl ?_
      refine kmg_X7_175  hC dX7_doesAll_23 ?_
      refine kmp_X7_192  hC dX7_doesAll_26 ?_
      refine ka_I.eqW (V' := ka_ms V (rt_o1 (rt_allX M S i).1) (rt_allX M S i).2.1) rfl ?_
      refine ka_aload_n hC dX7_doesAll_29 rfl ?_
      refine ka_callV hC (m_X7_here hG hT1) (ka_Rc_model ) rfl ka_q_ml_X7_178 ka_q_im_X7_here ka_q_se_X7_here ka_q_in_X7 ka_q_co_X7_here ky_X7_here (by decide) (by decide) (Nat.le_of_ble_eq_true rfl) rfl dX7_doesAll_30 ?_
      refine ka_istore_n_p1 hC dX7_doesAll_33 (by decide) ?_
      refine ka_aload_n hC dX7_doesAll_34 rfl ?_
      refine ka_iload_n hC dX7_doesAll_35 rfl ?_
      refine ka_callS hC (m_X7_manyOf hG) ka_q_ml_X7_195 ka_q_st_X7_manyOf ka_q_in_X7 ka_q_co_X7_manyOf ky_X7_manyOf (by decide) (by decide) (Nat.le_of_ble_eq_true rfl) rfl dX7_doesAll_36 ?_
      refine ka_if_le (tgt := 46) hC dX7_doesAll_39 (by decide) (fun c39 => ?_) (fun c39 => ?_)
      · skip
        refine ka_iconst (v := 0) hC dX7_doesAll_46 rfl ?_
        refine kmp_X7_181  (b := false) rfl hC dX7_doesAll_47 ?_
        refine ka_I.eqW (V' := ka_ms V (rt_o2 (rt_allX M S i).1) (rt_allX M S i).2.1) (by unfold rt_o2 rt_flag rt_s; simp [c18, c39]) ?_
        refine ka_aload_n hC dX7_doesAll_50 rfl ?_
        refine ka_dup hC dX7_doesAll_51 rfl ?_
        refine kmg_X7_175  hC dX7_doesAll_52 ?_
        refine ka_aload_n hC dX7_doesAll_55 rfl ?_
        refine kmg_X7_181  hC dX7_doesAll_56 ?_
        refine ka_if_eq_b (tgt := 66) hC dX7_doesAll_59 (by decide) (fun c59 => ?_) (fun c59 => ?_)
        · skip
          refine ka_iconst (v := 0) hC dX7_doesAll_66 rfl ?_
          refine ka_iadd hC dX7_doesAll_67 ?_
          refine kmp_X7_175  hC dX7_doesAll_68 ?_
          refine ka_I.eqW (V' := ka_ms V (rt_o3 (rt_allX M S i).1) (rt_allX M S i).2.1) (by unfold rt_o3 rt_step; simp [c18, c39, c59, sp_add]) ?_
          refine ka_iconst (v := 0) hC dX7_doesAll_71 rfl ?_
          refine ka_istore_n_p2 hC dX7_doesAll_72 (by decide) ?_
          suffices H73 : ∀ jj q : Nat, q ≤ cn (rt_many (rt_s (rt_allX M S i).1)) → cn (rt_many (rt_s (rt_allX M S i).1)) - q < jj → ka_I G X (ka_ms V (rt_argX (rt_o3 (rt_allX M S i).1) q) (rt_allX M S i).2.1) 73 [.ref (ka_ad G 9 0), .int (rt_s (rt_allX M S i).1), .int (nI q)] [] from ka_I.back 3 (by rfl) (by rfl) (H73 (cn (rt_many (rt_s (rt_allX M S i).1)) + 1) 0 (by omega) (by omega))
          intro j73
          induction j73 with
          | zero => intro q h1 h2 ; exact absurd h2 (Nat.not_lt_zero _)
          | succ j73 ih73 =>
            intro q hle73 hlt73 
            have hT3 := (tx_o3 hTi).1.1.1
            have hTq := (tx_argX hT3 q).1.1
            refine ka_iload_n hC dX7_doesAll_73 rfl ?_
            refine ka_iload_n hC dX7_doesAll_74 rfl ?_
            refine ka_callS hC (m_X7_manyOf hG) ka_q_ml_X7_195 ka_q_st_X7_manyOf ka_q_in_X7 ka_q_co_X7_manyOf ky_X7_manyOf (by decide) (by decide) (Nat.le_of_ble_eq_true rfl) rfl dX7_doesAll_75 ?_
            refine ka_icmp_ge (tgt := 107) hC dX7_doesAll_78 (by decide) (fun c78 => ?_) (fun c78 => ?_)
            · skip
              obtain rfl : q = cn (rt_many (rt_s (rt_allX M S i).1)) := nlt_cn hle73 c78
              have hT4 := (tx_o4 hTi).1.1
              refine ka_I.eqW (V' := ka_ms V (rt_o4 (rt_allX M S i).1) (rt_allX M S i).2.1) rfl ?_
              refine ka_aload_n hC dX7_doesAll_107 rfl ?_
              refine ka_bipush (v := 59) hC dX7_doesAll_108 rfl ?_
              refine ka_callV hC (m_X7_takesSign hG hT4) (ka_Rc_model ) rfl ka_q_ml_X7_198 ka_q_im_X7_takesSign ka_q_se_X7_takesSign ka_q_in_X7 ka_q_co_X7_takesSign ky_X7_takesSign (by decide) (by decide) (Nat.le_of_ble_eq_true rfl) rfl dX7_doesAll_110 ?_
              refine ka_I.eqW (V' := ka_ms V (rt_o5 (rt_allX M S i).1) (rt_allX M S i).2.1) rfl ?_
              refine ka_aload_n hC dX7_doesAll_113 rfl ?_
              refine ka_aload_n hC dX7_doesAll_114 rfl ?_
              refine kmg_X7_181  hC dX7_doesAll_115 ?_
              refine ka_if_eq_b (tgt := 129) hC dX7_doesAll_118 (by decide) (fun c118 => ?_) (fun c118 => ?_)
              · skip
                have ec : rt_c (rt_allX M S i).1 (rt_allX M S i).2.1 = (0, (rt_allX M S i).2.1) := by unfold rt_c; rw [if_neg (by rw [c118]; decide)]
                refine ka_iconst (v := 0) hC dX7_doesAll_129 rfl ?_
                refine kmp_X7_207  hC dX7_doesAll_130 ?_
                refine ka_I.eqW (V' := ka_ms V (rt_o6 (rt_allX M S i).1 (rt_allX M S i).2.1) (rt_c (rt_allX M S i).1 (rt_allX M S i).2.1).2) (by unfold rt_o6; rw [ec]) ?_
                refine ka_aload_n hC dX7_doesAll_133 rfl ?_
                refine kmg_X7_181  hC dX7_doesAll_134 ?_
                refine ka_if_eq_b (tgt := 149) hC dX7_doesAll_137 (by decide) (fun c137 => ?_) (fun c137 => ?_)
                · skip
                  have hg : rt_good (rt_o6 (rt_allX M S i).1 (rt_allX M S i).2.1) = false := by unfold rt_good; rw [c137]; rfl
                  have er : rt_all M S = rt_ends (rt_allX M S i).1 (rt_allX M S i).2.1 := rt_all_end hi hv c18 hg
                  refine ka_iconst (v := 0) hC dX7_doesAll_149 rfl ?_
                  exact ka_bret hC hR dX7_doesAll_150 (by rw [er]; exact rt_ends_V) rfl (by rw [er]; exact rt_ends_W)
                · skip
                  refine ka_aload_n hC dX7_doesAll_140 rfl ?_
                  refine kmg_X7_207  hC dX7_doesAll_141 ?_
                  refine ka_ldc hC ka_q_cn_X7_28 dX7_doesAll_144 ?_
                  refine ka_icmp_gt (tgt := 151) hC dX7_doesAll_146 (by decide) (fun c146 => ?_) (fun c146 => ?_)
                  · skip
                    have hg : rt_good (rt_o6 (rt_allX M S i).1 (rt_allX M S i).2.1) = true := by unfold rt_good; rw [c137, decide_eq_true c146]; rfl
                    have e : rt_allX M S (i + 1) = rt_goes (rt_allX M S i).1 (rt_allX M S i).2.1 := rt_all_go hv c18 hg
                    refine ka_aload_n hC dX7_doesAll_151 rfl ?_
                    refine ka_dup hC dX7_doesAll_152 rfl ?_
                    refine kmg_X7_189  hC dX7_doesAll_153 ?_
                    refine ka_iconst (v := 1) hC dX7_doesAll_156 rfl ?_
                    refine ka_iadd hC dX7_doesAll_157 ?_
                    refine kmp_X7_189  hC dX7_doesAll_158 ?_
                    refine ka_I.eqW (V' := ka_ms V (rt_goes (rt_allX M S i).1 (rt_allX M S i).2.1).1 (rt_goes (rt_allX M S i).1 (rt_allX M S i).2.1).2.1) rt_goes_W ?_
                    refine ka_goto (tgt := 10) hC dX7_doesAll_161 (by decide) ?_
                    exact ka_I.back 1 (by rw [e]) (by rfl) (ih10 (i + 1) (by omega) (by omega) (by rw [e]; exact rt_goes_t))
                  · skip
                    have hg : rt_good (rt_o6 (rt_allX M S i).1 (rt_allX M S i).2.1) = false := by unfold rt_good; rw [decide_eq_false c146, Bool.and_false]
                    have er : rt_all M S = rt_ends (rt_allX M S i).1 (rt_allX M S i).2.1 := rt_all_end hi hv c18 hg
                    refine ka_iconst (v := 0) hC dX7_doesAll_149 rfl ?_
                    exact ka_bret hC hR dX7_doesAll_150 (by rw [er]; exact rt_ends_V) rfl (by rw [er]; exact rt_ends_W)
              · skip
                have ec : rt_c (rt_allX M S i).1 (rt_allX M S i).2.1 = rt_called (rt_o5 (rt_allX M S i).1) (rt_allX M S i).2.1 (rt_s (rt_allX M S i).1) := by unfold rt_c; rw [if_pos c118]
                refine ka_aload_n hC dX7_doesAll_121 rfl ?_
                refine ka_iload_n hC dX7_doesAll_122 rfl ?_
                refine ka_callV hC (m_X7_called hG hMi) (ka_Rc_model ) rfl ka_q_ml_X7_204 ka_q_im_X7_called ka_q_se_X7_called ka_q_in_X7 ka_q_co_X7_called ky_X7_called (by decide) (by decide) (Nat.le_of_ble_eq_true rfl) rfl dX7_doesAll_123 ?_
                refine ka_goto (tgt := 130) hC dX7_doesAll_126 (by decide) ?_
                refine kmp_X7_207  hC dX7_doesAll_130 ?_
                refine ka_I.eqW (V' := ka_ms V (rt_o6 (rt_allX M S i).1 (rt_allX M S i).2.1) (rt_c (rt_allX M S i).1 (rt_allX M S i).2.1).2) (by unfold rt_o6; rw [ec]) ?_
                refine ka_aload_n hC dX7_doesAll_133 rfl ?_
                refine kmg_X7_181  hC dX7_doesAll_134 ?_
                refine ka_if_eq_b (tgt := 149) hC dX7_doesAll_137 (by decide) (fun c137 => ?_) (fun c137 => ?_)
                · skip
                  have hg : rt_good (rt_o6 (rt_allX M S i).1 (rt_allX M S i).2.1) = false := by unfold rt_good; rw [c137]; rfl
                  have er : rt_all M S = rt_ends (rt_allX M S i).1 (rt_allX M S i).2.1 := rt_all_end hi hv c18 hg
                  refine ka_iconst (v := 0) hC dX7_doesAll_149 rfl ?_
                  exact ka_bret hC hR dX7_doesAll_150 (by rw [er]; exact rt_ends_V) rfl (by rw [er]; exact rt_ends_W)
                · skip
                  refine ka_aload_n hC dX7_doesAll_140 rfl ?_
                  refine kmg_X7_207  hC dX7_doesAll_141 ?_
                  refine ka_ldc hC ka_q_cn_X7_28 dX7_doesAll_144 ?_
                  refine ka_icmp_gt (tgt := 151) hC dX7_doesAll_146 (by decide) (fun c146 => ?_) (fun c146 => ?_)
                  · skip
                    have hg : rt_good (rt_o6 (rt_allX M S i).1 (rt_allX M S i).2.1) = true := by unfold rt_good; rw [c137, decide_eq_true c146]; rfl
                    have e : rt_allX M S (i + 1) = rt_goes (rt_allX M S i).1 (rt_allX M S i).2.1 := rt_all_go hv c18 hg
                    refine ka_aload_n hC dX7_doesAll_151 rfl ?_
                    refine ka_dup hC dX7_doesAll_152 rfl ?_
                    refine kmg_X7_189  hC dX7_doesAll_153 ?_
                    refine ka_iconst (v := 1) hC dX7_doesAll_156 rfl ?_
                    refine ka_iadd hC dX7_doesAll_157 ?_
                    refine kmp_X7_189  hC dX7_doesAll_158 ?_
                    refine ka_I.eqW (V' := ka_ms V (rt_goes (rt_allX M S i).1 (rt_allX M S i).2.1).1 (rt_goes (rt_allX M S i).1 (rt_allX M S i).2.1).2.1) rt_goes_W ?_
                    refine ka_goto (tgt := 10) hC dX7_doesAll_161 (by decide) ?_
                    exact ka_I.back 1 (by rw [e]) (by rfl) (ih10 (i + 1) (by omega) (by omega) (by rw [e]; exact rt_goes_t))
                  · skip
                    have hg : rt_good (rt_o6 (rt_allX M S i).1 (rt_allX M S i).2.1) = false := by unfold rt_good; rw [decide_eq_false c146, Bool.and_false]
                    have er : rt_all M S = rt_ends (rt_allX M S i).1 (rt_allX M S i).2.1 := rt_all_end hi hv c18 hg
                    refine ka_iconst (v := 0) hC dX7_doesAll_149 rfl ?_
                    exact ka_bret hC hR dX7_doesAll_150 (by rw [er]; exact rt_ends_V) rfl (by rw [er]; exact rt_ends_W)
            · skip
              have hq : q < cn (rt_many (rt_s (rt_allX M S i).1)) := lt_cn hle73 c78
              have hq4 : q < 4 := Nat.lt_of_lt_of_le hq (rt_many_le _)
              refine ka_iload_n hC dX7_doesAll_81 rfl ?_
              refine ka_if_le (tgt := 91) hC dX7_doesAll_82 (by decide) (fun c82 => ?_) (fun c82 => ?_)
              · skip
                refine ka_I.eqW (V' := ka_ms V (rt_arg1 q (rt_argX (rt_o3 (rt_allX M S i).1) q)) (rt_allX M S i).2.1) (by unfold rt_arg1; first | rw [if_pos c82] | rw [if_neg c82]) ?_
                refine ka_aload_n hC dX7_doesAll_91 rfl ?_
                refine kg_X7_25  hC dX7_doesAll_92 ?_
                refine ka_iload_n hC dX7_doesAll_95 rfl ?_
                refine ka_aload_n hC dX7_doesAll_96 rfl ?_
                refine ka_callV hC (m_X7_number hG (tx_arg1 hTq).1.1) (ka_Rc_model ) rfl ka_q_ml_X7_201 ka_q_im_X7_number ka_q_se_X7_number ka_q_in_X7 ka_q_co_X7_number ky_X7_number (by decide) (by decide) (Nat.le_of_ble_eq_true rfl) rfl dX7_doesAll_97 ?_
                refine kms_mnums q hq4 rfl hC dX7_doesAll_100 ?_
                refine ka_iinc_2 (v := 1) hC dX7_doesAll_101 rfl (by decide) ?_
                refine ka_goto (tgt := 73) hC dX7_doesAll_104 (by decide) ?_
                exact ka_I.back 3 (by rw [rt_argX_s]; rfl) (by rw [← nI_1]; rfl) (ih73 (q + 1) (by omega) (by omega))
              · skip
                refine ka_aload_n hC dX7_doesAll_85 rfl ?_
                refine ka_bipush (v := 44) hC dX7_doesAll_86 rfl ?_
                refine ka_callV hC (m_X7_takesSign hG hTq) (ka_Rc_model ) rfl ka_q_ml_X7_198 ka_q_im_X7_takesSign ka_q_se_X7_takesSign ka_q_in_X7 ka_q_co_X7_takesSign ky_X7_takesSign (by decide) (by decide) (Nat.le_of_ble_eq_true rfl) rfl dX7_doesAll_88 ?_
                refine ka_I.eqW (V' := ka_ms V (rt_arg1 q (rt_argX (rt_o3 (rt_allX M S i).1) q)) (rt_allX M S i).2.1) (by unfold rt_arg1; first | rw [if_pos c82] | rw [if_neg c82]) ?_
                refine ka_aload_n hC dX7_doesAll_91 rfl ?_
                refine kg_X7_25  hC dX7_doesAll_92 ?_
                refine ka_iload_n hC dX7_doesAll_95 rfl ?_
                refine ka_aload_n hC dX7_doesAll_96 rfl ?_
                refine ka_callV hC (m_X7_number hG (tx_arg1 hTq).1.1) (ka_Rc_model ) rfl ka_q_ml_X7_201 ka_q_im_X7_number ka_q_se_X7_number ka_q_in_X7 ka_q_co_X7_number ky_X7_number (by decide) (by decide) (Nat.le_of_ble_eq_true rfl) rfl dX7_doesAll_97 ?_
                refine kms_mnums q hq4 rfl hC dX7_doesAll_100 ?_
                refine ka_iinc_2 (v := 1) hC dX7_doesAll_101 rfl (by decide) ?_
                refine ka_goto (tgt := 73) hC dX7_doesAll_104 (by decide) ?_
                exact ka_I.back 3 (by rw [rt_argX_s]; rfl) (by rw [← nI_1]; rfl) (ih73 (q + 1) (by omega) (by omega))
        · skip
          refine ka_iconst (v := 1) hC dX7_doesAll_62 rfl ?_
          refine ka_goto (tgt := 67) hC dX7_doesAll_63 (by decide) ?_
          refine ka_iadd hC dX7_doesAll_67 ?_
          refine kmp_X7_175  hC dX7_doesAll_68 ?_
          refine ka_I.eqW (V' := ka_ms V (rt_o3 (rt_allX M S i).1) (rt_allX M S i).2.1) (by unfold rt_o3 rt_step; simp [c18, c39, c59, sp_add]) ?_
          refine ka_iconst (v := 0) hC dX7_doesAll_71 rfl ?_
          refine ka_istore_n_p2 hC dX7_doesAll_72 (by decide) ?_
          suffices H73 : ∀ jj q : Nat, q ≤ cn (rt_many (rt_s (rt_allX M S i).1)) → cn (rt_many (rt_s (rt_allX M S i).1)) - q < jj → ka_I G X (ka_ms V (rt_argX (rt_o3 (rt_allX M S i).1) q) (rt_allX M S i).2.1) 73 [.ref (ka_ad G 9 0), .int (rt_s (rt_allX M S i).1), .int (nI q)] [] from ka_I.back 3 (by rfl) (by rfl) (H73 (cn (rt_many (rt_s (rt_allX M S i).1)) + 1) 0 (by omega) (by omega))
          intro j73
          induction j73 with
          | zero => intro q h1 h2 ; exact absurd h2 (Nat.not_lt_zero _)
          | succ j73 ih73 =>
            intro q hle73 hlt73 
            have hT3 := (tx_o3 hTi).1.1.1
            have hTq := (tx_argX hT3 q).1.1
            refine ka_iload_n hC dX7_doesAll_73 rfl ?_
            refine ka_iload_n hC dX7_doesAll_74 rfl ?_
            refine ka_callS hC (m_X7_manyOf hG) ka_q_ml_X7_195 ka_q_st_X7_manyOf ka_q_in_X7 ka_q_co_X7_manyOf ky_X7_manyOf (by decide) (by decide) (Nat.le_of_ble_eq_true rfl) rfl dX7_doesAll_75 ?_
            refine ka_icmp_ge (tgt := 107) hC dX7_doesAll_78 (by decide) (fun c78 => ?_) (fun c78 => ?_)
            · skip
              obtain rfl : q = cn (rt_many (rt_s (rt_allX M S i).1)) := nlt_cn hle73 c78
              have hT4 := (tx_o4 hTi).1.1
              refine ka_I.eqW (V' := ka_ms V (rt_o4 (rt_allX M S i).1) (rt_allX M S i).2.1) rfl ?_
              refine ka_aload_n hC dX7_doesAll_107 rfl ?_
              refine ka_bipush (v := 59) hC dX7_doesAll_108 rfl ?_
              refine ka_callV hC (m_X7_takesSign hG hT4) (ka_Rc_model ) rfl ka_q_ml_X7_198 ka_q_im_X7_takesSign ka_q_se_X7_takesSign ka_q_in_X7 ka_q_co_X7_takesSign ky_X7_takesSign (by decide) (by decide) (Nat.le_of_ble_eq_true rfl) rfl dX7_doesAll_110 ?_
              refine ka_I.eqW (V' := ka_ms V (rt_o5 (rt_allX M S i).1) (rt_allX M S i).2.1) rfl ?_
              refine ka_aload_n hC dX7_doesAll_113 rfl ?_
              refine ka_aload_n hC dX7_doesAll_114 rfl ?_
              refine kmg_X7_181  hC dX7_doesAll_115 ?_
              refine ka_if_eq_b (tgt := 129) hC dX7_doesAll_118 (by decide) (fun c118 => ?_) (fun c118 => ?_)
              · skip
                have ec : rt_c (rt_allX M S i).1 (rt_allX M S i).2.1 = (0, (rt_allX M S i).2.1) := by unfold rt_c; rw [if_neg (by rw [c118]; decide)]
                refine ka_iconst (v := 0) hC dX7_doesAll_129 rfl ?_
                refine kmp_X7_207  hC dX7_doesAll_130 ?_
                refine ka_I.eqW (V' := ka_ms V (rt_o6 (rt_allX M S i).1 (rt_allX M S i).2.1) (rt_c (rt_allX M S i).1 (rt_allX M S i).2.1).2) (by unfold rt_o6; rw [ec]) ?_
                refine ka_aload_n hC dX7_doesAll_133 rfl ?_
                refine kmg_X7_181  hC dX7_doesAll_134 ?_
                refine ka_if_eq_b (tgt := 149) hC dX7_doesAll_137 (by decide) (fun c137 => ?_) (fun c137 => ?_)
                · skip
                  have hg : rt_good (rt_o6 (rt_allX M S i).1 (rt_allX M S i).2.1) = false := by unfold rt_good; rw [c137]; rfl
                  have er : rt_all M S = rt_ends (rt_allX M S i).1 (rt_allX M S i).2.1 := rt_all_end hi hv c18 hg
                  refine ka_iconst (v := 0) hC dX7_doesAll_149 rfl ?_
                  exact ka_bret hC hR dX7_doesAll_150 (by rw [er]; exact rt_ends_V) rfl (by rw [er]; exact rt_ends_W)
                · skip
                  refine ka_aload_n hC dX7_doesAll_140 rfl ?_
                  refine kmg_X7_207  hC dX7_doesAll_141 ?_
                  refine ka_ldc hC ka_q_cn_X7_28 dX7_doesAll_144 ?_
                  refine ka_icmp_gt (tgt := 151) hC dX7_doesAll_146 (by decide) (fun c146 => ?_) (fun c146 => ?_)
                  · skip
                    have hg : rt_good (rt_o6 (rt_allX M S i).1 (rt_allX M S i).2.1) = true := by unfold rt_good; rw [c137, decide_eq_true c146]; rfl
                    have e : rt_allX M S (i + 1) = rt_goes (rt_allX M S i).1 (rt_allX M S i).2.1 := rt_all_go hv c18 hg
                    refine ka_aload_n hC dX7_doesAll_151 rfl ?_
                    refine ka_dup hC dX7_doesAll_152 rfl ?_
                    refine kmg_X7_189  hC dX7_doesAll_153 ?_
                    refine ka_iconst (v := 1) hC dX7_doesAll_156 rfl ?_
                    refine ka_iadd hC dX7_doesAll_157 ?_
                    refine kmp_X7_189  hC dX7_doesAll_158 ?_
                    refine ka_I.eqW (V' := ka_ms V (rt_goes (rt_allX M S i).1 (rt_allX M S i).2.1).1 (rt_goes (rt_allX M S i).1 (rt_allX M S i).2.1).2.1) rt_goes_W ?_
                    refine ka_goto (tgt := 10) hC dX7_doesAll_161 (by decide) ?_
                    exact ka_I.back 1 (by rw [e]) (by rfl) (ih10 (i + 1) (by omega) (by omega) (by rw [e]; exact rt_goes_t))
                  · skip
                    have hg : rt_good (rt_o6 (rt_allX M S i).1 (rt_allX M S i).2.1) = false := by unfold rt_good; rw [decide_eq_false c146, Bool.and_false]
                    have er : rt_all M S = rt_ends (rt_allX M S i).1 (rt_allX M S i).2.1 := rt_all_end hi hv c18 hg
                    refine ka_iconst (v := 0) hC dX7_doesAll_149 rfl ?_
                    exact ka_bret hC hR dX7_doesAll_150 (by rw [er]; exact rt_ends_V) rfl (by rw [er]; exact rt_ends_W)
              · skip
                have ec : rt_c (rt_allX M S i).1 (rt_allX M S i).2.1 = rt_called (rt_o5 (rt_allX M S i).1) (rt_allX M S i).2.1 (rt_s (rt_allX M S i).1) := by unfold rt_c; rw [if_pos c118]
                refine ka_aload_n hC dX7_doesAll_121 rfl ?_
                refine ka_iload_n hC dX7_doesAll_122 rfl ?_
                refine ka_callV hC (m_X7_called hG hMi) (ka_Rc_model ) rfl ka_q_ml_X7_204 ka_q_im_X7_called ka_q_se_X7_called ka_q_in_X7 ka_q_co_X7_called ky_X7_called (by decide) (by decide) (Nat.le_of_ble_eq_true rfl) rfl dX7_doesAll_123 ?_
                refine ka_goto (tgt := 130) hC dX7_doesAll_126 (by decide) ?_
                refine kmp_X7_207  hC dX7_doesAll_130 ?_
                refine ka_I.eqW (V' := ka_ms V (rt_o6 (rt_allX M S i).1 (rt_allX M S i).2.1) (rt_c (rt_allX M S i).1 (rt_allX M S i).2.1).2) (by unfold rt_o6; rw [ec]) ?_
                refine ka_aload_n hC dX7_doesAll_133 rfl ?_
                refine kmg_X7_181  hC dX7_doesAll_134 ?_
                refine ka_if_eq_b (tgt := 149) hC dX7_doesAll_137 (by decide) (fun c137 => ?_) (fun c137 => ?_)
                · skip
                  have hg : rt_good (rt_o6 (rt_allX M S i).1 (rt_allX M S i).2.1) = false := by unfold rt_good; rw [c137]; rfl
                  have er : rt_all M S = rt_ends (rt_allX M S i).1 (rt_allX M S i).2.1 := rt_all_end hi hv c18 hg
                  refine ka_iconst (v := 0) hC dX7_doesAll_149 rfl ?_
                  exact ka_bret hC hR dX7_doesAll_150 (by rw [er]; exact rt_ends_V) rfl (by rw [er]; exact rt_ends_W)
                · skip
                  refine ka_aload_n hC dX7_doesAll_140 rfl ?_
                  refine kmg_X7_207  hC dX7_doesAll_141 ?_
                  refine ka_ldc hC ka_q_cn_X7_28 dX7_doesAll_144 ?_
                  refine ka_icmp_gt (tgt := 151) hC dX7_doesAll_146 (by decide) (fun c146 => ?_) (fun c146 => ?_)
                  · skip
                    have hg : rt_good (rt_o6 (rt_allX M S i).1 (rt_allX M S i).2.1) = true := by unfold rt_good; rw [c137, decide_eq_true c146]; rfl
                    have e : rt_allX M S (i + 1) = rt_goes (rt_allX M S i).1 (rt_allX M S i).2.1 := rt_all_go hv c18 hg
                    refine ka_aload_n hC dX7_doesAll_151 rfl ?_
                    refine ka_dup hC dX7_doesAll_152 rfl ?_
                    refine kmg_X7_189  hC dX7_doesAll_153 ?_
                    refine ka_iconst (v := 1) hC dX7_doesAll_156 rfl ?_
                    refine ka_iadd hC dX7_doesAll_157 ?_
                    refine kmp_X7_189  hC dX7_doesAll_158 ?_
                    refine ka_I.eqW (V' := ka_ms V (rt_goes (rt_allX M S i).1 (rt_allX M S i).2.1).1 (rt_goes (rt_allX M S i).1 (rt_allX M S i).2.1).2.1) rt_goes_W ?_
                    refine ka_goto (tgt := 10) hC dX7_doesAll_161 (by decide) ?_
                    exact ka_I.back 1 (by rw [e]) (by rfl) (ih10 (i + 1) (by omega) (by omega) (by rw [e]; exact rt_goes_t))
                  · skip
                    have hg : rt_good (rt_o6 (rt_allX M S i).1 (rt_allX M S i).2.1) = false := by unfold rt_good; rw [decide_eq_false c146, Bool.and_false]
                    have er : rt_all M S = rt_ends (rt_allX M S i).1 (rt_allX M S i).2.1 := rt_all_end hi hv c18 hg
                    refine ka_iconst (v := 0) hC dX7_doesAll_149 rfl ?_
                    exact ka_bret hC hR dX7_doesAll_150 (by rw [er]; exact rt_ends_V) rfl (by rw [er]; exact rt_ends_W)
            · skip
              have hq : q < cn (rt_many (rt_s (rt_allX M S i).1)) := lt_cn hle73 c78
              have hq4 : q < 4 := Nat.lt_of_lt_of_le hq (rt_many_le _)
              refine ka_iload_n hC dX7_doesAll_81 rfl ?_
              refine ka_if_le (tgt := 91) hC dX7_doesAll_82 (by decide) (fun c82 => ?_) (fun c82 => ?_)
              · skip
                refine ka_I.eqW (V' := ka_ms V (rt_arg1 q (rt_argX (rt_o3 (rt_allX M S i).1) q)) (rt_allX M S i).2.1) (by unfold rt_arg1; first | rw [if_pos c82] | rw [if_neg c82]) ?_
                refine ka_aload_n hC dX7_doesAll_91 rfl ?_
                refine kg_X7_25  hC dX7_doesAll_92 ?_
                refine ka_iload_n hC dX7_doesAll_95 rfl ?_
                refine ka_aload_n hC dX7_doesAll_96 rfl ?_
                refine ka_callV hC (m_X7_number hG (tx_arg1 hTq).1.1) (ka_Rc_model ) rfl ka_q_ml_X7_201 ka_q_im_X7_number ka_q_se_X7_number ka_q_in_X7 ka_q_co_X7_number ky_X7_number (by decide) (by decide) (Nat.le_of_ble_eq_true rfl) rfl dX7_doesAll_97 ?_
                refine kms_mnums q hq4 rfl hC dX7_doesAll_100 ?_
                refine ka_iinc_2 (v := 1) hC dX7_doesAll_101 rfl (by decide) ?_
                refine ka_goto (tgt := 73) hC dX7_doesAll_104 (by decide) ?_
                exact ka_I.back 3 (by rw [rt_argX_s]; rfl) (by rw [← nI_1]; rfl) (ih73 (q + 1) (by omega) (by omega))
              · skip
                refine ka_aload_n hC dX7_doesAll_85 rfl ?_
                refine ka_bipush (v := 44) hC dX7_doesAll_86 rfl ?_
                refine ka_callV hC (m_X7_takesSign hG hTq) (ka_Rc_model ) rfl ka_q_ml_X7_198 ka_q_im_X7_takesSign ka_q_se_X7_takesSign ka_q_in_X7 ka_q_co_X7_takesSign ky_X7_takesSign (by decide) (by decide) (Nat.le_of_ble_eq_true rfl) rfl dX7_doesAll_88 ?_
                refine ka_I.eqW (V' := ka_ms V (rt_arg1 q (rt_argX (rt_o3 (rt_allX M S i).1) q)) (rt_allX M S i).2.1) (by unfold rt_arg1; first | rw [if_pos c82] | rw [if_neg c82]) ?_
                refine ka_aload_n hC dX7_doesAll_91 rfl ?_
                refine kg_X7_25  hC dX7_doesAll_92 ?_
                refine ka_iload_n hC dX7_doesAll_95 rfl ?_
                refine ka_aload_n hC dX7_doesAll_96 rfl ?_
                refine ka_callV hC (m_X7_number hG (tx_arg1 hTq).1.1) (ka_Rc_model ) rfl ka_q_ml_X7_201 ka_q_im_X7_number ka_q_se_X7_number ka_q_in_X7 ka_q_co_X7_number ky_X7_number (by decide) (by decide) (Nat.le_of_ble_eq_true rfl) rfl dX7_doesAll_97 ?_
                refine kms_mnums q hq4 rfl hC dX7_doesAll_100 ?_
                refine ka_iinc_2 (v := 1) hC dX7_doesAll_101 rfl (by decide) ?_
                refine ka_goto (tgt := 73) hC dX7_doesAll_104 (by decide) ?_
                exact ka_I.back 3 (by rw [rt_argX_s]; rfl) (by rw [← nI_1]; rfl) (ih73 (q + 1) (by omega) (by omega))
      · skip
        refine ka_iconst (v := 1) hC dX7_doesAll_42 rfl ?_
        refine ka_goto (tgt := 47) hC dX7_doesAll_43 (by decide) ?_
        refine kmp_X7_181  (b := true) rfl hC dX7_doesAll_47 ?_
        refine ka_I.eqW (V' := ka_ms V (rt_o2 (rt_allX M S i).1) (rt_allX M S i).2.1) (by unfold rt_o2 rt_flag rt_s; simp [c18, c39]) ?_
        refine ka_aload_n hC dX7_doesAll_50 rfl ?_
        refine ka_dup hC dX7_doesAll_51 rfl ?_
        refine kmg_X7_175  hC dX7_doesAll_52 ?_
        refine ka_aload_n hC dX7_doesAll_55 rfl ?_
        refine kmg_X7_181  hC dX7_doesAll_56 ?_
        refine ka_if_eq_b (tgt := 66) hC dX7_doesAll_59 (by decide) (fun c59 => ?_) (fun c59 => ?_)
        · skip
          refine ka_iconst (v := 0) hC dX7_doesAll_66 rfl ?_
          refine ka_iadd hC dX7_doesAll_67 ?_
          refine kmp_X7_175  hC dX7_doesAll_68 ?_
          refine ka_I.eqW (V' := ka_ms V (rt_o3 (rt_allX M S i).1) (rt_allX M S i).2.1) (by unfold rt_o3 rt_step; simp [c18, c39, c59, sp_add]) ?_
          refine ka_iconst (v := 0) hC dX7_doesAll_71 rfl ?_
          refine ka_istore_n_p2 hC dX7_doesAll_72 (by decide) ?_
          suffices H73 : ∀ jj q : Nat, q ≤ cn (rt_many (rt_s (rt_allX M S i).1)) → cn (rt_many (rt_s (rt_allX M S i).1)) - q < jj → ka_I G X (ka_ms V (rt_argX (rt_o3 (rt_allX M S i).1) q) (rt_allX M S i).2.1) 73 [.ref (ka_ad G 9 0), .int (rt_s (rt_allX M S i).1), .int (nI q)] [] from ka_I.back 3 (by rfl) (by rfl) (H73 (cn (rt_many (rt_s (rt_allX M S i).1)) + 1) 0 (by omega) (by omega))
          intro j73
          induction j73 with
          | zero => intro q h1 h2 ; exact absurd h2 (Nat.not_lt_zero _)
          | succ j73 ih73 =>
            intro q hle73 hlt73 
            have hT3 := (tx_o3 hTi).1.1.1
            have hTq := (tx_argX hT3 q).1.1
            refine ka_iload_n hC dX7_doesAll_73 rfl ?_
            refine ka_iload_n hC dX7_doesAll_74 rfl ?_
            refine ka_callS hC (m_X7_manyOf hG) ka_q_ml_X7_195 ka_q_st_X7_manyOf ka_q_in_X7 ka_q_co_X7_manyOf ky_X7_manyOf (by decide) (by decide) (Nat.le_of_ble_eq_true rfl) rfl dX7_doesAll_75 ?_
            refine ka_icmp_ge (tgt := 107) hC dX7_doesAll_78 (by decide) (fun c78 => ?_) (fun c78 => ?_)
            · skip
              obtain rfl : q = cn (rt_many (rt_s (rt_allX M S i).1)) := nlt_cn hle73 c78
              have hT4 := (tx_o4 hTi).1.1
              refine ka_I.eqW (V' := ka_ms V (rt_o4 (rt_allX M S i).1) (rt_allX M S i).2.1) rfl ?_
              refine ka_aload_n hC dX7_doesAll_107 rfl ?_
              refine ka_bipush (v := 59) hC dX7_doesAll_108 rfl ?_
              refine ka_callV hC (m_X7_takesSign hG hT4) (ka_Rc_model ) rfl ka_q_ml_X7_198 ka_q_im_X7_takesSign ka_q_se_X7_takesSign ka_q_in_X7 ka_q_co_X7_takesSign ky_X7_takesSign (by decide) (by decide) (Nat.le_of_ble_eq_true rfl) rfl dX7_doesAll_110 ?_
              refine ka_I.eqW (V' := ka_ms V (rt_o5 (rt_allX M S i).1) (rt_allX M S i).2.1) rfl ?_
              refine ka_aload_n hC dX7_doesAll_113 rfl ?_
              refine ka_aload_n hC dX7_doesAll_114 rfl ?_
              refine kmg_X7_181  hC dX7_doesAll_115 ?_
              refine ka_if_eq_b (tgt := 129) hC dX7_doesAll_118 (by decide) (fun c118 => ?_) (fun c118 => ?_)
              · skip
                have ec : rt_c (rt_allX M S i).1 (rt_allX M S i).2.1 = (0, (rt_allX M S i).2.1) := by unfold rt_c; rw [if_neg (by rw [c118]; decide)]
                refine ka_iconst (v := 0) hC dX7_doesAll_129 rfl ?_
                refine kmp_X7_207  hC dX7_doesAll_130 ?_
                refine ka_I.eqW (V' := ka_ms V (rt_o6 (rt_allX M S i).1 (rt_allX M S i).2.1) (rt_c (rt_allX M S i).1 (rt_allX M S i).2.1).2) (by unfold rt_o6; rw [ec]) ?_
                refine ka_aload_n hC dX7_doesAll_133 rfl ?_
                refine kmg_X7_181  hC dX7_doesAll_134 ?_
                refine ka_if_eq_b (tgt := 149) hC dX7_doesAll_137 (by decide) (fun c137 => ?_) (fun c137 => ?_)
                · skip
                  have hg : rt_good (rt_o6 (rt_allX M S i).1 (rt_allX M S i).2.1) = false := by unfold rt_good; rw [c137]; rfl
                  have er : rt_all M S = rt_ends (rt_allX M S i).1 (rt_allX M S i).2.1 := rt_all_end hi hv c18 hg
                  refine ka_iconst (v := 0) hC dX7_doesAll_149 rfl ?_
                  exact ka_bret hC hR dX7_doesAll_150 (by rw [er]; exact rt_ends_V) rfl (by rw [er]; exact rt_ends_W)
                · skip
                  refine ka_aload_n hC dX7_doesAll_140 rfl ?_
                  refine kmg_X7_207  hC dX7_doesAll_141 ?_
                  refine ka_ldc hC ka_q_cn_X7_28 dX7_doesAll_144 ?_
                  refine ka_icmp_gt (tgt := 151) hC dX7_doesAll_146 (by decide) (fun c146 => ?_) (fun c146 => ?_)
                  · skip
                    have hg : rt_good (rt_o6 (rt_allX M S i).1 (rt_allX M S i).2.1) = true := by unfold rt_good; rw [c137, decide_eq_true c146]; rfl
                    have e : rt_allX M S (i + 1) = rt_goes (rt_allX M S i).1 (rt_allX M S i).2.1 := rt_all_go hv c18 hg
                    refine ka_aload_n hC dX7_doesAll_151 rfl ?_
                    refine ka_dup hC dX7_doesAll_152 rfl ?_
                    refine kmg_X7_189  hC dX7_doesAll_153 ?_
                    refine ka_iconst (v := 1) hC dX7_doesAll_156 rfl ?_
                    refine ka_iadd hC dX7_doesAll_157 ?_
                    refine kmp_X7_189  hC dX7_doesAll_158 ?_
                    refine ka_I.eqW (V' := ka_ms V (rt_goes (rt_allX M S i).1 (rt_allX M S i).2.1).1 (rt_goes (rt_allX M S i).1 (rt_allX M S i).2.1).2.1) rt_goes_W ?_
                    refine ka_goto (tgt := 10) hC dX7_doesAll_161 (by decide) ?_
                    exact ka_I.back 1 (by rw [e]) (by rfl) (ih10 (i + 1) (by omega) (by omega) (by rw [e]; exact rt_goes_t))
                  · skip
                    have hg : rt_good (rt_o6 (rt_allX M S i).1 (rt_allX M S i).2.1) = false := by unfold rt_good; rw [decide_eq_false c146, Bool.and_false]
                    have er : rt_all M S = rt_ends (rt_allX M S i).1 (rt_allX M S i).2.1 := rt_all_end hi hv c18 hg
                    refine ka_iconst (v := 0) hC dX7_doesAll_149 rfl ?_
                    exact ka_bret hC hR dX7_doesAll_150 (by rw [er]; exact rt_ends_V) rfl (by rw [er]; exact rt_ends_W)
              · skip
                have ec : rt_c (rt_allX M S i).1 (rt_allX M S i).2.1 = rt_called (rt_o5 (rt_allX M S i).1) (rt_allX M S i).2.1 (rt_s (rt_allX M S i).1) := by unfold rt_c; rw [if_pos c118]
                refine ka_aload_n hC dX7_doesAll_121 rfl ?_
                refine ka_iload_n hC dX7_doesAll_122 rfl ?_
                refine ka_callV hC (m_X7_called hG hMi) (ka_Rc_model ) rfl ka_q_ml_X7_204 ka_q_im_X7_called ka_q_se_X7_called ka_q_in_X7 ka_q_co_X7_called ky_X7_called (by decide) (by decide) (Nat.le_of_ble_eq_true rfl) rfl dX7_doesAll_123 ?_
                refine ka_goto (tgt := 130) hC dX7_doesAll_126 (by decide) ?_
                refine kmp_X7_207  hC dX7_doesAll_130 ?_
                refine ka_I.eqW (V' := ka_ms V (rt_o6 (rt_allX M S i).1 (rt_allX M S i).2.1) (rt_c (rt_allX M S i).1 (rt_allX M S i).2.1).2) (by unfold rt_o6; rw [ec]) ?_
                refine ka_aload_n hC dX7_doesAll_133 rfl ?_
                refine kmg_X7_181  hC dX7_doesAll_134 ?_
                refine ka_if_eq_b (tgt := 149) hC dX7_doesAll_137 (by decide) (fun c137 => ?_) (fun c137 => ?_)
                · skip
                  have hg : rt_good (rt_o6 (rt_allX M S i).1 (rt_allX M S i).2.1) = false := by unfold rt_good; rw [c137]; rfl
                  have er : rt_all M S = rt_ends (rt_allX M S i).1 (rt_allX M S i).2.1 := rt_all_end hi hv c18 hg
                  refine ka_iconst (v := 0) hC dX7_doesAll_149 rfl ?_
                  exact ka_bret hC hR dX7_doesAll_150 (by rw [er]; exact rt_ends_V) rfl (by rw [er]; exact rt_ends_W)
                · skip
                  refine ka_aload_n hC dX7_doesAll_140 rfl ?_
                  refine kmg_X7_207  hC dX7_doesAll_141 ?_
                  refine ka_ldc hC ka_q_cn_X7_28 dX7_doesAll_144 ?_
                  refine ka_icmp_gt (tgt := 151) hC dX7_doesAll_146 (by decide) (fun c146 => ?_) (fun c146 => ?_)
                  · skip
                    have hg : rt_good (rt_o6 (rt_allX M S i).1 (rt_allX M S i).2.1) = true := by unfold rt_good; rw [c137, decide_eq_true c146]; rfl
                    have e : rt_allX M S (i + 1) = rt_goes (rt_allX M S i).1 (rt_allX M S i).2.1 := rt_all_go hv c18 hg
                    refine ka_aload_n hC dX7_doesAll_151 rfl ?_
                    refine ka_dup hC dX7_doesAll_152 rfl ?_
                    refine kmg_X7_189  hC dX7_doesAll_153 ?_
                    refine ka_iconst (v := 1) hC dX7_doesAll_156 rfl ?_
                    refine ka_iadd hC dX7_doesAll_157 ?_
                    refine kmp_X7_189  hC dX7_doesAll_158 ?_
                    refine ka_I.eqW (V' := ka_ms V (rt_goes (rt_allX M S i).1 (rt_allX M S i).2.1).1 (rt_goes (rt_allX M S i).1 (rt_allX M S i).2.1).2.1) rt_goes_W ?_
                    refine ka_goto (tgt := 10) hC dX7_doesAll_161 (by decide) ?_
                    exact ka_I.back 1 (by rw [e]) (by rfl) (ih10 (i + 1) (by omega) (by omega) (by rw [e]; exact rt_goes_t))
                  · skip
                    have hg : rt_good (rt_o6 (rt_allX M S i).1 (rt_allX M S i).2.1) = false := by unfold rt_good; rw [decide_eq_false c146, Bool.and_false]
                    have er : rt_all M S = rt_ends (rt_allX M S i).1 (rt_allX M S i).2.1 := rt_all_end hi hv c18 hg
                    refine ka_iconst (v := 0) hC dX7_doesAll_149 rfl ?_
                    exact ka_bret hC hR dX7_doesAll_150 (by rw [er]; exact rt_ends_V) rfl (by rw [er]; exact rt_ends_W)
            · skip
              have hq : q < cn (rt_many (rt_s (rt_allX M S i).1)) := lt_cn hle73 c78
              have hq4 : q < 4 := Nat.lt_of_lt_of_le hq (rt_many_le _)
              refine ka_iload_n hC dX7_doesAll_81 rfl ?_
              refine ka_if_le (tgt := 91) hC dX7_doesAll_82 (by decide) (fun c82 => ?_) (fun c82 => ?_)
              · skip
                refine ka_I.eqW (V' := ka_ms V (rt_arg1 q (rt_argX (rt_o3 (rt_allX M S i).1) q)) (rt_allX M S i).2.1) (by unfold rt_arg1; first | rw [if_pos c82] | rw [if_neg c82]) ?_
                refine ka_aload_n hC dX7_doesAll_91 rfl ?_
                refine kg_X7_25  hC dX7_doesAll_92 ?_
                refine ka_iload_n hC dX7_doesAll_95 rfl ?_
                refine ka_aload_n hC dX7_doesAll_96 rfl ?_
                refine ka_callV hC (m_X7_number hG (tx_arg1 hTq).1.1) (ka_Rc_model ) rfl ka_q_ml_X7_201 ka_q_im_X7_number ka_q_se_X7_number ka_q_in_X7 ka_q_co_X7_number ky_X7_number (by decide) (by decide) (Nat.le_of_ble_eq_true rfl) rfl dX7_doesAll_97 ?_
                refine kms_mnums q hq4 rfl hC dX7_doesAll_100 ?_
                refine ka_iinc_2 (v := 1) hC dX7_doesAll_101 rfl (by decide) ?_
                refine ka_goto (tgt := 73) hC dX7_doesAll_104 (by decide) ?_
                exact ka_I.back 3 (by rw [rt_argX_s]; rfl) (by rw [← nI_1]; rfl) (ih73 (q + 1) (by omega) (by omega))
              · skip
                refine ka_aload_n hC dX7_doesAll_85 rfl ?_
                refine ka_bipush (v := 44) hC dX7_doesAll_86 rfl ?_
                refine ka_callV hC (m_X7_takesSign hG hTq) (ka_Rc_model ) rfl ka_q_ml_X7_198 ka_q_im_X7_takesSign ka_q_se_X7_takesSign ka_q_in_X7 ka_q_co_X7_takesSign ky_X7_takesSign (by decide) (by decide) (Nat.le_of_ble_eq_true rfl) rfl dX7_doesAll_88 ?_
                refine ka_I.eqW (V' := ka_ms V (rt_arg1 q (rt_argX (rt_o3 (rt_allX M S i).1) q)) (rt_allX M S i).2.1) (by unfold rt_arg1; first | rw [if_pos c82] | rw [if_neg c82]) ?_
                refine ka_aload_n hC dX7_doesAll_91 rfl ?_
                refine kg_X7_25  hC dX7_doesAll_92 ?_
                refine ka_iload_n hC dX7_doesAll_95 rfl ?_
                refine ka_aload_n hC dX7_doesAll_96 rfl ?_
                refine ka_callV hC (m_X7_number hG (tx_arg1 hTq).1.1) (ka_Rc_model ) rfl ka_q_ml_X7_201 ka_q_im_X7_number ka_q_se_X7_number ka_q_in_X7 ka_q_co_X7_number ky_X7_number (by decide) (by decide) (Nat.le_of_ble_eq_true rfl) rfl dX7_doesAll_97 ?_
                refine kms_mnums q hq4 rfl hC dX7_doesAll_100 ?_
                refine ka_iinc_2 (v := 1) hC dX7_doesAll_101 rfl (by decide) ?_
                refine ka_goto (tgt := 73) hC dX7_doesAll_104 (by decide) ?_
                exact ka_I.back 3 (by rw [rt_argX_s]; rfl) (by rw [← nI_1]; rfl) (ih73 (q + 1) (by omega) (by omega))
        · skip
          refine ka_iconst (v := 1) hC dX7_doesAll_62 rfl ?_
          refine ka_goto (tgt := 67) hC dX7_doesAll_63 (by decide) ?_
          refine ka_iadd hC dX7_doesAll_67 ?_
          refine kmp_X7_175  hC dX7_doesAll_68 ?_
          refine ka_I.eqW (V' := ka_ms V (rt_o3 (rt_allX M S i).1) (rt_allX M S i).2.1) (by unfold rt_o3 rt_step; simp [c18, c39, c59, sp_add]) ?_
          refine ka_iconst (v := 0) hC dX7_doesAll_71 rfl ?_
          refine ka_istore_n_p2 hC dX7_doesAll_72 (by decide) ?_
          suffices H73 : ∀ jj q : Nat, q ≤ cn (rt_many (rt_s (rt_allX M S i).1)) → cn (rt_many (rt_s (rt_allX M S i).1)) - q < jj → ka_I G X (ka_ms V (rt_argX (rt_o3 (rt_allX M S i).1) q) (rt_allX M S i).2.1) 73 [.ref (ka_ad G 9 0), .int (rt_s (rt_allX M S i).1), .int (nI q)] [] from ka_I.back 3 (by rfl) (by rfl) (H73 (cn (rt_many (rt_s (rt_allX M S i).1)) + 1) 0 (by omega) (by omega))
          intro j73
          induction j73 with
          | zero => intro q h1 h2 ; exact absurd h2 (Nat.not_lt_zero _)
          | succ j73 ih73 =>
            intro q hle73 hlt73 
            have hT3 := (tx_o3 hTi).1.1.1
            have hTq := (tx_argX hT3 q).1.1
            refine ka_iload_n hC dX7_doesAll_73 rfl ?_
            refine ka_iload_n hC dX7_doesAll_74 rfl ?_
            refine ka_callS hC (m_X7_manyOf hG) ka_q_ml_X7_195 ka_q_st_X7_manyOf ka_q_in_X7 ka_q_co_X7_manyOf ky_X7_manyOf (by decide) (by decide) (Nat.le_of_ble_eq_true rfl) rfl dX7_doesAll_75 ?_
            refine ka_icmp_ge (tgt := 107) hC dX7_doesAll_78 (by decide) (fun c78 => ?_) (fun c78 => ?_)
            · skip
              obtain rfl : q = cn (rt_many (rt_s (rt_allX M S i).1)) := nlt_cn hle73 c78
              have hT4 := (tx_o4 hTi).1.1
              refine ka_I.eqW (V' := ka_ms V (rt_o4 (rt_allX M S i).1) (rt_allX M S i).2.1) rfl ?_
              refine ka_aload_n hC dX7_doesAll_107 rfl ?_
              refine ka_bipush (v := 59) hC dX7_doesAll_108 rfl ?_
              refine ka_callV hC (m_X7_takesSign hG hT4) (ka_Rc_model ) rfl ka_q_ml_X7_198 ka_q_im_X7_takesSign ka_q_se_X7_takesSign ka_q_in_X7 ka_q_co_X7_takesSign ky_X7_takesSign (by decide) (by decide) (Nat.le_of_ble_eq_true rfl) rfl dX7_doesAll_110 ?_
              refine ka_I.eqW (V' := ka_ms V (rt_o5 (rt_allX M S i).1) (rt_allX M S i).2.1) rfl ?_
              refine ka_aload_n hC dX7_doesAll_113 rfl ?_
              refine ka_aload_n hC dX7_doesAll_114 rfl ?_
              refine kmg_X7_181  hC dX7_doesAll_115 ?_
              refine ka_if_eq_b (tgt := 129) hC dX7_doesAll_118 (by decide) (fun c118 => ?_) (fun c118 => ?_)
              · skip
                have ec : rt_c (rt_allX M S i).1 (rt_allX M S i).2.1 = (0, (rt_allX M S i).2.1) := by unfold rt_c; rw [if_neg (by rw [c118]; decide)]
                refine ka_iconst (v := 0) hC dX7_doesAll_129 rfl ?_
                refine kmp_X7_207  hC dX7_doesAll_130 ?_
                refine ka_I.eqW (V' := ka_ms V (rt_o6 (rt_allX M S i).1 (rt_allX M S i).2.1) (rt_c (rt_allX M S i).1 (rt_allX M S i).2.1).2) (by unfold rt_o6; rw [ec]) ?_
                refine ka_aload_n hC dX7_doesAll_133 rfl ?_
                refine kmg_X7_181  hC dX7_doesAll_134 ?_
                refine ka_if_eq_b (tgt := 149) hC dX7_doesAll_137 (by decide) (fun c137 => ?_) (fun c137 => ?_)
                · skip
                  have hg : rt_good (rt_o6 (rt_allX M S i).1 (rt_allX M S i).2.1) = false := by unfold rt_good; rw [c137]; rfl
                  have er : rt_all M S = rt_ends (rt_allX M S i).1 (rt_allX M S i).2.1 := rt_all_end hi hv c18 hg
                  refine ka_iconst (v := 0) hC dX7_doesAll_149 rfl ?_
                  exact ka_bret hC hR dX7_doesAll_150 (by rw [er]; exact rt_ends_V) rfl (by rw [er]; exact rt_ends_W)
                · skip
                  refine ka_aload_n hC dX7_doesAll_140 rfl ?_
                  refine kmg_X7_207  hC dX7_doesAll_141 ?_
                  refine ka_ldc hC ka_q_cn_X7_28 dX7_doesAll_144 ?_
                  refine ka_icmp_gt (tgt := 151) hC dX7_doesAll_146 (by decide) (fun c146 => ?_) (fun c146 => ?_)
                  · skip
                    have hg : rt_good (rt_o6 (rt_allX M S i).1 (rt_allX M S i).2.1) = true := by unfold rt_good; rw [c137, decide_eq_true c146]; rfl
                    have e : rt_allX M S (i + 1) = rt_goes (rt_allX M S i).1 (rt_allX M S i).2.1 := rt_all_go hv c18 hg
                    refine ka_aload_n hC dX7_doesAll_151 rfl ?_
                    refine ka_dup hC dX7_doesAll_152 rfl ?_
                    refine kmg_X7_189  hC dX7_doesAll_153 ?_
                    refine ka_iconst (v := 1) hC dX7_doesAll_156 rfl ?_
                    refine ka_iadd hC dX7_doesAll_157 ?_
                    refine kmp_X7_189  hC dX7_doesAll_158 ?_
                    refine ka_I.eqW (V' := ka_ms V (rt_goes (rt_allX M S i).1 (rt_allX M S i).2.1).1 (rt_goes (rt_allX M S i).1 (rt_allX M S i).2.1).2.1) rt_goes_W ?_
                    refine ka_goto (tgt := 10) hC dX7_doesAll_161 (by decide) ?_
                    exact ka_I.back 1 (by rw [e]) (by rfl) (ih10 (i + 1) (by omega) (by omega) (by rw [e]; exact rt_goes_t))
                  · skip
                    have hg : rt_good (rt_o6 (rt_allX M S i).1 (rt_allX M S i).2.1) = false := by unfold rt_good; rw [decide_eq_false c146, Bool.and_false]
                    have er : rt_all M S = rt_ends (rt_allX M S i).1 (rt_allX M S i).2.1 := rt_all_end hi hv c18 hg
                    refine ka_iconst (v := 0) hC dX7_doesAll_149 rfl ?_
                    exact ka_bret hC hR dX7_doesAll_150 (by rw [er]; exact rt_ends_V) rfl (by rw [er]; exact rt_ends_W)
              · skip
                have ec : rt_c (rt_allX M S i).1 (rt_allX M S i).2.1 = rt_called (rt_o5 (rt_allX M S i).1) (rt_allX M S i).2.1 (rt_s (rt_allX M S i).1) := by unfold rt_c; rw [if_pos c118]
                refine ka_aload_n hC dX7_doesAll_121 rfl ?_
                refine ka_iload_n hC dX7_doesAll_122 rfl ?_
                refine ka_callV hC (m_X7_called hG hMi) (ka_Rc_model ) rfl ka_q_ml_X7_204 ka_q_im_X7_called ka_q_se_X7_called ka_q_in_X7 ka_q_co_X7_called ky_X7_called (by decide) (by decide) (Nat.le_of_ble_eq_true rfl) rfl dX7_doesAll_123 ?_
                refine ka_goto (tgt := 130) hC dX7_doesAll_126 (by decide) ?_
                refine kmp_X7_207  hC dX7_doesAll_130 ?_
                refine ka_I.eqW (V' := ka_ms V (rt_o6 (rt_allX M S i).1 (rt_allX M S i).2.1) (rt_c (rt_allX M S i).1 (rt_allX M S i).2.1).2) (by unfold rt_o6; rw [ec]) ?_
                refine ka_aload_n hC dX7_doesAll_133 rfl ?_
                refine kmg_X7_181  hC dX7_doesAll_134 ?_
                refine ka_if_eq_b (tgt := 149) hC dX7_doesAll_137 (by decide) (fun c137 => ?_) (fun c137 => ?_)
                · skip
                  have hg : rt_good (rt_o6 (rt_allX M S i).1 (rt_allX M S i).2.1) = false := by unfold rt_good; rw [c137]; rfl
                  have er : rt_all M S = rt_ends (rt_allX M S i).1 (rt_allX M S i).2.1 := rt_all_end hi hv c18 hg
                  refine ka_iconst (v := 0) hC dX7_doesAll_149 rfl ?_
                  exact ka_bret hC hR dX7_doesAll_150 (by rw [er]; exact rt_ends_V) rfl (by rw [er]; exact rt_ends_W)
                · skip
                  refine ka_aload_n hC dX7_doesAll_140 rfl ?_
                  refine kmg_X7_207  hC dX7_doesAll_141 ?_
                  refine ka_ldc hC ka_q_cn_X7_28 dX7_doesAll_144 ?_
                  refine ka_icmp_gt (tgt := 151) hC dX7_doesAll_146 (by decide) (fun c146 => ?_) (fun c146 => ?_)
                  · skip
                    have hg : rt_good (rt_o6 (rt_allX M S i).1 (rt_allX M S i).2.1) = true := by unfold rt_good; rw [c137, decide_eq_true c146]; rfl
                    have e : rt_allX M S (i + 1) = rt_goes (rt_allX M S i).1 (rt_allX M S i).2.1 := rt_all_go hv c18 hg
                    refine ka_aload_n hC dX7_doesAll_151 rfl ?_
                    refine ka_dup hC dX7_doesAll_152 rfl ?_
                    refine kmg_X7_189  hC dX7_doesAll_153 ?_
                    refine ka_iconst (v := 1) hC dX7_doesAll_156 rfl ?_
                    refine ka_iadd hC dX7_doesAll_157 ?_
                    refine kmp_X7_189  hC dX7_doesAll_158 ?_
                    refine ka_I.eqW (V' := ka_ms V (rt_goes (rt_allX M S i).1 (rt_allX M S i).2.1).1 (rt_goes (rt_allX M S i).1 (rt_allX M S i).2.1).2.1) rt_goes_W ?_
                    refine ka_goto (tgt := 10) hC dX7_doesAll_161 (by decide) ?_
                    exact ka_I.back 1 (by rw [e]) (by rfl) (ih10 (i + 1) (by omega) (by omega) (by rw [e]; exact rt_goes_t))
                  · skip
                    have hg : rt_good (rt_o6 (rt_allX M S i).1 (rt_allX M S i).2.1) = false := by unfold rt_good; rw [decide_eq_false c146, Bool.and_false]
                    have er : rt_all M S = rt_ends (rt_allX M S i).1 (rt_allX M S i).2.1 := rt_all_end hi hv c18 hg
                    refine ka_iconst (v := 0) hC dX7_doesAll_149 rfl ?_
                    exact ka_bret hC hR dX7_doesAll_150 (by rw [er]; exact rt_ends_V) rfl (by rw [er]; exact rt_ends_W)
            · skip
              have hq : q < cn (rt_many (rt_s (rt_allX M S i).1)) := lt_cn hle73 c78
              have hq4 : q < 4 := Nat.lt_of_lt_of_le hq (rt_many_le _)
              refine ka_iload_n hC dX7_doesAll_81 rfl ?_
              refine ka_if_le (tgt := 91) hC dX7_doesAll_82 (by decide) (fun c82 => ?_) (fun c82 => ?_)
              · skip
                refine ka_I.eqW (V' := ka_ms V (rt_arg1 q (rt_argX (rt_o3 (rt_allX M S i).1) q)) (rt_allX M S i).2.1) (by unfold rt_arg1; first | rw [if_pos c82] | rw [if_neg c82]) ?_
                refine ka_aload_n hC dX7_doesAll_91 rfl ?_
                refine kg_X7_25  hC dX7_doesAll_92 ?_
                refine ka_iload_n hC dX7_doesAll_95 rfl ?_
                refine ka_aload_n hC dX7_doesAll_96 rfl ?_
                refine ka_callV hC (m_X7_number hG (tx_arg1 hTq).1.1) (ka_Rc_model ) rfl ka_q_ml_X7_201 ka_q_im_X7_number ka_q_se_X7_number ka_q_in_X7 ka_q_co_X7_number ky_X7_number (by decide) (by decide) (Nat.le_of_ble_eq_true rfl) rfl dX7_doesAll_97 ?_
                refine kms_mnums q hq4 rfl hC dX7_doesAll_100 ?_
                refine ka_iinc_2 (v := 1) hC dX7_doesAll_101 rfl (by decide) ?_
                refine ka_goto (tgt := 73) hC dX7_doesAll_104 (by decide) ?_
                exact ka_I.back 3 (by rw [rt_argX_s]; rfl) (by rw [← nI_1]; rfl) (ih73 (q + 1) (by omega) (by omega))
              · skip
                refine ka_aload_n hC dX7_doesAll_85 rfl ?_
                refine ka_bipush (v := 44) hC dX7_doesAll_86 rfl ?_
                refine ka_callV hC (m_X7_takesSign hG hTq) (ka_Rc_model ) rfl ka_q_ml_X7_198 ka_q_im_X7_takesSign ka_q_se_X7_takesSign ka_q_in_X7 ka_q_co_X7_takesSign ky_X7_takesSign (by decide) (by decide) (Nat.le_of_ble_eq_true rfl) rfl dX7_doesAll_88 ?_
                refine ka_I.eqW (V' := ka_ms V (rt_arg1 q (rt_argX (rt_o3 (rt_allX M S i).1) q)) (rt_allX M S i).2.1) (by unfold rt_arg1; first | rw [if_pos c82] | rw [if_neg c82]) ?_
                refine ka_aload_n hC dX7_doesAll_91 rfl ?_
                refine kg_X7_25  hC dX7_doesAll_92 ?_
                refine ka_iload_n hC dX7_doesAll_95 rfl ?_
                refine ka_aload_n hC dX7_doesAll_96 rfl ?_
                refine ka_callV hC (m_X7_number hG (tx_arg1 hTq).1.1) (ka_Rc_model ) rfl ka_q_ml_X7_201 ka_q_im_X7_number ka_q_se_X7_number ka_q_in_X7 ka_q_co_X7_number ky_X7_number (by decide) (by decide) (Nat.le_of_ble_eq_true rfl) rfl dX7_doesAll_97 ?_
                refine kms_mnums q hq4 rfl hC dX7_doesAll_100 ?_
                refine ka_iinc_2 (v := 1) hC dX7_doesAll_101 rfl (by decide) ?_
                refine ka_goto (tgt := 73) hC dX7_doesAll_104 (by decide) ?_
                exact ka_I.back 3 (by rw [rt_argX_s]; rfl) (by rw [← nI_1]; rfl) (ih73 (q + 1) (by omega) (by omega))
theorem ky_X7_fault : ka_y yX7_fault 1 := by unfold ka_y; decide +kernel
set_option maxHeartbeats 4000000 in
set_option maxRecDepth 100000 in
theorem m_X7_fault {G : ka_G} (hG : ka_AD G) {V : ka_W} {M : ka_P} {S : ka_F} (hl : ub 60 (M 0 6)) (hM : MK 1999 S) {a : Int32}  : ka_M G yX7_fault cX7_fault 3 (some FieldType.int) 8 [.ref (ka_ad G 9 0), .int a] (ka_ms V M S) (some (.int (rt_fault M S a))) (rt_faultW V M S a) := by
  refine ka_entry hG ka_pn_X7 (ka_cat1 rfl) (Nat.le_of_ble_eq_true rfl) (fun X hC hR => ?_)
  refine ka_iload_n hC dX7_fault_0 rfl ?_
  refine ka_iconst (v := 0) hC dX7_fault_1 rfl ?_
  refine ka_iconst (v := 2) hC dX7_fault_2 rfl ?_
  refine ka_callS hC (m_X7_in hG) ka_q_ml_X7_36 ka_q_st_X7_in ka_q_in_X7 ka_q_co_X7_in ky_X7_in (by decide) (by decide) (Nat.le_of_ble_eq_true rfl) rfl dX7_fault_3 ?_
  refine ka_if_ne_b (tgt := 12) hC dX7_fault_6 (by decide) (fun c6 => ?_) (fun c6 => ?_)
  · skip
    refine ka_aload_n hC dX7_fault_12 rfl ?_
    refine ka_callV hC (m_X7_begins hG) (ka_Rc_model ) rfl ka_q_ml_X7_104 ka_q_im_X7_begins ka_q_se_X7_begins ka_q_in_X7 ka_q_co_X7_begins ky_X7_begins (by decide) (by decide) (Nat.le_of_ble_eq_true rfl) rfl dX7_fault_13 ?_
    have hl2 : ub 60 (rf_beg M S 0 6) := by rw [rf_beg_n (by decide)]; exact hl
    refine ka_aload_n hC dX7_fault_16 rfl ?_
    refine ka_callV hC (m_X7_doesAll hG hl2 hM) (ka_Rc_model ) rfl ka_q_ml_X7_210 ka_q_im_X7_doesAll ka_q_se_X7_doesAll ka_q_in_X7 ka_q_co_X7_doesAll ky_X7_doesAll (by decide) (by decide) (Nat.le_of_ble_eq_true rfl) rfl dX7_fault_17 ?_
    refine ka_istore_n_p2 hC dX7_fault_20 (by decide) ?_
    refine ka_aload_n hC dX7_fault_21 rfl ?_
    refine ka_callV hC (m_X7_returns hG) (ka_Rc_model ) rfl ka_q_ml_X7_29 ka_q_im_X7_returns ka_q_se_X7_returns ka_q_in_X7 ka_q_co_X7_returns ky_X7_returns (by decide) (by decide) (Nat.le_of_ble_eq_true rfl) rfl dX7_fault_22 ?_
    refine ka_I.eqW (V' := ka_ms V (rt_all (rf_beg M S) S).1 (cpF 269 S (rt_all (rf_beg M S) S).2.1)) (by rw [(rt_all_2 hl hM).1, cpF_cp]) ?_
    refine ka_iload_n hC dX7_fault_25 rfl ?_
    refine ka_if_eq_b (tgt := 32) hC dX7_fault_26 (by decide) (fun c26 => ?_) (fun c26 => ?_)
    · skip
      refine ka_iload_n hC dX7_fault_32 rfl ?_
      refine ka_if_ne (tgt := 43) hC dX7_fault_33 (by decide) (fun c33 => ?_) (fun c33 => ?_)
      · skip
        refine ka_iload_n hC dX7_fault_43 rfl ?_
        refine ka_iconst (v := 1) hC dX7_fault_44 rfl ?_
        refine ka_icmp_ne (tgt := 63) hC dX7_fault_45 (by decide) (fun c45 => ?_) (fun c45 => ?_)
        · skip
          refine ka_aload_n hC dX7_fault_63 rfl ?_
          refine kmg_X7_181  hC dX7_fault_64 ?_
          refine ka_if_eq_b (tgt := 77) hC dX7_fault_67 (by decide) (fun c67 => ?_) (fun c67 => ?_)
          · skip
            refine ka_aload_n hC dX7_fault_77 rfl ?_
            refine kmg_X7_175  hC dX7_fault_78 ?_
            refine ka_aload_n hC dX7_fault_81 rfl ?_
            refine kmg_X7_192  hC dX7_fault_82 ?_
            refine ka_isub hC dX7_fault_85 ?_
            exact ka_iret hC hR dX7_fault_86 (by first | with_reducible rfl | (simp only [rt_fault, rt_faultW, rt_faultR, c6, c26, c33, c45, c67]; done) | (simp only [rt_fault, rt_faultW, rt_faultR, c6, c26, if_neg c33, if_pos c33, if_neg c45, if_pos c45, c67]; done) | (simp [rt_fault, rt_faultW, rt_faultR, c6, c26, c33, c45, c67]; done) | (simp [rt_fault, rt_faultW, rt_faultR, c6, c26, if_neg c33, if_pos c33, if_neg c45, if_pos c45, c67]; done) | contradiction | rfl) (by first | with_reducible rfl | (simp only [rt_fault, rt_faultW, rt_faultR, c6, c26, c33, c45, c67]; done) | (simp only [rt_fault, rt_faultW, rt_faultR, c6, c26, if_neg c33, if_pos c33, if_neg c45, if_pos c45, c67]; done) | (simp [rt_fault, rt_faultW, rt_faultR, c6, c26, c33, c45, c67]; done) | (simp [rt_fault, rt_faultW, rt_faultR, c6, c26, if_neg c33, if_pos c33, if_neg c45, if_pos c45, c67]; done) | contradiction | rfl)
          · skip
            refine ka_aload_n hC dX7_fault_70 rfl ?_
            refine kmg_X7_207  hC dX7_fault_71 ?_
            refine ka_goto (tgt := 86) hC dX7_fault_74 (by decide) ?_
            exact ka_iret hC hR dX7_fault_86 (by first | with_reducible rfl | (simp only [rt_fault, rt_faultW, rt_faultR, c6, c26, c33, c45, c67]; done) | (simp only [rt_fault, rt_faultW, rt_faultR, c6, c26, if_neg c33, if_pos c33, if_neg c45, if_pos c45, c67]; done) | (simp [rt_fault, rt_faultW, rt_faultR, c6, c26, c33, c45, c67]; done) | (simp [rt_fault, rt_faultW, rt_faultR, c6, c26, if_neg c33, if_pos c33, if_neg c45, if_pos c45, c67]; done) | contradiction | rfl) (by first | with_reducible rfl | (simp only [rt_fault, rt_faultW, rt_faultR, c6, c26, c33, c45, c67]; done) | (simp only [rt_fault, rt_faultW, rt_faultR, c6, c26, if_neg c33, if_pos c33, if_neg c45, if_pos c45, c67]; done) | (simp [rt_fault, rt_faultW, rt_faultR, c6, c26, c33, c45, c67]; done) | (simp [rt_fault, rt_faultW, rt_faultR, c6, c26, if_neg c33, if_pos c33, if_neg c45, if_pos c45, c67]; done) | contradiction | rfl)
        · skip
          refine ka_aload_n hC dX7_fault_48 rfl ?_
          refine kmg_X7_181  hC dX7_fault_49 ?_
          refine ka_if_eq_b (tgt := 59) hC dX7_fault_52 (by decide) (fun c52 => ?_) (fun c52 => ?_)
          · skip
            refine ka_iconst (v := 1) hC dX7_fault_59 rfl ?_
            refine ka_goto (tgt := 86) hC dX7_fault_60 (by decide) ?_
            exact ka_iret hC hR dX7_fault_86 (by first | with_reducible rfl | (simp only [rt_fault, rt_faultW, rt_faultR, c6, c26, c33, c45, c52]; done) | (simp only [rt_fault, rt_faultW, rt_faultR, c6, c26, if_neg c33, if_pos c33, if_pos c45, if_neg (not_not_intro c45), c52]; done) | (simp [rt_fault, rt_faultW, rt_faultR, c6, c26, c33, c45, c52]; done) | (simp [rt_fault, rt_faultW, rt_faultR, c6, c26, if_neg c33, if_pos c33, if_pos c45, if_neg (not_not_intro c45), c52]; done) | contradiction | rfl) (by first | with_reducible rfl | (simp only [rt_fault, rt_faultW, rt_faultR, c6, c26, c33, c45, c52]; done) | (simp only [rt_fault, rt_faultW, rt_faultR, c6, c26, if_neg c33, if_pos c33, if_pos c45, if_neg (not_not_intro c45), c52]; done) | (simp [rt_fault, rt_faultW, rt_faultR, c6, c26, c33, c45, c52]; done) | (simp [rt_fault, rt_faultW, rt_faultR, c6, c26, if_neg c33, if_pos c33, if_pos c45, if_neg (not_not_intro c45), c52]; done) | contradiction | rfl)
          · skip
            refine ka_iconst (v := 2) hC dX7_fault_55 rfl ?_
            refine ka_goto (tgt := 86) hC dX7_fault_56 (by decide) ?_
            exact ka_iret hC hR dX7_fault_86 (by first | with_reducible rfl | (simp only [rt_fault, rt_faultW, rt_faultR, c6, c26, c33, c45, c52]; done) | (simp only [rt_fault, rt_faultW, rt_faultR, c6, c26, if_neg c33, if_pos c33, if_pos c45, if_neg (not_not_intro c45), c52]; done) | (simp [rt_fault, rt_faultW, rt_faultR, c6, c26, c33, c45, c52]; done) | (simp [rt_fault, rt_faultW, rt_faultR, c6, c26, if_neg c33, if_pos c33, if_pos c45, if_neg (not_not_intro c45), c52]; done) | contradiction | rfl) (by first | with_reducible rfl | (simp only [rt_fault, rt_faultW, rt_faultR, c6, c26, c33, c45, c52]; done) | (simp only [rt_fault, rt_faultW, rt_faultR, c6, c26, if_neg c33, if_pos c33, if_pos c45, if_neg (not_not_intro c45), c52]; done) | (simp [rt_fault, rt_faultW, rt_faultR, c6, c26, c33, c45, c52]; done) | (simp [rt_fault, rt_faultW, rt_faultR, c6, c26, if_neg c33, if_pos c33, if_pos c45, if_neg (not_not_intro c45), c52]; done) | contradiction | rfl)
      · skip
        refine ka_aload_n hC dX7_fault_36 rfl ?_
        refine kmg_X7_192  hC dX7_fault_37 ?_
        refine ka_goto (tgt := 86) hC dX7_fault_40 (by decide) ?_
        exact ka_iret hC hR dX7_fault_86 (by first | with_reducible rfl | (simp only [rt_fault, rt_faultW, rt_faultR, c6, c26, c33]; done) | (simp only [rt_fault, rt_faultW, rt_faultR, c6, c26, if_pos c33, if_neg (not_not_intro c33)]; done) | (simp [rt_fault, rt_faultW, rt_faultR, c6, c26, c33]; done) | (simp [rt_fault, rt_faultW, rt_faultR, c6, c26, if_pos c33, if_neg (not_not_intro c33)]; done) | contradiction | rfl) (by first | with_reducible rfl | (simp only [rt_fault, rt_faultW, rt_faultR, c6, c26, c33]; done) | (simp only [rt_fault, rt_faultW, rt_faultR, c6, c26, if_pos c33, if_neg (not_not_intro c33)]; done) | (simp [rt_fault, rt_faultW, rt_faultR, c6, c26, c33]; done) | (simp [rt_fault, rt_faultW, rt_faultR, c6, c26, if_pos c33, if_neg (not_not_intro c33)]; done) | contradiction | rfl)
    · skip
      refine ka_ldc hC ka_q_cn_X7_132 dX7_fault_29 ?_
      exact ka_iret hC hR dX7_fault_31 (by first | with_reducible rfl | (simp only [rt_fault, rt_faultW, rt_faultR, c6, c26]; done) | (simp only [rt_fault, rt_faultW, rt_faultR, c6, c26]; done) | (simp [rt_fault, rt_faultW, rt_faultR, c6, c26]; done) | (simp [rt_fault, rt_faultW, rt_faultR, c6, c26]; done) | contradiction | rfl) (by first | with_reducible rfl | (simp only [rt_fault, rt_faultW, rt_faultR, c6, c26]; done) | (simp only [rt_fault, rt_faultW, rt_faultR, c6, c26]; done) | (simp [rt_fault, rt_faultW, rt_faultR, c6, c26]; done) | (simp [rt_fault, rt_faultW, rt_faultR, c6, c26]; done) | contradiction | rfl)
  · skip
    refine ka_ldc hC ka_q_cn_X7_28 dX7_fault_9 ?_
    exact ka_iret hC hR dX7_fault_11 (by first | with_reducible rfl | (simp only [rt_fault, rt_faultW, rt_faultR, c6]; done) | (simp only [rt_fault, rt_faultW, rt_faultR, c6]; done) | (simp [rt_fault, rt_faultW, rt_faultR, c6]; done) | (simp [rt_fault, rt_faultW, rt_faultR, c6]; done) | contradiction | rfl) (by first | with_reducible rfl | (simp only [rt_fault, rt_faultW, rt_faultR, c6]; done) | (simp only [rt_fault, rt_faultW, rt_faultR, c6]; done) | (simp [rt_fault, rt_faultW, rt_faultR, c6]; done) | (simp [rt_fault, rt_faultW, rt_faultR, c6]; done) | contradiction | rfl)
theorem ky_X7_play : ka_y yX7_play 0 := by unfold ka_y; decide +kernel
set_option maxHeartbeats 4000000 in
set_option maxRecDepth 100000 in
theorem m_X7_play {G : ka_G} (hG : ka_AD G) {V : ka_W} {M : ka_P} {S : ka_F} (hl : ub 60 (M 0 6)) (hM : MK 1999 S) (ht : ub 4 (M 0 4))  : ka_M G yX7_play cX7_play 1 (some FieldType.int) 8 [.ref (ka_ad G 9 0)] (ka_ms V M S) (some (.int (rt_playA M S))) (rt_playW V M S) := by
  refine ka_entry hG ka_pn_X7 (ka_cat1 rfl) (Nat.le_of_ble_eq_true rfl) (fun X hC hR => ?_)
  refine ka_aload_n hC dX7_play_0 rfl ?_
  refine ka_callV hC (m_X7_begins hG) (ka_Rc_model ) rfl ka_q_ml_X7_104 ka_q_im_X7_begins ka_q_se_X7_begins ka_q_in_X7 ka_q_co_X7_begins ky_X7_begins (by decide) (by decide) (Nat.le_of_ble_eq_true rfl) rfl dX7_play_1 ?_
  have hl2 : ub 60 (rf_beg M S 0 6) := by rw [rf_beg_n (by decide)]; exact hl
  have ht2 : ub 4 ((rt_all (rf_beg M S) S).1 0 4) := by rw [(rt_all_2 hl hM).2]; exact ht
  refine ka_aload_n hC dX7_play_4 rfl ?_
  refine ka_aload_n hC dX7_play_5 rfl ?_
  refine ka_callV hC (m_X7_doesAll hG hl2 hM) (ka_Rc_model ) rfl ka_q_ml_X7_210 ka_q_im_X7_doesAll ka_q_se_X7_doesAll ka_q_in_X7 ka_q_co_X7_doesAll ky_X7_doesAll (by decide) (by decide) (Nat.le_of_ble_eq_true rfl) rfl dX7_play_6 ?_
  refine ka_if_eq_b (tgt := 19) hC dX7_play_9 (by decide) (fun c9 => ?_) (fun c9 => ?_)
  · skip
    refine ka_ldc hC ka_q_cn_X7_93 dX7_play_19 ?_
    refine ka_callV hC (m_X7_acted hG ht2) (ka_Rc_model ) rfl ka_q_ml_X7_107 ka_q_im_X7_acted ka_q_se_X7_acted ka_q_in_X7 ka_q_co_X7_acted ky_X7_acted (by decide) (by decide) (Nat.le_of_ble_eq_true rfl) rfl dX7_play_21 ?_
    exact ka_iret hC hR dX7_play_24 (by unfold rt_playA; first | rw [if_pos c9] | rw [if_neg (by rw [c9]; decide)]) (by unfold rt_playW rt_playA; first | rw [if_pos c9] | rw [if_neg (by rw [c9]; decide)])
  · skip
    refine ka_aload_n hC dX7_play_12 rfl ?_
    refine kmg_X7_189  hC dX7_play_13 ?_
    refine ka_goto (tgt := 21) hC dX7_play_16 (by decide) ?_
    refine ka_callV hC (m_X7_acted hG ht2) (ka_Rc_model ) rfl ka_q_ml_X7_107 ka_q_im_X7_acted ka_q_se_X7_acted ka_q_in_X7 ka_q_co_X7_acted ky_X7_acted (by decide) (by decide) (Nat.le_of_ble_eq_true rfl) rfl dX7_play_21 ?_
    exact ka_iret hC hR dX7_play_24 (by unfold rt_playA; first | rw [if_pos c9] | rw [if_neg (by rw [c9]; decide)]) (by unfold rt_playW rt_playA; first | rw [if_pos c9] | rw [if_neg (by rw [c9]; decide)])
