theorem ky_X7_in : ka_y yX7_in 3 := by unfold ka_y; decide +kernel
set_option maxHeartbeats 4000000 in
set_option maxRecDepth 100000 in
theorem m_X7_in {G : ka_G} (hG : ka_AD G) {V : ka_W} {v lo hi : Int32}  : ka_M G yX7_in cX7_in 3 (some FieldType.boolean) 0 [.int v, .int lo, .int hi] (V) (some (.int (ka_b (kw v lo hi)))) (V) := by
  refine ka_entry hG ka_pn_X7 (ka_cat1 rfl) (Nat.le_of_ble_eq_true rfl) (fun X hC hR => ?_)
  refine ka_iload_n hC dX7_in_0 rfl ?_
  refine ka_iload_n hC dX7_in_1 rfl ?_
  refine ka_icmp_lt (tgt := 14) hC dX7_in_2 (by decide) (fun c2 => ?_) (fun c2 => ?_)
  · skip
    refine ka_iconst (v := 0) hC dX7_in_14 rfl ?_
    exact ka_bret hC hR dX7_in_15 (by first | with_reducible rfl | (simp only [kw, ka_b, c2]; done) | (simp only [kw, ka_b, if_pos c2, if_neg (not_not_intro c2)]; done) | (simp [kw, ka_b, c2]; done) | (simp [kw, ka_b, if_pos c2, if_neg (not_not_intro c2)]; done) | contradiction | rfl) rfl (by first | with_reducible rfl | (simp only [kw, ka_b, c2]; done) | (simp only [kw, ka_b, if_pos c2, if_neg (not_not_intro c2)]; done) | (simp [kw, ka_b, c2]; done) | (simp [kw, ka_b, if_pos c2, if_neg (not_not_intro c2)]; done) | contradiction | rfl)
  · skip
    refine ka_iload_n hC dX7_in_5 rfl ?_
    refine ka_iload_n hC dX7_in_6 rfl ?_
    refine ka_icmp_gt (tgt := 14) hC dX7_in_7 (by decide) (fun c7 => ?_) (fun c7 => ?_)
    · skip
      refine ka_iconst (v := 0) hC dX7_in_14 rfl ?_
      exact ka_bret hC hR dX7_in_15 (by first | with_reducible rfl | (simp only [kw, ka_b, c2, c7]; done) | (simp only [kw, ka_b, if_neg c2, if_pos c2, if_pos c7, if_neg (not_not_intro c7)]; done) | (simp [kw, ka_b, c2, c7]; done) | (simp [kw, ka_b, if_neg c2, if_pos c2, if_pos c7, if_neg (not_not_intro c7)]; done) | contradiction | rfl) rfl (by first | with_reducible rfl | (simp only [kw, ka_b, c2, c7]; done) | (simp only [kw, ka_b, if_neg c2, if_pos c2, if_pos c7, if_neg (not_not_intro c7)]; done) | (simp [kw, ka_b, c2, c7]; done) | (simp [kw, ka_b, if_neg c2, if_pos c2, if_pos c7, if_neg (not_not_intro c7)]; done) | contradiction | rfl)
    · skip
      refine ka_iconst (v := 1) hC dX7_in_10 rfl ?_
      refine ka_goto (tgt := 15) hC dX7_in_11 (by decide) ?_
      exact ka_bret hC hR dX7_in_15 (by first | with_reducible rfl | (simp only [kw, ka_b, c2, c7]; done) | (simp only [kw, ka_b, if_neg c2, if_pos c2, if_neg c7, if_pos c7]; done) | (simp [kw, ka_b, c2, c7]; done) | (simp [kw, ka_b, if_neg c2, if_pos c2, if_neg c7, if_pos c7]; done) | contradiction | rfl) rfl (by first | with_reducible rfl | (simp only [kw, ka_b, c2, c7]; done) | (simp only [kw, ka_b, if_neg c2, if_pos c2, if_neg c7, if_pos c7]; done) | (simp [kw, ka_b, c2, c7]; done) | (simp [kw, ka_b, if_neg c2, if_pos c2, if_neg c7, if_pos c7]; done) | contradiction | rfl)
theorem ky_X7_isPlace : ka_y yX7_isPlace 1 := by unfold ka_y; decide +kernel
set_option maxHeartbeats 4000000 in
set_option maxRecDepth 100000 in
theorem m_X7_isPlace {G : ka_G} (hG : ka_AD G) {V : ka_W} {M : ka_P} {S : ka_F} {x : Int32}  : ka_M G yX7_isPlace cX7_isPlace 2 (some FieldType.boolean) 1 [.ref (ka_ad G 9 0), .int x] (ka_ms V M S) (some (.int (ka_b (rf_isPlace S x)))) (ka_ms V M S) := by
  refine ka_entry hG ka_pn_X7 (ka_cat1 rfl) (Nat.le_of_ble_eq_true rfl) (fun X hC hR => ?_)
  refine ka_iload_n hC dX7_isPlace_0 rfl ?_
  refine ka_iconst (v := 0) hC dX7_isPlace_1 rfl ?_
  refine ka_aload_n hC dX7_isPlace_2 rfl ?_
  refine kg_X7_7  hC dX7_isPlace_3 ?_
  refine ka_iconst (v := 0) hC dX7_isPlace_6 rfl ?_
  refine km_ld 0 (by decide) rfl hC dX7_isPlace_7 ?_
  refine ka_callS hC (m_X7_in hG) ka_q_ml_X7_36 ka_q_st_X7_in ka_q_in_X7 ka_q_co_X7_in ky_X7_in (by decide) (by decide) (Nat.le_of_ble_eq_true rfl) rfl dX7_isPlace_8 ?_
  exact ka_bret hC hR dX7_isPlace_11 (by first | with_reducible rfl | (simp only []; done) | (simp only []; done) | (simp []; done) | (simp []; done) | contradiction | rfl) rfl (by first | with_reducible rfl | (simp only []; done) | (simp only []; done) | (simp []; done) | (simp []; done) | contradiction | rfl)
theorem ky_X7_isMine : ka_y yX7_isMine 1 := by unfold ka_y; decide +kernel
set_option maxHeartbeats 4000000 in
set_option maxRecDepth 100000 in
theorem m_X7_isMine {G : ka_G} (hG : ka_AD G) {V : ka_W} {M : ka_P} {S : ka_F} {x : Int32}  : ka_M G yX7_isMine cX7_isMine 2 (some FieldType.boolean) 1 [.ref (ka_ad G 9 0), .int x] (ka_ms V M S) (some (.int (ka_b (rf_isMine S x)))) (ka_ms V M S) := by
  refine ka_entry hG ka_pn_X7 (ka_cat1 rfl) (Nat.le_of_ble_eq_true rfl) (fun X hC hR => ?_)
  refine ka_iload_n hC dX7_isMine_0 rfl ?_
  refine ka_iconst (v := 1) hC dX7_isMine_1 rfl ?_
  refine ka_aload_n hC dX7_isMine_2 rfl ?_
  refine kg_X7_7  hC dX7_isMine_3 ?_
  refine ka_iconst (v := 0) hC dX7_isMine_6 rfl ?_
  refine km_ld 0 (by decide) rfl hC dX7_isMine_7 ?_
  refine ka_callS hC (m_X7_in hG) ka_q_ml_X7_36 ka_q_st_X7_in ka_q_in_X7 ka_q_co_X7_in ky_X7_in (by decide) (by decide) (Nat.le_of_ble_eq_true rfl) rfl dX7_isMine_8 ?_
  exact ka_bret hC hR dX7_isMine_11 (by first | with_reducible rfl | (simp only []; done) | (simp only []; done) | (simp []; done) | (simp []; done) | contradiction | rfl) rfl (by first | with_reducible rfl | (simp only []; done) | (simp only []; done) | (simp []; done) | (simp []; done) | contradiction | rfl)
theorem ky_X7_isWagon : ka_y yX7_isWagon 1 := by unfold ka_y; decide +kernel
set_option maxHeartbeats 4000000 in
set_option maxRecDepth 100000 in
theorem m_X7_isWagon {G : ka_G} (hG : ka_AD G) {V : ka_W} {M : ka_P} {S : ka_F} {x : Int32}  : ka_M G yX7_isWagon cX7_isWagon 2 (some FieldType.boolean) 1 [.ref (ka_ad G 9 0), .int x] (ka_ms V M S) (some (.int (ka_b (rf_isWagon S x)))) (ka_ms V M S) := by
  refine ka_entry hG ka_pn_X7 (ka_cat1 rfl) (Nat.le_of_ble_eq_true rfl) (fun X hC hR => ?_)
  refine ka_iload_n hC dX7_isWagon_0 rfl ?_
  refine ka_iconst (v := 0) hC dX7_isWagon_1 rfl ?_
  refine ka_aload_n hC dX7_isWagon_2 rfl ?_
  refine kg_X7_7  hC dX7_isWagon_3 ?_
  refine ka_iconst (v := 1) hC dX7_isWagon_6 rfl ?_
  refine km_ld 1 (by decide) rfl hC dX7_isWagon_7 ?_
  refine ka_iconst (v := 1) hC dX7_isWagon_8 rfl ?_
  refine ka_isub hC dX7_isWagon_9 ?_
  refine ka_callS hC (m_X7_in hG) ka_q_ml_X7_36 ka_q_st_X7_in ka_q_in_X7 ka_q_co_X7_in ky_X7_in (by decide) (by decide) (Nat.le_of_ble_eq_true rfl) rfl dX7_isWagon_10 ?_
  exact ka_bret hC hR dX7_isWagon_13 (by first | with_reducible rfl | (simp only []; done) | (simp only []; done) | (simp []; done) | (simp []; done) | contradiction | rfl) rfl (by first | with_reducible rfl | (simp only []; done) | (simp only []; done) | (simp []; done) | (simp []; done) | contradiction | rfl)
theorem ky_X7_has : ka_y yX7_has 2 := by unfold ka_y; decide +kernel
set_option maxHeartbeats 4000000 in
set_option maxRecDepth 100000 in
theorem m_X7_has {G : ka_G} (hG : ka_AD G) {V : ka_W} {M : ka_P} {S : ka_F} {x y : Int32} (p k : Nat) (hp : p < 5) (hk : k < 6) (hx : x = nI p) (hy : y = nI k)  : ka_M G yX7_has cX7_has 3 (some FieldType.int) 0 [.ref (ka_ad G 9 0), .int x, .int y] (ka_ms V M S) (some (.int (pg S p k))) (ka_ms V M S) := by
  refine ka_entry hG ka_pn_X7 (ka_cat1 rfl) (Nat.le_of_ble_eq_true rfl) (fun X hC hR => ?_)
  refine ka_aload_n hC dX7_has_0 rfl ?_
  refine kg_X7_7  hC dX7_has_1 ?_
  refine ka_bipush (v := 39) hC dX7_has_4 rfl ?_
  refine ka_bipush (v := 6) hC dX7_has_6 rfl ?_
  refine ka_iload_n hC dX7_has_8 rfl ?_
  refine ka_imul hC dX7_has_9 ?_
  refine ka_iadd hC dX7_has_10 ?_
  refine ka_iload_n hC dX7_has_11 rfl ?_
  refine ka_iadd hC dX7_has_12 ?_
  refine km_ld (39 + 6 * p + k) (by omega) (ix_p p k hx hy) hC dX7_has_13 ?_
  exact ka_iret hC hR dX7_has_14 (by first | with_reducible rfl | (simp only []; done) | (simp only []; done) | (simp []; done) | (simp []; done) | contradiction | rfl) (by first | with_reducible rfl | (simp only []; done) | (simp only []; done) | (simp []; done) | (simp []; done) | contradiction | rfl)
theorem ky_X7_adds : ka_y yX7_adds 3 := by unfold ka_y; decide +kernel
set_option maxHeartbeats 4000000 in
set_option maxRecDepth 100000 in
theorem m_X7_adds {G : ka_G} (hG : ka_AD G) {V : ka_W} {M : ka_P} {S : ka_F} {x y : Int32} (p k : Nat) (hp : p < 5) (hk : k < 6) (hx : x = nI p) (hy : y = nI k) {v : Int32}  : ka_M G yX7_adds cX7_adds 4 none 0 [.ref (ka_ad G 9 0), .int x, .int y, .int v] (ka_ms V M S) none (ka_ms V M (qA S p k v)) := by
  refine ka_entry hG ka_pn_X7 (ka_cat1 rfl) (Nat.le_of_ble_eq_true rfl) (fun X hC hR => ?_)
  refine ka_aload_n hC dX7_adds_0 rfl ?_
  refine kg_X7_7  hC dX7_adds_1 ?_
  refine ka_bipush (v := 39) hC dX7_adds_4 rfl ?_
  refine ka_bipush (v := 6) hC dX7_adds_6 rfl ?_
  refine ka_iload_n hC dX7_adds_8 rfl ?_
  refine ka_imul hC dX7_adds_9 ?_
  refine ka_iadd hC dX7_adds_10 ?_
  refine ka_iload_n hC dX7_adds_11 rfl ?_
  refine ka_iadd hC dX7_adds_12 ?_
  refine ka_dup2 hC dX7_adds_13 rfl rfl ?_
  refine km_ld (39 + 6 * p + k) (by omega) (ix_p p k hx hy) hC dX7_adds_14 ?_
  refine ka_iload_n hC dX7_adds_15 rfl ?_
  refine ka_iadd hC dX7_adds_16 ?_
  refine km_st (39 + 6 * p + k) (by omega) (ix_p p k hx hy) hC dX7_adds_17 ?_
  exact ka_vret hC hR dX7_adds_18 rfl (by first | with_reducible rfl | (simp only []; done) | (simp only []; done) | (simp []; done) | (simp []; done) | contradiction | rfl)
theorem ky_X7_of : ka_y yX7_of 2 := by unfold ka_y; decide +kernel
set_option maxHeartbeats 4000000 in
set_option maxRecDepth 100000 in
theorem m_X7_of {G : ka_G} (hG : ka_AD G) {V : ka_W} {M : ka_P} {S : ka_F} {x y : Int32} (w k : Nat) (hw : w < 20) (hk : k < 10) (hx : x = nI w) (hy : y = nI k)  : ka_M G yX7_of cX7_of 3 (some FieldType.int) 0 [.ref (ka_ad G 9 0), .int x, .int y] (ka_ms V M S) (some (.int (wg S w k))) (ka_ms V M S) := by
  refine ka_entry hG ka_pn_X7 (ka_cat1 rfl) (Nat.le_of_ble_eq_true rfl) (fun X hC hR => ?_)
  refine ka_aload_n hC dX7_of_0 rfl ?_
  refine kg_X7_7  hC dX7_of_1 ?_
  refine ka_bipush (v := 69) hC dX7_of_4 rfl ?_
  refine ka_bipush (v := 10) hC dX7_of_6 rfl ?_
  refine ka_iload_n hC dX7_of_8 rfl ?_
  refine ka_imul hC dX7_of_9 ?_
  refine ka_iadd hC dX7_of_10 ?_
  refine ka_iload_n hC dX7_of_11 rfl ?_
  refine ka_iadd hC dX7_of_12 ?_
  refine km_ld (69 + 10 * w + k) (by omega) (ix_w w k hx hy) hC dX7_of_13 ?_
  exact ka_iret hC hR dX7_of_14 (by first | with_reducible rfl | (simp only []; done) | (simp only []; done) | (simp []; done) | (simp []; done) | contradiction | rfl) (by first | with_reducible rfl | (simp only []; done) | (simp only []; done) | (simp []; done) | (simp []; done) | contradiction | rfl)
theorem ky_X7_lays : ka_y yX7_lays 3 := by unfold ka_y; decide +kernel
set_option maxHeartbeats 4000000 in
set_option maxRecDepth 100000 in
theorem m_X7_lays {G : ka_G} (hG : ka_AD G) {V : ka_W} {M : ka_P} {S : ka_F} {x y : Int32} (w k : Nat) (hw : w < 20) (hk : k < 10) (hx : x = nI w) (hy : y = nI k) {v : Int32}  : ka_M G yX7_lays cX7_lays 4 none 0 [.ref (ka_ad G 9 0), .int x, .int y, .int v] (ka_ms V M S) none (ka_ms V M (wU S w k v)) := by
  refine ka_entry hG ka_pn_X7 (ka_cat1 rfl) (Nat.le_of_ble_eq_true rfl) (fun X hC hR => ?_)
  refine ka_aload_n hC dX7_lays_0 rfl ?_
  refine kg_X7_7  hC dX7_lays_1 ?_
  refine ka_bipush (v := 69) hC dX7_lays_4 rfl ?_
  refine ka_bipush (v := 10) hC dX7_lays_6 rfl ?_
  refine ka_iload_n hC dX7_lays_8 rfl ?_
  refine ka_imul hC dX7_lays_9 ?_
  refine ka_iadd hC dX7_lays_10 ?_
  refine ka_iload_n hC dX7_lays_11 rfl ?_
  refine ka_iadd hC dX7_lays_12 ?_
  refine ka_iload_n hC dX7_lays_13 rfl ?_
  refine km_st (69 + 10 * w + k) (by omega) (ix_w w k hx hy) hC dX7_lays_14 ?_
  exact ka_vret hC hR dX7_lays_15 rfl (by first | with_reducible rfl | (simp only []; done) | (simp only []; done) | (simp []; done) | (simp []; done) | contradiction | rfl)
theorem ky_X7_stands : ka_y yX7_stands 2 := by unfold ka_y; decide +kernel
set_option maxHeartbeats 4000000 in
set_option maxRecDepth 100000 in
theorem m_X7_stands {G : ka_G} (hG : ka_AD G) {V : ka_W} {M : ka_P} {S : ka_F} {w : Nat} (hw : w < 20) {x : Int32}  : ka_M G yX7_stands cX7_stands 3 (some FieldType.boolean) 1 [.ref (ka_ad G 9 0), .int (nI w), .int x] (ka_ms V M S) (some (.int (ka_b (rf_stands S w x)))) (ka_ms V M S) := by
  refine ka_entry hG ka_pn_X7 (ka_cat1 rfl) (Nat.le_of_ble_eq_true rfl) (fun X hC hR => ?_)
  refine ka_aload_n hC dX7_stands_0 rfl ?_
  refine ka_iload_n hC dX7_stands_1 rfl ?_
  refine ka_iconst (v := 3) hC dX7_stands_2 rfl ?_
  refine ka_callV hC (m_X7_of hG w 3 hw (by decide) rfl rfl) (ka_Rc_model ) rfl ka_q_ml_X7_40 ka_q_im_X7_of ka_q_se_X7_of ka_q_in_X7 ka_q_co_X7_of ky_X7_of (by decide) (by decide) (Nat.le_of_ble_eq_true rfl) rfl dX7_stands_3 ?_
  refine ka_if_ne (tgt := 23) hC dX7_stands_6 (by decide) (fun c6 => ?_) (fun c6 => ?_)
  · skip
    refine ka_iconst (v := 0) hC dX7_stands_23 rfl ?_
    exact ka_bret hC hR dX7_stands_24 (by first | with_reducible rfl | (simp only [rf_stands, ka_b, c6]; done) | (simp only [rf_stands, ka_b, if_neg c6, if_pos c6]; done) | (simp [rf_stands, ka_b, c6]; done) | (simp [rf_stands, ka_b, if_neg c6, if_pos c6]; done) | contradiction | rfl) rfl (by first | with_reducible rfl | (simp only [rf_stands, ka_b, c6]; done) | (simp only [rf_stands, ka_b, if_neg c6, if_pos c6]; done) | (simp [rf_stands, ka_b, c6]; done) | (simp [rf_stands, ka_b, if_neg c6, if_pos c6]; done) | contradiction | rfl)
  · skip
    refine ka_aload_n hC dX7_stands_9 rfl ?_
    refine ka_iload_n hC dX7_stands_10 rfl ?_
    refine ka_iconst (v := 1) hC dX7_stands_11 rfl ?_
    refine ka_callV hC (m_X7_of hG w 1 hw (by decide) rfl rfl) (ka_Rc_model ) rfl ka_q_ml_X7_40 ka_q_im_X7_of ka_q_se_X7_of ka_q_in_X7 ka_q_co_X7_of ky_X7_of (by decide) (by decide) (Nat.le_of_ble_eq_true rfl) rfl dX7_stands_12 ?_
    refine ka_iload_n hC dX7_stands_15 rfl ?_
    refine ka_icmp_ne (tgt := 23) hC dX7_stands_16 (by decide) (fun c16 => ?_) (fun c16 => ?_)
    · skip
      refine ka_iconst (v := 0) hC dX7_stands_23 rfl ?_
      exact ka_bret hC hR dX7_stands_24 (by first | with_reducible rfl | (simp only [rf_stands, ka_b, c6, c16]; done) | (simp only [rf_stands, ka_b, if_pos c6, if_neg (not_not_intro c6), if_neg c16, if_pos c16]; done) | (simp [rf_stands, ka_b, c6, c16]; done) | (simp [rf_stands, ka_b, if_pos c6, if_neg (not_not_intro c6), if_neg c16, if_pos c16]; done) | contradiction | rfl) rfl (by first | with_reducible rfl | (simp only [rf_stands, ka_b, c6, c16]; done) | (simp only [rf_stands, ka_b, if_pos c6, if_neg (not_not_intro c6), if_neg c16, if_pos c16]; done) | (simp [rf_stands, ka_b, c6, c16]; done) | (simp [rf_stands, ka_b, if_pos c6, if_neg (not_not_intro c6), if_neg c16, if_pos c16]; done) | contradiction | rfl)
    · skip
      refine ka_iconst (v := 1) hC dX7_stands_19 rfl ?_
      refine ka_goto (tgt := 24) hC dX7_stands_20 (by decide) ?_
      exact ka_bret hC hR dX7_stands_24 (by first | with_reducible rfl | (simp only [rf_stands, ka_b, c6, c16]; done) | (simp only [rf_stands, ka_b, if_pos c6, if_neg (not_not_intro c6), if_pos c16, if_neg (not_not_intro c16)]; done) | (simp [rf_stands, ka_b, c6, c16]; done) | (simp [rf_stands, ka_b, if_pos c6, if_neg (not_not_intro c6), if_pos c16, if_neg (not_not_intro c16)]; done) | contradiction | rfl) rfl (by first | with_reducible rfl | (simp only [rf_stands, ka_b, c6, c16]; done) | (simp only [rf_stands, ka_b, if_pos c6, if_neg (not_not_intro c6), if_pos c16, if_neg (not_not_intro c16)]; done) | (simp [rf_stands, ka_b, c6, c16]; done) | (simp [rf_stands, ka_b, if_pos c6, if_neg (not_not_intro c6), if_pos c16, if_neg (not_not_intro c16)]; done) | contradiction | rfl)
theorem ky_X7_isDue : ka_y yX7_isDue 1 := by unfold ka_y; decide +kernel
set_option maxHeartbeats 4000000 in
set_option maxRecDepth 100000 in
theorem m_X7_isDue {G : ka_G} (hG : ka_AD G) {V : ka_W} {M : ka_P} {S : ka_F} {w : Nat} (hw : w < 20)  : ka_M G yX7_isDue cX7_isDue 2 (some FieldType.boolean) 1 [.ref (ka_ad G 9 0), .int (nI w)] (ka_ms V M S) (some (.int (ka_b (rf_isDue S w)))) (ka_ms V M S) := by
  refine ka_entry hG ka_pn_X7 (ka_cat1 rfl) (Nat.le_of_ble_eq_true rfl) (fun X hC hR => ?_)
  refine ka_aload_n hC dX7_isDue_0 rfl ?_
  refine ka_iload_n hC dX7_isDue_1 rfl ?_
  refine ka_iconst (v := 4) hC dX7_isDue_2 rfl ?_
  refine ka_callV hC (m_X7_of hG w 4 hw (by decide) rfl rfl) (ka_Rc_model ) rfl ka_q_ml_X7_40 ka_q_im_X7_of ka_q_se_X7_of ka_q_in_X7 ka_q_co_X7_of ky_X7_of (by decide) (by decide) (Nat.le_of_ble_eq_true rfl) rfl dX7_isDue_3 ?_
  refine ka_aload_n hC dX7_isDue_6 rfl ?_
  refine kg_X7_7  hC dX7_isDue_7 ?_
  refine ka_bipush (v := 10) hC dX7_isDue_10 rfl ?_
  refine km_ld 10 (by decide) rfl hC dX7_isDue_12 ?_
  refine ka_icmp_lt (tgt := 20) hC dX7_isDue_13 (by decide) (fun c13 => ?_) (fun c13 => ?_)
  · skip
    refine ka_iconst (v := 0) hC dX7_isDue_20 rfl ?_
    exact ka_bret hC hR dX7_isDue_21 (by first | with_reducible rfl | (simp only [rf_isDue, ka_b, c13]; done) | (simp only [rf_isDue, ka_b, if_pos c13, if_neg (not_not_intro c13)]; done) | (simp [rf_isDue, ka_b, c13]; done) | (simp [rf_isDue, ka_b, if_pos c13, if_neg (not_not_intro c13)]; done) | contradiction | rfl) rfl (by first | with_reducible rfl | (simp only [rf_isDue, ka_b, c13]; done) | (simp only [rf_isDue, ka_b, if_pos c13, if_neg (not_not_intro c13)]; done) | (simp [rf_isDue, ka_b, c13]; done) | (simp [rf_isDue, ka_b, if_pos c13, if_neg (not_not_intro c13)]; done) | contradiction | rfl)
  · skip
    refine ka_iconst (v := 1) hC dX7_isDue_16 rfl ?_
    refine ka_goto (tgt := 21) hC dX7_isDue_17 (by decide) ?_
    exact ka_bret hC hR dX7_isDue_21 (by first | with_reducible rfl | (simp only [rf_isDue, ka_b, c13]; done) | (simp only [rf_isDue, ka_b, if_neg c13, if_pos c13]; done) | (simp [rf_isDue, ka_b, c13]; done) | (simp [rf_isDue, ka_b, if_neg c13, if_pos c13]; done) | contradiction | rfl) rfl (by first | with_reducible rfl | (simp only [rf_isDue, ka_b, c13]; done) | (simp only [rf_isDue, ka_b, if_neg c13, if_pos c13]; done) | (simp [rf_isDue, ka_b, c13]; done) | (simp [rf_isDue, ka_b, if_neg c13, if_pos c13]; done) | contradiction | rfl)
theorem ky_X7_whyNot : ka_y yX7_whyNot 1 := by unfold ka_y; decide +kernel
set_option maxHeartbeats 4000000 in
set_option maxRecDepth 100000 in
theorem m_X7_whyNot {G : ka_G} (hG : ka_AD G) {V : ka_W} {M : ka_P} {S : ka_F} {D : Nat} (hM : MK D S) {w : Nat} (hw : w < 20)  : ka_M G yX7_whyNot cX7_whyNot 3 (some FieldType.int) 2 [.ref (ka_ad G 9 0), .int (nI w)] (ka_ms V M S) (some (.int (rf_whyNot S w))) (ka_ms V M S) := by
  refine ka_entry hG ka_pn_X7 (ka_cat1 rfl) (Nat.le_of_ble_eq_true rfl) (fun X hC hR => ?_)
  refine ka_aload_n hC dX7_whyNot_0 rfl ?_
  refine ka_iload_n hC dX7_whyNot_1 rfl ?_
  refine ka_iconst (v := 1) hC dX7_whyNot_2 rfl ?_
  refine ka_callV hC (m_X7_of hG w 1 hw (by decide) rfl rfl) (ka_Rc_model ) rfl ka_q_ml_X7_40 ka_q_im_X7_of ka_q_se_X7_of ka_q_in_X7 ka_q_co_X7_of ky_X7_of (by decide) (by decide) (Nat.le_of_ble_eq_true rfl) rfl dX7_whyNot_3 ?_
  refine ka_istore_n_p2 hC dX7_whyNot_6 (by decide) ?_
  refine ka_aload_n hC dX7_whyNot_7 rfl ?_
  refine ka_iload_n hC dX7_whyNot_8 rfl ?_
  refine ka_iconst (v := 3) hC dX7_whyNot_9 rfl ?_
  refine ka_callV hC (m_X7_of hG w 3 hw (by decide) rfl rfl) (ka_Rc_model ) rfl ka_q_ml_X7_40 ka_q_im_X7_of ka_q_se_X7_of ka_q_in_X7 ka_q_co_X7_of ky_X7_of (by decide) (by decide) (Nat.le_of_ble_eq_true rfl) rfl dX7_whyNot_10 ?_
  refine ka_if_eq (tgt := 23) hC dX7_whyNot_13 (by decide) (fun c13 => ?_) (fun c13 => ?_)
  · skip
    refine ka_aload_n hC dX7_whyNot_23 rfl ?_
    refine ka_iload_n hC dX7_whyNot_24 rfl ?_
    refine ka_iconst (v := 2) hC dX7_whyNot_25 rfl ?_
    refine ka_callV hC (m_X7_of hG w 2 hw (by decide) rfl rfl) (ka_Rc_model ) rfl ka_q_ml_X7_40 ka_q_im_X7_of ka_q_se_X7_of ka_q_in_X7 ka_q_co_X7_of ky_X7_of (by decide) (by decide) (Nat.le_of_ble_eq_true rfl) rfl dX7_whyNot_26 ?_
    refine ka_iconst (v := 1) hC dX7_whyNot_29 rfl ?_
    refine ka_icmp_ne (tgt := 35) hC dX7_whyNot_30 (by decide) (fun c30 => ?_) (fun c30 => ?_)
    · skip
      refine ka_iload_n hC dX7_whyNot_35 rfl ?_
      refine ka_if_ne (tgt := 43) hC dX7_whyNot_36 (by decide) (fun c36 => ?_) (fun c36 => ?_)
      · skip
        refine ka_aload_n hC dX7_whyNot_43 rfl ?_
        refine ka_iload_n hC dX7_whyNot_44 rfl ?_
        refine ka_callV hC (m_X7_isDue hG (by first | assumption | decide | exact wgIx_lt _ | exact plIx_lt _ | exact sp_recQ_lt | omega)) (ka_Rc_model ) rfl ka_q_ml_X7_44 ka_q_im_X7_isDue ka_q_se_X7_isDue ka_q_in_X7 ka_q_co_X7_isDue ky_X7_isDue (by decide) (by decide) (Nat.le_of_ble_eq_true rfl) rfl dX7_whyNot_45 ?_
        refine ka_if_eq_b (tgt := 55) hC dX7_whyNot_48 (by decide) (fun c48 => ?_) (fun c48 => ?_)
        · skip
          refine ka_aload_n hC dX7_whyNot_55 rfl ?_
          refine ka_iload_n hC dX7_whyNot_56 rfl ?_
          refine ka_iconst (v := 0) hC dX7_whyNot_57 rfl ?_
          refine ka_callV hC (m_X7_has hG (cn (wg S w 1)) 0 (hM.a5 hw) (by decide) (hM.a hw) rfl) (ka_Rc_model ) rfl ka_q_ml_X7_48 ka_q_im_X7_has ka_q_se_X7_has ka_q_in_X7 ka_q_co_X7_has ky_X7_has (by decide) (by decide) (Nat.le_of_ble_eq_true rfl) rfl dX7_whyNot_58 ?_
          refine ka_bipush (v := 30) hC dX7_whyNot_61 rfl ?_
          refine ka_icmp_ge (tgt := 71) hC dX7_whyNot_63 (by decide) (fun c63 => ?_) (fun c63 => ?_)
          · skip
            refine ka_iconst (v := 0) hC dX7_whyNot_71 rfl ?_
            exact ka_iret hC hR dX7_whyNot_72 (by first | with_reducible rfl | (simp only [rf_whyNot, rf_why2, c13, c30, c36, c48, c63]; done) | (simp only [rf_whyNot, rf_why2, if_pos c13, if_neg (not_not_intro c13), if_neg c30, if_pos c30, if_neg c36, if_pos c36, c48, if_neg c63, if_pos c63]; done) | (simp [rf_whyNot, rf_why2, c13, c30, c36, c48, c63]; done) | (simp [rf_whyNot, rf_why2, if_pos c13, if_neg (not_not_intro c13), if_neg c30, if_pos c30, if_neg c36, if_pos c36, c48, if_neg c63, if_pos c63]; done) | contradiction | rfl) (by first | with_reducible rfl | (simp only [rf_whyNot, rf_why2, c13, c30, c36, c48, c63]; done) | (simp only [rf_whyNot, rf_why2, if_pos c13, if_neg (not_not_intro c13), if_neg c30, if_pos c30, if_neg c36, if_pos c36, c48, if_neg c63, if_pos c63]; done) | (simp [rf_whyNot, rf_why2, c13, c30, c36, c48, c63]; done) | (simp [rf_whyNot, rf_why2, if_pos c13, if_neg (not_not_intro c13), if_neg c30, if_pos c30, if_neg c36, if_pos c36, c48, if_neg c63, if_pos c63]; done) | contradiction | rfl)
          · skip
            refine ka_bipush (v := 6) hC dX7_whyNot_66 rfl ?_
            refine ka_goto (tgt := 72) hC dX7_whyNot_68 (by decide) ?_
            exact ka_iret hC hR dX7_whyNot_72 (by first | with_reducible rfl | (simp only [rf_whyNot, rf_why2, c13, c30, c36, c48, c63]; done) | (simp only [rf_whyNot, rf_why2, if_pos c13, if_neg (not_not_intro c13), if_neg c30, if_pos c30, if_neg c36, if_pos c36, c48, if_pos c63, if_neg (not_not_intro c63)]; done) | (simp [rf_whyNot, rf_why2, c13, c30, c36, c48, c63]; done) | (simp [rf_whyNot, rf_why2, if_pos c13, if_neg (not_not_intro c13), if_neg c30, if_pos c30, if_neg c36, if_pos c36, c48, if_pos c63, if_neg (not_not_intro c63)]; done) | contradiction | rfl) (by first | with_reducible rfl | (simp only [rf_whyNot, rf_why2, c13, c30, c36, c48, c63]; done) | (simp only [rf_whyNot, rf_why2, if_pos c13, if_neg (not_not_intro c13), if_neg c30, if_pos c30, if_neg c36, if_pos c36, c48, if_pos c63, if_neg (not_not_intro c63)]; done) | (simp [rf_whyNot, rf_why2, c13, c30, c36, c48, c63]; done) | (simp [rf_whyNot, rf_why2, if_pos c13, if_neg (not_not_intro c13), if_neg c30, if_pos c30, if_neg c36, if_pos c36, c48, if_pos c63, if_neg (not_not_intro c63)]; done) | contradiction | rfl)
        · skip
          refine ka_iconst (v := 5) hC dX7_whyNot_51 rfl ?_
          refine ka_goto (tgt := 72) hC dX7_whyNot_52 (by decide) ?_
          exact ka_iret hC hR dX7_whyNot_72 (by first | with_reducible rfl | (simp only [rf_whyNot, rf_why2, c13, c30, c36, c48]; done) | (simp only [rf_whyNot, rf_why2, if_pos c13, if_neg (not_not_intro c13), if_neg c30, if_pos c30, if_neg c36, if_pos c36, c48]; done) | (simp [rf_whyNot, rf_why2, c13, c30, c36, c48]; done) | (simp [rf_whyNot, rf_why2, if_pos c13, if_neg (not_not_intro c13), if_neg c30, if_pos c30, if_neg c36, if_pos c36, c48]; done) | contradiction | rfl) (by first | with_reducible rfl | (simp only [rf_whyNot, rf_why2, c13, c30, c36, c48]; done) | (simp only [rf_whyNot, rf_why2, if_pos c13, if_neg (not_not_intro c13), if_neg c30, if_pos c30, if_neg c36, if_pos c36, c48]; done) | (simp [rf_whyNot, rf_why2, c13, c30, c36, c48]; done) | (simp [rf_whyNot, rf_why2, if_pos c13, if_neg (not_not_intro c13), if_neg c30, if_pos c30, if_neg c36, if_pos c36, c48]; done) | contradiction | rfl)
      · skip
        refine ka_iconst (v := 4) hC dX7_whyNot_39 rfl ?_
        refine ka_goto (tgt := 72) hC dX7_whyNot_40 (by decide) ?_
        exact ka_iret hC hR dX7_whyNot_72 (by first | with_reducible rfl | (simp only [rf_whyNot, rf_why2, c13, c30, c36]; done) | (simp only [rf_whyNot, rf_why2, if_pos c13, if_neg (not_not_intro c13), if_neg c30, if_pos c30, if_pos c36, if_neg (not_not_intro c36)]; done) | (simp [rf_whyNot, rf_why2, c13, c30, c36]; done) | (simp [rf_whyNot, rf_why2, if_pos c13, if_neg (not_not_intro c13), if_neg c30, if_pos c30, if_pos c36, if_neg (not_not_intro c36)]; done) | contradiction | rfl) (by first | with_reducible rfl | (simp only [rf_whyNot, rf_why2, c13, c30, c36]; done) | (simp only [rf_whyNot, rf_why2, if_pos c13, if_neg (not_not_intro c13), if_neg c30, if_pos c30, if_pos c36, if_neg (not_not_intro c36)]; done) | (simp [rf_whyNot, rf_why2, c13, c30, c36]; done) | (simp [rf_whyNot, rf_why2, if_pos c13, if_neg (not_not_intro c13), if_neg c30, if_pos c30, if_pos c36, if_neg (not_not_intro c36)]; done) | contradiction | rfl)
    · skip
      refine ka_iconst (v := 3) hC dX7_whyNot_33 rfl ?_
      exact ka_iret hC hR dX7_whyNot_34 (by first | with_reducible rfl | (simp only [rf_whyNot, rf_why2, c13, c30]; done) | (simp only [rf_whyNot, rf_why2, if_pos c13, if_neg (not_not_intro c13), if_pos c30, if_neg (not_not_intro c30)]; done) | (simp [rf_whyNot, rf_why2, c13, c30]; done) | (simp [rf_whyNot, rf_why2, if_pos c13, if_neg (not_not_intro c13), if_pos c30, if_neg (not_not_intro c30)]; done) | contradiction | rfl) (by first | with_reducible rfl | (simp only [rf_whyNot, rf_why2, c13, c30]; done) | (simp only [rf_whyNot, rf_why2, if_pos c13, if_neg (not_not_intro c13), if_pos c30, if_neg (not_not_intro c30)]; done) | (simp [rf_whyNot, rf_why2, c13, c30]; done) | (simp [rf_whyNot, rf_why2, if_pos c13, if_neg (not_not_intro c13), if_pos c30, if_neg (not_not_intro c30)]; done) | contradiction | rfl)
  · skip
    refine ka_aload_n hC dX7_whyNot_16 rfl ?_
    refine ka_iload_n hC dX7_whyNot_17 rfl ?_
    refine ka_iconst (v := 3) hC dX7_whyNot_18 rfl ?_
    refine ka_callV hC (m_X7_of hG w 3 hw (by decide) rfl rfl) (ka_Rc_model ) rfl ka_q_ml_X7_40 ka_q_im_X7_of ka_q_se_X7_of ka_q_in_X7 ka_q_co_X7_of ky_X7_of (by decide) (by decide) (Nat.le_of_ble_eq_true rfl) rfl dX7_whyNot_19 ?_
    exact ka_iret hC hR dX7_whyNot_22 (by first | with_reducible rfl | (simp only [rf_whyNot, rf_why2, c13]; done) | (simp only [rf_whyNot, rf_why2, if_neg c13, if_pos c13]; done) | (simp [rf_whyNot, rf_why2, c13]; done) | (simp [rf_whyNot, rf_why2, if_neg c13, if_pos c13]; done) | contradiction | rfl) (by first | with_reducible rfl | (simp only [rf_whyNot, rf_why2, c13]; done) | (simp only [rf_whyNot, rf_why2, if_neg c13, if_pos c13]; done) | (simp [rf_whyNot, rf_why2, c13]; done) | (simp [rf_whyNot, rf_why2, if_neg c13, if_pos c13]; done) | contradiction | rfl)
theorem ky_X7_pays : ka_y yX7_pays 3 := by unfold ka_y; decide +kernel
set_option maxHeartbeats 4000000 in
set_option maxRecDepth 100000 in
theorem m_X7_pays {G : ka_G} (hG : ka_AD G) {V : ka_W} {M : ka_P} {S : ka_F} {x y v : Int32} (a b : Nat) (ha : a < 5) (hb : b < 5) (hx : x = nI a) (hy : y = nI b)  : ka_M G yX7_pays cX7_pays 4 none 1 [.ref (ka_ad G 9 0), .int x, .int y, .int v] (ka_ms V M S) none (ka_ms V M (rf_pays S a b v)) := by
  refine ka_entry hG ka_pn_X7 (ka_cat1 rfl) (Nat.le_of_ble_eq_true rfl) (fun X hC hR => ?_)
  refine ka_aload_n hC dX7_pays_0 rfl ?_
  refine ka_iload_n hC dX7_pays_1 rfl ?_
  refine ka_iconst (v := 2) hC dX7_pays_2 rfl ?_
  refine ka_iload_n hC dX7_pays_3 rfl ?_
  refine ka_ineg hC dX7_pays_4 ?_
  refine ka_callV hC (m_X7_adds hG a 2 ha (by decide) hx rfl) (ka_Rc_model ) rfl ka_q_ml_X7_51 ka_q_im_X7_adds ka_q_se_X7_adds ka_q_in_X7 ka_q_co_X7_adds ky_X7_adds (by decide) (by decide) (Nat.le_of_ble_eq_true rfl) rfl dX7_pays_5 ?_
  refine ka_aload_n hC dX7_pays_8 rfl ?_
  refine ka_iload_n hC dX7_pays_9 rfl ?_
  refine ka_iconst (v := 2) hC dX7_pays_10 rfl ?_
  refine ka_iload_n hC dX7_pays_11 rfl ?_
  refine ka_callV hC (m_X7_adds hG b 2 hb (by decide) hy rfl) (ka_Rc_model ) rfl ka_q_ml_X7_51 ka_q_im_X7_adds ka_q_se_X7_adds ka_q_in_X7 ka_q_co_X7_adds ky_X7_adds (by decide) (by decide) (Nat.le_of_ble_eq_true rfl) rfl dX7_pays_12 ?_
  exact ka_vret hC hR dX7_pays_15 rfl (by first | with_reducible rfl | (simp only [rf_pays]; done) | (simp only [rf_pays]; done) | (simp [rf_pays]; done) | (simp [rf_pays]; done) | contradiction | rfl)
theorem ky_X7_inRepair : ka_y yX7_inRepair 1 := by unfold ka_y; decide +kernel
set_option maxHeartbeats 4000000 in
set_option maxRecDepth 100000 in
theorem m_X7_inRepair {G : ka_G} (hG : ka_AD G) {V : ka_W} {M : ka_P} {S : ka_F} (hn : cn (S 1) ≤ 20) {b : Bool}  : ka_M G yX7_inRepair cX7_inRepair 4 (some FieldType.int) 1 [.ref (ka_ad G 9 0), .int (ka_b b)] (ka_ms V M S) (some (.int (rf_inRep S b))) (ka_ms V M S) := by
  refine ka_entry hG ka_pn_X7 (ka_cat1 rfl) (Nat.le_of_ble_eq_true rfl) (fun X hC hR => ?_)
  refine ka_iconst (v := 0) hC dX7_inRepair_0 rfl ?_
  refine ka_istore_n_p2 hC dX7_inRepair_1 (by decide) ?_
  refine ka_iconst (v := 0) hC dX7_inRepair_2 rfl ?_
  refine ka_istore_n_p3 hC dX7_inRepair_3 (by decide) ?_
  suffices H4 : ∀ jj i : Nat, i ≤ cn (S 1) → cn (S 1) - i < jj → ka_I G X (ka_ms V M S) 4 [.ref (ka_ad G 9 0), .int (ka_b b), .int (rf_inRepX S b i), .int (nI i)] [] from ka_I.back 4 (by first | with_reducible rfl | (simp only [rf_inRep, rf_inRepX_0, rf_inRepX_s, rf_inRepAt, nI_1]; done) | (simp only [rf_inRep, rf_inRepX_0, rf_inRepX_s, rf_inRepAt, nI_1]; done) | (simp [rf_inRep, rf_inRepX_0, rf_inRepX_s, rf_inRepAt, nI_1]; done) | (simp [rf_inRep, rf_inRepX_0, rf_inRepX_s, rf_inRepAt, nI_1]; done) | contradiction | rfl) (by first | with_reducible rfl | (simp only [rf_inRep, rf_inRepX_0, rf_inRepX_s, rf_inRepAt, nI_1]; done) | (simp only [rf_inRep, rf_inRepX_0, rf_inRepX_s, rf_inRepAt, nI_1]; done) | (simp [rf_inRep, rf_inRepX_0, rf_inRepX_s, rf_inRepAt, nI_1]; done) | (simp [rf_inRep, rf_inRepX_0, rf_inRepX_s, rf_inRepAt, nI_1]; done) | contradiction | rfl) (H4 (cn (S 1) + 1) 0 (by omega) (by omega))
  intro j4
  induction j4 with
  | zero => intro i h1 h2 ; exact absurd h2 (Nat.not_lt_zero _)
  | succ j4 ih4 =>
    intro i hle4 hlt4 
    refine ka_iload_n hC dX7_inRepair_4 rfl ?_
    refine ka_aload_n hC dX7_inRepair_5 rfl ?_
    refine kg_X7_7  hC dX7_inRepair_6 ?_
    refine ka_iconst (v := 1) hC dX7_inRepair_9 rfl ?_
    refine km_ld 1 (by decide) rfl hC dX7_inRepair_10 ?_
    refine ka_icmp_ge (tgt := 52) hC dX7_inRepair_11 (by decide) (fun c11 => ?_) (fun c11 => ?_)
    · skip
      obtain rfl : i = cn (S 1) := nlt_cn hle4 c11
      refine ka_iload_n hC dX7_inRepair_52 rfl ?_
      exact ka_iret hC hR dX7_inRepair_53 (by first | with_reducible rfl | (simp only [rf_inRep, rf_inRepX_0, rf_inRepX_s, rf_inRepAt, nI_1, c11]; done) | (simp only [rf_inRep, rf_inRepX_0, rf_inRepX_s, rf_inRepAt, nI_1, if_neg c11, if_pos c11]; done) | (simp [rf_inRep, rf_inRepX_0, rf_inRepX_s, rf_inRepAt, nI_1, c11]; done) | (simp [rf_inRep, rf_inRepX_0, rf_inRepX_s, rf_inRepAt, nI_1, if_neg c11, if_pos c11]; done) | contradiction | rfl) (by first | with_reducible rfl | (simp only [rf_inRep, rf_inRepX_0, rf_inRepX_s, rf_inRepAt, nI_1, c11]; done) | (simp only [rf_inRep, rf_inRepX_0, rf_inRepX_s, rf_inRepAt, nI_1, if_neg c11, if_pos c11]; done) | (simp [rf_inRep, rf_inRepX_0, rf_inRepX_s, rf_inRepAt, nI_1, c11]; done) | (simp [rf_inRep, rf_inRepX_0, rf_inRepX_s, rf_inRepAt, nI_1, if_neg c11, if_pos c11]; done) | contradiction | rfl)
    · skip
      have hi : i < cn (S 1) := lt_cn hle4 c11
      have hi20 : i < 20 := Nat.lt_of_lt_of_le hi hn
      refine ka_iload_n hC dX7_inRepair_14 rfl ?_
      refine ka_aload_n hC dX7_inRepair_15 rfl ?_
      refine ka_iload_n hC dX7_inRepair_16 rfl ?_
      refine ka_iconst (v := 3) hC dX7_inRepair_17 rfl ?_
      refine ka_callV hC (m_X7_of hG i 3 hi20 (by decide) rfl rfl) (ka_Rc_model ) rfl ka_q_ml_X7_40 ka_q_im_X7_of ka_q_se_X7_of ka_q_in_X7 ka_q_co_X7_of ky_X7_of (by decide) (by decide) (Nat.le_of_ble_eq_true rfl) rfl dX7_inRepair_18 ?_
      refine ka_iconst (v := 2) hC dX7_inRepair_21 rfl ?_
      refine ka_icmp_ne (tgt := 43) hC dX7_inRepair_22 (by decide) (fun c22 => ?_) (fun c22 => ?_)
      · skip
        refine ka_iconst (v := 0) hC dX7_inRepair_43 rfl ?_
        refine ka_iadd hC dX7_inRepair_44 ?_
        refine ka_istore_n_s2 hC dX7_inRepair_45 (by decide) ?_
        refine ka_iinc_3 (v := 1) hC dX7_inRepair_46 rfl (by decide) ?_
        refine ka_goto (tgt := 4) hC dX7_inRepair_49 (by decide) ?_
        exact ka_I.back 4 (by first | with_reducible rfl | (simp only [rf_inRep, rf_inRepX_0, rf_inRepX_s, rf_inRepAt, nI_1, c11, c22]; done) | (simp only [rf_inRep, rf_inRepX_0, rf_inRepX_s, rf_inRepAt, nI_1, if_pos c11, if_neg (not_not_intro c11), if_neg c22, if_pos c22]; done) | (simp [rf_inRep, rf_inRepX_0, rf_inRepX_s, rf_inRepAt, nI_1, c11, c22]; done) | (simp [rf_inRep, rf_inRepX_0, rf_inRepX_s, rf_inRepAt, nI_1, if_pos c11, if_neg (not_not_intro c11), if_neg c22, if_pos c22]; done) | contradiction | rfl) (by first | with_reducible rfl | (simp only [rf_inRep, rf_inRepX_0, rf_inRepX_s, rf_inRepAt, nI_1, c11, c22]; done) | (simp only [rf_inRep, rf_inRepX_0, rf_inRepX_s, rf_inRepAt, nI_1, if_pos c11, if_neg (not_not_intro c11), if_neg c22, if_pos c22]; done) | (simp [rf_inRep, rf_inRepX_0, rf_inRepX_s, rf_inRepAt, nI_1, c11, c22]; done) | (simp [rf_inRep, rf_inRepX_0, rf_inRepX_s, rf_inRepAt, nI_1, if_pos c11, if_neg (not_not_intro c11), if_neg c22, if_pos c22]; done) | contradiction | rfl) (ih4 (i + 1) (by omega) (by omega))
      · skip
        refine ka_iload_n hC dX7_inRepair_25 rfl ?_
        refine ka_if_ne_b (tgt := 39) hC dX7_inRepair_26 (by decide) (fun c26 => ?_) (fun c26 => ?_)
        · skip
          refine ka_iconst (v := 1) hC dX7_inRepair_39 rfl ?_
          refine ka_goto (tgt := 44) hC dX7_inRepair_40 (by decide) ?_
          refine ka_iadd hC dX7_inRepair_44 ?_
          refine ka_istore_n_s2 hC dX7_inRepair_45 (by decide) ?_
          refine ka_iinc_3 (v := 1) hC dX7_inRepair_46 rfl (by decide) ?_
          refine ka_goto (tgt := 4) hC dX7_inRepair_49 (by decide) ?_
          exact ka_I.back 4 (by first | with_reducible rfl | (simp only [rf_inRep, rf_inRepX_0, rf_inRepX_s, rf_inRepAt, nI_1, c11, c22, c26]; done) | (simp only [rf_inRep, rf_inRepX_0, rf_inRepX_s, rf_inRepAt, nI_1, if_pos c11, if_neg (not_not_intro c11), if_pos c22, if_neg (not_not_intro c22), c26]; done) | (simp [rf_inRep, rf_inRepX_0, rf_inRepX_s, rf_inRepAt, nI_1, c11, c22, c26]; done) | (simp [rf_inRep, rf_inRepX_0, rf_inRepX_s, rf_inRepAt, nI_1, if_pos c11, if_neg (not_not_intro c11), if_pos c22, if_neg (not_not_intro c22), c26]; done) | contradiction | rfl) (by first | with_reducible rfl | (simp only [rf_inRep, rf_inRepX_0, rf_inRepX_s, rf_inRepAt, nI_1, c11, c22, c26]; done) | (simp only [rf_inRep, rf_inRepX_0, rf_inRepX_s, rf_inRepAt, nI_1, if_pos c11, if_neg (not_not_intro c11), if_pos c22, if_neg (not_not_intro c22), c26]; done) | (simp [rf_inRep, rf_inRepX_0, rf_inRepX_s, rf_inRepAt, nI_1, c11, c22, c26]; done) | (simp [rf_inRep, rf_inRepX_0, rf_inRepX_s, rf_inRepAt, nI_1, if_pos c11, if_neg (not_not_intro c11), if_pos c22, if_neg (not_not_intro c22), c26]; done) | contradiction | rfl) (ih4 (i + 1) (by omega) (by omega))
        · skip
          refine ka_aload_n hC dX7_inRepair_29 rfl ?_
          refine ka_iload_n hC dX7_inRepair_30 rfl ?_
          refine ka_bipush (v := 6) hC dX7_inRepair_31 rfl ?_
          refine ka_callV hC (m_X7_of hG i 6 hi20 (by decide) rfl rfl) (ka_Rc_model ) rfl ka_q_ml_X7_40 ka_q_im_X7_of ka_q_se_X7_of ka_q_in_X7 ka_q_co_X7_of ky_X7_of (by decide) (by decide) (Nat.le_of_ble_eq_true rfl) rfl dX7_inRepair_33 ?_
          refine ka_if_lt (tgt := 43) hC dX7_inRepair_36 (by decide) (fun c36 => ?_) (fun c36 => ?_)
          · skip
            refine ka_iconst (v := 0) hC dX7_inRepair_43 rfl ?_
            refine ka_iadd hC dX7_inRepair_44 ?_
            refine ka_istore_n_s2 hC dX7_inRepair_45 (by decide) ?_
            refine ka_iinc_3 (v := 1) hC dX7_inRepair_46 rfl (by decide) ?_
            refine ka_goto (tgt := 4) hC dX7_inRepair_49 (by decide) ?_
            exact ka_I.back 4 (by first | with_reducible rfl | (simp only [rf_inRep, rf_inRepX_0, rf_inRepX_s, rf_inRepAt, nI_1, c11, c22, c26, c36]; done) | (simp only [rf_inRep, rf_inRepX_0, rf_inRepX_s, rf_inRepAt, nI_1, if_pos c11, if_neg (not_not_intro c11), if_pos c22, if_neg (not_not_intro c22), c26, if_pos c36, if_neg (not_not_intro c36)]; done) | (simp [rf_inRep, rf_inRepX_0, rf_inRepX_s, rf_inRepAt, nI_1, c11, c22, c26, c36]; done) | (simp [rf_inRep, rf_inRepX_0, rf_inRepX_s, rf_inRepAt, nI_1, if_pos c11, if_neg (not_not_intro c11), if_pos c22, if_neg (not_not_intro c22), c26, if_pos c36, if_neg (not_not_intro c36)]; done) | contradiction | rfl) (by first | with_reducible rfl | (simp only [rf_inRep, rf_inRepX_0, rf_inRepX_s, rf_inRepAt, nI_1, c11, c22, c26, c36]; done) | (simp only [rf_inRep, rf_inRepX_0, rf_inRepX_s, rf_inRepAt, nI_1, if_pos c11, if_neg (not_not_intro c11), if_pos c22, if_neg (not_not_intro c22), c26, if_pos c36, if_neg (not_not_intro c36)]; done) | (simp [rf_inRep, rf_inRepX_0, rf_inRepX_s, rf_inRepAt, nI_1, c11, c22, c26, c36]; done) | (simp [rf_inRep, rf_inRepX_0, rf_inRepX_s, rf_inRepAt, nI_1, if_pos c11, if_neg (not_not_intro c11), if_pos c22, if_neg (not_not_intro c22), c26, if_pos c36, if_neg (not_not_intro c36)]; done) | contradiction | rfl) (ih4 (i + 1) (by omega) (by omega))
          · skip
            refine ka_iconst (v := 1) hC dX7_inRepair_39 rfl ?_
            refine ka_goto (tgt := 44) hC dX7_inRepair_40 (by decide) ?_
            refine ka_iadd hC dX7_inRepair_44 ?_
            refine ka_istore_n_s2 hC dX7_inRepair_45 (by decide) ?_
            refine ka_iinc_3 (v := 1) hC dX7_inRepair_46 rfl (by decide) ?_
            refine ka_goto (tgt := 4) hC dX7_inRepair_49 (by decide) ?_
            exact ka_I.back 4 (by first | with_reducible rfl | (simp only [rf_inRep, rf_inRepX_0, rf_inRepX_s, rf_inRepAt, nI_1, c11, c22, c26, c36]; done) | (simp only [rf_inRep, rf_inRepX_0, rf_inRepX_s, rf_inRepAt, nI_1, if_pos c11, if_neg (not_not_intro c11), if_pos c22, if_neg (not_not_intro c22), c26, if_neg c36, if_pos c36]; done) | (simp [rf_inRep, rf_inRepX_0, rf_inRepX_s, rf_inRepAt, nI_1, c11, c22, c26, c36]; done) | (simp [rf_inRep, rf_inRepX_0, rf_inRepX_s, rf_inRepAt, nI_1, if_pos c11, if_neg (not_not_intro c11), if_pos c22, if_neg (not_not_intro c22), c26, if_neg c36, if_pos c36]; done) | contradiction | rfl) (by first | with_reducible rfl | (simp only [rf_inRep, rf_inRepX_0, rf_inRepX_s, rf_inRepAt, nI_1, c11, c22, c26, c36]; done) | (simp only [rf_inRep, rf_inRepX_0, rf_inRepX_s, rf_inRepAt, nI_1, if_pos c11, if_neg (not_not_intro c11), if_pos c22, if_neg (not_not_intro c22), c26, if_neg c36, if_pos c36]; done) | (simp [rf_inRep, rf_inRepX_0, rf_inRepX_s, rf_inRepAt, nI_1, c11, c22, c26, c36]; done) | (simp [rf_inRep, rf_inRepX_0, rf_inRepX_s, rf_inRepAt, nI_1, if_pos c11, if_neg (not_not_intro c11), if_pos c22, if_neg (not_not_intro c22), c26, if_neg c36, if_pos c36]; done) | contradiction | rfl) (ih4 (i + 1) (by omega) (by omega))
theorem ky_X7_firstWaiting : ka_y yX7_firstWaiting 0 := by unfold ka_y; decide +kernel
set_option maxHeartbeats 4000000 in
set_option maxRecDepth 100000 in
theorem m_X7_firstWaiting {G : ka_G} (hG : ka_AD G) {V : ka_W} {M : ka_P} {S : ka_F} (hn : cn (S 1) ≤ 20)  : ka_M G yX7_firstWaiting cX7_firstWaiting 4 (some FieldType.int) 1 [.ref (ka_ad G 9 0)] (ka_ms V M S) (some (.int (rf_first S))) (ka_ms V M S) := by
  refine ka_entry hG ka_pn_X7 (ka_cat1 rfl) (Nat.le_of_ble_eq_true rfl) (fun X hC hR => ?_)
  refine ka_iconst (v := (-1)) hC dX7_firstWaiting_0 rfl ?_
  refine ka_istore_n_p1 hC dX7_firstWaiting_1 (by decide) ?_
  refine ka_iconst (v := 0) hC dX7_firstWaiting_2 rfl ?_
  refine ka_istore_n_p2 hC dX7_firstWaiting_3 (by decide) ?_
  suffices H4 : ∀ jj i : Nat, i ≤ cn (S 1) → cn (S 1) - i < jj → ka_I G X (ka_ms V M S) 4 [.ref (ka_ad G 9 0), .int (rf_firstX S i), .int (nI i)] [] from ka_I.back 3 (by first | with_reducible rfl | (simp only [rf_first, rf_firstX_0, rf_firstX_s, rf_firstAt, nI_1]; done) | (simp only [rf_first, rf_firstX_0, rf_firstX_s, rf_firstAt, nI_1]; done) | (simp [rf_first, rf_firstX_0, rf_firstX_s, rf_firstAt, nI_1]; done) | (simp [rf_first, rf_firstX_0, rf_firstX_s, rf_firstAt, nI_1]; done) | contradiction | rfl) (by first | with_reducible rfl | (simp only [rf_first, rf_firstX_0, rf_firstX_s, rf_firstAt, nI_1]; done) | (simp only [rf_first, rf_firstX_0, rf_firstX_s, rf_firstAt, nI_1]; done) | (simp [rf_first, rf_firstX_0, rf_firstX_s, rf_firstAt, nI_1]; done) | (simp [rf_first, rf_firstX_0, rf_firstX_s, rf_firstAt, nI_1]; done) | contradiction | rfl) (H4 (cn (S 1) + 1) 0 (by omega) (by omega))
  intro j4
  induction j4 with
  | zero => intro i h1 h2 ; exact absurd h2 (Nat.not_lt_zero _)
  | succ j4 ih4 =>
    intro i hle4 hlt4 
    refine ka_iload_n hC dX7_firstWaiting_4 rfl ?_
    refine ka_aload_n hC dX7_firstWaiting_5 rfl ?_
    refine kg_X7_7  hC dX7_firstWaiting_6 ?_
    refine ka_iconst (v := 1) hC dX7_firstWaiting_9 rfl ?_
    refine km_ld 1 (by decide) rfl hC dX7_firstWaiting_10 ?_
    refine ka_icmp_ge (tgt := 77) hC dX7_firstWaiting_11 (by decide) (fun c11 => ?_) (fun c11 => ?_)
    · skip
      obtain rfl : i = cn (S 1) := nlt_cn hle4 c11
      refine ka_iload_n hC dX7_firstWaiting_77 rfl ?_
      exact ka_iret hC hR dX7_firstWaiting_78 (by first | with_reducible rfl | (simp only [rf_first, rf_firstX_0, rf_firstX_s, rf_firstAt, nI_1, c11]; done) | (simp only [rf_first, rf_firstX_0, rf_firstX_s, rf_firstAt, nI_1, if_neg c11, if_pos c11]; done) | (simp [rf_first, rf_firstX_0, rf_firstX_s, rf_firstAt, nI_1, c11]; done) | (simp [rf_first, rf_firstX_0, rf_firstX_s, rf_firstAt, nI_1, if_neg c11, if_pos c11]; done) | contradiction | rfl) (by first | with_reducible rfl | (simp only [rf_first, rf_firstX_0, rf_firstX_s, rf_firstAt, nI_1, c11]; done) | (simp only [rf_first, rf_firstX_0, rf_firstX_s, rf_firstAt, nI_1, if_neg c11, if_pos c11]; done) | (simp [rf_first, rf_firstX_0, rf_firstX_s, rf_firstAt, nI_1, c11]; done) | (simp [rf_first, rf_firstX_0, rf_firstX_s, rf_firstAt, nI_1, if_neg c11, if_pos c11]; done) | contradiction | rfl)
    · skip
      have hi : i < cn (S 1) := lt_cn hle4 c11
      have hi20 : i < 20 := Nat.lt_of_lt_of_le hi hn
      refine ka_aload_n hC dX7_firstWaiting_14 rfl ?_
      refine ka_iload_n hC dX7_firstWaiting_15 rfl ?_
      refine ka_iconst (v := 3) hC dX7_firstWaiting_16 rfl ?_
      refine ka_callV hC (m_X7_of hG i 3 hi20 (by decide) rfl rfl) (ka_Rc_model ) rfl ka_q_ml_X7_40 ka_q_im_X7_of ka_q_se_X7_of ka_q_in_X7 ka_q_co_X7_of ky_X7_of (by decide) (by decide) (Nat.le_of_ble_eq_true rfl) rfl dX7_firstWaiting_17 ?_
      refine ka_iconst (v := 2) hC dX7_firstWaiting_20 rfl ?_
      refine ka_icmp_ne (tgt := 38) hC dX7_firstWaiting_21 (by decide) (fun c21 => ?_) (fun c21 => ?_)
      · skip
        refine ka_iconst (v := 0) hC dX7_firstWaiting_38 rfl ?_
        refine ka_istore_n_p3 hC dX7_firstWaiting_39 (by decide) ?_
        refine ka_iload_n hC dX7_firstWaiting_40 rfl ?_
        refine ka_if_eq (tgt := 69) hC dX7_firstWaiting_41 (by decide) (fun _ => ?_) (fun h => absurd h (by decide))
        refine ka_iload_n hC dX7_firstWaiting_69 rfl ?_
        refine ka_istore_n_s1 hC dX7_firstWaiting_70 (by decide) ?_
        refine ka_iinc_2 (v := 1) hC dX7_firstWaiting_71 rfl (by decide) ?_
        refine ka_goto (tgt := 4) hC dX7_firstWaiting_74 (by decide) ?_
        exact ka_I.back 3 (by first | with_reducible rfl | (simp only [rf_first, rf_firstX_0, rf_firstX_s, rf_firstAt, nI_1, c11, c21]; done) | (simp only [rf_first, rf_firstX_0, rf_firstX_s, rf_firstAt, nI_1, if_pos c11, if_neg (not_not_intro c11), if_neg c21, if_pos c21]; done) | (simp [rf_first, rf_firstX_0, rf_firstX_s, rf_firstAt, nI_1, c11, c21]; done) | (simp [rf_first, rf_firstX_0, rf_firstX_s, rf_firstAt, nI_1, if_pos c11, if_neg (not_not_intro c11), if_neg c21, if_pos c21]; done) | contradiction | rfl) (by first | with_reducible rfl | (simp only [rf_first, rf_firstX_0, rf_firstX_s, rf_firstAt, nI_1, c11, c21]; done) | (simp only [rf_first, rf_firstX_0, rf_firstX_s, rf_firstAt, nI_1, if_pos c11, if_neg (not_not_intro c11), if_neg c21, if_pos c21]; done) | (simp [rf_first, rf_firstX_0, rf_firstX_s, rf_firstAt, nI_1, c11, c21]; done) | (simp [rf_first, rf_firstX_0, rf_firstX_s, rf_firstAt, nI_1, if_pos c11, if_neg (not_not_intro c11), if_neg c21, if_pos c21]; done) | contradiction | rfl) (ih4 (i + 1) (by omega) (by omega))
      · skip
        refine ka_aload_n hC dX7_firstWaiting_24 rfl ?_
        refine ka_iload_n hC dX7_firstWaiting_25 rfl ?_
        refine ka_bipush (v := 6) hC dX7_firstWaiting_26 rfl ?_
        refine ka_callV hC (m_X7_of hG i 6 hi20 (by decide) rfl rfl) (ka_Rc_model ) rfl ka_q_ml_X7_40 ka_q_im_X7_of ka_q_se_X7_of ka_q_in_X7 ka_q_co_X7_of ky_X7_of (by decide) (by decide) (Nat.le_of_ble_eq_true rfl) rfl dX7_firstWaiting_28 ?_
        refine ka_if_ge (tgt := 38) hC dX7_firstWaiting_31 (by decide) (fun c31 => ?_) (fun c31 => ?_)
        · skip
          refine ka_iconst (v := 0) hC dX7_firstWaiting_38 rfl ?_
          refine ka_istore_n_p3 hC dX7_firstWaiting_39 (by decide) ?_
          refine ka_iload_n hC dX7_firstWaiting_40 rfl ?_
          refine ka_if_eq (tgt := 69) hC dX7_firstWaiting_41 (by decide) (fun _ => ?_) (fun h => absurd h (by decide))
          refine ka_iload_n hC dX7_firstWaiting_69 rfl ?_
          refine ka_istore_n_s1 hC dX7_firstWaiting_70 (by decide) ?_
          refine ka_iinc_2 (v := 1) hC dX7_firstWaiting_71 rfl (by decide) ?_
          refine ka_goto (tgt := 4) hC dX7_firstWaiting_74 (by decide) ?_
          exact ka_I.back 3 (by first | with_reducible rfl | (simp only [rf_first, rf_firstX_0, rf_firstX_s, rf_firstAt, nI_1, c11, c21, c31]; done) | (simp only [rf_first, rf_firstX_0, rf_firstX_s, rf_firstAt, nI_1, if_pos c11, if_neg (not_not_intro c11), if_pos c21, if_neg (not_not_intro c21), if_neg c31, if_pos c31]; done) | (simp [rf_first, rf_firstX_0, rf_firstX_s, rf_firstAt, nI_1, c11, c21, c31]; done) | (simp [rf_first, rf_firstX_0, rf_firstX_s, rf_firstAt, nI_1, if_pos c11, if_neg (not_not_intro c11), if_pos c21, if_neg (not_not_intro c21), if_neg c31, if_pos c31]; done) | contradiction | rfl) (by first | with_reducible rfl | (simp only [rf_first, rf_firstX_0, rf_firstX_s, rf_firstAt, nI_1, c11, c21, c31]; done) | (simp only [rf_first, rf_firstX_0, rf_firstX_s, rf_firstAt, nI_1, if_pos c11, if_neg (not_not_intro c11), if_pos c21, if_neg (not_not_intro c21), if_neg c31, if_pos c31]; done) | (simp [rf_first, rf_firstX_0, rf_firstX_s, rf_firstAt, nI_1, c11, c21, c31]; done) | (simp [rf_first, rf_firstX_0, rf_firstX_s, rf_firstAt, nI_1, if_pos c11, if_neg (not_not_intro c11), if_pos c21, if_neg (not_not_intro c21), if_neg c31, if_pos c31]; done) | contradiction | rfl) (ih4 (i + 1) (by omega) (by omega))
        · skip
          refine ka_iconst (v := 1) hC dX7_firstWaiting_34 rfl ?_
          refine ka_goto (tgt := 39) hC dX7_firstWaiting_35 (by decide) ?_
          refine ka_istore_n_p3 hC dX7_firstWaiting_39 (by decide) ?_
          refine ka_iload_n hC dX7_firstWaiting_40 rfl ?_
          refine ka_if_eq (tgt := 69) hC dX7_firstWaiting_41 (by decide) (fun h => absurd h (by decide)) (fun _ => ?_)
          refine ka_iload_n hC dX7_firstWaiting_44 rfl ?_
          refine ka_if_lt (tgt := 65) hC dX7_firstWaiting_45 (by decide) (fun c45 => ?_) (fun c45 => ?_)
          · skip
            refine ka_iload_n hC dX7_firstWaiting_65 rfl ?_
            refine ka_goto (tgt := 70) hC dX7_firstWaiting_66 (by decide) ?_
            refine ka_istore_n_s1 hC dX7_firstWaiting_70 (by decide) ?_
            refine ka_iinc_2 (v := 1) hC dX7_firstWaiting_71 rfl (by decide) ?_
            refine ka_goto (tgt := 4) hC dX7_firstWaiting_74 (by decide) ?_
            exact ka_I.back 3 (by first | with_reducible rfl | (simp only [rf_first, rf_firstX_0, rf_firstX_s, rf_firstAt, nI_1, c11, c21, c31, c45]; done) | (simp only [rf_first, rf_firstX_0, rf_firstX_s, rf_firstAt, nI_1, if_pos c11, if_neg (not_not_intro c11), if_pos c21, if_neg (not_not_intro c21), if_pos c31, if_neg (not_not_intro c31), if_pos c45, if_neg (not_not_intro c45)]; done) | (simp [rf_first, rf_firstX_0, rf_firstX_s, rf_firstAt, nI_1, c11, c21, c31, c45]; done) | (simp [rf_first, rf_firstX_0, rf_firstX_s, rf_firstAt, nI_1, if_pos c11, if_neg (not_not_intro c11), if_pos c21, if_neg (not_not_intro c21), if_pos c31, if_neg (not_not_intro c31), if_pos c45, if_neg (not_not_intro c45)]; done) | contradiction | rfl) (by first | with_reducible rfl | (simp only [rf_first, rf_firstX_0, rf_firstX_s, rf_firstAt, nI_1, c11, c21, c31, c45]; done) | (simp only [rf_first, rf_firstX_0, rf_firstX_s, rf_firstAt, nI_1, if_pos c11, if_neg (not_not_intro c11), if_pos c21, if_neg (not_not_intro c21), if_pos c31, if_neg (not_not_intro c31), if_pos c45, if_neg (not_not_intro c45)]; done) | (simp [rf_first, rf_firstX_0, rf_firstX_s, rf_firstAt, nI_1, c11, c21, c31, c45]; done) | (simp [rf_first, rf_firstX_0, rf_firstX_s, rf_firstAt, nI_1, if_pos c11, if_neg (not_not_intro c11), if_pos c21, if_neg (not_not_intro c21), if_pos c31, if_neg (not_not_intro c31), if_pos c45, if_neg (not_not_intro c45)]; done) | contradiction | rfl) (ih4 (i + 1) (by omega) (by omega))
          · skip
            refine ka_aload_n hC dX7_firstWaiting_48 rfl ?_
            refine ka_iload_n hC dX7_firstWaiting_49 rfl ?_
            refine ka_bipush (v := 9) hC dX7_firstWaiting_50 rfl ?_
            refine ka_callV hC (m_X7_of hG i 9 hi20 (by decide) rfl rfl) (ka_Rc_model ) rfl ka_q_ml_X7_40 ka_q_im_X7_of ka_q_se_X7_of ka_q_in_X7 ka_q_co_X7_of ky_X7_of (by decide) (by decide) (Nat.le_of_ble_eq_true rfl) rfl dX7_firstWaiting_52 ?_
            refine ka_aload_n hC dX7_firstWaiting_55 rfl ?_
            refine ka_iload_n hC dX7_firstWaiting_56 rfl ?_
            refine ka_bipush (v := 9) hC dX7_firstWaiting_57 rfl ?_
            refine ka_callV hC (m_X7_of hG (cn (rf_firstX S i)) 9 (rf_fd_lt (Nat.le_of_lt hi20) (rf_firstX_fd i (Nat.le_of_lt hi20)) c45).2 (by decide) (rf_fd_lt (Nat.le_of_lt hi20) (rf_firstX_fd i (Nat.le_of_lt hi20)) c45).1 rfl) (ka_Rc_model ) rfl ka_q_ml_X7_40 ka_q_im_X7_of ka_q_se_X7_of ka_q_in_X7 ka_q_co_X7_of ky_X7_of (by decide) (by decide) (Nat.le_of_ble_eq_true rfl) rfl dX7_firstWaiting_59 ?_
            refine ka_icmp_ge (tgt := 69) hC dX7_firstWaiting_62 (by decide) (fun c62 => ?_) (fun c62 => ?_)
            · skip
              refine ka_iload_n hC dX7_firstWaiting_69 rfl ?_
              refine ka_istore_n_s1 hC dX7_firstWaiting_70 (by decide) ?_
              refine ka_iinc_2 (v := 1) hC dX7_firstWaiting_71 rfl (by decide) ?_
              refine ka_goto (tgt := 4) hC dX7_firstWaiting_74 (by decide) ?_
              exact ka_I.back 3 (by first | with_reducible rfl | (simp only [rf_first, rf_firstX_0, rf_firstX_s, rf_firstAt, nI_1, c11, c21, c31, c45, c62]; done) | (simp only [rf_first, rf_firstX_0, rf_firstX_s, rf_firstAt, nI_1, if_pos c11, if_neg (not_not_intro c11), if_pos c21, if_neg (not_not_intro c21), if_pos c31, if_neg (not_not_intro c31), if_neg c45, if_pos c45, if_neg c62, if_pos c62]; done) | (simp [rf_first, rf_firstX_0, rf_firstX_s, rf_firstAt, nI_1, c11, c21, c31, c45, c62]; done) | (simp [rf_first, rf_firstX_0, rf_firstX_s, rf_firstAt, nI_1, if_pos c11, if_neg (not_not_intro c11), if_pos c21, if_neg (not_not_intro c21), if_pos c31, if_neg (not_not_intro c31), if_neg c45, if_pos c45, if_neg c62, if_pos c62]; done) | contradiction | rfl) (by first | with_reducible rfl | (simp only [rf_first, rf_firstX_0, rf_firstX_s, rf_firstAt, nI_1, c11, c21, c31, c45, c62]; done) | (simp only [rf_first, rf_firstX_0, rf_firstX_s, rf_firstAt, nI_1, if_pos c11, if_neg (not_not_intro c11), if_pos c21, if_neg (not_not_intro c21), if_pos c31, if_neg (not_not_intro c31), if_neg c45, if_pos c45, if_neg c62, if_pos c62]; done) | (simp [rf_first, rf_firstX_0, rf_firstX_s, rf_firstAt, nI_1, c11, c21, c31, c45, c62]; done) | (simp [rf_first, rf_firstX_0, rf_firstX_s, rf_firstAt, nI_1, if_pos c11, if_neg (not_not_intro c11), if_pos c21, if_neg (not_not_intro c21), if_pos c31, if_neg (not_not_intro c31), if_neg c45, if_pos c45, if_neg c62, if_pos c62]; done) | contradiction | rfl) (ih4 (i + 1) (by omega) (by omega))
            · skip
              refine ka_iload_n hC dX7_firstWaiting_65 rfl ?_
              refine ka_goto (tgt := 70) hC dX7_firstWaiting_66 (by decide) ?_
              refine ka_istore_n_s1 hC dX7_firstWaiting_70 (by decide) ?_
              refine ka_iinc_2 (v := 1) hC dX7_firstWaiting_71 rfl (by decide) ?_
              refine ka_goto (tgt := 4) hC dX7_firstWaiting_74 (by decide) ?_
              exact ka_I.back 3 (by first | with_reducible rfl | (simp only [rf_first, rf_firstX_0, rf_firstX_s, rf_firstAt, nI_1, c11, c21, c31, c45, c62]; done) | (simp only [rf_first, rf_firstX_0, rf_firstX_s, rf_firstAt, nI_1, if_pos c11, if_neg (not_not_intro c11), if_pos c21, if_neg (not_not_intro c21), if_pos c31, if_neg (not_not_intro c31), if_neg c45, if_pos c45, if_pos c62, if_neg (not_not_intro c62)]; done) | (simp [rf_first, rf_firstX_0, rf_firstX_s, rf_firstAt, nI_1, c11, c21, c31, c45, c62]; done) | (simp [rf_first, rf_firstX_0, rf_firstX_s, rf_firstAt, nI_1, if_pos c11, if_neg (not_not_intro c11), if_pos c21, if_neg (not_not_intro c21), if_pos c31, if_neg (not_not_intro c31), if_neg c45, if_pos c45, if_pos c62, if_neg (not_not_intro c62)]; done) | contradiction | rfl) (by first | with_reducible rfl | (simp only [rf_first, rf_firstX_0, rf_firstX_s, rf_firstAt, nI_1, c11, c21, c31, c45, c62]; done) | (simp only [rf_first, rf_firstX_0, rf_firstX_s, rf_firstAt, nI_1, if_pos c11, if_neg (not_not_intro c11), if_pos c21, if_neg (not_not_intro c21), if_pos c31, if_neg (not_not_intro c31), if_neg c45, if_pos c45, if_pos c62, if_neg (not_not_intro c62)]; done) | (simp [rf_first, rf_firstX_0, rf_firstX_s, rf_firstAt, nI_1, c11, c21, c31, c45, c62]; done) | (simp [rf_first, rf_firstX_0, rf_firstX_s, rf_firstAt, nI_1, if_pos c11, if_neg (not_not_intro c11), if_pos c21, if_neg (not_not_intro c21), if_pos c31, if_neg (not_not_intro c31), if_neg c45, if_pos c45, if_pos c62, if_neg (not_not_intro c62)]; done) | contradiction | rfl) (ih4 (i + 1) (by omega) (by omega))
theorem ky_X7_fillsShop : ka_y yX7_fillsShop 0 := by unfold ka_y; decide +kernel
set_option maxHeartbeats 4000000 in
set_option maxRecDepth 100000 in
theorem m_X7_fillsShop {G : ka_G} (hG : ka_AD G) {V : ka_W} {M : ka_P} {S : ka_F} (hn : cn (S 1) ≤ 20) (hv : ¬ S 2 + S 13 < 0)  : ka_M G yX7_fillsShop cX7_fillsShop 2 none 2 [.ref (ka_ad G 9 0)] (ka_ms V M S) none (ka_ms V M (rf_fill S)) := by
  refine ka_entry hG ka_pn_X7 (ka_cat1 rfl) (Nat.le_of_ble_eq_true rfl) (fun X hC hR => ?_)
  refine ka_aload_n hC dX7_fillsShop_0 rfl ?_
  refine ka_callV hC (m_X7_firstWaiting hG (by first | assumption | decide | exact wgIx_lt _ | exact plIx_lt _ | exact sp_recQ_lt | omega)) (ka_Rc_model ) rfl ka_q_ml_X7_55 ka_q_im_X7_firstWaiting ka_q_se_X7_firstWaiting ka_q_in_X7 ka_q_co_X7_firstWaiting ky_X7_firstWaiting (by decide) (by decide) (Nat.le_of_ble_eq_true rfl) rfl dX7_fillsShop_1 ?_
  refine ka_istore_n_p1 hC dX7_fillsShop_4 (by decide) ?_
  suffices H5 : ∀ jj i : Nat, i ≤ 3 → 3 - i < jj → ka_I G X (ka_ms V M (rf_fillX S i)) 5 [.ref (ka_ad G 9 0), .int (rf_first (rf_fillX S i))] [] from ka_I.back 2 (by rfl) (by rfl) (H5 (3 + 1) 0 (by omega) (by omega))
  intro j5
  induction j5 with
  | zero => intro i h1 h2 ; exact absurd h2 (Nat.not_lt_zero _)
  | succ j5 ih5 =>
    intro i hle5 hlt5 
    have hnT : cn ((rf_fillX S i) 1) ≤ 20 := by rw [(rx_fillX (S := S) (i := i)).s1]; exact hn
    refine ka_iload_n hC dX7_fillsShop_5 rfl ?_
    refine ka_if_lt (tgt := 47) hC dX7_fillsShop_6 (by decide) (fun c6 => ?_) (fun c6 => ?_)
    · skip
      rw [← rf_fillX_stop (n := 3) (Or.inl c6) hle5]
      exact ka_vret hC hR dX7_fillsShop_47 rfl (by rfl)
    · skip
      refine ka_aload_n hC dX7_fillsShop_9 rfl ?_
      refine ka_iconst (v := 0) hC dX7_fillsShop_10 rfl ?_
      refine ka_callV hC (m_X7_inRepair hG hnT (b := false)) (ka_Rc_model ) rfl ka_q_ml_X7_59 ka_q_im_X7_inRepair ka_q_se_X7_inRepair ka_q_in_X7 ka_q_co_X7_inRepair ky_X7_inRepair (by decide) (by decide) (Nat.le_of_ble_eq_true rfl) rfl dX7_fillsShop_11 ?_
      refine ka_iconst (v := 2) hC dX7_fillsShop_14 rfl ?_
      refine ka_icmp_ge (tgt := 47) hC dX7_fillsShop_15 (by decide) (fun c15 => ?_) (fun c15 => ?_)
      · skip
        rw [← rf_fillX_stop (n := 3) (Or.inr c15) hle5]
        exact ka_vret hC hR dX7_fillsShop_47 rfl (by rfl)
      · skip
        have hi : i < 3 := rf_fill_lt (rf_fill_end hn hv) hle5 c6 c15
        refine ka_aload_n hC dX7_fillsShop_18 rfl ?_
        refine ka_iload_n hC dX7_fillsShop_19 rfl ?_
        refine ka_bipush (v := 6) hC dX7_fillsShop_20 rfl ?_
        refine ka_aload_n hC dX7_fillsShop_22 rfl ?_
        refine kg_X7_7  hC dX7_fillsShop_23 ?_
        refine ka_iconst (v := 2) hC dX7_fillsShop_26 rfl ?_
        refine km_ld 2 (by decide) rfl hC dX7_fillsShop_27 ?_
        refine ka_aload_n hC dX7_fillsShop_28 rfl ?_
        refine kg_X7_7  hC dX7_fillsShop_29 ?_
        refine ka_bipush (v := 13) hC dX7_fillsShop_32 rfl ?_
        refine km_ld 13 (by decide) rfl hC dX7_fillsShop_34 ?_
        refine ka_iadd hC dX7_fillsShop_35 ?_
        refine ka_callV hC (m_X7_lays hG (cn (rf_first (rf_fillX S i))) 6 (rf_fd_lt hnT (rf_first_fd hnT) c6).2 (by decide) (rf_fd_lt hnT (rf_first_fd hnT) c6).1 rfl) (ka_Rc_model ) rfl ka_q_ml_X7_63 ka_q_im_X7_lays ka_q_se_X7_lays ka_q_in_X7 ka_q_co_X7_lays ky_X7_lays (by decide) (by decide) (Nat.le_of_ble_eq_true rfl) rfl dX7_fillsShop_36 ?_
        refine ka_aload_n hC dX7_fillsShop_39 rfl ?_
        refine ka_callV hC (m_X7_firstWaiting hG (by rw [wU_j (by decide)]; exact hnT)) (ka_Rc_model ) rfl ka_q_ml_X7_55 ka_q_im_X7_firstWaiting ka_q_se_X7_firstWaiting ka_q_in_X7 ka_q_co_X7_firstWaiting ky_X7_firstWaiting (by decide) (by decide) (Nat.le_of_ble_eq_true rfl) rfl dX7_fillsShop_40 ?_
        refine ka_istore_n_s1 hC dX7_fillsShop_43 (by decide) ?_
        refine ka_goto (tgt := 5) hC dX7_fillsShop_44 (by decide) ?_
        have e : rf_fillX S (i + 1) = wU (rf_fillX S i) (cn (rf_first (rf_fillX S i))) 6 ((rf_fillX S i) 2 + (rf_fillX S i) 13) := by rw [rf_fillX_s]; unfold rf_fillAt; rw [if_neg c6, if_pos c15]; rfl
        exact ka_I.back 2 (by rw [e]) (by rw [e]; rfl) (ih5 (i + 1) (by omega) (by omega))
theorem ky_X7_arrives : ka_y yX7_arrives 0 := by unfold ka_y; decide +kernel
set_option maxHeartbeats 4000000 in
set_option maxRecDepth 100000 in
theorem m_X7_arrives {G : ka_G} (hG : ka_AD G) {V : ka_W} {M : ka_P} {S : ka_F} (hn : cn (S 1) ≤ 20)  : ka_M G yX7_arrives cX7_arrives 3 (some FieldType.int) 1 [.ref (ka_ad G 9 0)] (ka_ms V M S) (some (.int ((rf_arr S).2))) (ka_ms V M (rf_arr S).1) := by
  refine ka_entry hG ka_pn_X7 (ka_cat1 rfl) (Nat.le_of_ble_eq_true rfl) (fun X hC hR => ?_)
  refine ka_iconst (v := 0) hC dX7_arrives_0 rfl ?_
  refine ka_istore_n_p1 hC dX7_arrives_1 (by decide) ?_
  refine ka_iconst (v := 0) hC dX7_arrives_2 rfl ?_
  refine ka_istore_n_p2 hC dX7_arrives_3 (by decide) ?_
  suffices H4 : ∀ jj i : Nat, i ≤ cn (S 1) → cn (S 1) - i < jj → ka_I G X (ka_ms V M (rf_arrX S i).1) 4 [.ref (ka_ad G 9 0), .int (rf_arrX S i).2, .int (nI i)] [] from ka_I.back 3 (by first | with_reducible rfl | (simp only [rf_arr, rf_arrX_0, rf_arrX_s, rf_arrAt, rf_arr1, nI_1]; done) | (simp only [rf_arr, rf_arrX_0, rf_arrX_s, rf_arrAt, rf_arr1, nI_1]; done) | (simp [rf_arr, rf_arrX_0, rf_arrX_s, rf_arrAt, rf_arr1, nI_1]; done) | (simp [rf_arr, rf_arrX_0, rf_arrX_s, rf_arrAt, rf_arr1, nI_1]; done) | contradiction | rfl) (by first | with_reducible rfl | (simp only [rf_arr, rf_arrX_0, rf_arrX_s, rf_arrAt, rf_arr1, nI_1]; done) | (simp only [rf_arr, rf_arrX_0, rf_arrX_s, rf_arrAt, rf_arr1, nI_1]; done) | (simp [rf_arr, rf_arrX_0, rf_arrX_s, rf_arrAt, rf_arr1, nI_1]; done) | (simp [rf_arr, rf_arrX_0, rf_arrX_s, rf_arrAt, rf_arr1, nI_1]; done) | contradiction | rfl) (H4 (cn (S 1) + 1) 0 (by omega) (by omega))
  intro j4
  induction j4 with
  | zero => intro i h1 h2 ; exact absurd h2 (Nat.not_lt_zero _)
  | succ j4 ih4 =>
    intro i hle4 hlt4 
    refine ka_iload_n hC dX7_arrives_4 rfl ?_
    refine ka_aload_n hC dX7_arrives_5 rfl ?_
    refine kg_X7_7  hC dX7_arrives_6 ?_
    refine ka_iconst (v := 1) hC dX7_arrives_9 rfl ?_
    refine km_ld 1 (by decide) rfl hC dX7_arrives_10 ?_
    refine ka_icmp_ge (tgt := 83) hC dX7_arrives_11 (by decide) (fun c11 => ?_) (fun c11 => ?_)
    · skip
      rw [rx_arrX.s1] at c11
      obtain rfl : i = cn (S 1) := nlt_cn hle4 c11
      refine ka_iload_n hC dX7_arrives_83 rfl ?_
      exact ka_iret hC hR dX7_arrives_84 (by first | with_reducible rfl | (simp only [rf_arr, rf_arrX_0, rf_arrX_s, rf_arrAt, rf_arr1, nI_1, c11]; done) | (simp only [rf_arr, rf_arrX_0, rf_arrX_s, rf_arrAt, rf_arr1, nI_1, if_neg c11, if_pos c11]; done) | (simp [rf_arr, rf_arrX_0, rf_arrX_s, rf_arrAt, rf_arr1, nI_1, c11]; done) | (simp [rf_arr, rf_arrX_0, rf_arrX_s, rf_arrAt, rf_arr1, nI_1, if_neg c11, if_pos c11]; done) | contradiction | rfl) (by first | with_reducible rfl | (simp only [rf_arr, rf_arrX_0, rf_arrX_s, rf_arrAt, rf_arr1, nI_1, c11]; done) | (simp only [rf_arr, rf_arrX_0, rf_arrX_s, rf_arrAt, rf_arr1, nI_1, if_neg c11, if_pos c11]; done) | (simp [rf_arr, rf_arrX_0, rf_arrX_s, rf_arrAt, rf_arr1, nI_1, c11]; done) | (simp [rf_arr, rf_arrX_0, rf_arrX_s, rf_arrAt, rf_arr1, nI_1, if_neg c11, if_pos c11]; done) | contradiction | rfl)
    · skip
      rw [rx_arrX.s1] at c11
      have hi : i < cn (S 1) := lt_cn hle4 c11
      have hi20 : i < 20 := Nat.lt_of_lt_of_le hi hn
      refine ka_aload_n hC dX7_arrives_14 rfl ?_
      refine ka_iload_n hC dX7_arrives_15 rfl ?_
      refine ka_iconst (v := 3) hC dX7_arrives_16 rfl ?_
      refine ka_callV hC (m_X7_of hG i 3 hi20 (by decide) rfl rfl) (ka_Rc_model ) rfl ka_q_ml_X7_40 ka_q_im_X7_of ka_q_se_X7_of ka_q_in_X7 ka_q_co_X7_of ky_X7_of (by decide) (by decide) (Nat.le_of_ble_eq_true rfl) rfl dX7_arrives_17 ?_
      refine ka_iconst (v := 1) hC dX7_arrives_20 rfl ?_
      refine ka_icmp_ne (tgt := 77) hC dX7_arrives_21 (by decide) (fun c21 => ?_) (fun c21 => ?_)
      · skip
        refine ka_iinc_2 (v := 1) hC dX7_arrives_77 rfl (by decide) ?_
        refine ka_goto (tgt := 4) hC dX7_arrives_80 (by decide) ?_
        exact ka_I.back 3 (by first | with_reducible rfl | (simp only [rf_arr, rf_arrX_0, rf_arrX_s, rf_arrAt, rf_arr1, nI_1, c11, c21]; done) | (simp only [rf_arr, rf_arrX_0, rf_arrX_s, rf_arrAt, rf_arr1, nI_1, if_pos c11, if_neg (not_not_intro c11), if_neg c21, if_pos c21]; done) | (simp [rf_arr, rf_arrX_0, rf_arrX_s, rf_arrAt, rf_arr1, nI_1, c11, c21]; done) | (simp [rf_arr, rf_arrX_0, rf_arrX_s, rf_arrAt, rf_arr1, nI_1, if_pos c11, if_neg (not_not_intro c11), if_neg c21, if_pos c21]; done) | contradiction | rfl) (by first | with_reducible rfl | (simp only [rf_arr, rf_arrX_0, rf_arrX_s, rf_arrAt, rf_arr1, nI_1, c11, c21]; done) | (simp only [rf_arr, rf_arrX_0, rf_arrX_s, rf_arrAt, rf_arr1, nI_1, if_pos c11, if_neg (not_not_intro c11), if_neg c21, if_pos c21]; done) | (simp [rf_arr, rf_arrX_0, rf_arrX_s, rf_arrAt, rf_arr1, nI_1, c11, c21]; done) | (simp [rf_arr, rf_arrX_0, rf_arrX_s, rf_arrAt, rf_arr1, nI_1, if_pos c11, if_neg (not_not_intro c11), if_neg c21, if_pos c21]; done) | contradiction | rfl) (ih4 (i + 1) (by omega) (by omega))
      · skip
        refine ka_aload_n hC dX7_arrives_24 rfl ?_
        refine ka_iload_n hC dX7_arrives_25 rfl ?_
        refine ka_bipush (v := 6) hC dX7_arrives_26 rfl ?_
        refine ka_callV hC (m_X7_of hG i 6 hi20 (by decide) rfl rfl) (ka_Rc_model ) rfl ka_q_ml_X7_40 ka_q_im_X7_of ka_q_se_X7_of ka_q_in_X7 ka_q_co_X7_of ky_X7_of (by decide) (by decide) (Nat.le_of_ble_eq_true rfl) rfl dX7_arrives_28 ?_
        refine ka_aload_n hC dX7_arrives_31 rfl ?_
        refine kg_X7_7  hC dX7_arrives_32 ?_
        refine ka_iconst (v := 2) hC dX7_arrives_35 rfl ?_
        refine km_ld 2 (by decide) rfl hC dX7_arrives_36 ?_
        refine ka_icmp_ne (tgt := 77) hC dX7_arrives_37 (by decide) (fun c37 => ?_) (fun c37 => ?_)
        · skip
          refine ka_iinc_2 (v := 1) hC dX7_arrives_77 rfl (by decide) ?_
          refine ka_goto (tgt := 4) hC dX7_arrives_80 (by decide) ?_
          exact ka_I.back 3 (by first | with_reducible rfl | (simp only [rf_arr, rf_arrX_0, rf_arrX_s, rf_arrAt, rf_arr1, nI_1, c11, c21, c37]; done) | (simp only [rf_arr, rf_arrX_0, rf_arrX_s, rf_arrAt, rf_arr1, nI_1, if_pos c11, if_neg (not_not_intro c11), if_pos c21, if_neg (not_not_intro c21), if_neg c37, if_pos c37]; done) | (simp [rf_arr, rf_arrX_0, rf_arrX_s, rf_arrAt, rf_arr1, nI_1, c11, c21, c37]; done) | (simp [rf_arr, rf_arrX_0, rf_arrX_s, rf_arrAt, rf_arr1, nI_1, if_pos c11, if_neg (not_not_intro c11), if_pos c21, if_neg (not_not_intro c21), if_neg c37, if_pos c37]; done) | contradiction | rfl) (by first | with_reducible rfl | (simp only [rf_arr, rf_arrX_0, rf_arrX_s, rf_arrAt, rf_arr1, nI_1, c11, c21, c37]; done) | (simp only [rf_arr, rf_arrX_0, rf_arrX_s, rf_arrAt, rf_arr1, nI_1, if_pos c11, if_neg (not_not_intro c11), if_pos c21, if_neg (not_not_intro c21), if_neg c37, if_pos c37]; done) | (simp [rf_arr, rf_arrX_0, rf_arrX_s, rf_arrAt, rf_arr1, nI_1, c11, c21, c37]; done) | (simp [rf_arr, rf_arrX_0, rf_arrX_s, rf_arrAt, rf_arr1, nI_1, if_pos c11, if_neg (not_not_intro c11), if_pos c21, if_neg (not_not_intro c21), if_neg c37, if_pos c37]; done) | contradiction | rfl) (ih4 (i + 1) (by omega) (by omega))
        · skip
          refine ka_aload_n hC dX7_arrives_40 rfl ?_
          refine ka_iload_n hC dX7_arrives_41 rfl ?_
          refine ka_iconst (v := 3) hC dX7_arrives_42 rfl ?_
          refine ka_iconst (v := 0) hC dX7_arrives_43 rfl ?_
          refine ka_callV hC (m_X7_lays hG i 3 hi20 (by decide) rfl rfl) (ka_Rc_model ) rfl ka_q_ml_X7_63 ka_q_im_X7_lays ka_q_se_X7_lays ka_q_in_X7 ka_q_co_X7_lays ky_X7_lays (by decide) (by decide) (Nat.le_of_ble_eq_true rfl) rfl dX7_arrives_44 ?_
          refine ka_aload_n hC dX7_arrives_47 rfl ?_
          refine ka_iload_n hC dX7_arrives_48 rfl ?_
          refine ka_iconst (v := 4) hC dX7_arrives_49 rfl ?_
          refine ka_aload_n hC dX7_arrives_50 rfl ?_
          refine ka_iload_n hC dX7_arrives_51 rfl ?_
          refine ka_iconst (v := 4) hC dX7_arrives_52 rfl ?_
          refine ka_callV hC (m_X7_of hG i 4 hi20 (by decide) rfl rfl) (ka_Rc_model ) rfl ka_q_ml_X7_40 ka_q_im_X7_of ka_q_se_X7_of ka_q_in_X7 ka_q_co_X7_of ky_X7_of (by decide) (by decide) (Nat.le_of_ble_eq_true rfl) rfl dX7_arrives_53 ?_
          refine ka_aload_n hC dX7_arrives_56 rfl ?_
          refine ka_iload_n hC dX7_arrives_57 rfl ?_
          refine ka_bipush (v := 8) hC dX7_arrives_58 rfl ?_
          refine ka_callV hC (m_X7_of hG i 8 hi20 (by decide) rfl rfl) (ka_Rc_model ) rfl ka_q_ml_X7_40 ka_q_im_X7_of ka_q_se_X7_of ka_q_in_X7 ka_q_co_X7_of ky_X7_of (by decide) (by decide) (Nat.le_of_ble_eq_true rfl) rfl dX7_arrives_60 ?_
          refine ka_iadd hC dX7_arrives_63 ?_
          refine ka_callV hC (m_X7_lays hG i 4 hi20 (by decide) rfl rfl) (ka_Rc_model ) rfl ka_q_ml_X7_63 ka_q_im_X7_lays ka_q_se_X7_lays ka_q_in_X7 ka_q_co_X7_lays ky_X7_lays (by decide) (by decide) (Nat.le_of_ble_eq_true rfl) rfl dX7_arrives_64 ?_
          refine ka_aload_n hC dX7_arrives_67 rfl ?_
          refine ka_iload_n hC dX7_arrives_68 rfl ?_
          refine ka_iconst (v := 5) hC dX7_arrives_69 rfl ?_
          refine ka_iconst (v := (-1)) hC dX7_arrives_70 rfl ?_
          refine ka_callV hC (m_X7_lays hG i 5 hi20 (by decide) rfl rfl) (ka_Rc_model ) rfl ka_q_ml_X7_63 ka_q_im_X7_lays ka_q_se_X7_lays ka_q_in_X7 ka_q_co_X7_lays ky_X7_lays (by decide) (by decide) (Nat.le_of_ble_eq_true rfl) rfl dX7_arrives_71 ?_
          refine ka_iinc_1 (v := 1) hC dX7_arrives_74 rfl (by decide) ?_
          refine ka_iinc_2 (v := 1) hC dX7_arrives_77 rfl (by decide) ?_
          refine ka_goto (tgt := 4) hC dX7_arrives_80 (by decide) ?_
          exact ka_I.back 3 (by first | with_reducible rfl | (simp only [rf_arr, rf_arrX_0, rf_arrX_s, rf_arrAt, rf_arr1, nI_1, c11, c21, c37]; done) | (simp only [rf_arr, rf_arrX_0, rf_arrX_s, rf_arrAt, rf_arr1, nI_1, if_pos c11, if_neg (not_not_intro c11), if_pos c21, if_neg (not_not_intro c21), if_pos c37, if_neg (not_not_intro c37)]; done) | (simp [rf_arr, rf_arrX_0, rf_arrX_s, rf_arrAt, rf_arr1, nI_1, c11, c21, c37]; done) | (simp [rf_arr, rf_arrX_0, rf_arrX_s, rf_arrAt, rf_arr1, nI_1, if_pos c11, if_neg (not_not_intro c11), if_pos c21, if_neg (not_not_intro c21), if_pos c37, if_neg (not_not_intro c37)]; done) | contradiction | rfl) (by first | with_reducible rfl | (simp only [rf_arr, rf_arrX_0, rf_arrX_s, rf_arrAt, rf_arr1, nI_1, c11, c21, c37]; done) | (simp only [rf_arr, rf_arrX_0, rf_arrX_s, rf_arrAt, rf_arr1, nI_1, if_pos c11, if_neg (not_not_intro c11), if_pos c21, if_neg (not_not_intro c21), if_pos c37, if_neg (not_not_intro c37)]; done) | (simp [rf_arr, rf_arrX_0, rf_arrX_s, rf_arrAt, rf_arr1, nI_1, c11, c21, c37]; done) | (simp [rf_arr, rf_arrX_0, rf_arrX_s, rf_arrAt, rf_arr1, nI_1, if_pos c11, if_neg (not_not_intro c11), if_pos c21, if_neg (not_not_intro c21), if_pos c37, if_neg (not_not_intro c37)]; done) | contradiction | rfl) (ih4 (i + 1) (by omega) (by omega))
theorem ky_X7_repairs : ka_y yX7_repairs 0 := by unfold ka_y; decide +kernel
set_option maxHeartbeats 4000000 in
set_option maxRecDepth 100000 in
theorem m_X7_repairs {G : ka_G} (hG : ka_AD G) {V : ka_W} {M : ka_P} {S : ka_F} (hn : cn (S 1) ≤ 20) (hv : ¬ S 2 + S 13 < 0)  : ka_M G yX7_repairs cX7_repairs 2 none 3 [.ref (ka_ad G 9 0)] (ka_ms V M S) none (ka_ms V M (rf_reps S)) := by
  refine ka_entry hG ka_pn_X7 (ka_cat1 rfl) (Nat.le_of_ble_eq_true rfl) (fun X hC hR => ?_)
  refine ka_iconst (v := 0) hC dX7_repairs_0 rfl ?_
  refine ka_istore_n_p1 hC dX7_repairs_1 (by decide) ?_
  suffices H2 : ∀ jj i : Nat, i ≤ cn (S 1) → cn (S 1) - i < jj → ka_I G X (ka_ms V M (rf_repX S i)) 2 [.ref (ka_ad G 9 0), .int (nI i)] [] from ka_I.back 2 (by first | with_reducible rfl | (simp only [rf_reps, rf_reps0, rf_repX_0, rf_repX_s, rf_repAt, rf_rep1, sA, nI_1]; done) | (simp only [rf_reps, rf_reps0, rf_repX_0, rf_repX_s, rf_repAt, rf_rep1, sA, nI_1]; done) | (simp [rf_reps, rf_reps0, rf_repX_0, rf_repX_s, rf_repAt, rf_rep1, sA, nI_1]; done) | (simp [rf_reps, rf_reps0, rf_repX_0, rf_repX_s, rf_repAt, rf_rep1, sA, nI_1]; done) | contradiction | rfl) (by first | with_reducible rfl | (simp only [rf_reps, rf_reps0, rf_repX_0, rf_repX_s, rf_repAt, rf_rep1, sA, nI_1]; done) | (simp only [rf_reps, rf_reps0, rf_repX_0, rf_repX_s, rf_repAt, rf_rep1, sA, nI_1]; done) | (simp [rf_reps, rf_reps0, rf_repX_0, rf_repX_s, rf_repAt, rf_rep1, sA, nI_1]; done) | (simp [rf_reps, rf_reps0, rf_repX_0, rf_repX_s, rf_repAt, rf_rep1, sA, nI_1]; done) | contradiction | rfl) (H2 (cn (S 1) + 1) 0 (by omega) (by omega))
  intro j2
  induction j2 with
  | zero => intro i h1 h2 ; exact absurd h2 (Nat.not_lt_zero _)
  | succ j2 ih2 =>
    intro i hle2 hlt2 
    refine ka_iload_n hC dX7_repairs_2 rfl ?_
    refine ka_aload_n hC dX7_repairs_3 rfl ?_
    refine kg_X7_7  hC dX7_repairs_4 ?_
    refine ka_iconst (v := 1) hC dX7_repairs_7 rfl ?_
    refine km_ld 1 (by decide) rfl hC dX7_repairs_8 ?_
    refine ka_icmp_ge (tgt := 75) hC dX7_repairs_9 (by decide) (fun c9 => ?_) (fun c9 => ?_)
    · skip
      rw [rx_repX.s1] at c9
      obtain rfl : i = cn (S 1) := nlt_cn hle2 c9
      refine ka_aload_n hC dX7_repairs_75 rfl ?_
      refine ka_callV hC (m_X7_fillsShop hG (S := rf_reps0 S) (by rw [rx_reps0.s1]; exact hn) (by rw [rx_reps0.s2, rx_reps0.hi (by decide) (by decide)]; exact hv)) (ka_Rc_model ) rfl ka_q_ml_X7_66 ka_q_im_X7_fillsShop ka_q_se_X7_fillsShop ka_q_in_X7 ka_q_co_X7_fillsShop ky_X7_fillsShop (by decide) (by decide) (Nat.le_of_ble_eq_true rfl) rfl dX7_repairs_76 ?_
      exact ka_vret hC hR dX7_repairs_79 rfl (by first | with_reducible rfl | (simp only [rf_reps, rf_reps0, rf_repX_0, rf_repX_s, rf_repAt, rf_rep1, sA, nI_1, c9]; done) | (simp only [rf_reps, rf_reps0, rf_repX_0, rf_repX_s, rf_repAt, rf_rep1, sA, nI_1, if_neg c9, if_pos c9]; done) | (simp [rf_reps, rf_reps0, rf_repX_0, rf_repX_s, rf_repAt, rf_rep1, sA, nI_1, c9]; done) | (simp [rf_reps, rf_reps0, rf_repX_0, rf_repX_s, rf_repAt, rf_rep1, sA, nI_1, if_neg c9, if_pos c9]; done) | contradiction | rfl)
    · skip
      rw [rx_repX.s1] at c9
      have hi : i < cn (S 1) := lt_cn hle2 c9
      have hi20 : i < 20 := Nat.lt_of_lt_of_le hi hn
      refine ka_aload_n hC dX7_repairs_12 rfl ?_
      refine ka_iload_n hC dX7_repairs_13 rfl ?_
      refine ka_iconst (v := 3) hC dX7_repairs_14 rfl ?_
      refine ka_callV hC (m_X7_of hG i 3 hi20 (by decide) rfl rfl) (ka_Rc_model ) rfl ka_q_ml_X7_40 ka_q_im_X7_of ka_q_se_X7_of ka_q_in_X7 ka_q_co_X7_of ky_X7_of (by decide) (by decide) (Nat.le_of_ble_eq_true rfl) rfl dX7_repairs_15 ?_
      refine ka_iconst (v := 2) hC dX7_repairs_18 rfl ?_
      refine ka_icmp_ne (tgt := 69) hC dX7_repairs_19 (by decide) (fun c19 => ?_) (fun c19 => ?_)
      · skip
        refine ka_iinc_1 (v := 1) hC dX7_repairs_69 rfl (by decide) ?_
        refine ka_goto (tgt := 2) hC dX7_repairs_72 (by decide) ?_
        exact ka_I.back 2 (by first | with_reducible rfl | (simp only [rf_reps, rf_reps0, rf_repX_0, rf_repX_s, rf_repAt, rf_rep1, sA, nI_1, c9, c19]; done) | (simp only [rf_reps, rf_reps0, rf_repX_0, rf_repX_s, rf_repAt, rf_rep1, sA, nI_1, if_pos c9, if_neg (not_not_intro c9), if_neg c19, if_pos c19]; done) | (simp [rf_reps, rf_reps0, rf_repX_0, rf_repX_s, rf_repAt, rf_rep1, sA, nI_1, c9, c19]; done) | (simp [rf_reps, rf_reps0, rf_repX_0, rf_repX_s, rf_repAt, rf_rep1, sA, nI_1, if_pos c9, if_neg (not_not_intro c9), if_neg c19, if_pos c19]; done) | contradiction | rfl) (by first | with_reducible rfl | (simp only [rf_reps, rf_reps0, rf_repX_0, rf_repX_s, rf_repAt, rf_rep1, sA, nI_1, c9, c19]; done) | (simp only [rf_reps, rf_reps0, rf_repX_0, rf_repX_s, rf_repAt, rf_rep1, sA, nI_1, if_pos c9, if_neg (not_not_intro c9), if_neg c19, if_pos c19]; done) | (simp [rf_reps, rf_reps0, rf_repX_0, rf_repX_s, rf_repAt, rf_rep1, sA, nI_1, c9, c19]; done) | (simp [rf_reps, rf_reps0, rf_repX_0, rf_repX_s, rf_repAt, rf_rep1, sA, nI_1, if_pos c9, if_neg (not_not_intro c9), if_neg c19, if_pos c19]; done) | contradiction | rfl) (ih2 (i + 1) (by omega) (by omega))
      · skip
        refine ka_aload_n hC dX7_repairs_22 rfl ?_
        refine ka_iload_n hC dX7_repairs_23 rfl ?_
        refine ka_bipush (v := 6) hC dX7_repairs_24 rfl ?_
        refine ka_callV hC (m_X7_of hG i 6 hi20 (by decide) rfl rfl) (ka_Rc_model ) rfl ka_q_ml_X7_40 ka_q_im_X7_of ka_q_se_X7_of ka_q_in_X7 ka_q_co_X7_of ky_X7_of (by decide) (by decide) (Nat.le_of_ble_eq_true rfl) rfl dX7_repairs_26 ?_
        refine ka_aload_n hC dX7_repairs_29 rfl ?_
        refine kg_X7_7  hC dX7_repairs_30 ?_
        refine ka_iconst (v := 2) hC dX7_repairs_33 rfl ?_
        refine km_ld 2 (by decide) rfl hC dX7_repairs_34 ?_
        refine ka_icmp_ne (tgt := 69) hC dX7_repairs_35 (by decide) (fun c35 => ?_) (fun c35 => ?_)
        · skip
          refine ka_iinc_1 (v := 1) hC dX7_repairs_69 rfl (by decide) ?_
          refine ka_goto (tgt := 2) hC dX7_repairs_72 (by decide) ?_
          exact ka_I.back 2 (by first | with_reducible rfl | (simp only [rf_reps, rf_reps0, rf_repX_0, rf_repX_s, rf_repAt, rf_rep1, sA, nI_1, c9, c19, c35]; done) | (simp only [rf_reps, rf_reps0, rf_repX_0, rf_repX_s, rf_repAt, rf_rep1, sA, nI_1, if_pos c9, if_neg (not_not_intro c9), if_pos c19, if_neg (not_not_intro c19), if_neg c35, if_pos c35]; done) | (simp [rf_reps, rf_reps0, rf_repX_0, rf_repX_s, rf_repAt, rf_rep1, sA, nI_1, c9, c19, c35]; done) | (simp [rf_reps, rf_reps0, rf_repX_0, rf_repX_s, rf_repAt, rf_rep1, sA, nI_1, if_pos c9, if_neg (not_not_intro c9), if_pos c19, if_neg (not_not_intro c19), if_neg c35, if_pos c35]; done) | contradiction | rfl) (by first | with_reducible rfl | (simp only [rf_reps, rf_reps0, rf_repX_0, rf_repX_s, rf_repAt, rf_rep1, sA, nI_1, c9, c19, c35]; done) | (simp only [rf_reps, rf_reps0, rf_repX_0, rf_repX_s, rf_repAt, rf_rep1, sA, nI_1, if_pos c9, if_neg (not_not_intro c9), if_pos c19, if_neg (not_not_intro c19), if_neg c35, if_pos c35]; done) | (simp [rf_reps, rf_reps0, rf_repX_0, rf_repX_s, rf_repAt, rf_rep1, sA, nI_1, c9, c19, c35]; done) | (simp [rf_reps, rf_reps0, rf_repX_0, rf_repX_s, rf_repAt, rf_rep1, sA, nI_1, if_pos c9, if_neg (not_not_intro c9), if_pos c19, if_neg (not_not_intro c19), if_neg c35, if_pos c35]; done) | contradiction | rfl) (ih2 (i + 1) (by omega) (by omega))
        · skip
          refine ka_aload_n hC dX7_repairs_38 rfl ?_
          refine ka_iload_n hC dX7_repairs_39 rfl ?_
          refine ka_iconst (v := 3) hC dX7_repairs_40 rfl ?_
          refine ka_iconst (v := 0) hC dX7_repairs_41 rfl ?_
          refine ka_callV hC (m_X7_lays hG i 3 hi20 (by decide) rfl rfl) (ka_Rc_model ) rfl ka_q_ml_X7_63 ka_q_im_X7_lays ka_q_se_X7_lays ka_q_in_X7 ka_q_co_X7_lays ky_X7_lays (by decide) (by decide) (Nat.le_of_ble_eq_true rfl) rfl dX7_repairs_42 ?_
          refine ka_aload_n hC dX7_repairs_45 rfl ?_
          refine ka_iload_n hC dX7_repairs_46 rfl ?_
          refine ka_iconst (v := 4) hC dX7_repairs_47 rfl ?_
          refine ka_iconst (v := 0) hC dX7_repairs_48 rfl ?_
          refine ka_callV hC (m_X7_lays hG i 4 hi20 (by decide) rfl rfl) (ka_Rc_model ) rfl ka_q_ml_X7_63 ka_q_im_X7_lays ka_q_se_X7_lays ka_q_in_X7 ka_q_co_X7_lays ky_X7_lays (by decide) (by decide) (Nat.le_of_ble_eq_true rfl) rfl dX7_repairs_49 ?_
          refine ka_aload_n hC dX7_repairs_52 rfl ?_
          refine ka_iload_n hC dX7_repairs_53 rfl ?_
          refine ka_iconst (v := 5) hC dX7_repairs_54 rfl ?_
          refine ka_iconst (v := (-1)) hC dX7_repairs_55 rfl ?_
          refine ka_callV hC (m_X7_lays hG i 5 hi20 (by decide) rfl rfl) (ka_Rc_model ) rfl ka_q_ml_X7_63 ka_q_im_X7_lays ka_q_se_X7_lays ka_q_in_X7 ka_q_co_X7_lays ky_X7_lays (by decide) (by decide) (Nat.le_of_ble_eq_true rfl) rfl dX7_repairs_56 ?_
          refine ka_aload_n hC dX7_repairs_59 rfl ?_
          refine kg_X7_7  hC dX7_repairs_60 ?_
          refine ka_iconst (v := 3) hC dX7_repairs_63 rfl ?_
          refine ka_dup2 hC dX7_repairs_64 rfl rfl ?_
          refine km_ld 3 (by decide) rfl hC dX7_repairs_65 ?_
          refine ka_iconst (v := 1) hC dX7_repairs_66 rfl ?_
          refine ka_iadd hC dX7_repairs_67 ?_
          refine km_st 3 (by decide) rfl hC dX7_repairs_68 ?_
          refine ka_iinc_1 (v := 1) hC dX7_repairs_69 rfl (by decide) ?_
          refine ka_goto (tgt := 2) hC dX7_repairs_72 (by decide) ?_
          exact ka_I.back 2 (by first | with_reducible rfl | (simp only [rf_reps, rf_reps0, rf_repX_0, rf_repX_s, rf_repAt, rf_rep1, sA, nI_1, c9, c19, c35]; done) | (simp only [rf_reps, rf_reps0, rf_repX_0, rf_repX_s, rf_repAt, rf_rep1, sA, nI_1, if_pos c9, if_neg (not_not_intro c9), if_pos c19, if_neg (not_not_intro c19), if_pos c35, if_neg (not_not_intro c35)]; done) | (simp [rf_reps, rf_reps0, rf_repX_0, rf_repX_s, rf_repAt, rf_rep1, sA, nI_1, c9, c19, c35]; done) | (simp [rf_reps, rf_reps0, rf_repX_0, rf_repX_s, rf_repAt, rf_rep1, sA, nI_1, if_pos c9, if_neg (not_not_intro c9), if_pos c19, if_neg (not_not_intro c19), if_pos c35, if_neg (not_not_intro c35)]; done) | contradiction | rfl) (by first | with_reducible rfl | (simp only [rf_reps, rf_reps0, rf_repX_0, rf_repX_s, rf_repAt, rf_rep1, sA, nI_1, c9, c19, c35]; done) | (simp only [rf_reps, rf_reps0, rf_repX_0, rf_repX_s, rf_repAt, rf_rep1, sA, nI_1, if_pos c9, if_neg (not_not_intro c9), if_pos c19, if_neg (not_not_intro c19), if_pos c35, if_neg (not_not_intro c35)]; done) | (simp [rf_reps, rf_reps0, rf_repX_0, rf_repX_s, rf_repAt, rf_rep1, sA, nI_1, c9, c19, c35]; done) | (simp [rf_reps, rf_reps0, rf_repX_0, rf_repX_s, rf_repAt, rf_rep1, sA, nI_1, if_pos c9, if_neg (not_not_intro c9), if_pos c19, if_neg (not_not_intro c19), if_pos c35, if_neg (not_not_intro c35)]; done) | contradiction | rfl) (ih2 (i + 1) (by omega) (by omega))
theorem ky_X7_charges : ka_y yX7_charges 1 := by unfold ka_y; decide +kernel
set_option maxHeartbeats 4000000 in
set_option maxRecDepth 100000 in
theorem m_X7_charges {G : ka_G} (hG : ka_AD G) {V : ka_W} {M : ka_P} {S : ka_F} {D : Nat} (hM : MK D S) {w : Nat} (hw : w < 20)  : ka_M G yX7_charges cX7_charges 5 none 2 [.ref (ka_ad G 9 0), .int (nI w)] (ka_ms V M S) none (ka_ms V M (rf_chg S w)) := by
  refine ka_entry hG ka_pn_X7 (ka_cat1 rfl) (Nat.le_of_ble_eq_true rfl) (fun X hC hR => ?_)
  refine ka_aload_n hC dX7_charges_0 rfl ?_
  refine ka_iload_n hC dX7_charges_1 rfl ?_
  refine ka_iconst (v := 1) hC dX7_charges_2 rfl ?_
  refine ka_callV hC (m_X7_of hG w 1 hw (by decide) rfl rfl) (ka_Rc_model ) rfl ka_q_ml_X7_40 ka_q_im_X7_of ka_q_se_X7_of ka_q_in_X7 ka_q_co_X7_of ky_X7_of (by decide) (by decide) (Nat.le_of_ble_eq_true rfl) rfl dX7_charges_3 ?_
  refine ka_istore_n_p2 hC dX7_charges_6 (by decide) ?_
  refine ka_aload_n hC dX7_charges_7 rfl ?_
  refine ka_iload_n hC dX7_charges_8 rfl ?_
  refine ka_iconst (v := 0) hC dX7_charges_9 rfl ?_
  refine ka_callV hC (m_X7_of hG w 0 hw (by decide) rfl rfl) (ka_Rc_model ) rfl ka_q_ml_X7_40 ka_q_im_X7_of ka_q_se_X7_of ka_q_in_X7 ka_q_co_X7_of ky_X7_of (by decide) (by decide) (Nat.le_of_ble_eq_true rfl) rfl dX7_charges_10 ?_
  refine ka_istore_n_p3 hC dX7_charges_13 (by decide) ?_
  refine ka_iload_n hC dX7_charges_14 rfl ?_
  refine ka_if_ne (tgt := 77) hC dX7_charges_15 (by decide) (fun c15 => ?_) (fun c15 => ?_)
  · skip
    refine ka_iload_n hC dX7_charges_77 rfl ?_
    refine ka_if_le (tgt := 120) hC dX7_charges_78 (by decide) (fun c78 => ?_) (fun c78 => ?_)
    · skip
      exact ka_vret hC hR dX7_charges_120 rfl (by first | with_reducible rfl | (simp only [rf_chg, rf_chg1, rf_chg2, rf_dem, rf_hire, c15, c78]; done) | (simp only [rf_chg, rf_chg1, rf_chg2, rf_dem, rf_hire, if_neg c15, if_pos c15, if_neg c78, if_pos c78]; done) | (simp [rf_chg, rf_chg1, rf_chg2, rf_dem, rf_hire, c15, c78]; done) | (simp [rf_chg, rf_chg1, rf_chg2, rf_dem, rf_hire, if_neg c15, if_pos c15, if_neg c78, if_pos c78]; done) | contradiction | rfl)
    · skip
      refine ka_iload_n hC dX7_charges_81 rfl ?_
      refine ka_iload_n hC dX7_charges_82 rfl ?_
      refine ka_icmp_eq (tgt := 120) hC dX7_charges_83 (by decide) (fun c83 => ?_) (fun c83 => ?_)
      · skip
        exact ka_vret hC hR dX7_charges_120 rfl (by first | with_reducible rfl | (simp only [rf_chg, rf_chg1, rf_chg2, rf_dem, rf_hire, c15, c78, c83]; done) | (simp only [rf_chg, rf_chg1, rf_chg2, rf_dem, rf_hire, if_neg c15, if_pos c15, if_pos c78, if_neg (not_not_intro c78), if_pos c83, if_neg (not_not_intro c83)]; done) | (simp [rf_chg, rf_chg1, rf_chg2, rf_dem, rf_hire, c15, c78, c83]; done) | (simp [rf_chg, rf_chg1, rf_chg2, rf_dem, rf_hire, if_neg c15, if_pos c15, if_pos c78, if_neg (not_not_intro c78), if_pos c83, if_neg (not_not_intro c83)]; done) | contradiction | rfl)
      · skip
        refine ka_aload_n hC dX7_charges_86 rfl ?_
        refine kg_X7_7  hC dX7_charges_87 ?_
        refine ka_bipush (v := 9) hC dX7_charges_90 rfl ?_
        refine km_ld 9 (by decide) rfl hC dX7_charges_92 ?_
        refine ka_istore_p4 hC dX7_charges_93 (by decide) ?_
        refine ka_aload_n hC dX7_charges_95 rfl ?_
        refine ka_iload_n hC dX7_charges_96 rfl ?_
        refine ka_iload_n hC dX7_charges_97 rfl ?_
        refine ka_iload hC dX7_charges_98 rfl ?_
        refine ka_callV hC (m_X7_pays hG (cn (wg S w 1)) (cn (wg S w 0)) (hM.a5 hw) (hM.o5 hw) (hM.a hw) (hM.o hw)) (ka_Rc_model ) rfl ka_q_ml_X7_69 ka_q_im_X7_pays ka_q_se_X7_pays ka_q_in_X7 ka_q_co_X7_pays ky_X7_pays (by decide) (by decide) (Nat.le_of_ble_eq_true rfl) rfl dX7_charges_100 ?_
        refine ka_aload_n hC dX7_charges_103 rfl ?_
        refine ka_iload_n hC dX7_charges_104 rfl ?_
        refine ka_iconst (v := 4) hC dX7_charges_105 rfl ?_
        refine ka_iload hC dX7_charges_106 rfl ?_
        refine ka_ineg hC dX7_charges_108 ?_
        refine ka_callV hC (m_X7_adds hG (cn (wg S w 1)) 4 (hM.a5 hw) (by decide) (hM.a hw) rfl) (ka_Rc_model ) rfl ka_q_ml_X7_51 ka_q_im_X7_adds ka_q_se_X7_adds ka_q_in_X7 ka_q_co_X7_adds ky_X7_adds (by decide) (by decide) (Nat.le_of_ble_eq_true rfl) rfl dX7_charges_109 ?_
        refine ka_aload_n hC dX7_charges_112 rfl ?_
        refine ka_iload_n hC dX7_charges_113 rfl ?_
        refine ka_iconst (v := 4) hC dX7_charges_114 rfl ?_
        refine ka_iload hC dX7_charges_115 rfl ?_
        refine ka_callV hC (m_X7_adds hG (cn (wg S w 0)) 4 (hM.o5 hw) (by decide) (hM.o hw) rfl) (ka_Rc_model ) rfl ka_q_ml_X7_51 ka_q_im_X7_adds ka_q_se_X7_adds ka_q_in_X7 ka_q_co_X7_adds ky_X7_adds (by decide) (by decide) (Nat.le_of_ble_eq_true rfl) rfl dX7_charges_117 ?_
        exact ka_vret hC hR dX7_charges_120 rfl (by first | with_reducible rfl | (simp only [rf_chg, rf_chg1, rf_chg2, rf_dem, rf_hire, c15, c78, c83]; done) | (simp only [rf_chg, rf_chg1, rf_chg2, rf_dem, rf_hire, if_neg c15, if_pos c15, if_pos c78, if_neg (not_not_intro c78), if_neg c83, if_pos c83]; done) | (simp [rf_chg, rf_chg1, rf_chg2, rf_dem, rf_hire, c15, c78, c83]; done) | (simp [rf_chg, rf_chg1, rf_chg2, rf_dem, rf_hire, if_neg c15, if_pos c15, if_pos c78, if_neg (not_not_intro c78), if_neg c83, if_pos c83]; done) | contradiction | rfl)
  · skip
    refine ka_aload_n hC dX7_charges_18 rfl ?_
    refine ka_iload_n hC dX7_charges_19 rfl ?_
    refine ka_iconst (v := 2) hC dX7_charges_20 rfl ?_
    refine ka_callV hC (m_X7_of hG w 2 hw (by decide) rfl rfl) (ka_Rc_model ) rfl ka_q_ml_X7_40 ka_q_im_X7_of ka_q_se_X7_of ka_q_in_X7 ka_q_co_X7_of ky_X7_of (by decide) (by decide) (Nat.le_of_ble_eq_true rfl) rfl dX7_charges_21 ?_
    refine ka_iconst (v := 1) hC dX7_charges_24 rfl ?_
    refine ka_icmp_ne (tgt := 77) hC dX7_charges_25 (by decide) (fun c25 => ?_) (fun c25 => ?_)
    · skip
      refine ka_iload_n hC dX7_charges_77 rfl ?_
      refine ka_if_le (tgt := 120) hC dX7_charges_78 (by decide) (fun c78 => ?_) (fun c78 => ?_)
      · skip
        exact ka_vret hC hR dX7_charges_120 rfl (by first | with_reducible rfl | (simp only [rf_chg, rf_chg1, rf_chg2, rf_dem, rf_hire, c15, c25, c78]; done) | (simp only [rf_chg, rf_chg1, rf_chg2, rf_dem, rf_hire, if_pos c15, if_neg (not_not_intro c15), if_neg c25, if_pos c25, if_neg c78, if_pos c78]; done) | (simp [rf_chg, rf_chg1, rf_chg2, rf_dem, rf_hire, c15, c25, c78]; done) | (simp [rf_chg, rf_chg1, rf_chg2, rf_dem, rf_hire, if_pos c15, if_neg (not_not_intro c15), if_neg c25, if_pos c25, if_neg c78, if_pos c78]; done) | contradiction | rfl)
      · skip
        refine ka_iload_n hC dX7_charges_81 rfl ?_
        refine ka_iload_n hC dX7_charges_82 rfl ?_
        refine ka_icmp_eq (tgt := 120) hC dX7_charges_83 (by decide) (fun c83 => ?_) (fun c83 => ?_)
        · skip
          exact ka_vret hC hR dX7_charges_120 rfl (by first | with_reducible rfl | (simp only [rf_chg, rf_chg1, rf_chg2, rf_dem, rf_hire, c15, c25, c78, c83]; done) | (simp only [rf_chg, rf_chg1, rf_chg2, rf_dem, rf_hire, if_pos c15, if_neg (not_not_intro c15), if_neg c25, if_pos c25, if_pos c78, if_neg (not_not_intro c78), if_pos c83, if_neg (not_not_intro c83)]; done) | (simp [rf_chg, rf_chg1, rf_chg2, rf_dem, rf_hire, c15, c25, c78, c83]; done) | (simp [rf_chg, rf_chg1, rf_chg2, rf_dem, rf_hire, if_pos c15, if_neg (not_not_intro c15), if_neg c25, if_pos c25, if_pos c78, if_neg (not_not_intro c78), if_pos c83, if_neg (not_not_intro c83)]; done) | contradiction | rfl)
        · skip
          refine ka_aload_n hC dX7_charges_86 rfl ?_
          refine kg_X7_7  hC dX7_charges_87 ?_
          refine ka_bipush (v := 9) hC dX7_charges_90 rfl ?_
          refine km_ld 9 (by decide) rfl hC dX7_charges_92 ?_
          refine ka_istore_p4 hC dX7_charges_93 (by decide) ?_
          refine ka_aload_n hC dX7_charges_95 rfl ?_
          refine ka_iload_n hC dX7_charges_96 rfl ?_
          refine ka_iload_n hC dX7_charges_97 rfl ?_
          refine ka_iload hC dX7_charges_98 rfl ?_
          refine ka_callV hC (m_X7_pays hG (cn (wg S w 1)) (cn (wg S w 0)) (hM.a5 hw) (hM.o5 hw) (hM.a hw) (hM.o hw)) (ka_Rc_model ) rfl ka_q_ml_X7_69 ka_q_im_X7_pays ka_q_se_X7_pays ka_q_in_X7 ka_q_co_X7_pays ky_X7_pays (by decide) (by decide) (Nat.le_of_ble_eq_true rfl) rfl dX7_charges_100 ?_
          refine ka_aload_n hC dX7_charges_103 rfl ?_
          refine ka_iload_n hC dX7_charges_104 rfl ?_
          refine ka_iconst (v := 4) hC dX7_charges_105 rfl ?_
          refine ka_iload hC dX7_charges_106 rfl ?_
          refine ka_ineg hC dX7_charges_108 ?_
          refine ka_callV hC (m_X7_adds hG (cn (wg S w 1)) 4 (hM.a5 hw) (by decide) (hM.a hw) rfl) (ka_Rc_model ) rfl ka_q_ml_X7_51 ka_q_im_X7_adds ka_q_se_X7_adds ka_q_in_X7 ka_q_co_X7_adds ky_X7_adds (by decide) (by decide) (Nat.le_of_ble_eq_true rfl) rfl dX7_charges_109 ?_
          refine ka_aload_n hC dX7_charges_112 rfl ?_
          refine ka_iload_n hC dX7_charges_113 rfl ?_
          refine ka_iconst (v := 4) hC dX7_charges_114 rfl ?_
          refine ka_iload hC dX7_charges_115 rfl ?_
          refine ka_callV hC (m_X7_adds hG (cn (wg S w 0)) 4 (hM.o5 hw) (by decide) (hM.o hw) rfl) (ka_Rc_model ) rfl ka_q_ml_X7_51 ka_q_im_X7_adds ka_q_se_X7_adds ka_q_in_X7 ka_q_co_X7_adds ky_X7_adds (by decide) (by decide) (Nat.le_of_ble_eq_true rfl) rfl dX7_charges_117 ?_
          exact ka_vret hC hR dX7_charges_120 rfl (by first | with_reducible rfl | (simp only [rf_chg, rf_chg1, rf_chg2, rf_dem, rf_hire, c15, c25, c78, c83]; done) | (simp only [rf_chg, rf_chg1, rf_chg2, rf_dem, rf_hire, if_pos c15, if_neg (not_not_intro c15), if_neg c25, if_pos c25, if_pos c78, if_neg (not_not_intro c78), if_neg c83, if_pos c83]; done) | (simp [rf_chg, rf_chg1, rf_chg2, rf_dem, rf_hire, c15, c25, c78, c83]; done) | (simp [rf_chg, rf_chg1, rf_chg2, rf_dem, rf_hire, if_pos c15, if_neg (not_not_intro c15), if_neg c25, if_pos c25, if_pos c78, if_neg (not_not_intro c78), if_neg c83, if_pos c83]; done) | contradiction | rfl)
    · skip
      refine ka_aload_n hC dX7_charges_28 rfl ?_
      refine ka_iload_n hC dX7_charges_29 rfl ?_
      refine ka_iconst (v := 5) hC dX7_charges_30 rfl ?_
      refine ka_callV hC (m_X7_of hG w 5 hw (by decide) rfl rfl) (ka_Rc_model ) rfl ka_q_ml_X7_40 ka_q_im_X7_of ka_q_se_X7_of ka_q_in_X7 ka_q_co_X7_of ky_X7_of (by decide) (by decide) (Nat.le_of_ble_eq_true rfl) rfl dX7_charges_31 ?_
      refine ka_aload_n hC dX7_charges_34 rfl ?_
      refine kg_X7_7  hC dX7_charges_35 ?_
      refine ka_bipush (v := 7) hC dX7_charges_38 rfl ?_
      refine km_ld 7 (by decide) rfl hC dX7_charges_40 ?_
      refine ka_icmp_le (tgt := 77) hC dX7_charges_41 (by decide) (fun c41 => ?_) (fun c41 => ?_)
      · skip
        refine ka_iload_n hC dX7_charges_77 rfl ?_
        refine ka_if_le (tgt := 120) hC dX7_charges_78 (by decide) (fun c78 => ?_) (fun c78 => ?_)
        · skip
          exact ka_vret hC hR dX7_charges_120 rfl (by first | with_reducible rfl | (simp only [rf_chg, rf_chg1, rf_chg2, rf_dem, rf_hire, c15, c25, c41, c78]; done) | (simp only [rf_chg, rf_chg1, rf_chg2, rf_dem, rf_hire, if_pos c15, if_neg (not_not_intro c15), if_pos c25, if_neg (not_not_intro c25), if_neg c41, if_pos c41, if_neg c78, if_pos c78]; done) | (simp [rf_chg, rf_chg1, rf_chg2, rf_dem, rf_hire, c15, c25, c41, c78]; done) | (simp [rf_chg, rf_chg1, rf_chg2, rf_dem, rf_hire, if_pos c15, if_neg (not_not_intro c15), if_pos c25, if_neg (not_not_intro c25), if_neg c41, if_pos c41, if_neg c78, if_pos c78]; done) | contradiction | rfl)
        · skip
          refine ka_iload_n hC dX7_charges_81 rfl ?_
          refine ka_iload_n hC dX7_charges_82 rfl ?_
          refine ka_icmp_eq (tgt := 120) hC dX7_charges_83 (by decide) (fun c83 => ?_) (fun c83 => ?_)
          · skip
            exact ka_vret hC hR dX7_charges_120 rfl (by first | with_reducible rfl | (simp only [rf_chg, rf_chg1, rf_chg2, rf_dem, rf_hire, c15, c25, c41, c78, c83]; done) | (simp only [rf_chg, rf_chg1, rf_chg2, rf_dem, rf_hire, if_pos c15, if_neg (not_not_intro c15), if_pos c25, if_neg (not_not_intro c25), if_neg c41, if_pos c41, if_pos c78, if_neg (not_not_intro c78), if_pos c83, if_neg (not_not_intro c83)]; done) | (simp [rf_chg, rf_chg1, rf_chg2, rf_dem, rf_hire, c15, c25, c41, c78, c83]; done) | (simp [rf_chg, rf_chg1, rf_chg2, rf_dem, rf_hire, if_pos c15, if_neg (not_not_intro c15), if_pos c25, if_neg (not_not_intro c25), if_neg c41, if_pos c41, if_pos c78, if_neg (not_not_intro c78), if_pos c83, if_neg (not_not_intro c83)]; done) | contradiction | rfl)
          · skip
            refine ka_aload_n hC dX7_charges_86 rfl ?_
            refine kg_X7_7  hC dX7_charges_87 ?_
            refine ka_bipush (v := 9) hC dX7_charges_90 rfl ?_
            refine km_ld 9 (by decide) rfl hC dX7_charges_92 ?_
            refine ka_istore_p4 hC dX7_charges_93 (by decide) ?_
            refine ka_aload_n hC dX7_charges_95 rfl ?_
            refine ka_iload_n hC dX7_charges_96 rfl ?_
            refine ka_iload_n hC dX7_charges_97 rfl ?_
            refine ka_iload hC dX7_charges_98 rfl ?_
            refine ka_callV hC (m_X7_pays hG (cn (wg S w 1)) (cn (wg S w 0)) (hM.a5 hw) (hM.o5 hw) (hM.a hw) (hM.o hw)) (ka_Rc_model ) rfl ka_q_ml_X7_69 ka_q_im_X7_pays ka_q_se_X7_pays ka_q_in_X7 ka_q_co_X7_pays ky_X7_pays (by decide) (by decide) (Nat.le_of_ble_eq_true rfl) rfl dX7_charges_100 ?_
            refine ka_aload_n hC dX7_charges_103 rfl ?_
            refine ka_iload_n hC dX7_charges_104 rfl ?_
            refine ka_iconst (v := 4) hC dX7_charges_105 rfl ?_
            refine ka_iload hC dX7_charges_106 rfl ?_
            refine ka_ineg hC dX7_charges_108 ?_
            refine ka_callV hC (m_X7_adds hG (cn (wg S w 1)) 4 (hM.a5 hw) (by decide) (hM.a hw) rfl) (ka_Rc_model ) rfl ka_q_ml_X7_51 ka_q_im_X7_adds ka_q_se_X7_adds ka_q_in_X7 ka_q_co_X7_adds ky_X7_adds (by decide) (by decide) (Nat.le_of_ble_eq_true rfl) rfl dX7_charges_109 ?_
            refine ka_aload_n hC dX7_charges_112 rfl ?_
            refine ka_iload_n hC dX7_charges_113 rfl ?_
            refine ka_iconst (v := 4) hC dX7_charges_114 rfl ?_
            refine ka_iload hC dX7_charges_115 rfl ?_
            refine ka_callV hC (m_X7_adds hG (cn (wg S w 0)) 4 (hM.o5 hw) (by decide) (hM.o hw) rfl) (ka_Rc_model ) rfl ka_q_ml_X7_51 ka_q_im_X7_adds ka_q_se_X7_adds ka_q_in_X7 ka_q_co_X7_adds ky_X7_adds (by decide) (by decide) (Nat.le_of_ble_eq_true rfl) rfl dX7_charges_117 ?_
            exact ka_vret hC hR dX7_charges_120 rfl (by first | with_reducible rfl | (simp only [rf_chg, rf_chg1, rf_chg2, rf_dem, rf_hire, c15, c25, c41, c78, c83]; done) | (simp only [rf_chg, rf_chg1, rf_chg2, rf_dem, rf_hire, if_pos c15, if_neg (not_not_intro c15), if_pos c25, if_neg (not_not_intro c25), if_neg c41, if_pos c41, if_pos c78, if_neg (not_not_intro c78), if_neg c83, if_pos c83]; done) | (simp [rf_chg, rf_chg1, rf_chg2, rf_dem, rf_hire, c15, c25, c41, c78, c83]; done) | (simp [rf_chg, rf_chg1, rf_chg2, rf_dem, rf_hire, if_pos c15, if_neg (not_not_intro c15), if_pos c25, if_neg (not_not_intro c25), if_neg c41, if_pos c41, if_pos c78, if_neg (not_not_intro c78), if_neg c83, if_pos c83]; done) | contradiction | rfl)
      · skip
        refine ka_aload_n hC dX7_charges_44 rfl ?_
        refine kg_X7_7  hC dX7_charges_45 ?_
        refine ka_bipush (v := 8) hC dX7_charges_48 rfl ?_
        refine km_ld 8 (by decide) rfl hC dX7_charges_50 ?_
        refine ka_istore_p4 hC dX7_charges_51 (by decide) ?_
        refine ka_aload_n hC dX7_charges_53 rfl ?_
        refine ka_iload_n hC dX7_charges_54 rfl ?_
        refine ka_iconst (v := 0) hC dX7_charges_55 rfl ?_
        refine ka_iload hC dX7_charges_56 rfl ?_
        refine ka_callV hC (m_X7_pays hG (cn (wg S w 0)) 0 (hM.o5 hw) (by decide) (hM.o hw) rfl) (ka_Rc_model ) rfl ka_q_ml_X7_69 ka_q_im_X7_pays ka_q_se_X7_pays ka_q_in_X7 ka_q_co_X7_pays ky_X7_pays (by decide) (by decide) (Nat.le_of_ble_eq_true rfl) rfl dX7_charges_58 ?_
        refine ka_aload_n hC dX7_charges_61 rfl ?_
        refine ka_iload_n hC dX7_charges_62 rfl ?_
        refine ka_iconst (v := 3) hC dX7_charges_63 rfl ?_
        refine ka_iload hC dX7_charges_64 rfl ?_
        refine ka_callV hC (m_X7_adds hG (cn (wg S w 0)) 3 (hM.o5 hw) (by decide) (hM.o hw) rfl) (ka_Rc_model ) rfl ka_q_ml_X7_51 ka_q_im_X7_adds ka_q_se_X7_adds ka_q_in_X7 ka_q_co_X7_adds ky_X7_adds (by decide) (by decide) (Nat.le_of_ble_eq_true rfl) rfl dX7_charges_66 ?_
        refine ka_aload_n hC dX7_charges_69 rfl ?_
        refine ka_iconst (v := 0) hC dX7_charges_70 rfl ?_
        refine ka_iconst (v := 3) hC dX7_charges_71 rfl ?_
        refine ka_iload hC dX7_charges_72 rfl ?_
        refine ka_callV hC (m_X7_adds hG 0 3 (by decide) (by decide) rfl rfl) (ka_Rc_model ) rfl ka_q_ml_X7_51 ka_q_im_X7_adds ka_q_se_X7_adds ka_q_in_X7 ka_q_co_X7_adds ky_X7_adds (by decide) (by decide) (Nat.le_of_ble_eq_true rfl) rfl dX7_charges_74 ?_
        refine ka_iload_n hC dX7_charges_77 rfl ?_
        refine ka_if_le (tgt := 120) hC dX7_charges_78 (by decide) (fun c78 => ?_) (fun c78 => ?_)
        · skip
          exact ka_vret hC hR dX7_charges_120 rfl (by first | with_reducible rfl | (simp only [rf_chg, rf_chg1, rf_chg2, rf_dem, rf_hire, c15, c25, c41, c78]; done) | (simp only [rf_chg, rf_chg1, rf_chg2, rf_dem, rf_hire, if_pos c15, if_neg (not_not_intro c15), if_pos c25, if_neg (not_not_intro c25), if_pos c41, if_neg (not_not_intro c41), if_neg c78, if_pos c78]; done) | (simp [rf_chg, rf_chg1, rf_chg2, rf_dem, rf_hire, c15, c25, c41, c78]; done) | (simp [rf_chg, rf_chg1, rf_chg2, rf_dem, rf_hire, if_pos c15, if_neg (not_not_intro c15), if_pos c25, if_neg (not_not_intro c25), if_pos c41, if_neg (not_not_intro c41), if_neg c78, if_pos c78]; done) | contradiction | rfl)
        · skip
          refine ka_iload_n hC dX7_charges_81 rfl ?_
          refine ka_iload_n hC dX7_charges_82 rfl ?_
          refine ka_icmp_eq (tgt := 120) hC dX7_charges_83 (by decide) (fun c83 => ?_) (fun c83 => ?_)
          · skip
            exact ka_vret hC hR dX7_charges_120 rfl (by first | with_reducible rfl | (simp only [rf_chg, rf_chg1, rf_chg2, rf_dem, rf_hire, c15, c25, c41, c78, c83]; done) | (simp only [rf_chg, rf_chg1, rf_chg2, rf_dem, rf_hire, if_pos c15, if_neg (not_not_intro c15), if_pos c25, if_neg (not_not_intro c25), if_pos c41, if_neg (not_not_intro c41), if_pos c78, if_neg (not_not_intro c78), if_pos c83, if_neg (not_not_intro c83)]; done) | (simp [rf_chg, rf_chg1, rf_chg2, rf_dem, rf_hire, c15, c25, c41, c78, c83]; done) | (simp [rf_chg, rf_chg1, rf_chg2, rf_dem, rf_hire, if_pos c15, if_neg (not_not_intro c15), if_pos c25, if_neg (not_not_intro c25), if_pos c41, if_neg (not_not_intro c41), if_pos c78, if_neg (not_not_intro c78), if_pos c83, if_neg (not_not_intro c83)]; done) | contradiction | rfl)
          · skip
            refine ka_aload_n hC dX7_charges_86 rfl ?_
            refine kg_X7_7  hC dX7_charges_87 ?_
            refine ka_bipush (v := 9) hC dX7_charges_90 rfl ?_
            refine km_ld 9 (by decide) rfl hC dX7_charges_92 ?_
            refine ka_istore_s4 hC dX7_charges_93 (by decide) ?_
            refine ka_aload_n hC dX7_charges_95 rfl ?_
            refine ka_iload_n hC dX7_charges_96 rfl ?_
            refine ka_iload_n hC dX7_charges_97 rfl ?_
            refine ka_iload hC dX7_charges_98 rfl ?_
            refine ka_callV hC (m_X7_pays hG (cn (wg S w 1)) (cn (wg S w 0)) (hM.a5 hw) (hM.o5 hw) (hM.a hw) (hM.o hw)) (ka_Rc_model ) rfl ka_q_ml_X7_69 ka_q_im_X7_pays ka_q_se_X7_pays ka_q_in_X7 ka_q_co_X7_pays ky_X7_pays (by decide) (by decide) (Nat.le_of_ble_eq_true rfl) rfl dX7_charges_100 ?_
            refine ka_aload_n hC dX7_charges_103 rfl ?_
            refine ka_iload_n hC dX7_charges_104 rfl ?_
            refine ka_iconst (v := 4) hC dX7_charges_105 rfl ?_
            refine ka_iload hC dX7_charges_106 rfl ?_
            refine ka_ineg hC dX7_charges_108 ?_
            refine ka_callV hC (m_X7_adds hG (cn (wg S w 1)) 4 (hM.a5 hw) (by decide) (hM.a hw) rfl) (ka_Rc_model ) rfl ka_q_ml_X7_51 ka_q_im_X7_adds ka_q_se_X7_adds ka_q_in_X7 ka_q_co_X7_adds ky_X7_adds (by decide) (by decide) (Nat.le_of_ble_eq_true rfl) rfl dX7_charges_109 ?_
            refine ka_aload_n hC dX7_charges_112 rfl ?_
            refine ka_iload_n hC dX7_charges_113 rfl ?_
            refine ka_iconst (v := 4) hC dX7_charges_114 rfl ?_
            refine ka_iload hC dX7_charges_115 rfl ?_
            refine ka_callV hC (m_X7_adds hG (cn (wg S w 0)) 4 (hM.o5 hw) (by decide) (hM.o hw) rfl) (ka_Rc_model ) rfl ka_q_ml_X7_51 ka_q_im_X7_adds ka_q_se_X7_adds ka_q_in_X7 ka_q_co_X7_adds ky_X7_adds (by decide) (by decide) (Nat.le_of_ble_eq_true rfl) rfl dX7_charges_117 ?_
            exact ka_vret hC hR dX7_charges_120 rfl (by first | with_reducible rfl | (simp only [rf_chg, rf_chg1, rf_chg2, rf_dem, rf_hire, c15, c25, c41, c78, c83]; done) | (simp only [rf_chg, rf_chg1, rf_chg2, rf_dem, rf_hire, if_pos c15, if_neg (not_not_intro c15), if_pos c25, if_neg (not_not_intro c25), if_pos c41, if_neg (not_not_intro c41), if_pos c78, if_neg (not_not_intro c78), if_neg c83, if_pos c83]; done) | (simp [rf_chg, rf_chg1, rf_chg2, rf_dem, rf_hire, c15, c25, c41, c78, c83]; done) | (simp [rf_chg, rf_chg1, rf_chg2, rf_dem, rf_hire, if_pos c15, if_neg (not_not_intro c15), if_pos c25, if_neg (not_not_intro c25), if_pos c41, if_neg (not_not_intro c41), if_pos c78, if_neg (not_not_intro c78), if_neg c83, if_pos c83]; done) | contradiction | rfl)
theorem ky_X7_day : ka_y yX7_day 0 := by unfold ka_y; decide +kernel
set_option maxHeartbeats 4000000 in
set_option maxRecDepth 100000 in
theorem m_X7_day {G : ka_G} (hG : ka_AD G) {V : ka_W} {M : ka_P} {S : ka_F} {D : Nat} (hM : MK D S) (hD : D < 9500)  : ka_M G yX7_day cX7_day 3 (some FieldType.int) 4 [.ref (ka_ad G 9 0)] (ka_ms V M S) (some (.int ((rf_day2 S).2))) (ka_ms V M (rf_day S)) := by
  refine ka_entry hG ka_pn_X7 (ka_cat1 rfl) (Nat.le_of_ble_eq_true rfl) (fun X hC hR => ?_)
  refine ka_aload_n hC dX7_day_0 rfl ?_
  refine kg_X7_7  hC dX7_day_1 ?_
  refine ka_iconst (v := 2) hC dX7_day_4 rfl ?_
  refine ka_dup2 hC dX7_day_5 rfl rfl ?_
  refine km_ld 2 (by decide) rfl hC dX7_day_6 ?_
  refine ka_iconst (v := 1) hC dX7_day_7 rfl ?_
  refine ka_iadd hC dX7_day_8 ?_
  refine km_st 2 (by decide) rfl hC dX7_day_9 ?_
  refine ka_iconst (v := 1) hC dX7_day_10 rfl ?_
  refine ka_istore_n_p1 hC dX7_day_11 (by decide) ?_
  suffices H12 : ∀ jj i : Nat, i ≤ cn (S 0) → cn (S 0) - i < jj → ka_I G X (ka_ms V M (rf_grX (sA S 2 1) i)) 12 [.ref (ka_ad G 9 0), .int (nI (i + 1))] [] from ka_I.back 2 (by rfl) (by rfl) (H12 (cn (S 0) + 1) 0 (by omega) (by omega))
  intro j12
  induction j12 with
  | zero => intro i h1 h2 ; exact absurd h2 (Nat.not_lt_zero _)
  | succ j12 ih12 =>
    intro i hle12 hlt12 
    have hm4 := hM.m
    have h0 : rf_grX (sA S 2 1) i 0 = S 0 := (rx_grX (by omega)).s0.trans (sA_n (by decide))
    refine ka_iload_n hC dX7_day_12 rfl ?_
    refine ka_aload_n hC dX7_day_13 rfl ?_
    refine kg_X7_7  hC dX7_day_14 ?_
    refine ka_iconst (v := 0) hC dX7_day_17 rfl ?_
    refine km_ld 0 (by decide) rfl hC dX7_day_18 ?_
    refine ka_icmp_gt (tgt := 70) hC dX7_day_19 (by decide) (fun c19 => ?_) (fun c19 => ?_)
    · skip
      rw [h0] at c19
      obtain rfl : i = cn (S 0) := nle_cn (m := 5) rfl (by decide) hM.m5 hle12 c19
      refine ka_I.eqW (V' := ka_ms V M (rf_day1 S)) rfl ?_
      refine ka_aload_n hC dX7_day_70 rfl ?_
      refine ka_callV hC (m_X7_arrives hG (S := rf_day1 S) (by rw [(rx_day1 hM).s1, sA_n (by decide)]; exact hM.n)) (ka_Rc_model ) rfl ka_q_ml_X7_72 ka_q_im_X7_arrives ka_q_se_X7_arrives ka_q_in_X7 ka_q_co_X7_arrives ky_X7_arrives (by decide) (by decide) (Nat.le_of_ble_eq_true rfl) rfl dX7_day_71 ?_
      refine ka_istore_n_s1 hC dX7_day_74 (by decide) ?_
      refine ka_aload_n hC dX7_day_75 rfl ?_
      refine ka_callV hC (m_X7_repairs hG (S := (rf_day2 S).1) (by rw [(rx_day2 hM).s1, sA_n (by decide)]; exact hM.n) (MK.v (D := D + 1) (MK.of (rx_day2 hM) (hM.next (by omega))) (by omega))) (ka_Rc_model ) rfl ka_q_ml_X7_75 ka_q_im_X7_repairs ka_q_se_X7_repairs ka_q_in_X7 ka_q_co_X7_repairs ky_X7_repairs (by decide) (by decide) (Nat.le_of_ble_eq_true rfl) rfl dX7_day_76 ?_
      refine ka_iconst (v := 0) hC dX7_day_79 rfl ?_
      refine ka_istore_n_p2 hC dX7_day_80 (by decide) ?_
      suffices H81 : ∀ jj i : Nat, i ≤ cn (S 1) → cn (S 1) - i < jj → ka_I G X (ka_ms V M (rf_stX (rf_day3 S) i)) 81 [.ref (ka_ad G 9 0), .int (rf_day2 S).2, .int (nI i)] [] from ka_I.back 3 (by rw [rf_stX_0]; rfl) (by rfl) (H81 (cn (S 1) + 1) 0 (by omega) (by omega))
      intro j81
      induction j81 with
      | zero => intro i h1 h2 ; exact absurd h2 (Nat.not_lt_zero _)
      | succ j81 ih81 =>
        intro i hle81 hlt81 
        have hM3 : MK (D + 1) (rf_day3 S) := MK.of (rx_day3 hM) (hM.next (by omega))
        have h31 : rf_day3 S 1 = S 1 := (rx_day3 hM).s1.trans (sA_n (by decide))
        have hx := rx_stX hM3 (i := i) (Nat.le_trans hle81 hM.n)
        have hMi := MK.of hx hM3
        refine ka_iload_n hC dX7_day_81 rfl ?_
        refine ka_aload_n hC dX7_day_82 rfl ?_
        refine kg_X7_7  hC dX7_day_83 ?_
        refine ka_iconst (v := 1) hC dX7_day_86 rfl ?_
        refine km_ld 1 (by decide) rfl hC dX7_day_87 ?_
        refine ka_icmp_ge (tgt := 125) hC dX7_day_88 (by decide) (fun c88 => ?_) (fun c88 => ?_)
        · skip
          rw [hx.s1, h31] at c88
          obtain rfl : i = cn (S 1) := nlt_cn hle81 c88
          refine ka_iload_n hC dX7_day_125 rfl ?_
          exact ka_iret hC hR dX7_day_126 (by rfl) (by rfl)
        · skip
          rw [hx.s1, h31] at c88
          have hi : i < cn (S 1) := lt_cn hle81 c88
          have hi20 : i < 20 := Nat.lt_of_lt_of_le hi hM.n
          refine ka_aload_n hC dX7_day_91 rfl ?_
          refine ka_iload_n hC dX7_day_92 rfl ?_
          refine ka_iconst (v := 3) hC dX7_day_93 rfl ?_
          refine ka_callV hC (m_X7_of hG i 3 hi20 (by decide) rfl rfl) (ka_Rc_model ) rfl ka_q_ml_X7_40 ka_q_im_X7_of ka_q_se_X7_of ka_q_in_X7 ka_q_co_X7_of ky_X7_of (by decide) (by decide) (Nat.le_of_ble_eq_true rfl) rfl dX7_day_94 ?_
          refine ka_if_ne (tgt := 119) hC dX7_day_97 (by decide) (fun c97 => ?_) (fun c97 => ?_)
          · skip
            refine ka_iinc_2 (v := 1) hC dX7_day_119 rfl (by decide) ?_
            refine ka_goto (tgt := 81) hC dX7_day_122 (by decide) ?_
            exact ka_I.back 3 (by first | with_reducible rfl | (simp only [rf_day, rf_day1, rf_grX_0, rf_grX_s, rf_grAt, rf_cap, qU, sA, rf_stX_0, rf_stX_s, rf_stAt, nI_1, c19, c88, c97]; done) | (simp only [rf_day, rf_day1, rf_grX_0, rf_grX_s, rf_grAt, rf_cap, qU, sA, rf_stX_0, rf_stX_s, rf_stAt, nI_1, if_pos c19, if_neg (not_not_intro c19), if_pos c88, if_neg (not_not_intro c88), if_neg c97, if_pos c97]; done) | (simp [rf_day, rf_day1, rf_grX_0, rf_grX_s, rf_grAt, rf_cap, qU, sA, rf_stX_0, rf_stX_s, rf_stAt, nI_1, c19, c88, c97]; done) | (simp [rf_day, rf_day1, rf_grX_0, rf_grX_s, rf_grAt, rf_cap, qU, sA, rf_stX_0, rf_stX_s, rf_stAt, nI_1, if_pos c19, if_neg (not_not_intro c19), if_pos c88, if_neg (not_not_intro c88), if_neg c97, if_pos c97]; done) | contradiction | rfl) (by first | with_reducible rfl | (simp only [rf_day, rf_day1, rf_grX_0, rf_grX_s, rf_grAt, rf_cap, qU, sA, rf_stX_0, rf_stX_s, rf_stAt, nI_1, c19, c88, c97]; done) | (simp only [rf_day, rf_day1, rf_grX_0, rf_grX_s, rf_grAt, rf_cap, qU, sA, rf_stX_0, rf_stX_s, rf_stAt, nI_1, if_pos c19, if_neg (not_not_intro c19), if_pos c88, if_neg (not_not_intro c88), if_neg c97, if_pos c97]; done) | (simp [rf_day, rf_day1, rf_grX_0, rf_grX_s, rf_grAt, rf_cap, qU, sA, rf_stX_0, rf_stX_s, rf_stAt, nI_1, c19, c88, c97]; done) | (simp [rf_day, rf_day1, rf_grX_0, rf_grX_s, rf_grAt, rf_cap, qU, sA, rf_stX_0, rf_stX_s, rf_stAt, nI_1, if_pos c19, if_neg (not_not_intro c19), if_pos c88, if_neg (not_not_intro c88), if_neg c97, if_pos c97]; done) | contradiction | rfl) (ih81 (i + 1) (by omega) (by omega))
          · skip
            refine ka_aload_n hC dX7_day_100 rfl ?_
            refine ka_iload_n hC dX7_day_101 rfl ?_
            refine ka_iconst (v := 5) hC dX7_day_102 rfl ?_
            refine ka_aload_n hC dX7_day_103 rfl ?_
            refine ka_iload_n hC dX7_day_104 rfl ?_
            refine ka_iconst (v := 5) hC dX7_day_105 rfl ?_
            refine ka_callV hC (m_X7_of hG i 5 hi20 (by decide) rfl rfl) (ka_Rc_model ) rfl ka_q_ml_X7_40 ka_q_im_X7_of ka_q_se_X7_of ka_q_in_X7 ka_q_co_X7_of ky_X7_of (by decide) (by decide) (Nat.le_of_ble_eq_true rfl) rfl dX7_day_106 ?_
            refine ka_iconst (v := 1) hC dX7_day_109 rfl ?_
            refine ka_iadd hC dX7_day_110 ?_
            refine ka_callV hC (m_X7_lays hG i 5 hi20 (by decide) rfl rfl) (ka_Rc_model ) rfl ka_q_ml_X7_63 ka_q_im_X7_lays ka_q_se_X7_lays ka_q_in_X7 ka_q_co_X7_lays ky_X7_lays (by decide) (by decide) (Nat.le_of_ble_eq_true rfl) rfl dX7_day_111 ?_
            refine ka_aload_n hC dX7_day_114 rfl ?_
            refine ka_iload_n hC dX7_day_115 rfl ?_
            refine ka_callV hC (m_X7_charges hG (MK.of (rx.wU rx.rf (by decide) (by decide)) hMi) hi20) (ka_Rc_model ) rfl ka_q_ml_X7_78 ka_q_im_X7_charges ka_q_se_X7_charges ka_q_in_X7 ka_q_co_X7_charges ky_X7_charges (by decide) (by decide) (Nat.le_of_ble_eq_true rfl) rfl dX7_day_116 ?_
            refine ka_iinc_2 (v := 1) hC dX7_day_119 rfl (by decide) ?_
            refine ka_goto (tgt := 81) hC dX7_day_122 (by decide) ?_
            exact ka_I.back 3 (by first | with_reducible rfl | (simp only [rf_day, rf_day1, rf_grX_0, rf_grX_s, rf_grAt, rf_cap, qU, sA, rf_stX_0, rf_stX_s, rf_stAt, nI_1, c19, c88, c97]; done) | (simp only [rf_day, rf_day1, rf_grX_0, rf_grX_s, rf_grAt, rf_cap, qU, sA, rf_stX_0, rf_stX_s, rf_stAt, nI_1, if_pos c19, if_neg (not_not_intro c19), if_pos c88, if_neg (not_not_intro c88), if_pos c97, if_neg (not_not_intro c97)]; done) | (simp [rf_day, rf_day1, rf_grX_0, rf_grX_s, rf_grAt, rf_cap, qU, sA, rf_stX_0, rf_stX_s, rf_stAt, nI_1, c19, c88, c97]; done) | (simp [rf_day, rf_day1, rf_grX_0, rf_grX_s, rf_grAt, rf_cap, qU, sA, rf_stX_0, rf_stX_s, rf_stAt, nI_1, if_pos c19, if_neg (not_not_intro c19), if_pos c88, if_neg (not_not_intro c88), if_pos c97, if_neg (not_not_intro c97)]; done) | contradiction | rfl) (by first | with_reducible rfl | (simp only [rf_day, rf_day1, rf_grX_0, rf_grX_s, rf_grAt, rf_cap, qU, sA, rf_stX_0, rf_stX_s, rf_stAt, nI_1, c19, c88, c97]; done) | (simp only [rf_day, rf_day1, rf_grX_0, rf_grX_s, rf_grAt, rf_cap, qU, sA, rf_stX_0, rf_stX_s, rf_stAt, nI_1, if_pos c19, if_neg (not_not_intro c19), if_pos c88, if_neg (not_not_intro c88), if_pos c97, if_neg (not_not_intro c97)]; done) | (simp [rf_day, rf_day1, rf_grX_0, rf_grX_s, rf_grAt, rf_cap, qU, sA, rf_stX_0, rf_stX_s, rf_stAt, nI_1, c19, c88, c97]; done) | (simp [rf_day, rf_day1, rf_grX_0, rf_grX_s, rf_grAt, rf_cap, qU, sA, rf_stX_0, rf_stX_s, rf_stAt, nI_1, if_pos c19, if_neg (not_not_intro c19), if_pos c88, if_neg (not_not_intro c88), if_pos c97, if_neg (not_not_intro c97)]; done) | contradiction | rfl) (ih81 (i + 1) (by omega) (by omega))
    · skip
      rw [h0] at c19
      have hi : i < cn (S 0) := le_cn (m := 5) rfl (by decide) hM.m5 hle12 c19
      refine ka_aload_n hC dX7_day_22 rfl ?_
      refine ka_iload_n hC dX7_day_23 rfl ?_
      refine ka_iconst (v := 0) hC dX7_day_24 rfl ?_
      refine ka_callV hC (m_X7_has hG (i + 1) 0 (by omega) (by decide) rfl rfl) (ka_Rc_model ) rfl ka_q_ml_X7_48 ka_q_im_X7_has ka_q_se_X7_has ka_q_in_X7 ka_q_co_X7_has ky_X7_has (by decide) (by decide) (Nat.le_of_ble_eq_true rfl) rfl dX7_day_25 ?_
      refine ka_aload_n hC dX7_day_28 rfl ?_
      refine ka_iload_n hC dX7_day_29 rfl ?_
      refine ka_iconst (v := 1) hC dX7_day_30 rfl ?_
      refine ka_callV hC (m_X7_has hG (i + 1) 1 (by omega) (by decide) rfl rfl) (ka_Rc_model ) rfl ka_q_ml_X7_48 ka_q_im_X7_has ka_q_se_X7_has ka_q_in_X7 ka_q_co_X7_has ky_X7_has (by decide) (by decide) (Nat.le_of_ble_eq_true rfl) rfl dX7_day_31 ?_
      refine ka_iadd hC dX7_day_34 ?_
      refine ka_istore_n_p2 hC dX7_day_35 (by decide) ?_
      refine ka_aload_n hC dX7_day_36 rfl ?_
      refine kg_X7_7  hC dX7_day_37 ?_
      refine ka_bipush (v := 39) hC dX7_day_40 rfl ?_
      refine ka_bipush (v := 6) hC dX7_day_42 rfl ?_
      refine ka_iload_n hC dX7_day_44 rfl ?_
      refine ka_imul hC dX7_day_45 ?_
      refine ka_iadd hC dX7_day_46 ?_
      refine ka_iconst (v := 0) hC dX7_day_47 rfl ?_
      refine ka_iadd hC dX7_day_48 ?_
      refine ka_iload_n hC dX7_day_49 rfl ?_
      refine ka_sipush (v := 999) hC dX7_day_50 rfl ?_
      refine ka_icmp_le (tgt := 62) hC dX7_day_53 (by decide) (fun c53 => ?_) (fun c53 => ?_)
      · skip
        refine ka_iload_n hC dX7_day_62 rfl ?_
        refine km_st (39 + 6 * (i + 1) + 0) (by omega) (ix_p (i + 1) 0 rfl rfl) hC dX7_day_63 ?_
        refine ka_iinc_1 (v := 1) hC dX7_day_64 rfl (by decide) ?_
        refine ka_goto (tgt := 12) hC dX7_day_67 (by decide) ?_
        exact ka_I.back 2 (by rw [rf_grX_s]; unfold rf_grAt rf_cap; first | (rw [if_pos c53]; rfl) | (rw [if_neg c53]; rfl)) (by first | with_reducible rfl | (simp only [rf_day, rf_day1, rf_grX_0, rf_grX_s, rf_grAt, rf_cap, qU, sA, rf_stX_0, rf_stX_s, rf_stAt, nI_1, c19, c53]; done) | (simp only [rf_day, rf_day1, rf_grX_0, rf_grX_s, rf_grAt, rf_cap, qU, sA, rf_stX_0, rf_stX_s, rf_stAt, nI_1, if_neg c19, if_pos c19, if_neg c53, if_pos c53]; done) | (simp [rf_day, rf_day1, rf_grX_0, rf_grX_s, rf_grAt, rf_cap, qU, sA, rf_stX_0, rf_stX_s, rf_stAt, nI_1, c19, c53]; done) | (simp [rf_day, rf_day1, rf_grX_0, rf_grX_s, rf_grAt, rf_cap, qU, sA, rf_stX_0, rf_stX_s, rf_stAt, nI_1, if_neg c19, if_pos c19, if_neg c53, if_pos c53]; done) | contradiction | rfl) (ih12 (i + 1) (by omega) (by omega))
      · skip
        refine ka_sipush (v := 999) hC dX7_day_56 rfl ?_
        refine ka_goto (tgt := 63) hC dX7_day_59 (by decide) ?_
        refine km_st (39 + 6 * (i + 1) + 0) (by omega) (ix_p (i + 1) 0 rfl rfl) hC dX7_day_63 ?_
        refine ka_iinc_1 (v := 1) hC dX7_day_64 rfl (by decide) ?_
        refine ka_goto (tgt := 12) hC dX7_day_67 (by decide) ?_
        exact ka_I.back 2 (by rw [rf_grX_s]; unfold rf_grAt rf_cap; first | (rw [if_pos c53]; rfl) | (rw [if_neg c53]; rfl)) (by first | with_reducible rfl | (simp only [rf_day, rf_day1, rf_grX_0, rf_grX_s, rf_grAt, rf_cap, qU, sA, rf_stX_0, rf_stX_s, rf_stAt, nI_1, c19, c53]; done) | (simp only [rf_day, rf_day1, rf_grX_0, rf_grX_s, rf_grAt, rf_cap, qU, sA, rf_stX_0, rf_stX_s, rf_stAt, nI_1, if_neg c19, if_pos c19, if_pos c53, if_neg (not_not_intro c53)]; done) | (simp [rf_day, rf_day1, rf_grX_0, rf_grX_s, rf_grAt, rf_cap, qU, sA, rf_stX_0, rf_stX_s, rf_stAt, nI_1, c19, c53]; done) | (simp [rf_day, rf_day1, rf_grX_0, rf_grX_s, rf_grAt, rf_cap, qU, sA, rf_stX_0, rf_stX_s, rf_stAt, nI_1, if_neg c19, if_pos c19, if_pos c53, if_neg (not_not_intro c53)]; done) | contradiction | rfl) (ih12 (i + 1) (by omega) (by omega))
theorem ky_X7_joins : ka_y yX7_joins 1 := by unfold ka_y; decide +kernel
set_option maxHeartbeats 4000000 in
set_option maxRecDepth 100000 in
theorem m_X7_joins {G : ka_G} (hG : ka_AD G) {V : ka_W} {M : ka_P} {S : ka_F} {D : Nat} (hM : MK D S) {x : Int32}  : ka_M G yX7_joins cX7_joins 4 (some FieldType.int) 2 [.ref (ka_ad G 9 0), .int x] (ka_ms V M S) (some (.int ((rf_joins S x).1))) (ka_ms V M (rf_joins S x).2) := by
  refine ka_entry hG ka_pn_X7 (ka_cat1 rfl) (Nat.le_of_ble_eq_true rfl) (fun X hC hR => ?_)
  refine ka_aload_n hC dX7_joins_0 rfl ?_
  refine ka_iload_n hC dX7_joins_1 rfl ?_
  refine ka_callV hC (m_X7_isMine hG) (ka_Rc_model ) rfl ka_q_ml_X7_82 ka_q_im_X7_isMine ka_q_se_X7_isMine ka_q_in_X7 ka_q_co_X7_isMine ky_X7_isMine (by decide) (by decide) (Nat.le_of_ble_eq_true rfl) rfl dX7_joins_2 ?_
  refine ka_if_ne_b (tgt := 11) hC dX7_joins_5 (by decide) (fun c5 => ?_) (fun c5 => ?_)
  · skip
    refine ka_aload_n hC dX7_joins_11 rfl ?_
    refine kg_X7_7  hC dX7_joins_12 ?_
    refine ka_iconst (v := 1) hC dX7_joins_15 rfl ?_
    refine km_ld 1 (by decide) rfl hC dX7_joins_16 ?_
    refine ka_bipush (v := 20) hC dX7_joins_17 rfl ?_
    refine ka_icmp_ne (tgt := 25) hC dX7_joins_19 (by decide) (fun c19 => ?_) (fun c19 => ?_)
    · skip
      have hn20 := hM.w20 c19
      refine ka_aload_n hC dX7_joins_25 rfl ?_
      refine kg_X7_7  hC dX7_joins_26 ?_
      refine ka_iconst (v := 1) hC dX7_joins_29 rfl ?_
      refine km_ld 1 (by decide) rfl hC dX7_joins_30 ?_
      refine ka_istore_n_p2 hC dX7_joins_31 (by decide) ?_
      refine ka_aload_n hC dX7_joins_32 rfl ?_
      refine kg_X7_7  hC dX7_joins_33 ?_
      refine ka_iconst (v := 1) hC dX7_joins_36 rfl ?_
      refine ka_dup2 hC dX7_joins_37 rfl rfl ?_
      refine km_ld 1 (by decide) rfl hC dX7_joins_38 ?_
      refine ka_iconst (v := 1) hC dX7_joins_39 rfl ?_
      refine ka_iadd hC dX7_joins_40 ?_
      refine km_st 1 (by decide) rfl hC dX7_joins_41 ?_
      refine ka_iconst (v := 0) hC dX7_joins_42 rfl ?_
      refine ka_istore_n_p3 hC dX7_joins_43 (by decide) ?_
      suffices H44 : ∀ jj i : Nat, i ≤ 10 → 10 - i < jj → ka_I G X (ka_ms V M (rf_zero (sA S 1 1) (cn (S 1)) i)) 44 [.ref (ka_ad G 9 0), .int x, .int (S 1), .int (nI i)] [] from ka_I.back 4 (by first | with_reducible rfl | (simp only [rf_joins, rf_join, rf_zero_0, rf_zero_s, sA, nI_1, c5, c19]; done) | (simp only [rf_joins, rf_join, rf_zero_0, rf_zero_s, sA, nI_1, c5, if_neg c19, if_pos c19]; done) | (simp [rf_joins, rf_join, rf_zero_0, rf_zero_s, sA, nI_1, c5, c19]; done) | (simp [rf_joins, rf_join, rf_zero_0, rf_zero_s, sA, nI_1, c5, if_neg c19, if_pos c19]; done) | contradiction | rfl) (by first | with_reducible rfl | (simp only [rf_joins, rf_join, rf_zero_0, rf_zero_s, sA, nI_1, c5, c19]; done) | (simp only [rf_joins, rf_join, rf_zero_0, rf_zero_s, sA, nI_1, c5, if_neg c19, if_pos c19]; done) | (simp [rf_joins, rf_join, rf_zero_0, rf_zero_s, sA, nI_1, c5, c19]; done) | (simp [rf_joins, rf_join, rf_zero_0, rf_zero_s, sA, nI_1, c5, if_neg c19, if_pos c19]; done) | contradiction | rfl) (H44 (10 + 1) 0 (by omega) (by omega))
      intro j44
      induction j44 with
      | zero => intro i h1 h2 ; exact absurd h2 (Nat.not_lt_zero _)
      | succ j44 ih44 =>
        intro i hle44 hlt44 
        refine ka_iload_n hC dX7_joins_44 rfl ?_
        refine ka_bipush (v := 10) hC dX7_joins_45 rfl ?_
        refine ka_icmp_ge (tgt := 63) hC dX7_joins_47 (by decide) (fun c47 => ?_) (fun c47 => ?_)
        · skip
          obtain rfl : i = 10 := nlt_nI (by decide) hle44 c47
          refine ka_aload_n hC dX7_joins_63 rfl ?_
          refine ka_iload_n hC dX7_joins_64 rfl ?_
          refine ka_iconst (v := 0) hC dX7_joins_65 rfl ?_
          refine ka_iload_n hC dX7_joins_66 rfl ?_
          refine ka_callV hC (m_X7_lays hG (cn (S 1)) 0 hn20 (by decide) hM.2.1.1 rfl) (ka_Rc_model ) rfl ka_q_ml_X7_63 ka_q_im_X7_lays ka_q_se_X7_lays ka_q_in_X7 ka_q_co_X7_lays ky_X7_lays (by decide) (by decide) (Nat.le_of_ble_eq_true rfl) rfl dX7_joins_67 ?_
          refine ka_aload_n hC dX7_joins_70 rfl ?_
          refine ka_iload_n hC dX7_joins_71 rfl ?_
          refine ka_iconst (v := 1) hC dX7_joins_72 rfl ?_
          refine ka_iload_n hC dX7_joins_73 rfl ?_
          refine ka_callV hC (m_X7_lays hG (cn (S 1)) 1 hn20 (by decide) hM.2.1.1 rfl) (ka_Rc_model ) rfl ka_q_ml_X7_63 ka_q_im_X7_lays ka_q_se_X7_lays ka_q_in_X7 ka_q_co_X7_lays ky_X7_lays (by decide) (by decide) (Nat.le_of_ble_eq_true rfl) rfl dX7_joins_74 ?_
          refine ka_aload_n hC dX7_joins_77 rfl ?_
          refine ka_iload_n hC dX7_joins_78 rfl ?_
          refine ka_bipush (v := 6) hC dX7_joins_79 rfl ?_
          refine ka_iconst (v := (-1)) hC dX7_joins_81 rfl ?_
          refine ka_callV hC (m_X7_lays hG (cn (S 1)) 6 hn20 (by decide) hM.2.1.1 rfl) (ka_Rc_model ) rfl ka_q_ml_X7_63 ka_q_im_X7_lays ka_q_se_X7_lays ka_q_in_X7 ka_q_co_X7_lays ky_X7_lays (by decide) (by decide) (Nat.le_of_ble_eq_true rfl) rfl dX7_joins_82 ?_
          refine ka_iload_n hC dX7_joins_85 rfl ?_
          exact ka_iret hC hR dX7_joins_86 (by first | with_reducible rfl | (simp only [rf_joins, rf_join, rf_zero_0, rf_zero_s, sA, nI_1, c5, c19, c47]; done) | (simp only [rf_joins, rf_join, rf_zero_0, rf_zero_s, sA, nI_1, c5, if_neg c19, if_pos c19, if_neg c47, if_pos c47]; done) | (simp [rf_joins, rf_join, rf_zero_0, rf_zero_s, sA, nI_1, c5, c19, c47]; done) | (simp [rf_joins, rf_join, rf_zero_0, rf_zero_s, sA, nI_1, c5, if_neg c19, if_pos c19, if_neg c47, if_pos c47]; done) | contradiction | rfl) (by first | with_reducible rfl | (simp only [rf_joins, rf_join, rf_zero_0, rf_zero_s, sA, nI_1, c5, c19, c47]; done) | (simp only [rf_joins, rf_join, rf_zero_0, rf_zero_s, sA, nI_1, c5, if_neg c19, if_pos c19, if_neg c47, if_pos c47]; done) | (simp [rf_joins, rf_join, rf_zero_0, rf_zero_s, sA, nI_1, c5, c19, c47]; done) | (simp [rf_joins, rf_join, rf_zero_0, rf_zero_s, sA, nI_1, c5, if_neg c19, if_pos c19, if_neg c47, if_pos c47]; done) | contradiction | rfl)
        · skip
          have hi : i < 10 := lt_nI (by decide) hle44 c47
          refine ka_aload_n hC dX7_joins_50 rfl ?_
          refine ka_iload_n hC dX7_joins_51 rfl ?_
          refine ka_iload_n hC dX7_joins_52 rfl ?_
          refine ka_iconst (v := 0) hC dX7_joins_53 rfl ?_
          refine ka_callV hC (m_X7_lays hG (cn (S 1)) i hn20 hi hM.2.1.1 rfl) (ka_Rc_model ) rfl ka_q_ml_X7_63 ka_q_im_X7_lays ka_q_se_X7_lays ka_q_in_X7 ka_q_co_X7_lays ky_X7_lays (by decide) (by decide) (Nat.le_of_ble_eq_true rfl) rfl dX7_joins_54 ?_
          refine ka_iinc_3 (v := 1) hC dX7_joins_57 rfl (by decide) ?_
          refine ka_goto (tgt := 44) hC dX7_joins_60 (by decide) ?_
          exact ka_I.back 4 (by first | with_reducible rfl | (simp only [rf_joins, rf_join, rf_zero_0, rf_zero_s, sA, nI_1, c5, c19, c47]; done) | (simp only [rf_joins, rf_join, rf_zero_0, rf_zero_s, sA, nI_1, c5, if_neg c19, if_pos c19, if_pos c47, if_neg (not_not_intro c47)]; done) | (simp [rf_joins, rf_join, rf_zero_0, rf_zero_s, sA, nI_1, c5, c19, c47]; done) | (simp [rf_joins, rf_join, rf_zero_0, rf_zero_s, sA, nI_1, c5, if_neg c19, if_pos c19, if_pos c47, if_neg (not_not_intro c47)]; done) | contradiction | rfl) (by first | with_reducible rfl | (simp only [rf_joins, rf_join, rf_zero_0, rf_zero_s, sA, nI_1, c5, c19, c47]; done) | (simp only [rf_joins, rf_join, rf_zero_0, rf_zero_s, sA, nI_1, c5, if_neg c19, if_pos c19, if_pos c47, if_neg (not_not_intro c47)]; done) | (simp [rf_joins, rf_join, rf_zero_0, rf_zero_s, sA, nI_1, c5, c19, c47]; done) | (simp [rf_joins, rf_join, rf_zero_0, rf_zero_s, sA, nI_1, c5, if_neg c19, if_pos c19, if_pos c47, if_neg (not_not_intro c47)]; done) | contradiction | rfl) (ih44 (i + 1) (by omega) (by omega))
    · skip
      refine ka_ldc hC ka_q_cn_X7_85 dX7_joins_22 ?_
      exact ka_iret hC hR dX7_joins_24 (by first | with_reducible rfl | (simp only [rf_joins, rf_join, rf_zero_0, rf_zero_s, sA, nI_1, c5, c19]; done) | (simp only [rf_joins, rf_join, rf_zero_0, rf_zero_s, sA, nI_1, c5, if_pos c19, if_neg (not_not_intro c19)]; done) | (simp [rf_joins, rf_join, rf_zero_0, rf_zero_s, sA, nI_1, c5, c19]; done) | (simp [rf_joins, rf_join, rf_zero_0, rf_zero_s, sA, nI_1, c5, if_pos c19, if_neg (not_not_intro c19)]; done) | contradiction | rfl) (by first | with_reducible rfl | (simp only [rf_joins, rf_join, rf_zero_0, rf_zero_s, sA, nI_1, c5, c19]; done) | (simp only [rf_joins, rf_join, rf_zero_0, rf_zero_s, sA, nI_1, c5, if_pos c19, if_neg (not_not_intro c19)]; done) | (simp [rf_joins, rf_join, rf_zero_0, rf_zero_s, sA, nI_1, c5, c19]; done) | (simp [rf_joins, rf_join, rf_zero_0, rf_zero_s, sA, nI_1, c5, if_pos c19, if_neg (not_not_intro c19)]; done) | contradiction | rfl)
  · skip
    refine ka_ldc hC ka_q_cn_X7_28 dX7_joins_8 ?_
    exact ka_iret hC hR dX7_joins_10 (by first | with_reducible rfl | (simp only [rf_joins, rf_join, rf_zero_0, rf_zero_s, sA, nI_1, c5]; done) | (simp only [rf_joins, rf_join, rf_zero_0, rf_zero_s, sA, nI_1, c5]; done) | (simp [rf_joins, rf_join, rf_zero_0, rf_zero_s, sA, nI_1, c5]; done) | (simp [rf_joins, rf_join, rf_zero_0, rf_zero_s, sA, nI_1, c5]; done) | contradiction | rfl) (by first | with_reducible rfl | (simp only [rf_joins, rf_join, rf_zero_0, rf_zero_s, sA, nI_1, c5]; done) | (simp only [rf_joins, rf_join, rf_zero_0, rf_zero_s, sA, nI_1, c5]; done) | (simp [rf_joins, rf_join, rf_zero_0, rf_zero_s, sA, nI_1, c5]; done) | (simp [rf_joins, rf_join, rf_zero_0, rf_zero_s, sA, nI_1, c5]; done) | contradiction | rfl)
theorem ky_X7_loads : ka_y yX7_loads 1 := by unfold ka_y; decide +kernel
set_option maxHeartbeats 4000000 in
set_option maxRecDepth 100000 in
theorem m_X7_loads {G : ka_G} (hG : ka_AD G) {V : ka_W} {M : ka_P} {S : ka_F} {D : Nat} (hM : MK D S) {x : Int32}  : ka_M G yX7_loads cX7_loads 3 (some FieldType.int) 3 [.ref (ka_ad G 9 0), .int x] (ka_ms V M S) (some (.int ((rf_loads S x).1))) (ka_ms V M (rf_loads S x).2) := by
  refine ka_entry hG ka_pn_X7 (ka_cat1 rfl) (Nat.le_of_ble_eq_true rfl) (fun X hC hR => ?_)
  refine ka_aload_n hC dX7_loads_0 rfl ?_
  refine ka_iload_n hC dX7_loads_1 rfl ?_
  refine ka_callV hC (m_X7_isWagon hG) (ka_Rc_model ) rfl ka_q_ml_X7_86 ka_q_im_X7_isWagon ka_q_se_X7_isWagon ka_q_in_X7 ka_q_co_X7_isWagon ky_X7_isWagon (by decide) (by decide) (Nat.le_of_ble_eq_true rfl) rfl dX7_loads_2 ?_
  refine ka_if_ne_b (tgt := 11) hC dX7_loads_5 (by decide) (fun c5 => ?_) (fun c5 => ?_)
  · skip
    obtain ⟨w, hwn, hw, rfl⟩ := rf_isWagon_of hM c5
    have ew : cn (nI w) = w := cn_nI (by omega)
    refine ka_aload_n hC dX7_loads_11 rfl ?_
    refine ka_iload_n hC dX7_loads_12 rfl ?_
    refine ka_callV hC (m_X7_whyNot hG (by first | assumption | decide | exact wgIx_lt _ | exact plIx_lt _ | exact sp_recQ_lt | omega) (by first | assumption | decide | exact wgIx_lt _ | exact plIx_lt _ | exact sp_recQ_lt | omega)) (ka_Rc_model ) rfl ka_q_ml_X7_89 ka_q_im_X7_whyNot ka_q_se_X7_whyNot ka_q_in_X7 ka_q_co_X7_whyNot ky_X7_whyNot (by decide) (by decide) (Nat.le_of_ble_eq_true rfl) rfl dX7_loads_13 ?_
    refine ka_if_le (tgt := 22) hC dX7_loads_16 (by decide) (fun c16 => ?_) (fun c16 => ?_)
    · skip
      refine ka_aload_n hC dX7_loads_22 rfl ?_
      refine ka_iload_n hC dX7_loads_23 rfl ?_
      refine ka_iconst (v := 1) hC dX7_loads_24 rfl ?_
      refine ka_callV hC (m_X7_of hG w 1 hw (by decide) rfl rfl) (ka_Rc_model ) rfl ka_q_ml_X7_40 ka_q_im_X7_of ka_q_se_X7_of ka_q_in_X7 ka_q_co_X7_of ky_X7_of (by decide) (by decide) (Nat.le_of_ble_eq_true rfl) rfl dX7_loads_25 ?_
      refine ka_istore_n_p2 hC dX7_loads_28 (by decide) ?_
      refine ka_aload_n hC dX7_loads_29 rfl ?_
      refine ka_iload_n hC dX7_loads_30 rfl ?_
      refine ka_iconst (v := 0) hC dX7_loads_31 rfl ?_
      refine ka_bipush (v := (-30)) hC dX7_loads_32 rfl ?_
      refine ka_callV hC (m_X7_adds hG (cn (wg S w 1)) 0 (hM.a5 hw) (by decide) (hM.a hw) rfl) (ka_Rc_model ) rfl ka_q_ml_X7_51 ka_q_im_X7_adds ka_q_se_X7_adds ka_q_in_X7 ka_q_co_X7_adds ky_X7_adds (by decide) (by decide) (Nat.le_of_ble_eq_true rfl) rfl dX7_loads_34 ?_
      refine ka_aload_n hC dX7_loads_37 rfl ?_
      refine ka_iload_n hC dX7_loads_38 rfl ?_
      refine ka_iconst (v := 5) hC dX7_loads_39 rfl ?_
      refine ka_bipush (v := 30) hC dX7_loads_40 rfl ?_
      refine ka_callV hC (m_X7_adds hG (cn (wg S w 1)) 5 (hM.a5 hw) (by decide) (hM.a hw) rfl) (ka_Rc_model ) rfl ka_q_ml_X7_51 ka_q_im_X7_adds ka_q_se_X7_adds ka_q_in_X7 ka_q_co_X7_adds ky_X7_adds (by decide) (by decide) (Nat.le_of_ble_eq_true rfl) rfl dX7_loads_42 ?_
      refine ka_aload_n hC dX7_loads_45 rfl ?_
      refine ka_iload_n hC dX7_loads_46 rfl ?_
      refine ka_iconst (v := 2) hC dX7_loads_47 rfl ?_
      refine ka_iconst (v := 1) hC dX7_loads_48 rfl ?_
      refine ka_callV hC (m_X7_lays hG w 2 hw (by decide) rfl rfl) (ka_Rc_model ) rfl ka_q_ml_X7_63 ka_q_im_X7_lays ka_q_se_X7_lays ka_q_in_X7 ka_q_co_X7_lays ky_X7_lays (by decide) (by decide) (Nat.le_of_ble_eq_true rfl) rfl dX7_loads_49 ?_
      refine ka_aload_n hC dX7_loads_52 rfl ?_
      refine ka_iload_n hC dX7_loads_53 rfl ?_
      refine ka_iconst (v := 5) hC dX7_loads_54 rfl ?_
      refine ka_iconst (v := 0) hC dX7_loads_55 rfl ?_
      refine ka_callV hC (m_X7_lays hG w 5 hw (by decide) rfl rfl) (ka_Rc_model ) rfl ka_q_ml_X7_63 ka_q_im_X7_lays ka_q_se_X7_lays ka_q_in_X7 ka_q_co_X7_lays ky_X7_lays (by decide) (by decide) (Nat.le_of_ble_eq_true rfl) rfl dX7_loads_56 ?_
      refine ka_aload_n hC dX7_loads_59 rfl ?_
      refine ka_iload_n hC dX7_loads_60 rfl ?_
      refine ka_bipush (v := 7) hC dX7_loads_61 rfl ?_
      refine ka_aload_n hC dX7_loads_63 rfl ?_
      refine ka_iload_n hC dX7_loads_64 rfl ?_
      refine ka_bipush (v := 7) hC dX7_loads_65 rfl ?_
      refine ka_callV hC (m_X7_of hG w 7 hw (by decide) rfl rfl) (ka_Rc_model ) rfl ka_q_ml_X7_40 ka_q_im_X7_of ka_q_se_X7_of ka_q_in_X7 ka_q_co_X7_of ky_X7_of (by decide) (by decide) (Nat.le_of_ble_eq_true rfl) rfl dX7_loads_67 ?_
      refine ka_iconst (v := 1) hC dX7_loads_70 rfl ?_
      refine ka_iadd hC dX7_loads_71 ?_
      refine ka_callV hC (m_X7_lays hG w 7 hw (by decide) rfl rfl) (ka_Rc_model ) rfl ka_q_ml_X7_63 ka_q_im_X7_lays ka_q_se_X7_lays ka_q_in_X7 ka_q_co_X7_lays ky_X7_lays (by decide) (by decide) (Nat.le_of_ble_eq_true rfl) rfl dX7_loads_72 ?_
      refine ka_aload_n hC dX7_loads_75 rfl ?_
      refine ka_iload_n hC dX7_loads_76 rfl ?_
      refine ka_iconst (v := 0) hC dX7_loads_77 rfl ?_
      refine ka_callV hC (m_X7_has hG (cn (wg S w 1)) 0 (hM.a5 hw) (by decide) (hM.a hw) rfl) (ka_Rc_model ) rfl ka_q_ml_X7_48 ka_q_im_X7_has ka_q_se_X7_has ka_q_in_X7 ka_q_co_X7_has ky_X7_has (by decide) (by decide) (Nat.le_of_ble_eq_true rfl) rfl dX7_loads_78 ?_
      exact ka_iret hC hR dX7_loads_81 (by first | with_reducible rfl | (simp only [rf_loads, rf_load, rf_load1, c5, ew, c16]; done) | (simp only [rf_loads, rf_load, rf_load1, c5, ew, if_neg c16, if_pos c16]; done) | (simp [rf_loads, rf_load, rf_load1, c5, ew, c16]; done) | (simp [rf_loads, rf_load, rf_load1, c5, ew, if_neg c16, if_pos c16]; done) | contradiction | rfl) (by first | with_reducible rfl | (simp only [rf_loads, rf_load, rf_load1, c5, ew, c16]; done) | (simp only [rf_loads, rf_load, rf_load1, c5, ew, if_neg c16, if_pos c16]; done) | (simp [rf_loads, rf_load, rf_load1, c5, ew, c16]; done) | (simp [rf_loads, rf_load, rf_load1, c5, ew, if_neg c16, if_pos c16]; done) | contradiction | rfl)
    · skip
      refine ka_ldc hC ka_q_cn_X7_93 dX7_loads_19 ?_
      exact ka_iret hC hR dX7_loads_21 (by first | with_reducible rfl | (simp only [rf_loads, rf_load, rf_load1, c5, ew, c16]; done) | (simp only [rf_loads, rf_load, rf_load1, c5, ew, if_pos c16, if_neg (not_not_intro c16)]; done) | (simp [rf_loads, rf_load, rf_load1, c5, ew, c16]; done) | (simp [rf_loads, rf_load, rf_load1, c5, ew, if_pos c16, if_neg (not_not_intro c16)]; done) | contradiction | rfl) (by first | with_reducible rfl | (simp only [rf_loads, rf_load, rf_load1, c5, ew, c16]; done) | (simp only [rf_loads, rf_load, rf_load1, c5, ew, if_pos c16, if_neg (not_not_intro c16)]; done) | (simp [rf_loads, rf_load, rf_load1, c5, ew, c16]; done) | (simp [rf_loads, rf_load, rf_load1, c5, ew, if_pos c16, if_neg (not_not_intro c16)]; done) | contradiction | rfl)
  · skip
    refine ka_ldc hC ka_q_cn_X7_28 dX7_loads_8 ?_
    exact ka_iret hC hR dX7_loads_10 (by first | with_reducible rfl | (simp only [rf_loads, rf_load, rf_load1, c5]; done) | (simp only [rf_loads, rf_load, rf_load1, c5]; done) | (simp [rf_loads, rf_load, rf_load1, c5]; done) | (simp [rf_loads, rf_load, rf_load1, c5]; done) | contradiction | rfl) (by first | with_reducible rfl | (simp only [rf_loads, rf_load, rf_load1, c5]; done) | (simp only [rf_loads, rf_load, rf_load1, c5]; done) | (simp [rf_loads, rf_load, rf_load1, c5]; done) | (simp [rf_loads, rf_load, rf_load1, c5]; done) | contradiction | rfl)
theorem ky_X7_unloads : ka_y yX7_unloads 1 := by unfold ka_y; decide +kernel
set_option maxHeartbeats 4000000 in
set_option maxRecDepth 100000 in
theorem m_X7_unloads {G : ka_G} (hG : ka_AD G) {V : ka_W} {M : ka_P} {S : ka_F} {D : Nat} (hM : MK D S) {x : Int32}  : ka_M G yX7_unloads cX7_unloads 2 (some FieldType.int) 2 [.ref (ka_ad G 9 0), .int x] (ka_ms V M S) (some (.int ((rf_unloads S x).1))) (ka_ms V M (rf_unloads S x).2) := by
  refine ka_entry hG ka_pn_X7 (ka_cat1 rfl) (Nat.le_of_ble_eq_true rfl) (fun X hC hR => ?_)
  refine ka_aload_n hC dX7_unloads_0 rfl ?_
  refine ka_iload_n hC dX7_unloads_1 rfl ?_
  refine ka_callV hC (m_X7_isWagon hG) (ka_Rc_model ) rfl ka_q_ml_X7_86 ka_q_im_X7_isWagon ka_q_se_X7_isWagon ka_q_in_X7 ka_q_co_X7_isWagon ky_X7_isWagon (by decide) (by decide) (Nat.le_of_ble_eq_true rfl) rfl dX7_unloads_2 ?_
  refine ka_if_ne_b (tgt := 11) hC dX7_unloads_5 (by decide) (fun c5 => ?_) (fun c5 => ?_)
  · skip
    obtain ⟨w, hwn, hw, rfl⟩ := rf_isWagon_of hM c5
    have ew : cn (nI w) = w := cn_nI (by omega)
    refine ka_aload_n hC dX7_unloads_11 rfl ?_
    refine ka_iload_n hC dX7_unloads_12 rfl ?_
    refine ka_iconst (v := 2) hC dX7_unloads_13 rfl ?_
    refine ka_callV hC (m_X7_of hG w 2 hw (by decide) rfl rfl) (ka_Rc_model ) rfl ka_q_ml_X7_40 ka_q_im_X7_of ka_q_se_X7_of ka_q_in_X7 ka_q_co_X7_of ky_X7_of (by decide) (by decide) (Nat.le_of_ble_eq_true rfl) rfl dX7_unloads_14 ?_
    refine ka_if_eq (tgt := 29) hC dX7_unloads_17 (by decide) (fun c17 => ?_) (fun c17 => ?_)
    · skip
      refine ka_ldc hC ka_q_cn_X7_93 dX7_unloads_29 ?_
      exact ka_iret hC hR dX7_unloads_31 (by first | with_reducible rfl | (simp only [rf_unloads, c5, ew, c17]; done) | (simp only [rf_unloads, c5, ew, if_pos c17, if_neg (not_not_intro c17)]; done) | (simp [rf_unloads, c5, ew, c17]; done) | (simp [rf_unloads, c5, ew, if_pos c17, if_neg (not_not_intro c17)]; done) | contradiction | rfl) (by first | with_reducible rfl | (simp only [rf_unloads, c5, ew, c17]; done) | (simp only [rf_unloads, c5, ew, if_pos c17, if_neg (not_not_intro c17)]; done) | (simp [rf_unloads, c5, ew, c17]; done) | (simp [rf_unloads, c5, ew, if_pos c17, if_neg (not_not_intro c17)]; done) | contradiction | rfl)
    · skip
      refine ka_aload_n hC dX7_unloads_20 rfl ?_
      refine ka_iload_n hC dX7_unloads_21 rfl ?_
      refine ka_iconst (v := 0) hC dX7_unloads_22 rfl ?_
      refine ka_callV hC (m_X7_stands hG (by first | assumption | decide | exact wgIx_lt _ | exact plIx_lt _ | exact sp_recQ_lt | omega)) (ka_Rc_model ) rfl ka_q_ml_X7_94 ka_q_im_X7_stands ka_q_se_X7_stands ka_q_in_X7 ka_q_co_X7_stands ky_X7_stands (by decide) (by decide) (Nat.le_of_ble_eq_true rfl) rfl dX7_unloads_23 ?_
      refine ka_if_ne_b (tgt := 32) hC dX7_unloads_26 (by decide) (fun c26 => ?_) (fun c26 => ?_)
      · skip
        refine ka_aload_n hC dX7_unloads_32 rfl ?_
        refine ka_iconst (v := 0) hC dX7_unloads_33 rfl ?_
        refine ka_aload_n hC dX7_unloads_34 rfl ?_
        refine ka_iload_n hC dX7_unloads_35 rfl ?_
        refine ka_iconst (v := 0) hC dX7_unloads_36 rfl ?_
        refine ka_callV hC (m_X7_of hG w 0 hw (by decide) rfl rfl) (ka_Rc_model ) rfl ka_q_ml_X7_40 ka_q_im_X7_of ka_q_se_X7_of ka_q_in_X7 ka_q_co_X7_of ky_X7_of (by decide) (by decide) (Nat.le_of_ble_eq_true rfl) rfl dX7_unloads_37 ?_
        refine ka_bipush (v := 30) hC dX7_unloads_40 rfl ?_
        refine ka_aload_n hC dX7_unloads_42 rfl ?_
        refine kg_X7_7  hC dX7_unloads_43 ?_
        refine ka_bipush (v := 11) hC dX7_unloads_46 rfl ?_
        refine km_ld 11 (by decide) rfl hC dX7_unloads_48 ?_
        refine ka_imul hC dX7_unloads_49 ?_
        refine ka_callV hC (m_X7_pays hG 0 (cn (wg S w 0)) (by decide) (hM.o5 hw) rfl (hM.o hw)) (ka_Rc_model ) rfl ka_q_ml_X7_69 ka_q_im_X7_pays ka_q_se_X7_pays ka_q_in_X7 ka_q_co_X7_pays ky_X7_pays (by decide) (by decide) (Nat.le_of_ble_eq_true rfl) rfl dX7_unloads_50 ?_
        refine ka_aload_n hC dX7_unloads_53 rfl ?_
        refine ka_iconst (v := 0) hC dX7_unloads_54 rfl ?_
        refine ka_iconst (v := 5) hC dX7_unloads_55 rfl ?_
        refine ka_bipush (v := 30) hC dX7_unloads_56 rfl ?_
        refine ka_callV hC (m_X7_adds hG 0 5 (by decide) (by decide) rfl rfl) (ka_Rc_model ) rfl ka_q_ml_X7_51 ka_q_im_X7_adds ka_q_se_X7_adds ka_q_in_X7 ka_q_co_X7_adds ky_X7_adds (by decide) (by decide) (Nat.le_of_ble_eq_true rfl) rfl dX7_unloads_58 ?_
        refine ka_aload_n hC dX7_unloads_61 rfl ?_
        refine ka_iload_n hC dX7_unloads_62 rfl ?_
        refine ka_iconst (v := 2) hC dX7_unloads_63 rfl ?_
        refine ka_iconst (v := 0) hC dX7_unloads_64 rfl ?_
        refine ka_callV hC (m_X7_lays hG w 2 hw (by decide) rfl rfl) (ka_Rc_model ) rfl ka_q_ml_X7_63 ka_q_im_X7_lays ka_q_se_X7_lays ka_q_in_X7 ka_q_co_X7_lays ky_X7_lays (by decide) (by decide) (Nat.le_of_ble_eq_true rfl) rfl dX7_unloads_65 ?_
        refine ka_aload_n hC dX7_unloads_68 rfl ?_
        refine ka_iload_n hC dX7_unloads_69 rfl ?_
        refine ka_iconst (v := 5) hC dX7_unloads_70 rfl ?_
        refine ka_iconst (v := 0) hC dX7_unloads_71 rfl ?_
        refine ka_callV hC (m_X7_lays hG w 5 hw (by decide) rfl rfl) (ka_Rc_model ) rfl ka_q_ml_X7_63 ka_q_im_X7_lays ka_q_se_X7_lays ka_q_in_X7 ka_q_co_X7_lays ky_X7_lays (by decide) (by decide) (Nat.le_of_ble_eq_true rfl) rfl dX7_unloads_72 ?_
        refine ka_I.eqW (V' := ka_ms V M (rf_unl S w)) rfl ?_
        have hU : wg (rf_unl S w) w 0 = wg S w 0 := ((rx_unl (hM.o5 hw)).2 w hw).1
        refine ka_aload_n hC dX7_unloads_75 rfl ?_
        refine ka_aload_n hC dX7_unloads_76 rfl ?_
        refine ka_iload_n hC dX7_unloads_77 rfl ?_
        refine ka_iconst (v := 0) hC dX7_unloads_78 rfl ?_
        refine ka_callV hC (m_X7_of hG w 0 hw (by decide) rfl rfl) (ka_Rc_model ) rfl ka_q_ml_X7_40 ka_q_im_X7_of ka_q_se_X7_of ka_q_in_X7 ka_q_co_X7_of ky_X7_of (by decide) (by decide) (Nat.le_of_ble_eq_true rfl) rfl dX7_unloads_79 ?_
        refine ka_iconst (v := 2) hC dX7_unloads_82 rfl ?_
        refine ka_callV hC (m_X7_has hG (cn (wg (rf_unl S w) w 0)) 2 (by rw [hU]; exact hM.o5 hw) (by decide) (by rw [hU]; exact hM.o hw) rfl) (ka_Rc_model ) rfl ka_q_ml_X7_48 ka_q_im_X7_has ka_q_se_X7_has ka_q_in_X7 ka_q_co_X7_has ky_X7_has (by decide) (by decide) (Nat.le_of_ble_eq_true rfl) rfl dX7_unloads_83 ?_
        exact ka_iret hC hR dX7_unloads_86 (by first | with_reducible rfl | (simp only [rf_unloads, c5, ew, c17, c26]; done) | (simp only [rf_unloads, c5, ew, if_neg c17, if_pos c17, c26]; done) | (simp [rf_unloads, c5, ew, c17, c26]; done) | (simp [rf_unloads, c5, ew, if_neg c17, if_pos c17, c26]; done) | contradiction | rfl) (by first | with_reducible rfl | (simp only [rf_unloads, c5, ew, c17, c26]; done) | (simp only [rf_unloads, c5, ew, if_neg c17, if_pos c17, c26]; done) | (simp [rf_unloads, c5, ew, c17, c26]; done) | (simp [rf_unloads, c5, ew, if_neg c17, if_pos c17, c26]; done) | contradiction | rfl)
      · skip
        refine ka_ldc hC ka_q_cn_X7_93 dX7_unloads_29 ?_
        exact ka_iret hC hR dX7_unloads_31 (by first | with_reducible rfl | (simp only [rf_unloads, c5, ew, c17, c26]; done) | (simp only [rf_unloads, c5, ew, if_neg c17, if_pos c17, c26]; done) | (simp [rf_unloads, c5, ew, c17, c26]; done) | (simp [rf_unloads, c5, ew, if_neg c17, if_pos c17, c26]; done) | contradiction | rfl) (by first | with_reducible rfl | (simp only [rf_unloads, c5, ew, c17, c26]; done) | (simp only [rf_unloads, c5, ew, if_neg c17, if_pos c17, c26]; done) | (simp [rf_unloads, c5, ew, c17, c26]; done) | (simp [rf_unloads, c5, ew, if_neg c17, if_pos c17, c26]; done) | contradiction | rfl)
  · skip
    refine ka_ldc hC ka_q_cn_X7_28 dX7_unloads_8 ?_
    exact ka_iret hC hR dX7_unloads_10 (by first | with_reducible rfl | (simp only [rf_unloads, c5]; done) | (simp only [rf_unloads, c5]; done) | (simp [rf_unloads, c5]; done) | (simp [rf_unloads, c5]; done) | contradiction | rfl) (by first | with_reducible rfl | (simp only [rf_unloads, c5]; done) | (simp only [rf_unloads, c5]; done) | (simp [rf_unloads, c5]; done) | (simp [rf_unloads, c5]; done) | contradiction | rfl)
theorem ky_X7_sends : ka_y yX7_sends 1 := by unfold ka_y; decide +kernel
set_option maxHeartbeats 4000000 in
set_option maxRecDepth 100000 in
theorem m_X7_sends {G : ka_G} (hG : ka_AD G) {V : ka_W} {M : ka_P} {S : ka_F} {D : Nat} (hM : MK D S) (hD : D < 10000) {x : Int32}  : ka_M G yX7_sends cX7_sends 3 (some FieldType.int) 3 [.ref (ka_ad G 9 0), .int x] (ka_ms V M S) (some (.int ((rf_sends S x).1))) (ka_ms V M (rf_sends S x).2) := by
  refine ka_entry hG ka_pn_X7 (ka_cat1 rfl) (Nat.le_of_ble_eq_true rfl) (fun X hC hR => ?_)
  refine ka_aload_n hC dX7_sends_0 rfl ?_
  refine ka_iload_n hC dX7_sends_1 rfl ?_
  refine ka_callV hC (m_X7_isWagon hG) (ka_Rc_model ) rfl ka_q_ml_X7_86 ka_q_im_X7_isWagon ka_q_se_X7_isWagon ka_q_in_X7 ka_q_co_X7_isWagon ky_X7_isWagon (by decide) (by decide) (Nat.le_of_ble_eq_true rfl) rfl dX7_sends_2 ?_
  refine ka_if_ne_b (tgt := 11) hC dX7_sends_5 (by decide) (fun c5 => ?_) (fun c5 => ?_)
  · skip
    obtain ⟨w, hwn, hw, rfl⟩ := rf_isWagon_of hM c5
    have ew : cn (nI w) = w := cn_nI (by omega)
    refine ka_aload_n hC dX7_sends_11 rfl ?_
    refine ka_iload_n hC dX7_sends_12 rfl ?_
    refine ka_iconst (v := 2) hC dX7_sends_13 rfl ?_
    refine ka_callV hC (m_X7_of hG w 2 hw (by decide) rfl rfl) (ka_Rc_model ) rfl ka_q_ml_X7_40 ka_q_im_X7_of ka_q_se_X7_of ka_q_in_X7 ka_q_co_X7_of ky_X7_of (by decide) (by decide) (Nat.le_of_ble_eq_true rfl) rfl dX7_sends_14 ?_
    refine ka_iconst (v := 1) hC dX7_sends_17 rfl ?_
    refine ka_icmp_eq (tgt := 30) hC dX7_sends_18 (by decide) (fun c18 => ?_) (fun c18 => ?_)
    · skip
      refine ka_ldc hC ka_q_cn_X7_93 dX7_sends_30 ?_
      exact ka_iret hC hR dX7_sends_32 (by first | with_reducible rfl | (simp only [rf_sends, c5, ew, c18]; done) | (simp only [rf_sends, c5, ew, if_pos c18, if_neg (not_not_intro c18)]; done) | (simp [rf_sends, c5, ew, c18]; done) | (simp [rf_sends, c5, ew, if_pos c18, if_neg (not_not_intro c18)]; done) | contradiction | rfl) (by first | with_reducible rfl | (simp only [rf_sends, c5, ew, c18]; done) | (simp only [rf_sends, c5, ew, if_pos c18, if_neg (not_not_intro c18)]; done) | (simp [rf_sends, c5, ew, c18]; done) | (simp [rf_sends, c5, ew, if_pos c18, if_neg (not_not_intro c18)]; done) | contradiction | rfl)
    · skip
      refine ka_aload_n hC dX7_sends_21 rfl ?_
      refine ka_iload_n hC dX7_sends_22 rfl ?_
      refine ka_iconst (v := 0) hC dX7_sends_23 rfl ?_
      refine ka_callV hC (m_X7_stands hG (by first | assumption | decide | exact wgIx_lt _ | exact plIx_lt _ | exact sp_recQ_lt | omega)) (ka_Rc_model ) rfl ka_q_ml_X7_94 ka_q_im_X7_stands ka_q_se_X7_stands ka_q_in_X7 ka_q_co_X7_stands ky_X7_stands (by decide) (by decide) (Nat.le_of_ble_eq_true rfl) rfl dX7_sends_24 ?_
      refine ka_if_ne_b (tgt := 33) hC dX7_sends_27 (by decide) (fun c27 => ?_) (fun c27 => ?_)
      · skip
        refine ka_aload_n hC dX7_sends_33 rfl ?_
        refine ka_iconst (v := 1) hC dX7_sends_34 rfl ?_
        refine ka_callV hC (m_X7_inRepair hG hM.n (b := true)) (ka_Rc_model ) rfl ka_q_ml_X7_59 ka_q_im_X7_inRepair ka_q_se_X7_inRepair ka_q_in_X7 ka_q_co_X7_inRepair ky_X7_inRepair (by decide) (by decide) (Nat.le_of_ble_eq_true rfl) rfl dX7_sends_35 ?_
        refine ka_istore_n_p2 hC dX7_sends_38 (by decide) ?_
        refine ka_aload_n hC dX7_sends_39 rfl ?_
        refine ka_aload_n hC dX7_sends_40 rfl ?_
        refine ka_iload_n hC dX7_sends_41 rfl ?_
        refine ka_iconst (v := 0) hC dX7_sends_42 rfl ?_
        refine ka_callV hC (m_X7_of hG w 0 hw (by decide) rfl rfl) (ka_Rc_model ) rfl ka_q_ml_X7_40 ka_q_im_X7_of ka_q_se_X7_of ka_q_in_X7 ka_q_co_X7_of ky_X7_of (by decide) (by decide) (Nat.le_of_ble_eq_true rfl) rfl dX7_sends_43 ?_
        refine ka_iconst (v := 0) hC dX7_sends_46 rfl ?_
        refine ka_aload_n hC dX7_sends_47 rfl ?_
        refine kg_X7_7  hC dX7_sends_48 ?_
        refine ka_bipush (v := 12) hC dX7_sends_51 rfl ?_
        refine km_ld 12 (by decide) rfl hC dX7_sends_53 ?_
        refine ka_callV hC (m_X7_pays hG (cn (wg S w 0)) 0 (hM.o5 hw) (by decide) (hM.o hw) rfl) (ka_Rc_model ) rfl ka_q_ml_X7_69 ka_q_im_X7_pays ka_q_se_X7_pays ka_q_in_X7 ka_q_co_X7_pays ky_X7_pays (by decide) (by decide) (Nat.le_of_ble_eq_true rfl) rfl dX7_sends_54 ?_
        refine ka_aload_n hC dX7_sends_57 rfl ?_
        refine ka_iload_n hC dX7_sends_58 rfl ?_
        refine ka_iconst (v := 3) hC dX7_sends_59 rfl ?_
        refine ka_iconst (v := 2) hC dX7_sends_60 rfl ?_
        refine ka_callV hC (m_X7_lays hG w 3 hw (by decide) rfl rfl) (ka_Rc_model ) rfl ka_q_ml_X7_63 ka_q_im_X7_lays ka_q_se_X7_lays ka_q_in_X7 ka_q_co_X7_lays ky_X7_lays (by decide) (by decide) (Nat.le_of_ble_eq_true rfl) rfl dX7_sends_61 ?_
        refine ka_aload_n hC dX7_sends_64 rfl ?_
        refine ka_iload_n hC dX7_sends_65 rfl ?_
        refine ka_bipush (v := 6) hC dX7_sends_66 rfl ?_
        refine ka_iconst (v := (-1)) hC dX7_sends_68 rfl ?_
        refine ka_callV hC (m_X7_lays hG w 6 hw (by decide) rfl rfl) (ka_Rc_model ) rfl ka_q_ml_X7_63 ka_q_im_X7_lays ka_q_se_X7_lays ka_q_in_X7 ka_q_co_X7_lays ky_X7_lays (by decide) (by decide) (Nat.le_of_ble_eq_true rfl) rfl dX7_sends_69 ?_
        refine ka_aload_n hC dX7_sends_72 rfl ?_
        refine ka_iload_n hC dX7_sends_73 rfl ?_
        refine ka_bipush (v := 9) hC dX7_sends_74 rfl ?_
        refine ka_aload_n hC dX7_sends_76 rfl ?_
        refine kg_X7_7  hC dX7_sends_77 ?_
        refine ka_bipush (v := 6) hC dX7_sends_80 rfl ?_
        refine km_ld 6 (by decide) rfl hC dX7_sends_82 ?_
        refine ka_callV hC (m_X7_lays hG w 9 hw (by decide) rfl rfl) (ka_Rc_model ) rfl ka_q_ml_X7_63 ka_q_im_X7_lays ka_q_se_X7_lays ka_q_in_X7 ka_q_co_X7_lays ky_X7_lays (by decide) (by decide) (Nat.le_of_ble_eq_true rfl) rfl dX7_sends_83 ?_
        refine ka_aload_n hC dX7_sends_86 rfl ?_
        refine kg_X7_7  hC dX7_sends_87 ?_
        refine ka_bipush (v := 6) hC dX7_sends_90 rfl ?_
        refine ka_dup2 hC dX7_sends_92 rfl rfl ?_
        refine km_ld 6 (by decide) rfl hC dX7_sends_93 ?_
        refine ka_iconst (v := 1) hC dX7_sends_94 rfl ?_
        refine ka_iadd hC dX7_sends_95 ?_
        refine km_st 6 (by decide) rfl hC dX7_sends_96 ?_
        refine ka_I.eqW (V' := ka_ms V M (rf_snd S w)) rfl ?_
        refine ka_aload_n hC dX7_sends_97 rfl ?_
        refine ka_callV hC (m_X7_fillsShop hG (S := rf_snd S w) (by rw [(rx_snd (hM.o5 hw)).s1]; exact hM.n) (MK.v (D := D) (MK.of (rx_snd (hM.o5 hw)) hM) hD)) (ka_Rc_model ) rfl ka_q_ml_X7_66 ka_q_im_X7_fillsShop ka_q_se_X7_fillsShop ka_q_in_X7 ka_q_co_X7_fillsShop ky_X7_fillsShop (by decide) (by decide) (Nat.le_of_ble_eq_true rfl) rfl dX7_sends_98 ?_
        refine ka_iload_n hC dX7_sends_101 rfl ?_
        exact ka_iret hC hR dX7_sends_102 (by first | with_reducible rfl | (simp only [rf_sends, c5, ew, c18, c27]; done) | (simp only [rf_sends, c5, ew, if_neg c18, if_pos c18, c27]; done) | (simp [rf_sends, c5, ew, c18, c27]; done) | (simp [rf_sends, c5, ew, if_neg c18, if_pos c18, c27]; done) | contradiction | rfl) (by first | with_reducible rfl | (simp only [rf_sends, c5, ew, c18, c27]; done) | (simp only [rf_sends, c5, ew, if_neg c18, if_pos c18, c27]; done) | (simp [rf_sends, c5, ew, c18, c27]; done) | (simp [rf_sends, c5, ew, if_neg c18, if_pos c18, c27]; done) | contradiction | rfl)
      · skip
        refine ka_ldc hC ka_q_cn_X7_93 dX7_sends_30 ?_
        exact ka_iret hC hR dX7_sends_32 (by first | with_reducible rfl | (simp only [rf_sends, c5, ew, c18, c27]; done) | (simp only [rf_sends, c5, ew, if_neg c18, if_pos c18, c27]; done) | (simp [rf_sends, c5, ew, c18, c27]; done) | (simp [rf_sends, c5, ew, if_neg c18, if_pos c18, c27]; done) | contradiction | rfl) (by first | with_reducible rfl | (simp only [rf_sends, c5, ew, c18, c27]; done) | (simp only [rf_sends, c5, ew, if_neg c18, if_pos c18, c27]; done) | (simp [rf_sends, c5, ew, c18, c27]; done) | (simp [rf_sends, c5, ew, if_neg c18, if_pos c18, c27]; done) | contradiction | rfl)
  · skip
    refine ka_ldc hC ka_q_cn_X7_28 dX7_sends_8 ?_
    exact ka_iret hC hR dX7_sends_10 (by first | with_reducible rfl | (simp only [rf_sends, c5]; done) | (simp only [rf_sends, c5]; done) | (simp [rf_sends, c5]; done) | (simp [rf_sends, c5]; done) | contradiction | rfl) (by first | with_reducible rfl | (simp only [rf_sends, c5]; done) | (simp only [rf_sends, c5]; done) | (simp [rf_sends, c5]; done) | (simp [rf_sends, c5]; done) | contradiction | rfl)
theorem ky_X7_trains : ka_y yX7_trains 4 := by unfold ka_y; decide +kernel
set_option maxHeartbeats 4000000 in
set_option maxRecDepth 100000 in
theorem m_X7_trains {G : ka_G} (hG : ka_AD G) {V : ka_W} {M : ka_P} {S : ka_F} {D : Nat} (hM : MK D S) {x y kd mn : Int32}  : ka_M G yX7_trains cX7_trains 10 (some FieldType.int) 2 [.ref (ka_ad G 9 0), .int x, .int y, .int kd, .int mn] (ka_ms V M S) (some (.int ((rf_trains S x y kd mn).1))) (ka_ms V M (rf_trains S x y kd mn).2) := by
  refine ka_entry hG ka_pn_X7 (ka_cat1 rfl) (Nat.le_of_ble_eq_true rfl) (fun X hC hR => ?_)
  refine ka_aload_n hC dX7_trains_0 rfl ?_
  refine ka_iload_n hC dX7_trains_1 rfl ?_
  refine ka_callV hC (m_X7_isPlace hG) (ka_Rc_model ) rfl ka_q_ml_X7_98 ka_q_im_X7_isPlace ka_q_se_X7_isPlace ka_q_in_X7 ka_q_co_X7_isPlace ky_X7_isPlace (by decide) (by decide) (Nat.le_of_ble_eq_true rfl) rfl dX7_trains_2 ?_
  refine ka_if_eq_b (tgt := 41) hC dX7_trains_5 (by decide) (fun c5 => ?_) (fun c5 => ?_)
  · skip
    refine ka_ldc hC ka_q_cn_X7_28 dX7_trains_41 ?_
    exact ka_iret hC hR dX7_trains_43 (by first | with_reducible rfl | (simp only [rf_trains, rf_trainX_0, rf_trainX_s, rf_trainAt, rf_tr1, rf_go, rf_go1, sA, nI_1, c5]; done) | (simp only [rf_trains, rf_trainX_0, rf_trainX_s, rf_trainAt, rf_tr1, rf_go, rf_go1, sA, nI_1, c5]; done) | (simp [rf_trains, rf_trainX_0, rf_trainX_s, rf_trainAt, rf_tr1, rf_go, rf_go1, sA, nI_1, c5]; done) | (simp [rf_trains, rf_trainX_0, rf_trainX_s, rf_trainAt, rf_tr1, rf_go, rf_go1, sA, nI_1, c5]; done) | contradiction | rfl) (by first | with_reducible rfl | (simp only [rf_trains, rf_trainX_0, rf_trainX_s, rf_trainAt, rf_tr1, rf_go, rf_go1, sA, nI_1, c5]; done) | (simp only [rf_trains, rf_trainX_0, rf_trainX_s, rf_trainAt, rf_tr1, rf_go, rf_go1, sA, nI_1, c5]; done) | (simp [rf_trains, rf_trainX_0, rf_trainX_s, rf_trainAt, rf_tr1, rf_go, rf_go1, sA, nI_1, c5]; done) | (simp [rf_trains, rf_trainX_0, rf_trainX_s, rf_trainAt, rf_tr1, rf_go, rf_go1, sA, nI_1, c5]; done) | contradiction | rfl)
  · skip
    obtain ⟨a, ha, rfl⟩ := rf_isPlace_of hM c5
    refine ka_aload_n hC dX7_trains_8 rfl ?_
    refine ka_iload_n hC dX7_trains_9 rfl ?_
    refine ka_callV hC (m_X7_isPlace hG) (ka_Rc_model ) rfl ka_q_ml_X7_98 ka_q_im_X7_isPlace ka_q_se_X7_isPlace ka_q_in_X7 ka_q_co_X7_isPlace ky_X7_isPlace (by decide) (by decide) (Nat.le_of_ble_eq_true rfl) rfl dX7_trains_10 ?_
    refine ka_if_eq_b (tgt := 41) hC dX7_trains_13 (by decide) (fun c13 => ?_) (fun c13 => ?_)
    · skip
      refine ka_ldc hC ka_q_cn_X7_28 dX7_trains_41 ?_
      exact ka_iret hC hR dX7_trains_43 (by first | with_reducible rfl | (simp only [rf_trains, rf_trainX_0, rf_trainX_s, rf_trainAt, rf_tr1, rf_go, rf_go1, sA, nI_1, c5, c13]; done) | (simp only [rf_trains, rf_trainX_0, rf_trainX_s, rf_trainAt, rf_tr1, rf_go, rf_go1, sA, nI_1, c5, c13]; done) | (simp [rf_trains, rf_trainX_0, rf_trainX_s, rf_trainAt, rf_tr1, rf_go, rf_go1, sA, nI_1, c5, c13]; done) | (simp [rf_trains, rf_trainX_0, rf_trainX_s, rf_trainAt, rf_tr1, rf_go, rf_go1, sA, nI_1, c5, c13]; done) | contradiction | rfl) (by first | with_reducible rfl | (simp only [rf_trains, rf_trainX_0, rf_trainX_s, rf_trainAt, rf_tr1, rf_go, rf_go1, sA, nI_1, c5, c13]; done) | (simp only [rf_trains, rf_trainX_0, rf_trainX_s, rf_trainAt, rf_tr1, rf_go, rf_go1, sA, nI_1, c5, c13]; done) | (simp [rf_trains, rf_trainX_0, rf_trainX_s, rf_trainAt, rf_tr1, rf_go, rf_go1, sA, nI_1, c5, c13]; done) | (simp [rf_trains, rf_trainX_0, rf_trainX_s, rf_trainAt, rf_tr1, rf_go, rf_go1, sA, nI_1, c5, c13]; done) | contradiction | rfl)
    · skip
      obtain ⟨b, hb, rfl⟩ := rf_isPlace_of hM c13
      have ea : cn (nI a) = a := cn_nI (by omega)
      have eb : cn (nI b) = b := cn_nI (by omega)
      have el : rf_leg S (nI a) (nI b) = S (14 + 5 * a + b) := by unfold rf_leg; rw [ea, eb]
      refine ka_iload_n hC dX7_trains_16 rfl ?_
      refine ka_iload_n hC dX7_trains_17 rfl ?_
      refine ka_icmp_eq (tgt := 41) hC dX7_trains_18 (by decide) (fun c18 => ?_) (fun c18 => ?_)
      · skip
        refine ka_ldc hC ka_q_cn_X7_28 dX7_trains_41 ?_
        exact ka_iret hC hR dX7_trains_43 (by first | with_reducible rfl | (simp only [rf_trains, rf_trainX_0, rf_trainX_s, rf_trainAt, rf_tr1, rf_go, rf_go1, sA, nI_1, c5, c13, c18]; done) | (simp only [rf_trains, rf_trainX_0, rf_trainX_s, rf_trainAt, rf_tr1, rf_go, rf_go1, sA, nI_1, c5, c13, if_pos c18, if_neg (not_not_intro c18)]; done) | (simp [rf_trains, rf_trainX_0, rf_trainX_s, rf_trainAt, rf_tr1, rf_go, rf_go1, sA, nI_1, c5, c13, c18]; done) | (simp [rf_trains, rf_trainX_0, rf_trainX_s, rf_trainAt, rf_tr1, rf_go, rf_go1, sA, nI_1, c5, c13, if_pos c18, if_neg (not_not_intro c18)]; done) | contradiction | rfl) (by first | with_reducible rfl | (simp only [rf_trains, rf_trainX_0, rf_trainX_s, rf_trainAt, rf_tr1, rf_go, rf_go1, sA, nI_1, c5, c13, c18]; done) | (simp only [rf_trains, rf_trainX_0, rf_trainX_s, rf_trainAt, rf_tr1, rf_go, rf_go1, sA, nI_1, c5, c13, if_pos c18, if_neg (not_not_intro c18)]; done) | (simp [rf_trains, rf_trainX_0, rf_trainX_s, rf_trainAt, rf_tr1, rf_go, rf_go1, sA, nI_1, c5, c13, c18]; done) | (simp [rf_trains, rf_trainX_0, rf_trainX_s, rf_trainAt, rf_tr1, rf_go, rf_go1, sA, nI_1, c5, c13, if_pos c18, if_neg (not_not_intro c18)]; done) | contradiction | rfl)
      · skip
        refine ka_iload_n hC dX7_trains_21 rfl ?_
        refine ka_iconst (v := 0) hC dX7_trains_22 rfl ?_
        refine ka_iconst (v := 2) hC dX7_trains_23 rfl ?_
        refine ka_callS hC (m_X7_in hG) ka_q_ml_X7_36 ka_q_st_X7_in ka_q_in_X7 ka_q_co_X7_in ky_X7_in (by decide) (by decide) (Nat.le_of_ble_eq_true rfl) rfl dX7_trains_24 ?_
        refine ka_if_eq_b (tgt := 41) hC dX7_trains_27 (by decide) (fun c27 => ?_) (fun c27 => ?_)
        · skip
          refine ka_ldc hC ka_q_cn_X7_28 dX7_trains_41 ?_
          exact ka_iret hC hR dX7_trains_43 (by first | with_reducible rfl | (simp only [rf_trains, rf_trainX_0, rf_trainX_s, rf_trainAt, rf_tr1, rf_go, rf_go1, sA, nI_1, c5, c13, c18, c27]; done) | (simp only [rf_trains, rf_trainX_0, rf_trainX_s, rf_trainAt, rf_tr1, rf_go, rf_go1, sA, nI_1, c5, c13, if_neg c18, if_pos c18, c27]; done) | (simp [rf_trains, rf_trainX_0, rf_trainX_s, rf_trainAt, rf_tr1, rf_go, rf_go1, sA, nI_1, c5, c13, c18, c27]; done) | (simp [rf_trains, rf_trainX_0, rf_trainX_s, rf_trainAt, rf_tr1, rf_go, rf_go1, sA, nI_1, c5, c13, if_neg c18, if_pos c18, c27]; done) | contradiction | rfl) (by first | with_reducible rfl | (simp only [rf_trains, rf_trainX_0, rf_trainX_s, rf_trainAt, rf_tr1, rf_go, rf_go1, sA, nI_1, c5, c13, c18, c27]; done) | (simp only [rf_trains, rf_trainX_0, rf_trainX_s, rf_trainAt, rf_tr1, rf_go, rf_go1, sA, nI_1, c5, c13, if_neg c18, if_pos c18, c27]; done) | (simp [rf_trains, rf_trainX_0, rf_trainX_s, rf_trainAt, rf_tr1, rf_go, rf_go1, sA, nI_1, c5, c13, c18, c27]; done) | (simp [rf_trains, rf_trainX_0, rf_trainX_s, rf_trainAt, rf_tr1, rf_go, rf_go1, sA, nI_1, c5, c13, if_neg c18, if_pos c18, c27]; done) | contradiction | rfl)
        · skip
          refine ka_iload hC dX7_trains_30 rfl ?_
          refine ka_iconst (v := 1) hC dX7_trains_32 rfl ?_
          refine ka_bipush (v := 8) hC dX7_trains_33 rfl ?_
          refine ka_callS hC (m_X7_in hG) ka_q_ml_X7_36 ka_q_st_X7_in ka_q_in_X7 ka_q_co_X7_in ky_X7_in (by decide) (by decide) (Nat.le_of_ble_eq_true rfl) rfl dX7_trains_35 ?_
          refine ka_if_ne_b (tgt := 44) hC dX7_trains_38 (by decide) (fun c38 => ?_) (fun c38 => ?_)
          · skip
            refine ka_iconst (v := 0) hC dX7_trains_44 rfl ?_
            refine ka_istore_p5 hC dX7_trains_45 (by decide) ?_
            refine ka_iconst (v := 0) hC dX7_trains_47 rfl ?_
            refine ka_istore_p6 hC dX7_trains_48 (by decide) ?_
            refine ka_iconst (v := 0) hC dX7_trains_50 rfl ?_
            refine ka_istore_p7 hC dX7_trains_51 (by decide) ?_
            refine ka_aload_n hC dX7_trains_53 rfl ?_
            refine kg_X7_7  hC dX7_trains_54 ?_
            refine ka_bipush (v := 14) hC dX7_trains_57 rfl ?_
            refine ka_iconst (v := 5) hC dX7_trains_59 rfl ?_
            refine ka_iload_n hC dX7_trains_60 rfl ?_
            refine ka_imul hC dX7_trains_61 ?_
            refine ka_iadd hC dX7_trains_62 ?_
            refine ka_iload_n hC dX7_trains_63 rfl ?_
            refine ka_iadd hC dX7_trains_64 ?_
            refine km_ld (14 + 5 * a + b) (by omega) (ix_l a b rfl rfl) hC dX7_trains_65 ?_
            refine ka_istore_p8 hC dX7_trains_66 (by decide) ?_
            refine ka_iconst (v := 0) hC dX7_trains_68 rfl ?_
            refine ka_istore_p9 hC dX7_trains_69 (by decide) ?_
            suffices H71 : ∀ jj i : Nat, i ≤ cn (S 1) → cn (S 1) - i < jj → ka_I G X (ka_ms V M (rf_trainX S (nI a) (nI b) kd mn i).1) 71 [.ref (ka_ad G 9 0), .int (nI a), .int (nI b), .int kd, .int mn, .int (rf_trainX S (nI a) (nI b) kd mn i).2.1, .int (rf_trainX S (nI a) (nI b) kd mn i).2.2.1, .int (rf_trainX S (nI a) (nI b) kd mn i).2.2.2, .int (rf_leg S (nI a) (nI b)), .int (nI i)] [] from ka_I.back 10 (by first | with_reducible rfl | (simp only [rf_trains, rf_trainX_0, rf_trainX_s, rf_trainAt, rf_tr1, rf_go, rf_go1, sA, nI_1, c5, c13, c18, c27, c38]; done) | (simp only [rf_trains, rf_trainX_0, rf_trainX_s, rf_trainAt, rf_tr1, rf_go, rf_go1, sA, nI_1, c5, c13, if_neg c18, if_pos c18, c27, c38]; done) | (simp [rf_trains, rf_trainX_0, rf_trainX_s, rf_trainAt, rf_tr1, rf_go, rf_go1, sA, nI_1, c5, c13, c18, c27, c38]; done) | (simp [rf_trains, rf_trainX_0, rf_trainX_s, rf_trainAt, rf_tr1, rf_go, rf_go1, sA, nI_1, c5, c13, if_neg c18, if_pos c18, c27, c38]; done) | contradiction | rfl) (by rw [el]; rfl) (H71 (cn (S 1) + 1) 0 (by omega) (by omega))
            intro j71
            induction j71 with
            | zero => intro i h1 h2 ; exact absurd h2 (Nat.not_lt_zero _)
            | succ j71 ih71 =>
              intro i hle71 hlt71 
              refine ka_iload hC dX7_trains_71 rfl ?_
              refine ka_aload_n hC dX7_trains_73 rfl ?_
              refine kg_X7_7  hC dX7_trains_74 ?_
              refine ka_iconst (v := 1) hC dX7_trains_77 rfl ?_
              refine km_ld 1 (by decide) rfl hC dX7_trains_78 ?_
              refine ka_icmp_ge (tgt := 188) hC dX7_trains_79 (by decide) (fun c79 => ?_) (fun c79 => ?_)
              · skip
                rw [rf_trainX_j (by decide)] at c79
                obtain rfl : i = cn (S 1) := nlt_cn hle71 c79
                refine ka_iload hC dX7_trains_188 rfl ?_
                refine ka_if_ne (tgt := 196) hC dX7_trains_190 (by decide) (fun c190 => ?_) (fun c190 => ?_)
                · skip
                  refine ka_aload_n hC dX7_trains_196 rfl ?_
                  refine kg_X7_7  hC dX7_trains_197 ?_
                  refine ka_iconst (v := 4) hC dX7_trains_200 rfl ?_
                  refine ka_dup2 hC dX7_trains_201 rfl rfl ?_
                  refine km_ld 4 (by decide) rfl hC dX7_trains_202 ?_
                  refine ka_iconst (v := 1) hC dX7_trains_203 rfl ?_
                  refine ka_iadd hC dX7_trains_204 ?_
                  refine km_st 4 (by decide) rfl hC dX7_trains_205 ?_
                  refine ka_aload_n hC dX7_trains_206 rfl ?_
                  refine kg_X7_7  hC dX7_trains_207 ?_
                  refine ka_iconst (v := 5) hC dX7_trains_210 rfl ?_
                  refine ka_dup2 hC dX7_trains_211 rfl rfl ?_
                  refine km_ld 5 (by decide) rfl hC dX7_trains_212 ?_
                  refine ka_iload hC dX7_trains_213 rfl ?_
                  refine ka_if_ne (tgt := 222) hC dX7_trains_215 (by decide) (fun c215 => ?_) (fun c215 => ?_)
                  · skip
                    refine ka_iconst (v := 0) hC dX7_trains_222 rfl ?_
                    refine ka_iadd hC dX7_trains_223 ?_
                    refine km_st 5 (by decide) rfl hC dX7_trains_224 ?_
                    refine ka_iload hC dX7_trains_225 rfl ?_
                    exact ka_iret hC hR dX7_trains_227 (by first | with_reducible rfl | (simp only [rf_trains, rf_trainX_0, rf_trainX_s, rf_trainAt, rf_tr1, rf_go, rf_go1, sA, nI_1, c5, c13, c18, c27, c38, c79, c190, c215]; done) | (simp only [rf_trains, rf_trainX_0, rf_trainX_s, rf_trainAt, rf_tr1, rf_go, rf_go1, sA, nI_1, c5, c13, if_neg c18, if_pos c18, c27, c38, if_neg c79, if_pos c79, if_neg c190, if_pos c190, if_neg c215, if_pos c215]; done) | (simp [rf_trains, rf_trainX_0, rf_trainX_s, rf_trainAt, rf_tr1, rf_go, rf_go1, sA, nI_1, c5, c13, c18, c27, c38, c79, c190, c215]; done) | (simp [rf_trains, rf_trainX_0, rf_trainX_s, rf_trainAt, rf_tr1, rf_go, rf_go1, sA, nI_1, c5, c13, if_neg c18, if_pos c18, c27, c38, if_neg c79, if_pos c79, if_neg c190, if_pos c190, if_neg c215, if_pos c215]; done) | contradiction | rfl) (by first | with_reducible rfl | (simp only [rf_trains, rf_trainX_0, rf_trainX_s, rf_trainAt, rf_tr1, rf_go, rf_go1, sA, nI_1, c5, c13, c18, c27, c38, c79, c190, c215]; done) | (simp only [rf_trains, rf_trainX_0, rf_trainX_s, rf_trainAt, rf_tr1, rf_go, rf_go1, sA, nI_1, c5, c13, if_neg c18, if_pos c18, c27, c38, if_neg c79, if_pos c79, if_neg c190, if_pos c190, if_neg c215, if_pos c215]; done) | (simp [rf_trains, rf_trainX_0, rf_trainX_s, rf_trainAt, rf_tr1, rf_go, rf_go1, sA, nI_1, c5, c13, c18, c27, c38, c79, c190, c215]; done) | (simp [rf_trains, rf_trainX_0, rf_trainX_s, rf_trainAt, rf_tr1, rf_go, rf_go1, sA, nI_1, c5, c13, if_neg c18, if_pos c18, c27, c38, if_neg c79, if_pos c79, if_neg c190, if_pos c190, if_neg c215, if_pos c215]; done) | contradiction | rfl)
                  · skip
                    refine ka_iconst (v := 1) hC dX7_trains_218 rfl ?_
                    refine ka_goto (tgt := 223) hC dX7_trains_219 (by decide) ?_
                    refine ka_iadd hC dX7_trains_223 ?_
                    refine km_st 5 (by decide) rfl hC dX7_trains_224 ?_
                    refine ka_iload hC dX7_trains_225 rfl ?_
                    exact ka_iret hC hR dX7_trains_227 (by first | with_reducible rfl | (simp only [rf_trains, rf_trainX_0, rf_trainX_s, rf_trainAt, rf_tr1, rf_go, rf_go1, sA, nI_1, c5, c13, c18, c27, c38, c79, c190, c215]; done) | (simp only [rf_trains, rf_trainX_0, rf_trainX_s, rf_trainAt, rf_tr1, rf_go, rf_go1, sA, nI_1, c5, c13, if_neg c18, if_pos c18, c27, c38, if_neg c79, if_pos c79, if_neg c190, if_pos c190, if_pos c215, if_neg (not_not_intro c215)]; done) | (simp [rf_trains, rf_trainX_0, rf_trainX_s, rf_trainAt, rf_tr1, rf_go, rf_go1, sA, nI_1, c5, c13, c18, c27, c38, c79, c190, c215]; done) | (simp [rf_trains, rf_trainX_0, rf_trainX_s, rf_trainAt, rf_tr1, rf_go, rf_go1, sA, nI_1, c5, c13, if_neg c18, if_pos c18, c27, c38, if_neg c79, if_pos c79, if_neg c190, if_pos c190, if_pos c215, if_neg (not_not_intro c215)]; done) | contradiction | rfl) (by first | with_reducible rfl | (simp only [rf_trains, rf_trainX_0, rf_trainX_s, rf_trainAt, rf_tr1, rf_go, rf_go1, sA, nI_1, c5, c13, c18, c27, c38, c79, c190, c215]; done) | (simp only [rf_trains, rf_trainX_0, rf_trainX_s, rf_trainAt, rf_tr1, rf_go, rf_go1, sA, nI_1, c5, c13, if_neg c18, if_pos c18, c27, c38, if_neg c79, if_pos c79, if_neg c190, if_pos c190, if_pos c215, if_neg (not_not_intro c215)]; done) | (simp [rf_trains, rf_trainX_0, rf_trainX_s, rf_trainAt, rf_tr1, rf_go, rf_go1, sA, nI_1, c5, c13, c18, c27, c38, c79, c190, c215]; done) | (simp [rf_trains, rf_trainX_0, rf_trainX_s, rf_trainAt, rf_tr1, rf_go, rf_go1, sA, nI_1, c5, c13, if_neg c18, if_pos c18, c27, c38, if_neg c79, if_pos c79, if_neg c190, if_pos c190, if_pos c215, if_neg (not_not_intro c215)]; done) | contradiction | rfl)
                · skip
                  refine ka_ldc hC ka_q_cn_X7_93 dX7_trains_193 ?_
                  exact ka_iret hC hR dX7_trains_195 (by first | with_reducible rfl | (simp only [rf_trains, rf_trainX_0, rf_trainX_s, rf_trainAt, rf_tr1, rf_go, rf_go1, sA, nI_1, c5, c13, c18, c27, c38, c79, c190]; done) | (simp only [rf_trains, rf_trainX_0, rf_trainX_s, rf_trainAt, rf_tr1, rf_go, rf_go1, sA, nI_1, c5, c13, if_neg c18, if_pos c18, c27, c38, if_neg c79, if_pos c79, if_pos c190, if_neg (not_not_intro c190)]; done) | (simp [rf_trains, rf_trainX_0, rf_trainX_s, rf_trainAt, rf_tr1, rf_go, rf_go1, sA, nI_1, c5, c13, c18, c27, c38, c79, c190]; done) | (simp [rf_trains, rf_trainX_0, rf_trainX_s, rf_trainAt, rf_tr1, rf_go, rf_go1, sA, nI_1, c5, c13, if_neg c18, if_pos c18, c27, c38, if_neg c79, if_pos c79, if_pos c190, if_neg (not_not_intro c190)]; done) | contradiction | rfl) (by first | with_reducible rfl | (simp only [rf_trains, rf_trainX_0, rf_trainX_s, rf_trainAt, rf_tr1, rf_go, rf_go1, sA, nI_1, c5, c13, c18, c27, c38, c79, c190]; done) | (simp only [rf_trains, rf_trainX_0, rf_trainX_s, rf_trainAt, rf_tr1, rf_go, rf_go1, sA, nI_1, c5, c13, if_neg c18, if_pos c18, c27, c38, if_neg c79, if_pos c79, if_pos c190, if_neg (not_not_intro c190)]; done) | (simp [rf_trains, rf_trainX_0, rf_trainX_s, rf_trainAt, rf_tr1, rf_go, rf_go1, sA, nI_1, c5, c13, c18, c27, c38, c79, c190]; done) | (simp [rf_trains, rf_trainX_0, rf_trainX_s, rf_trainAt, rf_tr1, rf_go, rf_go1, sA, nI_1, c5, c13, if_neg c18, if_pos c18, c27, c38, if_neg c79, if_pos c79, if_pos c190, if_neg (not_not_intro c190)]; done) | contradiction | rfl)
              · skip
                rw [rf_trainX_j (by decide)] at c79
                have hi : i < cn (S 1) := lt_cn hle71 c79
                have hi20 : i < 20 := Nat.lt_of_lt_of_le hi hM.n
                refine ka_iload hC dX7_trains_82 rfl ?_
                refine ka_iload hC dX7_trains_84 rfl ?_
                refine ka_icmp_ge (tgt := 188) hC dX7_trains_86 (by decide) (fun c86 => ?_) (fun c86 => ?_)
                · skip
                  rw [rf_trainX_stop c86 hle71]
                  refine ka_iload hC dX7_trains_188 rfl ?_
                  refine ka_if_ne (tgt := 196) hC dX7_trains_190 (by decide) (fun c190 => ?_) (fun c190 => ?_)
                  · skip
                    refine ka_aload_n hC dX7_trains_196 rfl ?_
                    refine kg_X7_7  hC dX7_trains_197 ?_
                    refine ka_iconst (v := 4) hC dX7_trains_200 rfl ?_
                    refine ka_dup2 hC dX7_trains_201 rfl rfl ?_
                    refine km_ld 4 (by decide) rfl hC dX7_trains_202 ?_
                    refine ka_iconst (v := 1) hC dX7_trains_203 rfl ?_
                    refine ka_iadd hC dX7_trains_204 ?_
                    refine km_st 4 (by decide) rfl hC dX7_trains_205 ?_
                    refine ka_aload_n hC dX7_trains_206 rfl ?_
                    refine kg_X7_7  hC dX7_trains_207 ?_
                    refine ka_iconst (v := 5) hC dX7_trains_210 rfl ?_
                    refine ka_dup2 hC dX7_trains_211 rfl rfl ?_
                    refine km_ld 5 (by decide) rfl hC dX7_trains_212 ?_
                    refine ka_iload hC dX7_trains_213 rfl ?_
                    refine ka_if_ne (tgt := 222) hC dX7_trains_215 (by decide) (fun c215 => ?_) (fun c215 => ?_)
                    · skip
                      refine ka_iconst (v := 0) hC dX7_trains_222 rfl ?_
                      refine ka_iadd hC dX7_trains_223 ?_
                      refine km_st 5 (by decide) rfl hC dX7_trains_224 ?_
                      refine ka_iload hC dX7_trains_225 rfl ?_
                      exact ka_iret hC hR dX7_trains_227 (by first | with_reducible rfl | (simp only [rf_trains, rf_trainX_0, rf_trainX_s, rf_trainAt, rf_tr1, rf_go, rf_go1, sA, nI_1, c5, c13, c18, c27, c38, c79, c86, c190, c215]; done) | (simp only [rf_trains, rf_trainX_0, rf_trainX_s, rf_trainAt, rf_tr1, rf_go, rf_go1, sA, nI_1, c5, c13, if_neg c18, if_pos c18, c27, c38, if_pos c79, if_neg (not_not_intro c79), if_neg c86, if_pos c86, if_neg c190, if_pos c190, if_neg c215, if_pos c215]; done) | (simp [rf_trains, rf_trainX_0, rf_trainX_s, rf_trainAt, rf_tr1, rf_go, rf_go1, sA, nI_1, c5, c13, c18, c27, c38, c79, c86, c190, c215]; done) | (simp [rf_trains, rf_trainX_0, rf_trainX_s, rf_trainAt, rf_tr1, rf_go, rf_go1, sA, nI_1, c5, c13, if_neg c18, if_pos c18, c27, c38, if_pos c79, if_neg (not_not_intro c79), if_neg c86, if_pos c86, if_neg c190, if_pos c190, if_neg c215, if_pos c215]; done) | contradiction | rfl) (by first | with_reducible rfl | (simp only [rf_trains, rf_trainX_0, rf_trainX_s, rf_trainAt, rf_tr1, rf_go, rf_go1, sA, nI_1, c5, c13, c18, c27, c38, c79, c86, c190, c215]; done) | (simp only [rf_trains, rf_trainX_0, rf_trainX_s, rf_trainAt, rf_tr1, rf_go, rf_go1, sA, nI_1, c5, c13, if_neg c18, if_pos c18, c27, c38, if_pos c79, if_neg (not_not_intro c79), if_neg c86, if_pos c86, if_neg c190, if_pos c190, if_neg c215, if_pos c215]; done) | (simp [rf_trains, rf_trainX_0, rf_trainX_s, rf_trainAt, rf_tr1, rf_go, rf_go1, sA, nI_1, c5, c13, c18, c27, c38, c79, c86, c190, c215]; done) | (simp [rf_trains, rf_trainX_0, rf_trainX_s, rf_trainAt, rf_tr1, rf_go, rf_go1, sA, nI_1, c5, c13, if_neg c18, if_pos c18, c27, c38, if_pos c79, if_neg (not_not_intro c79), if_neg c86, if_pos c86, if_neg c190, if_pos c190, if_neg c215, if_pos c215]; done) | contradiction | rfl)
                    · skip
                      refine ka_iconst (v := 1) hC dX7_trains_218 rfl ?_
                      refine ka_goto (tgt := 223) hC dX7_trains_219 (by decide) ?_
                      refine ka_iadd hC dX7_trains_223 ?_
                      refine km_st 5 (by decide) rfl hC dX7_trains_224 ?_
                      refine ka_iload hC dX7_trains_225 rfl ?_
                      exact ka_iret hC hR dX7_trains_227 (by first | with_reducible rfl | (simp only [rf_trains, rf_trainX_0, rf_trainX_s, rf_trainAt, rf_tr1, rf_go, rf_go1, sA, nI_1, c5, c13, c18, c27, c38, c79, c86, c190, c215]; done) | (simp only [rf_trains, rf_trainX_0, rf_trainX_s, rf_trainAt, rf_tr1, rf_go, rf_go1, sA, nI_1, c5, c13, if_neg c18, if_pos c18, c27, c38, if_pos c79, if_neg (not_not_intro c79), if_neg c86, if_pos c86, if_neg c190, if_pos c190, if_pos c215, if_neg (not_not_intro c215)]; done) | (simp [rf_trains, rf_trainX_0, rf_trainX_s, rf_trainAt, rf_tr1, rf_go, rf_go1, sA, nI_1, c5, c13, c18, c27, c38, c79, c86, c190, c215]; done) | (simp [rf_trains, rf_trainX_0, rf_trainX_s, rf_trainAt, rf_tr1, rf_go, rf_go1, sA, nI_1, c5, c13, if_neg c18, if_pos c18, c27, c38, if_pos c79, if_neg (not_not_intro c79), if_neg c86, if_pos c86, if_neg c190, if_pos c190, if_pos c215, if_neg (not_not_intro c215)]; done) | contradiction | rfl) (by first | with_reducible rfl | (simp only [rf_trains, rf_trainX_0, rf_trainX_s, rf_trainAt, rf_tr1, rf_go, rf_go1, sA, nI_1, c5, c13, c18, c27, c38, c79, c86, c190, c215]; done) | (simp only [rf_trains, rf_trainX_0, rf_trainX_s, rf_trainAt, rf_tr1, rf_go, rf_go1, sA, nI_1, c5, c13, if_neg c18, if_pos c18, c27, c38, if_pos c79, if_neg (not_not_intro c79), if_neg c86, if_pos c86, if_neg c190, if_pos c190, if_pos c215, if_neg (not_not_intro c215)]; done) | (simp [rf_trains, rf_trainX_0, rf_trainX_s, rf_trainAt, rf_tr1, rf_go, rf_go1, sA, nI_1, c5, c13, c18, c27, c38, c79, c86, c190, c215]; done) | (simp [rf_trains, rf_trainX_0, rf_trainX_s, rf_trainAt, rf_tr1, rf_go, rf_go1, sA, nI_1, c5, c13, if_neg c18, if_pos c18, c27, c38, if_pos c79, if_neg (not_not_intro c79), if_neg c86, if_pos c86, if_neg c190, if_pos c190, if_pos c215, if_neg (not_not_intro c215)]; done) | contradiction | rfl)
                  · skip
                    refine ka_ldc hC ka_q_cn_X7_93 dX7_trains_193 ?_
                    exact ka_iret hC hR dX7_trains_195 (by first | with_reducible rfl | (simp only [rf_trains, rf_trainX_0, rf_trainX_s, rf_trainAt, rf_tr1, rf_go, rf_go1, sA, nI_1, c5, c13, c18, c27, c38, c79, c86, c190]; done) | (simp only [rf_trains, rf_trainX_0, rf_trainX_s, rf_trainAt, rf_tr1, rf_go, rf_go1, sA, nI_1, c5, c13, if_neg c18, if_pos c18, c27, c38, if_pos c79, if_neg (not_not_intro c79), if_neg c86, if_pos c86, if_pos c190, if_neg (not_not_intro c190)]; done) | (simp [rf_trains, rf_trainX_0, rf_trainX_s, rf_trainAt, rf_tr1, rf_go, rf_go1, sA, nI_1, c5, c13, c18, c27, c38, c79, c86, c190]; done) | (simp [rf_trains, rf_trainX_0, rf_trainX_s, rf_trainAt, rf_tr1, rf_go, rf_go1, sA, nI_1, c5, c13, if_neg c18, if_pos c18, c27, c38, if_pos c79, if_neg (not_not_intro c79), if_neg c86, if_pos c86, if_pos c190, if_neg (not_not_intro c190)]; done) | contradiction | rfl) (by first | with_reducible rfl | (simp only [rf_trains, rf_trainX_0, rf_trainX_s, rf_trainAt, rf_tr1, rf_go, rf_go1, sA, nI_1, c5, c13, c18, c27, c38, c79, c86, c190]; done) | (simp only [rf_trains, rf_trainX_0, rf_trainX_s, rf_trainAt, rf_tr1, rf_go, rf_go1, sA, nI_1, c5, c13, if_neg c18, if_pos c18, c27, c38, if_pos c79, if_neg (not_not_intro c79), if_neg c86, if_pos c86, if_pos c190, if_neg (not_not_intro c190)]; done) | (simp [rf_trains, rf_trainX_0, rf_trainX_s, rf_trainAt, rf_tr1, rf_go, rf_go1, sA, nI_1, c5, c13, c18, c27, c38, c79, c86, c190]; done) | (simp [rf_trains, rf_trainX_0, rf_trainX_s, rf_trainAt, rf_tr1, rf_go, rf_go1, sA, nI_1, c5, c13, if_neg c18, if_pos c18, c27, c38, if_pos c79, if_neg (not_not_intro c79), if_neg c86, if_pos c86, if_pos c190, if_neg (not_not_intro c190)]; done) | contradiction | rfl)
                · skip
                  refine ka_aload_n hC dX7_trains_89 rfl ?_
                  refine ka_iload hC dX7_trains_90 rfl ?_
                  refine ka_iload_n hC dX7_trains_92 rfl ?_
                  refine ka_callV hC (m_X7_stands hG (by first | assumption | decide | exact wgIx_lt _ | exact plIx_lt _ | exact sp_recQ_lt | omega)) (ka_Rc_model ) rfl ka_q_ml_X7_94 ka_q_im_X7_stands ka_q_se_X7_stands ka_q_in_X7 ka_q_co_X7_stands ky_X7_stands (by decide) (by decide) (Nat.le_of_ble_eq_true rfl) rfl dX7_trains_93 ?_
                  refine ka_if_eq_b (tgt := 182) hC dX7_trains_96 (by decide) (fun c96 => ?_) (fun c96 => ?_)
                  · skip
                    refine ka_iinc_9 (v := 1) hC dX7_trains_182 rfl (by decide) ?_
                    refine ka_goto (tgt := 71) hC dX7_trains_185 (by decide) ?_
                    exact ka_I.back 10 (by first | (rw [e]; rfl) | (simp only [rf_trainX_s, rf_trainAt, c5, c13, c18, c27, c38, c79, c86, c96]; done) | (simp [rf_trainX_s, rf_trainAt, c5, c13, c18, c27, c38, c79, c86, c96]; done)) (by first | (rw [e, ← nI_1]; rfl) | (simp only [rf_trainX_s, rf_trainAt, nI_1, c5, c13, c18, c27, c38, c79, c86, c96]; rfl) | (simp [rf_trainX_s, rf_trainAt, nI_1, c5, c13, c18, c27, c38, c79, c86, c96]; done)) (ih71 (i + 1) (by omega) (by omega))
                  · skip
                    refine ka_iload_n hC dX7_trains_99 rfl ?_
                    refine ka_iconst (v := 2) hC dX7_trains_100 rfl ?_
                    refine ka_icmp_eq (tgt := 115) hC dX7_trains_101 (by decide) (fun c101 => ?_) (fun c101 => ?_)
                    · skip
                      have e := rf_trainX_go c86 c96 (Or.inl c101)
                      refine ka_iload hC dX7_trains_115 rfl ?_
                      refine ka_iconst (v := 1) hC dX7_trains_117 rfl ?_
                      refine ka_iload hC dX7_trains_118 rfl ?_
                      refine ka_ishl hC dX7_trains_120 ?_
                      refine ka_ior hC dX7_trains_121 ?_
                      refine ka_istore_s5 hC dX7_trains_122 (by decide) ?_
                      refine ka_iinc_6 (v := 1) hC dX7_trains_124 rfl (by decide) ?_
                      refine ka_iload hC dX7_trains_127 rfl ?_
                      refine ka_aload_n hC dX7_trains_129 rfl ?_
                      refine ka_iload hC dX7_trains_130 rfl ?_
                      refine ka_iconst (v := 2) hC dX7_trains_132 rfl ?_
                      refine ka_callV hC (m_X7_of hG i 2 hi20 (by decide) rfl rfl) (ka_Rc_model ) rfl ka_q_ml_X7_40 ka_q_im_X7_of ka_q_se_X7_of ka_q_in_X7 ka_q_co_X7_of ky_X7_of (by decide) (by decide) (Nat.le_of_ble_eq_true rfl) rfl dX7_trains_133 ?_
                      refine ka_iadd hC dX7_trains_136 ?_
                      refine ka_istore_s7 hC dX7_trains_137 (by decide) ?_
                      refine ka_aload_n hC dX7_trains_139 rfl ?_
                      refine ka_iload hC dX7_trains_140 rfl ?_
                      refine ka_iconst (v := 3) hC dX7_trains_142 rfl ?_
                      refine ka_iconst (v := 1) hC dX7_trains_143 rfl ?_
                      refine ka_callV hC (m_X7_lays hG i 3 hi20 (by decide) rfl rfl) (ka_Rc_model ) rfl ka_q_ml_X7_63 ka_q_im_X7_lays ka_q_se_X7_lays ka_q_in_X7 ka_q_co_X7_lays ky_X7_lays (by decide) (by decide) (Nat.le_of_ble_eq_true rfl) rfl dX7_trains_144 ?_
                      refine ka_aload_n hC dX7_trains_147 rfl ?_
                      refine ka_iload hC dX7_trains_148 rfl ?_
                      refine ka_iconst (v := 1) hC dX7_trains_150 rfl ?_
                      refine ka_iload_n hC dX7_trains_151 rfl ?_
                      refine ka_callV hC (m_X7_lays hG i 1 hi20 (by decide) rfl rfl) (ka_Rc_model ) rfl ka_q_ml_X7_63 ka_q_im_X7_lays ka_q_se_X7_lays ka_q_in_X7 ka_q_co_X7_lays ky_X7_lays (by decide) (by decide) (Nat.le_of_ble_eq_true rfl) rfl dX7_trains_152 ?_
                      refine ka_aload_n hC dX7_trains_155 rfl ?_
                      refine ka_iload hC dX7_trains_156 rfl ?_
                      refine ka_bipush (v := 6) hC dX7_trains_158 rfl ?_
                      refine ka_aload_n hC dX7_trains_160 rfl ?_
                      refine kg_X7_7  hC dX7_trains_161 ?_
                      refine ka_iconst (v := 2) hC dX7_trains_164 rfl ?_
                      refine km_ld 2 (by decide) rfl hC dX7_trains_165 ?_
                      refine ka_iload hC dX7_trains_166 rfl ?_
                      refine ka_iadd hC dX7_trains_168 ?_
                      refine ka_callV hC (m_X7_lays hG i 6 hi20 (by decide) rfl rfl) (ka_Rc_model ) rfl ka_q_ml_X7_63 ka_q_im_X7_lays ka_q_se_X7_lays ka_q_in_X7 ka_q_co_X7_lays ky_X7_lays (by decide) (by decide) (Nat.le_of_ble_eq_true rfl) rfl dX7_trains_169 ?_
                      refine ka_aload_n hC dX7_trains_172 rfl ?_
                      refine ka_iload hC dX7_trains_173 rfl ?_
                      refine ka_bipush (v := 8) hC dX7_trains_175 rfl ?_
                      refine ka_iload hC dX7_trains_177 rfl ?_
                      refine ka_callV hC (m_X7_lays hG i 8 hi20 (by decide) rfl rfl) (ka_Rc_model ) rfl ka_q_ml_X7_63 ka_q_im_X7_lays ka_q_se_X7_lays ka_q_in_X7 ka_q_co_X7_lays ky_X7_lays (by decide) (by decide) (Nat.le_of_ble_eq_true rfl) rfl dX7_trains_179 ?_
                      refine ka_iinc_9 (v := 1) hC dX7_trains_182 rfl (by decide) ?_
                      refine ka_goto (tgt := 71) hC dX7_trains_185 (by decide) ?_
                      exact ka_I.back 10 (by first | (rw [e]; rfl) | (simp only [rf_trainX_s, rf_trainAt, c5, c13, c18, c27, c38, c79, c86, c96, c101]; done) | (simp [rf_trainX_s, rf_trainAt, c5, c13, c18, c27, c38, c79, c86, c96, c101]; done)) (by first | (rw [e, ← nI_1]; rfl) | (simp only [rf_trainX_s, rf_trainAt, nI_1, c5, c13, c18, c27, c38, c79, c86, c96, c101]; rfl) | (simp [rf_trainX_s, rf_trainAt, nI_1, c5, c13, c18, c27, c38, c79, c86, c96, c101]; done)) (ih71 (i + 1) (by omega) (by omega))
                    · skip
                      refine ka_aload_n hC dX7_trains_104 rfl ?_
                      refine ka_iload hC dX7_trains_105 rfl ?_
                      refine ka_iconst (v := 2) hC dX7_trains_107 rfl ?_
                      refine ka_callV hC (m_X7_of hG i 2 hi20 (by decide) rfl rfl) (ka_Rc_model ) rfl ka_q_ml_X7_40 ka_q_im_X7_of ka_q_se_X7_of ka_q_in_X7 ka_q_co_X7_of ky_X7_of (by decide) (by decide) (Nat.le_of_ble_eq_true rfl) rfl dX7_trains_108 ?_
                      refine ka_iload_n hC dX7_trains_111 rfl ?_
                      refine ka_icmp_ne (tgt := 182) hC dX7_trains_112 (by decide) (fun c112 => ?_) (fun c112 => ?_)
                      · skip
                        refine ka_iinc_9 (v := 1) hC dX7_trains_182 rfl (by decide) ?_
                        refine ka_goto (tgt := 71) hC dX7_trains_185 (by decide) ?_
                        exact ka_I.back 10 (by first | (rw [e]; rfl) | (simp only [rf_trainX_s, rf_trainAt, c5, c13, c18, c27, c38, c79, c86, c96, c101, c112]; done) | (simp [rf_trainX_s, rf_trainAt, c5, c13, c18, c27, c38, c79, c86, c96, c101, c112]; done)) (by first | (rw [e, ← nI_1]; rfl) | (simp only [rf_trainX_s, rf_trainAt, nI_1, c5, c13, c18, c27, c38, c79, c86, c96, c101, c112]; rfl) | (simp [rf_trainX_s, rf_trainAt, nI_1, c5, c13, c18, c27, c38, c79, c86, c96, c101, c112]; done)) (ih71 (i + 1) (by omega) (by omega))
                      · skip
                        have e := rf_trainX_go c86 c96 (Or.inr c112)
                        refine ka_iload hC dX7_trains_115 rfl ?_
                        refine ka_iconst (v := 1) hC dX7_trains_117 rfl ?_
                        refine ka_iload hC dX7_trains_118 rfl ?_
                        refine ka_ishl hC dX7_trains_120 ?_
                        refine ka_ior hC dX7_trains_121 ?_
                        refine ka_istore_s5 hC dX7_trains_122 (by decide) ?_
                        refine ka_iinc_6 (v := 1) hC dX7_trains_124 rfl (by decide) ?_
                        refine ka_iload hC dX7_trains_127 rfl ?_
                        refine ka_aload_n hC dX7_trains_129 rfl ?_
                        refine ka_iload hC dX7_trains_130 rfl ?_
                        refine ka_iconst (v := 2) hC dX7_trains_132 rfl ?_
                        refine ka_callV hC (m_X7_of hG i 2 hi20 (by decide) rfl rfl) (ka_Rc_model ) rfl ka_q_ml_X7_40 ka_q_im_X7_of ka_q_se_X7_of ka_q_in_X7 ka_q_co_X7_of ky_X7_of (by decide) (by decide) (Nat.le_of_ble_eq_true rfl) rfl dX7_trains_133 ?_
                        refine ka_iadd hC dX7_trains_136 ?_
                        refine ka_istore_s7 hC dX7_trains_137 (by decide) ?_
                        refine ka_aload_n hC dX7_trains_139 rfl ?_
                        refine ka_iload hC dX7_trains_140 rfl ?_
                        refine ka_iconst (v := 3) hC dX7_trains_142 rfl ?_
                        refine ka_iconst (v := 1) hC dX7_trains_143 rfl ?_
                        refine ka_callV hC (m_X7_lays hG i 3 hi20 (by decide) rfl rfl) (ka_Rc_model ) rfl ka_q_ml_X7_63 ka_q_im_X7_lays ka_q_se_X7_lays ka_q_in_X7 ka_q_co_X7_lays ky_X7_lays (by decide) (by decide) (Nat.le_of_ble_eq_true rfl) rfl dX7_trains_144 ?_
                        refine ka_aload_n hC dX7_trains_147 rfl ?_
                        refine ka_iload hC dX7_trains_148 rfl ?_
                        refine ka_iconst (v := 1) hC dX7_trains_150 rfl ?_
                        refine ka_iload_n hC dX7_trains_151 rfl ?_
                        refine ka_callV hC (m_X7_lays hG i 1 hi20 (by decide) rfl rfl) (ka_Rc_model ) rfl ka_q_ml_X7_63 ka_q_im_X7_lays ka_q_se_X7_lays ka_q_in_X7 ka_q_co_X7_lays ky_X7_lays (by decide) (by decide) (Nat.le_of_ble_eq_true rfl) rfl dX7_trains_152 ?_
                        refine ka_aload_n hC dX7_trains_155 rfl ?_
                        refine ka_iload hC dX7_trains_156 rfl ?_
                        refine ka_bipush (v := 6) hC dX7_trains_158 rfl ?_
                        refine ka_aload_n hC dX7_trains_160 rfl ?_
                        refine kg_X7_7  hC dX7_trains_161 ?_
                        refine ka_iconst (v := 2) hC dX7_trains_164 rfl ?_
                        refine km_ld 2 (by decide) rfl hC dX7_trains_165 ?_
                        refine ka_iload hC dX7_trains_166 rfl ?_
                        refine ka_iadd hC dX7_trains_168 ?_
                        refine ka_callV hC (m_X7_lays hG i 6 hi20 (by decide) rfl rfl) (ka_Rc_model ) rfl ka_q_ml_X7_63 ka_q_im_X7_lays ka_q_se_X7_lays ka_q_in_X7 ka_q_co_X7_lays ky_X7_lays (by decide) (by decide) (Nat.le_of_ble_eq_true rfl) rfl dX7_trains_169 ?_
                        refine ka_aload_n hC dX7_trains_172 rfl ?_
                        refine ka_iload hC dX7_trains_173 rfl ?_
                        refine ka_bipush (v := 8) hC dX7_trains_175 rfl ?_
                        refine ka_iload hC dX7_trains_177 rfl ?_
                        refine ka_callV hC (m_X7_lays hG i 8 hi20 (by decide) rfl rfl) (ka_Rc_model ) rfl ka_q_ml_X7_63 ka_q_im_X7_lays ka_q_se_X7_lays ka_q_in_X7 ka_q_co_X7_lays ky_X7_lays (by decide) (by decide) (Nat.le_of_ble_eq_true rfl) rfl dX7_trains_179 ?_
                        refine ka_iinc_9 (v := 1) hC dX7_trains_182 rfl (by decide) ?_
                        refine ka_goto (tgt := 71) hC dX7_trains_185 (by decide) ?_
                        exact ka_I.back 10 (by first | (rw [e]; rfl) | (simp only [rf_trainX_s, rf_trainAt, c5, c13, c18, c27, c38, c79, c86, c96, c101, c112]; done) | (simp [rf_trainX_s, rf_trainAt, c5, c13, c18, c27, c38, c79, c86, c96, c101, c112]; done)) (by first | (rw [e, ← nI_1]; rfl) | (simp only [rf_trainX_s, rf_trainAt, nI_1, c5, c13, c18, c27, c38, c79, c86, c96, c101, c112]; rfl) | (simp [rf_trainX_s, rf_trainAt, nI_1, c5, c13, c18, c27, c38, c79, c86, c96, c101, c112]; done)) (ih71 (i + 1) (by omega) (by omega))
          · skip
            refine ka_ldc hC ka_q_cn_X7_28 dX7_trains_41 ?_
            exact ka_iret hC hR dX7_trains_43 (by first | with_reducible rfl | (simp only [rf_trains, rf_trainX_0, rf_trainX_s, rf_trainAt, rf_tr1, rf_go, rf_go1, sA, nI_1, c5, c13, c18, c27, c38]; done) | (simp only [rf_trains, rf_trainX_0, rf_trainX_s, rf_trainAt, rf_tr1, rf_go, rf_go1, sA, nI_1, c5, c13, if_neg c18, if_pos c18, c27, c38]; done) | (simp [rf_trains, rf_trainX_0, rf_trainX_s, rf_trainAt, rf_tr1, rf_go, rf_go1, sA, nI_1, c5, c13, c18, c27, c38]; done) | (simp [rf_trains, rf_trainX_0, rf_trainX_s, rf_trainAt, rf_tr1, rf_go, rf_go1, sA, nI_1, c5, c13, if_neg c18, if_pos c18, c27, c38]; done) | contradiction | rfl) (by first | with_reducible rfl | (simp only [rf_trains, rf_trainX_0, rf_trainX_s, rf_trainAt, rf_tr1, rf_go, rf_go1, sA, nI_1, c5, c13, c18, c27, c38]; done) | (simp only [rf_trains, rf_trainX_0, rf_trainX_s, rf_trainAt, rf_tr1, rf_go, rf_go1, sA, nI_1, c5, c13, if_neg c18, if_pos c18, c27, c38]; done) | (simp [rf_trains, rf_trainX_0, rf_trainX_s, rf_trainAt, rf_tr1, rf_go, rf_go1, sA, nI_1, c5, c13, c18, c27, c38]; done) | (simp [rf_trains, rf_trainX_0, rf_trainX_s, rf_trainAt, rf_tr1, rf_go, rf_go1, sA, nI_1, c5, c13, if_neg c18, if_pos c18, c27, c38]; done) | contradiction | rfl)
theorem ky_X7_passes : ka_y yX7_passes 1 := by unfold ka_y; decide +kernel
set_option maxHeartbeats 4000000 in
set_option maxRecDepth 100000 in
theorem m_X7_passes {G : ka_G} (hG : ka_AD G) {V : ka_W} {M : ka_P} {S : ka_F} {D : Nat} (hM : MK D S) (hD : D < 9000) {x : Int32}  : ka_M G yX7_passes cX7_passes 4 (some FieldType.int) 5 [.ref (ka_ad G 9 0), .int x] (ka_ms V M S) (some (.int ((rf_passes S x).1))) (ka_ms V M (rf_passes S x).2) := by
  refine ka_entry hG ka_pn_X7 (ka_cat1 rfl) (Nat.le_of_ble_eq_true rfl) (fun X hC hR => ?_)
  refine ka_iload_n hC dX7_passes_0 rfl ?_
  refine ka_iconst (v := 1) hC dX7_passes_1 rfl ?_
  refine ka_bipush (v := 99) hC dX7_passes_2 rfl ?_
  refine ka_callS hC (m_X7_in hG) ka_q_ml_X7_36 ka_q_st_X7_in ka_q_in_X7 ka_q_co_X7_in ky_X7_in (by decide) (by decide) (Nat.le_of_ble_eq_true rfl) rfl dX7_passes_4 ?_
  refine ka_if_ne_b (tgt := 13) hC dX7_passes_7 (by decide) (fun c7 => ?_) (fun c7 => ?_)
  · skip
    have hx99 : cn x ≤ 99 := kw_cn (n := 99) (lo := 1) (by decide) (by decide) c7
    refine ka_aload_n hC dX7_passes_13 rfl ?_
    refine kg_X7_7  hC dX7_passes_14 ?_
    refine ka_iconst (v := 2) hC dX7_passes_17 rfl ?_
    refine km_ld 2 (by decide) rfl hC dX7_passes_18 ?_
    refine ka_iload_n hC dX7_passes_19 rfl ?_
    refine ka_iadd hC dX7_passes_20 ?_
    refine ka_sipush (v := 1999) hC dX7_passes_21 rfl ?_
    refine ka_icmp_le (tgt := 30) hC dX7_passes_24 (by decide) (fun c24 => ?_) (fun c24 => ?_)
    · skip
      refine ka_iconst (v := 0) hC dX7_passes_30 rfl ?_
      refine ka_istore_n_p2 hC dX7_passes_31 (by decide) ?_
      refine ka_iconst (v := 0) hC dX7_passes_32 rfl ?_
      refine ka_istore_n_p3 hC dX7_passes_33 (by decide) ?_
      suffices H34 : ∀ jj i : Nat, i ≤ cn x → cn x - i < jj → ka_I G X (ka_ms V M (rf_days S i).1) 34 [.ref (ka_ad G 9 0), .int x, .int (rf_days S i).2, .int (nI i)] [] from ka_I.back 4 (by first | with_reducible rfl | (simp only [rf_passes, rf_days_0, rf_days_s, nI_1, c7, c24]; done) | (simp only [rf_passes, rf_days_0, rf_days_s, nI_1, c7, if_neg c24, if_pos c24]; done) | (simp [rf_passes, rf_days_0, rf_days_s, nI_1, c7, c24]; done) | (simp [rf_passes, rf_days_0, rf_days_s, nI_1, c7, if_neg c24, if_pos c24]; done) | contradiction | rfl) (by first | with_reducible rfl | (simp only [rf_passes, rf_days_0, rf_days_s, nI_1, c7, c24]; done) | (simp only [rf_passes, rf_days_0, rf_days_s, nI_1, c7, if_neg c24, if_pos c24]; done) | (simp [rf_passes, rf_days_0, rf_days_s, nI_1, c7, c24]; done) | (simp [rf_passes, rf_days_0, rf_days_s, nI_1, c7, if_neg c24, if_pos c24]; done) | contradiction | rfl) (H34 (cn x + 1) 0 (by omega) (by omega))
      intro j34
      induction j34 with
      | zero => intro i h1 h2 ; exact absurd h2 (Nat.not_lt_zero _)
      | succ j34 ih34 =>
        intro i hle34 hlt34 
        refine ka_iload_n hC dX7_passes_34 rfl ?_
        refine ka_iload_n hC dX7_passes_35 rfl ?_
        refine ka_icmp_ge (tgt := 52) hC dX7_passes_36 (by decide) (fun c36 => ?_) (fun c36 => ?_)
        · skip
          obtain rfl : i = cn x := nlt_cn hle34 c36
          refine ka_iload_n hC dX7_passes_52 rfl ?_
          exact ka_iret hC hR dX7_passes_53 (by first | with_reducible rfl | (simp only [rf_passes, rf_days_0, rf_days_s, nI_1, c7, c24, c36]; done) | (simp only [rf_passes, rf_days_0, rf_days_s, nI_1, c7, if_neg c24, if_pos c24, if_neg c36, if_pos c36]; done) | (simp [rf_passes, rf_days_0, rf_days_s, nI_1, c7, c24, c36]; done) | (simp [rf_passes, rf_days_0, rf_days_s, nI_1, c7, if_neg c24, if_pos c24, if_neg c36, if_pos c36]; done) | contradiction | rfl) (by first | with_reducible rfl | (simp only [rf_passes, rf_days_0, rf_days_s, nI_1, c7, c24, c36]; done) | (simp only [rf_passes, rf_days_0, rf_days_s, nI_1, c7, if_neg c24, if_pos c24, if_neg c36, if_pos c36]; done) | (simp [rf_passes, rf_days_0, rf_days_s, nI_1, c7, c24, c36]; done) | (simp [rf_passes, rf_days_0, rf_days_s, nI_1, c7, if_neg c24, if_pos c24, if_neg c36, if_pos c36]; done) | contradiction | rfl)
        · skip
          have hi : i < cn x := lt_cn hle34 c36
          refine ka_iload_n hC dX7_passes_39 rfl ?_
          refine ka_aload_n hC dX7_passes_40 rfl ?_
          refine ka_callV hC (m_X7_day hG (hM.days i (by omega)) (by omega)) (ka_Rc_model ) rfl ka_q_ml_X7_101 ka_q_im_X7_day ka_q_se_X7_day ka_q_in_X7 ka_q_co_X7_day ky_X7_day (by decide) (by decide) (Nat.le_of_ble_eq_true rfl) rfl dX7_passes_41 ?_
          refine ka_iadd hC dX7_passes_44 ?_
          refine ka_istore_n_s2 hC dX7_passes_45 (by decide) ?_
          refine ka_iinc_3 (v := 1) hC dX7_passes_46 rfl (by decide) ?_
          refine ka_goto (tgt := 34) hC dX7_passes_49 (by decide) ?_
          exact ka_I.back 4 (by first | with_reducible rfl | (simp only [rf_passes, rf_days_0, rf_days_s, nI_1, c7, c24, c36]; done) | (simp only [rf_passes, rf_days_0, rf_days_s, nI_1, c7, if_neg c24, if_pos c24, if_pos c36, if_neg (not_not_intro c36)]; done) | (simp [rf_passes, rf_days_0, rf_days_s, nI_1, c7, c24, c36]; done) | (simp [rf_passes, rf_days_0, rf_days_s, nI_1, c7, if_neg c24, if_pos c24, if_pos c36, if_neg (not_not_intro c36)]; done) | contradiction | rfl) (by first | with_reducible rfl | (simp only [rf_passes, rf_days_0, rf_days_s, nI_1, c7, c24, c36]; done) | (simp only [rf_passes, rf_days_0, rf_days_s, nI_1, c7, if_neg c24, if_pos c24, if_pos c36, if_neg (not_not_intro c36)]; done) | (simp [rf_passes, rf_days_0, rf_days_s, nI_1, c7, c24, c36]; done) | (simp [rf_passes, rf_days_0, rf_days_s, nI_1, c7, if_neg c24, if_pos c24, if_pos c36, if_neg (not_not_intro c36)]; done) | contradiction | rfl) (ih34 (i + 1) (by omega) (by omega))
    · skip
      refine ka_ldc hC ka_q_cn_X7_85 dX7_passes_27 ?_
      exact ka_iret hC hR dX7_passes_29 (by first | with_reducible rfl | (simp only [rf_passes, rf_days_0, rf_days_s, nI_1, c7, c24]; done) | (simp only [rf_passes, rf_days_0, rf_days_s, nI_1, c7, if_pos c24, if_neg (not_not_intro c24)]; done) | (simp [rf_passes, rf_days_0, rf_days_s, nI_1, c7, c24]; done) | (simp [rf_passes, rf_days_0, rf_days_s, nI_1, c7, if_pos c24, if_neg (not_not_intro c24)]; done) | contradiction | rfl) (by first | with_reducible rfl | (simp only [rf_passes, rf_days_0, rf_days_s, nI_1, c7, c24]; done) | (simp only [rf_passes, rf_days_0, rf_days_s, nI_1, c7, if_pos c24, if_neg (not_not_intro c24)]; done) | (simp [rf_passes, rf_days_0, rf_days_s, nI_1, c7, c24]; done) | (simp [rf_passes, rf_days_0, rf_days_s, nI_1, c7, if_pos c24, if_neg (not_not_intro c24)]; done) | contradiction | rfl)
  · skip
    refine ka_ldc hC ka_q_cn_X7_28 dX7_passes_10 ?_
    exact ka_iret hC hR dX7_passes_12 (by first | with_reducible rfl | (simp only [rf_passes, rf_days_0, rf_days_s, nI_1, c7]; done) | (simp only [rf_passes, rf_days_0, rf_days_s, nI_1, c7]; done) | (simp [rf_passes, rf_days_0, rf_days_s, nI_1, c7]; done) | (simp [rf_passes, rf_days_0, rf_days_s, nI_1, c7]; done) | contradiction | rfl) (by first | with_reducible rfl | (simp only [rf_passes, rf_days_0, rf_days_s, nI_1, c7]; done) | (simp only [rf_passes, rf_days_0, rf_days_s, nI_1, c7]; done) | (simp [rf_passes, rf_days_0, rf_days_s, nI_1, c7]; done) | (simp [rf_passes, rf_days_0, rf_days_s, nI_1, c7]; done) | contradiction | rfl)
