/-! constructors: contents, contracts of place, wagon, shop, pool -/
theorem kb_u_id {E : Nat → va_E} {n : Nat} {e : va_E} (h : E n = e) : kb_u E n e = E := by
  funext j
  by_cases c : j = n
  · subst c
    rw [kb_u_s, h]
  · exact kb_u_n c
theorem kb_j_lt {E E' : Nat → va_E} {n i : Nat} (h : i < n) : kb_j E n E' i = E i := if_pos h
theorem kb_j_ge {E E' : Nat → va_E} {n i : Nat} (h : ¬ i < n) : kb_j E n E' i = E' (i - n) := if_neg h
theorem kb_jid {E : Nat → va_E} {n : Nat} {e : va_E} (h : E n = e) : ∀ j, j < n + 1 + 0 → kb_j E n (fun _ => e) j = E j := fun j hj => by
  by_cases c : j < n
  · exact kb_j_lt c
  · rw [kb_j_ge c, show j = n by omega, h]
abbrev kb_z6 : List Value := [.int 0, .int 0, .int 0, .int 0, .int 0, .int 0]
abbrev kb_pl : va_E := .inr (2, [.int 0, .int 0, .int 0, .int 0, .int 0, .int 0])
abbrev kb_wg : va_E := .inr (5, [.int 0, .int 0, .int 0, .int 0, .int 0, .int 0, .int 0, .int 0, .int 0])
def kb_sh0 : va_E := .inr (4, [.null, .int 0])
def kb_shE (G : ka_G) (h : Nat) : Nat → va_E := fun o => if o = 0 then .inr (4, [.ref (h + 1), .int 0]) else .inl (ka_ca G 0, 20, .inl (fun _ => 0))
def kb_p0 : va_E := .inr (3, [.null, .null, .null, .null, .null, .int 0, .int 0, .int 0, .int 0, .int 0, .int 0])
/-- a pool's block, while it is made -/
def kpE (G : ka_G) (b : Nat) (fs : List Value) (a w l s : Nat) : Nat → va_E := fun o =>
  if o = 0 then .inr (3, fs) else if o = 1 then .inl (ka_ca G 1, 5, .inr (.inr (.inr (.inr (kb_rf b 2 a))))) else if o < 7 then kb_pl
  else if o = 7 then .inl (ka_ca G 2, 20, .inr (.inr (.inr (.inr (kb_rf b 8 w))))) else if o < 28 then kb_wg
  else if o = 28 then .inl (ka_ca G 0, 25, .inl (kb_cs l (fun _ => 2))) else if o = 29 then .inl (ka_ca G 0, 7, .inl (kb_cs s kb_first)) else if o = 30 then kb_sh0 else .inl (ka_ca G 0, 20, .inl (fun _ => 0))
section KPE
variable {G : ka_G} {b : Nat} {fs fs' : List Value} {a a' w w' l l' s s' : Nat}
theorem kpE_0 : kb_u (kpE G b fs a w l s) 0 (.inr (3, fs')) = kpE G b fs' a w l s := by
  funext j
  by_cases c : j = 0
  · subst c
    rfl
  · rw [kb_u_n c]
    unfold kpE
    rw [if_neg c, if_neg c]
theorem kpE_1 : kb_u (kpE G b fs a w l s) 1 (.inl (ka_ca G 1, 5, .inr (.inr (.inr (.inr (kb_rf b 2 a')))))) = kpE G b fs a' w l s := by
  funext j
  by_cases c : j = 1
  · subst c
    rfl
  · rw [kb_u_n c]
    unfold kpE
    rw [if_neg c, if_neg c]
theorem kpE_7 : kb_u (kpE G b fs a w l s) 7 (.inl (ka_ca G 2, 20, .inr (.inr (.inr (.inr (kb_rf b 8 w')))))) = kpE G b fs a w' l s := by
  funext j
  by_cases c : j = 7
  · subst c
    rfl
  · rw [kb_u_n c]
    unfold kpE
    rw [if_neg c, if_neg c]
theorem kpE_28 : kb_u (kpE G b fs a w l s) 28 (.inl (ka_ca G 0, 25, .inl (kb_cs l' (fun _ => 2)))) = kpE G b fs a w l' s := by
  funext j
  by_cases c : j = 28
  · subst c
    rfl
  · rw [kb_u_n c]
    unfold kpE
    rw [if_neg c, if_neg c]
theorem kpE_29 : kb_u (kpE G b fs a w l s) 29 (.inl (ka_ca G 0, 7, .inl (kb_cs s' kb_first))) = kpE G b fs a w l s' := by
  funext j
  by_cases c : j = 29
  · subst c
    rfl
  · rw [kb_u_n c]
    unfold kpE
    rw [if_neg c, if_neg c]
theorem kpE_pl {i : Nat} (h : i < 5) : kpE G b fs a w l s (2 + i) = kb_pl := by
  unfold kpE
  rw [if_neg (by omega), if_neg (by omega), if_pos (by omega)]
theorem kpE_wg {i : Nat} (h : i < 20) : kpE G b fs a w l s (8 + i) = kb_wg := by
  unfold kpE
  rw [if_neg (by omega), if_neg (by omega), if_neg (by omega), if_neg (by omega), if_pos (by omega)]
end KPE
abbrev kb_pfs (b : Nat) : List Value := [.ref (b + 1), .ref (b + 7), .ref (b + 28), .ref (b + 29), .ref (b + 30), .int 0, .int 0, .int 0, .int 0, .int 0, .int 0]
/-- a new pool -/
def kpF (G : ka_G) (b : Nat) : Nat → va_E := fun o => if o = 30 then .inr (4, [.ref (b + 31), .int 0]) else kpE G b (kb_pfs b) 5 20 25 7 o
theorem kpF_end {G : ka_G} {b : Nat} : ∀ j, j < 30 + 1 + 1 → kb_j (kpE G b [.ref (b + 1), .ref (b + 7), .ref (b + 28), .ref (b + 29), .null, .int 0, .int 0, .int 0, .int 0, .int 0, .int 0] 5 20 25 7) 30 (kb_shE G (b + 30)) j = kb_u (kpF G b) 0 (.inr (3, [.ref (b + 1), .ref (b + 7), .ref (b + 28), .ref (b + 29), .null, .int 0, .int 0, .int 0, .int 0, .int 0, .int 0])) j := fun j hj => by
  by_cases c : j < 30
  · rw [kb_j_lt c]
    by_cases c0 : j = 0
    · subst c0
      rfl
    · rw [kb_u_n c0]
      unfold kpF kpE
      rw [if_neg (show ¬ j = 30 by omega), if_neg (show ¬ j = 30 by omega), if_neg c0, if_neg c0]
  · rw [kb_j_ge c]
    rcases (show j = 30 ∨ j = 31 by omega) with rfl | rfl
    · rfl
    · rfl
theorem kpF_0 {G : ka_G} {b : Nat} {fs : List Value} : kb_u (kb_u (kpF G b) 0 (.inr (3, fs))) 0 (.inr (3, kb_pfs b)) = kpF G b := by
  funext j
  by_cases c : j = 0
  · subst c
    rfl
  · rw [kb_u_n c, kb_u_n c]
theorem ky_X2_init : ka_y yX2_init 0 := by unfold ka_y; decide +kernel
theorem ky_X5_init : ka_y yX5_init 0 := by unfold ka_y; decide +kernel
theorem ky_X4_init : ka_y yX4_init 0 := by unfold ka_y; decide +kernel
theorem ky_X3_init : ka_y yX3_init 0 := by unfold ka_y; decide +kernel
theorem ky_X0_init : ka_y yX0_init 0 := by unfold ka_y; decide +kernel
theorem ky_X1_init : ka_y yX1_init 0 := by unfold ka_y; decide +kernel
theorem ky_X6_init : ka_y yX6_init 0 := by unfold ka_y; decide +kernel
theorem ky_X7_init : ka_y yX7_init 0 := by unfold ka_y; decide +kernel
set_option maxHeartbeats 4000000 in
set_option maxRecDepth 100000 in
theorem m_X2_init {G : ka_G} : kb_M G yX2_init cX2_init 1 1 0 0 kb_pl (fun _ _ => kb_pl) := by
  refine kb_entry ka_pn_X2 rfl (by decide) (fun X h hC hN hR => ?_)
  refine kb_aload_n hC dX2_init_0 rfl ?_
  refine kb_obj hC ka_q_ml_X2_3 (Nat.le_of_ble_eq_true rfl) (by decide) dX2_init_1 ?_
  exact kb_ret hC hR dX2_init_4 rfl (by omega) (by omega) (fun _ _ => rfl)
set_option maxHeartbeats 4000000 in
set_option maxRecDepth 100000 in
theorem m_X5_init {G : ka_G} : kb_M G yX5_init cX5_init 1 1 0 0 kb_wg (fun _ _ => kb_wg) := by
  refine kb_entry ka_pn_X5 rfl (by decide) (fun X h hC hN hR => ?_)
  refine kb_aload_n hC dX5_init_0 rfl ?_
  refine kb_obj hC ka_q_ml_X5_3 (Nat.le_of_ble_eq_true rfl) (by decide) dX5_init_1 ?_
  exact kb_ret hC hR dX5_init_4 rfl (by omega) (by omega) (fun _ _ => rfl)
set_option maxHeartbeats 4000000 in
set_option maxRecDepth 100000 in
theorem m_X4_init {G : ka_G} : kb_M G yX4_init cX4_init 1 1 1 20 kb_sh0 (kb_shE G) := by
  refine kb_entry ka_pn_X4 rfl (by decide) (fun X h hC hN hR => ?_)
  refine kb_aload_n hC dX4_init_0 rfl ?_
  refine kb_obj hC ka_q_ml_X4_3 (Nat.le_of_ble_eq_true rfl) (by decide) dX4_init_1 ?_
  refine kb_aload_n hC dX4_init_4 rfl ?_
  refine kb_bipush (v := 20) hC dX4_init_5 rfl ?_
  refine kb_newa (N := 20) hC (by decide) (by decide) (by decide) (by omega) (by omega) dX4_init_7 ?_
  refine kb_put (i := 0) (ci := 4) hC hN (by omega) rfl rfl 0 (by decide) ka_in4 tyX4_ok nmX4 ka_q_fl_X4_9 rfl rfl rfl (tyX4_ok 0 (by decide)) rfl rfl (Nat.le_of_ble_eq_true rfl) dX4_init_9 ?_
  exact kb_ret hC hR dX4_init_12 rfl (by omega) (by omega) (fun j hj => by rcases (show j = 0 ∨ j = 1 by omega) with rfl | rfl <;> rfl)
set_option maxHeartbeats 4000000 in
set_option maxRecDepth 100000 in
theorem m_X3_init {G : ka_G} : kb_M G yX3_init cX3_init 2 2 31 289 kb_p0 (kpF G) := by
  refine kb_entry ka_pn_X3 rfl (by decide) (fun X h hC hN hR => ?_)
  refine kb_I.to (E' := kpE G h [.null, .null, .null, .null, .null, .int 0, .int 0, .int 0, .int 0, .int 0, .int 0] 0 0 0 0) rfl (Nat.le_refl _) (Nat.le_refl _) rfl (fun j hj => by obtain rfl : j = 0 := (by omega); rfl) ?_
  refine kb_aload_n hC dX3_init_0 rfl ?_
  refine kb_obj hC ka_q_ml_X3_3 (Nat.le_of_ble_eq_true rfl) (by decide) dX3_init_1 ?_
  refine kb_aload_n hC dX3_init_4 rfl ?_
  refine kb_iconst (v := 5) hC dX3_init_5 rfl ?_
  refine kb_newq (N := 5) (t := 1) hC ka_q_cl_X3_9 (fun U h => h.1) rfl (by decide) (by decide) (by decide) (by omega) (by omega) dX3_init_6 ?_
  rw [kb_u_id (by rfl)]
  refine kb_put (i := 0) (ci := 3) hC hN (by omega) rfl rfl 0 (by decide) ka_in3 tyX3_ok nmX3 ka_q_fl_X3_11 rfl rfl rfl (tyX3_ok 0 (by decide)) rfl rfl (Nat.le_of_ble_eq_true rfl) dX3_init_9 ?_
  rw [show (List.set [.null, .null, .null, .null, .null, .int 0, .int 0, .int 0, .int 0, .int 0, .int 0] 0 (Value.ref (h + 1))) = [.ref (h + 1), .null, .null, .null, .null, .int 0, .int 0, .int 0, .int 0, .int 0, .int 0] from rfl, kpE_0]
  refine kb_I.to (n' := 2) (k' := 1) (sl' := 5) rfl (by decide) (by decide) rfl (fun _ _ => rfl) ?_
  refine kb_iconst (v := 0) hC dX3_init_12 rfl ?_
  refine kb_sp1 hC dX3_init_13 (by decide) ?_
  suffices H14 : ∀ jj i : Nat, i ≤ 5 → 5 - i < jj → kb_I G X h (2 + i) (kpE G h [.ref (h + 1), .null, .null, .null, .null, .int 0, .int 0, .int 0, .int 0, .int 0, .int 0] i 0 0 0) (1 + i) (5 + 6 * i) 14 [.ref h, .int (nI i)] [] from kb_I.to rfl (by decide) (by decide) rfl (fun _ _ => rfl) (H14 6 0 (by omega) (by omega))
  intro j14
  induction j14 with
  | zero => intro i h1 h2; exact absurd h2 (Nat.not_lt_zero _)
  | succ j14 ih14 =>
    intro i hle14 hlt14
    refine kb_iload_n hC dX3_init_14 rfl ?_
    refine kb_iconst (v := 5) hC dX3_init_15 rfl ?_
    refine kb_ige (tgt := 38) hC dX3_init_16 (by decide) (fun c => ?_) (fun c => ?_)
    · obtain rfl : i = 5 := nlt_nI (by decide) hle14 c
      refine kb_I.to (n' := 7) (k' := 6) (sl' := 35) rfl (by decide) (by decide) rfl (fun _ _ => rfl) ?_
      refine kb_aload_n hC dX3_init_38 rfl ?_
      refine kb_bipush (v := 20) hC dX3_init_39 rfl ?_
      refine kb_newq (N := 20) (t := 2) hC ka_q_cl_X3_18 (fun U h => h.2.1) rfl (by decide) (by decide) (by decide) (by omega) (by omega) dX3_init_41 ?_
      rw [kb_u_id (by rfl)]
      refine kb_put (i := 0) (ci := 3) hC hN (by omega) rfl rfl 1 (by decide) ka_in3 tyX3_ok nmX3 ka_q_fl_X3_20 rfl rfl rfl (tyX3_ok 1 (by decide)) rfl rfl (Nat.le_of_ble_eq_true rfl) dX3_init_44 ?_
      rw [show (List.set [.ref (h + 1), .null, .null, .null, .null, .int 0, .int 0, .int 0, .int 0, .int 0, .int 0] 1 (Value.ref (h + 7))) = [.ref (h + 1), .ref (h + 7), .null, .null, .null, .int 0, .int 0, .int 0, .int 0, .int 0, .int 0] from rfl, kpE_0]
      refine kb_I.to (n' := 8) (k' := 7) (sl' := 55) rfl (by decide) (by decide) rfl (fun _ _ => rfl) ?_
      refine kb_iconst (v := 0) hC dX3_init_47 rfl ?_
      refine kb_ss1 hC dX3_init_48 (by decide) ?_
      suffices H49 : ∀ jj i : Nat, i ≤ 20 → 20 - i < jj → kb_I G X h (8 + i) (kpE G h [.ref (h + 1), .ref (h + 7), .null, .null, .null, .int 0, .int 0, .int 0, .int 0, .int 0, .int 0] 5 i 0 0) (7 + i) (55 + 9 * i) 49 [.ref h, .int (nI i)] [] from kb_I.to rfl (by decide) (by decide) rfl (fun _ _ => rfl) (H49 21 0 (by omega) (by omega))
      intro j49
      induction j49 with
      | zero => intro i h1 h2; exact absurd h2 (Nat.not_lt_zero _)
      | succ j49 ih49 =>
        intro i hle49 hlt49
        refine kb_iload_n hC dX3_init_49 rfl ?_
        refine kb_bipush (v := 20) hC dX3_init_50 rfl ?_
        refine kb_ige (tgt := 74) hC dX3_init_52 (by decide) (fun c => ?_) (fun c => ?_)
        · obtain rfl : i = 20 := nlt_nI (by decide) hle49 c
          refine kb_I.to (n' := 28) (k' := 27) (sl' := 235) rfl (by decide) (by decide) rfl (fun _ _ => rfl) ?_
          refine kb_aload_n hC dX3_init_74 rfl ?_
          refine kb_bipush (v := 25) hC dX3_init_75 rfl ?_
          refine kb_newa (N := 25) hC (by decide) (by decide) (by decide) (by omega) (by omega) dX3_init_77 ?_
          rw [kb_u_id (by rfl)]
          refine kb_put (i := 0) (ci := 3) hC hN (by omega) rfl rfl 2 (by decide) ka_in3 tyX3_ok nmX3 ka_q_fl_X3_25 rfl rfl rfl (tyX3_ok 2 (by decide)) rfl rfl (Nat.le_of_ble_eq_true rfl) dX3_init_79 ?_
          rw [show (List.set [.ref (h + 1), .ref (h + 7), .null, .null, .null, .int 0, .int 0, .int 0, .int 0, .int 0, .int 0] 2 (Value.ref (h + 28))) = [.ref (h + 1), .ref (h + 7), .ref (h + 28), .null, .null, .int 0, .int 0, .int 0, .int 0, .int 0, .int 0] from rfl, kpE_0]
          refine kb_I.to (n' := 29) (k' := 28) (sl' := 260) rfl (by decide) (by decide) rfl (fun _ _ => rfl) ?_
          refine kb_iconst (v := 0) hC dX3_init_82 rfl ?_
          refine kb_ss1 hC dX3_init_83 (by decide) ?_
          suffices H84 : ∀ jj i : Nat, i ≤ 25 → 25 - i < jj → kb_I G X h (29) (kpE G h [.ref (h + 1), .ref (h + 7), .ref (h + 28), .null, .null, .int 0, .int 0, .int 0, .int 0, .int 0, .int 0] 5 20 i 0) (28) (260) 84 [.ref h, .int (nI i)] [] from kb_I.to rfl (by decide) (by decide) rfl (fun _ _ => rfl) (H84 26 0 (by omega) (by omega))
          intro j84
          induction j84 with
          | zero => intro i h1 h2; exact absurd h2 (Nat.not_lt_zero _)
          | succ j84 ih84 =>
            intro i hle84 hlt84
            refine kb_iload_n hC dX3_init_84 rfl ?_
            refine kb_bipush (v := 25) hC dX3_init_85 rfl ?_
            refine kb_ige (tgt := 103) hC dX3_init_87 (by decide) (fun c => ?_) (fun c => ?_)
            · obtain rfl : i = 25 := nlt_nI (by decide) hle84 c
              refine kb_aload_n hC dX3_init_103 rfl ?_
              refine kb_bipush (v := 7) hC dX3_init_104 rfl ?_
              refine kb_newa (N := 7) hC (by decide) (by decide) (by decide) (by omega) (by omega) dX3_init_106 ?_
              rw [kb_u_id (by rfl)]
              refine kb_put (i := 0) (ci := 3) hC hN (by omega) rfl rfl 3 (by decide) ka_in3 tyX3_ok nmX3 ka_q_fl_X3_29 rfl rfl rfl (tyX3_ok 3 (by decide)) rfl rfl (Nat.le_of_ble_eq_true rfl) dX3_init_108 ?_
              rw [show (List.set [.ref (h + 1), .ref (h + 7), .ref (h + 28), .null, .null, .int 0, .int 0, .int 0, .int 0, .int 0, .int 0] 3 (Value.ref (h + 29))) = [.ref (h + 1), .ref (h + 7), .ref (h + 28), .ref (h + 29), .null, .int 0, .int 0, .int 0, .int 0, .int 0, .int 0] from rfl, kpE_0]
              refine kb_I.to (n' := 30) (k' := 29) (sl' := 267) rfl (by decide) (by decide) rfl (fun _ _ => rfl) ?_
              refine kb_iconst (v := 0) hC dX3_init_111 rfl ?_
              refine kb_ss1 hC dX3_init_112 (by decide) ?_
              suffices H113 : ∀ jj i : Nat, i ≤ 7 → 7 - i < jj → kb_I G X h (30) (kpE G h [.ref (h + 1), .ref (h + 7), .ref (h + 28), .ref (h + 29), .null, .int 0, .int 0, .int 0, .int 0, .int 0, .int 0] 5 20 25 i) (29) (267) 113 [.ref h, .int (nI i)] [] from kb_I.to rfl (by decide) (by decide) rfl (fun _ _ => rfl) (H113 8 0 (by omega) (by omega))
              intro j113
              induction j113 with
              | zero => intro i h1 h2; exact absurd h2 (Nat.not_lt_zero _)
              | succ j113 ih113 =>
                intro i hle113 hlt113
                refine kb_iload_n hC dX3_init_113 rfl ?_
                refine kb_bipush (v := 7) hC dX3_init_114 rfl ?_
                refine kb_ige (tgt := 136) hC dX3_init_116 (by decide) (fun c => ?_) (fun c => ?_)
                · obtain rfl : i = 7 := nlt_nI (by decide) hle113 c
                  refine kb_aload_n hC dX3_init_136 rfl ?_
                  refine kb_new (ci := 4) (fs := [.null, .int 0]) hC ka_q_cl_X3_35 ka_q_it_X4 ka_q_in_X4 ka_in4 tyX4 tyX4_ok rfl (fun j hj => by rcases (show j = 0 ∨ j = 1 by omega) with rfl | rfl <;> rfl) (by omega) (by omega) dX3_init_137 ?_
                  rw [kb_u_id (by rfl)]
                  refine kb_dup hC dX3_init_140 rfl ?_
                  refine kb_call (i := 30) hC (m_X4_init) ka_q_ml_X3_37 ka_q_im_X4_init ka_q_in_X4 ka_q_co_X4_init rfl ky_X4_init (by decide) (by decide) (Nat.le_of_ble_eq_true rfl) (by omega) (by omega) rfl dX3_init_141 ?_
                  refine kb_I.to (n' := 32) rfl (Nat.le_refl _) (Nat.le_refl _) rfl kpF_end ?_
                  refine kb_put (i := 0) (ci := 3) hC hN (by omega) rfl rfl 4 (by decide) ka_in3 tyX3_ok nmX3 ka_q_fl_X3_38 rfl rfl rfl (tyX3_ok 4 (by decide)) rfl rfl (Nat.le_of_ble_eq_true rfl) dX3_init_144 ?_
                  rw [show (List.set [.ref (h + 1), .ref (h + 7), .ref (h + 28), .ref (h + 29), .null, .int 0, .int 0, .int 0, .int 0, .int 0, .int 0] 4 (Value.ref (h + 30))) = kb_pfs h from rfl, kpF_0]
                  exact kb_ret hC hR dX3_init_147 rfl (by omega) (by omega) (fun _ _ => rfl)
                · have hi : i < 7 := lt_nI (by decide) hle113 c
                  refine kb_aload_n hC dX3_init_119 rfl ?_
                  refine kb_get (i := 0) (ci := 3) hC (by omega) rfl rfl 3 (by decide) ka_in3 ka_q_fl_X3_29 rfl rfl dX3_init_120 ?_
                  refine kb_iload_n hC dX3_init_123 rfl ?_
                  refine kb_gst hC (List.mem_of_getElem? (i := 15) rfl) dX3_init_124 (fun t124 hs124 => ?_)
                  refine kb_iload_n hC dX3_init_127 rfl ?_
                  refine hs124 hi rfl dX3_init_128 ?_
                  refine kb_iast (i := 29) (j := i) hC (by omega) rfl hi (by decide) rfl dX3_init_129 ?_
                  rw [kb_cs_s, kpE_29]
                  refine kb_inc1 (v := 1) hC dX3_init_130 rfl (by decide) ?_
                  refine kb_goto (tgt := 113) hC dX3_init_133 (by decide) ?_
                  exact kb_I.to (by omega) (by omega) (by omega) (by rw [← nI_1]) (fun _ _ => rfl) (ih113 (i + 1) (by omega) (by omega))
            · have hi : i < 25 := lt_nI (by decide) hle84 c
              refine kb_aload_n hC dX3_init_90 rfl ?_
              refine kb_get (i := 0) (ci := 3) hC (by omega) rfl rfl 2 (by decide) ka_in3 ka_q_fl_X3_25 rfl rfl dX3_init_91 ?_
              refine kb_iload_n hC dX3_init_94 rfl ?_
              refine kb_iconst (v := 2) hC dX3_init_95 rfl ?_
              refine kb_iast (i := 28) (j := i) hC (by omega) rfl hi (by decide) rfl dX3_init_96 ?_
              rw [kb_cs_s (v := fun _ => 2), kpE_28]
              refine kb_inc1 (v := 1) hC dX3_init_97 rfl (by decide) ?_
              refine kb_goto (tgt := 84) hC dX3_init_100 (by decide) ?_
              exact kb_I.to (by omega) (by omega) (by omega) (by rw [← nI_1]) (fun _ _ => rfl) (ih84 (i + 1) (by omega) (by omega))
        · have hi : i < 20 := lt_nI (by decide) hle49 c
          refine kb_aload_n hC dX3_init_55 rfl ?_
          refine kb_get (i := 0) (ci := 3) hC (by omega) rfl rfl 1 (by decide) ka_in3 ka_q_fl_X3_20 rfl rfl dX3_init_56 ?_
          refine kb_iload_n hC dX3_init_59 rfl ?_
          refine kb_new (ci := 5) (fs := [.int 0, .int 0, .int 0, .int 0, .int 0, .int 0, .int 0, .int 0, .int 0]) hC ka_q_cl_X3_18 ka_q_it_X5 ka_q_in_X5 ka_in5 tyX5 tyX5_ok rfl (fun j hj => by rcases (show j = 0 ∨ j = 1 ∨ j = 2 ∨ j = 3 ∨ j = 4 ∨ j = 5 ∨ j = 6 ∨ j = 7 ∨ j = 8 by omega) with rfl | rfl | rfl | rfl | rfl | rfl | rfl | rfl | rfl <;> rfl) (by omega) (by omega) dX3_init_60 ?_
          rw [kb_u_id (kpE_wg hi)]
          refine kb_dup hC dX3_init_63 rfl ?_
          refine kb_callN (i := 8 + i) hC (m_X5_init) (List.mem_of_getElem? (i := 1) rfl) ka_q_im_X5_init ka_q_in_X5 ka_q_co_X5_init rfl ky_X5_init (by decide) (by decide) (Nat.le_of_ble_eq_true rfl) (by omega) (by omega) (kpE_wg hi) dX3_init_64 ?_
          refine kb_I.to (n' := 8 + i + 1) rfl (Nat.le_refl _) (Nat.le_refl _) rfl (kb_jid (kpE_wg hi)) ?_
          refine kb_aast (i := 7) (i2 := 8 + i) (j := i) (ci := 5) (t := 2) hC (by omega) rfl rfl (by omega) (kpE_wg hi) rfl hi (by decide) rfl dX3_init_67 ?_
          rw [kb_rf_s, kpE_7]
          refine kb_inc1 (v := 1) hC dX3_init_68 rfl (by decide) ?_
          refine kb_goto (tgt := 49) hC dX3_init_71 (by decide) ?_
          exact kb_I.to (by omega) (by omega) (by omega) (by rw [← nI_1]) (fun _ _ => rfl) (ih49 (i + 1) (by omega) (by omega))
    · have hi : i < 5 := lt_nI (by decide) hle14 c
      refine kb_aload_n hC dX3_init_19 rfl ?_
      refine kb_get (i := 0) (ci := 3) hC (by omega) rfl rfl 0 (by decide) ka_in3 ka_q_fl_X3_11 rfl rfl dX3_init_20 ?_
      refine kb_iload_n hC dX3_init_23 rfl ?_
      refine kb_new (ci := 2) (fs := [.int 0, .int 0, .int 0, .int 0, .int 0, .int 0]) hC ka_q_cl_X3_9 ka_q_it_X2 ka_q_in_X2 ka_in2 tyX2 tyX2_ok rfl (fun j hj => by rcases (show j = 0 ∨ j = 1 ∨ j = 2 ∨ j = 3 ∨ j = 4 ∨ j = 5 by omega) with rfl | rfl | rfl | rfl | rfl | rfl <;> rfl) (by omega) (by omega) dX3_init_24 ?_
      rw [kb_u_id (kpE_pl hi)]
      refine kb_dup hC dX3_init_27 rfl ?_
      refine kb_callN (i := 2 + i) hC (m_X2_init) (List.mem_of_getElem? (i := 0) rfl) ka_q_im_X2_init ka_q_in_X2 ka_q_co_X2_init rfl ky_X2_init (by decide) (by decide) (Nat.le_of_ble_eq_true rfl) (by omega) (by omega) (kpE_pl hi) dX3_init_28 ?_
      refine kb_I.to (n' := 2 + i + 1) rfl (Nat.le_refl _) (Nat.le_refl _) rfl (kb_jid (kpE_pl hi)) ?_
      refine kb_aast (i := 1) (i2 := 2 + i) (j := i) (ci := 2) (t := 1) hC (by omega) rfl rfl (by omega) (kpE_pl hi) rfl hi (by decide) rfl dX3_init_31 ?_
      rw [kb_rf_s, kpE_1]
      refine kb_inc1 (v := 1) hC dX3_init_32 rfl (by decide) ?_
      refine kb_goto (tgt := 14) hC dX3_init_35 (by decide) ?_
      exact kb_I.to (by omega) (by omega) (by omega) (by rw [← nI_1]) (fun _ _ => rfl) (ih14 (i + 1) (by omega) (by omega))
