/-! constructors: history, text, the class, the reference -/
def kb_h0 : va_E := .inr (0, [.null, .int 0, .int 0])
def kb_rg (b o n : Nat) : Nat → Option Nat := fun k => if k < n then some (b + (o + 32 * k)) else none
theorem kb_rg_s {b o n : Nat} : va_up (kb_rg b o n) n (some (b + (o + 32 * n))) = kb_rg b o (n + 1) := by
  funext k
  unfold va_up kb_rg
  by_cases h : k = n
  · subst h
    rw [if_pos rfl, if_pos (Nat.lt_succ_self _)]
  · rw [if_neg h]
    by_cases h2 : k < n
    · rw [if_pos h2, if_pos (by omega)]
    · rw [if_neg h2, if_neg (by omega)]
def khE (G : ka_G) (b : Nat) (fs : List Value) (a : Nat) : Nat → va_E := fun o =>
  if o = 0 then .inr (0, fs) else if o = 1 then .inl (ka_ca G 3, 4, .inr (.inr (.inr (.inr (kb_rg b 2 a))))) else kpF G (b + (2 + 32 * ((o - 2) / 32))) ((o - 2) % 32)
section KHE
variable {G : ka_G} {b : Nat} {fs fs' : List Value} {a a' i : Nat}
theorem khE_0 : kb_u (khE G b fs a) 0 (.inr (0, fs')) = khE G b fs' a := by
  funext j
  by_cases c : j = 0
  · subst c
    rfl
  · rw [kb_u_n c]
    unfold khE
    rw [if_neg c, if_neg c]
theorem khE_1 : kb_u (khE G b fs a) 1 (.inl (ka_ca G 3, 4, .inr (.inr (.inr (.inr (kb_rg b 2 a')))))) = khE G b fs a' := by
  funext j
  by_cases c : j = 1
  · subst c
    rfl
  · rw [kb_u_n c]
    unfold khE
    rw [if_neg c, if_neg c]
theorem khE_p : khE G b fs a (2 + 32 * i) = .inr (3, kb_pfs (b + (2 + 32 * i))) := by
  unfold khE
  rw [if_neg (by omega), if_neg (by omega), show (2 + 32 * i - 2) / 32 = i by omega, show (2 + 32 * i - 2) % 32 = 0 by omega]
  rfl
theorem khE_c {e : va_E} : ∀ j, j < 2 + 32 * i + 1 + 31 → kb_j (kb_u (khE G b fs a) (2 + 32 * i) e) (2 + 32 * i) (kpF G (b + (2 + 32 * i))) j = khE G b fs a j := fun j hj => by
  by_cases c : j < 2 + 32 * i
  · rw [kb_j_lt c, kb_u_n (by omega)]
  · rw [kb_j_ge c]
    unfold khE
    rw [if_neg (by omega), if_neg (by omega), show (j - 2) / 32 = i by omega, show (j - 2) % 32 = j - (2 + 32 * i) by omega]
end KHE
abbrev kb_hfs (b : Nat) : List Value := [.ref (b + 1), .int 0, .int 0]
def kb_t0 : va_E := .inr (1, [.null, .null, .int 0, .int 0, .int 0, .int 0, .int 0, .int 0, .int 0])
def ktE (G : ka_G) (b : Nat) : Nat → va_E := fun o => if o = 0 then .inr (1, [.ref (b + 1), .ref (b + 2), .int 0, .int 0, .int 0, .int 0, .int 0, .int 0, .int 0]) else if o = 1 then .inl (ka_ca G 0, 60, .inl (fun _ => 0)) else .inl (ka_ca G 0, 4, .inl (fun _ => 0))
def kb_c0 : va_E := .inr (6, [.null, .null, .null, .null])
def kcE (G : ka_G) (b : Nat) (fs : List Value) : Nat → va_E := fun o =>
  if o = 0 then .inr (6, fs) else if o < 33 then kpF G (b + 1) (o - 1) else if o < 65 then kpF G (b + 33) (o - 33) else if o < 195 then khE G (b + 65) (kb_hfs (b + 65)) 4 (o - 65) else ktE G (b + 195) (o - 195)
section KCE
variable {G : ka_G} {b : Nat} {fs fs' : List Value} {e : va_E}
theorem kcE_0 : kb_u (kcE G b fs) 0 (.inr (6, fs')) = kcE G b fs' := by
  funext j
  by_cases c : j = 0
  · subst c
    rfl
  · rw [kb_u_n c]
    unfold kcE
    rw [if_neg c, if_neg c]
theorem kcE_c1 : ∀ j, j < 1 + 1 + 31 → kb_j (kb_u (kcE G b fs) 1 e) 1 (kpF G (b + 1)) j = kcE G b fs j := fun j hj => by
  by_cases c : j < 1
  · rw [kb_j_lt c, kb_u_n (by omega)]
  · rw [kb_j_ge c]
    unfold kcE
    rw [if_neg (by omega), if_pos (by omega)]
theorem kcE_c2 : ∀ j, j < 33 + 1 + 31 → kb_j (kb_u (kcE G b fs) 33 e) 33 (kpF G (b + 33)) j = kcE G b fs j := fun j hj => by
  by_cases c : j < 33
  · rw [kb_j_lt c, kb_u_n (by omega)]
  · rw [kb_j_ge c]
    unfold kcE
    rw [if_neg (by omega), if_neg (by omega), if_pos (by omega)]
theorem kcE_c3 : ∀ j, j < 65 + 1 + 129 → kb_j (kb_u (kcE G b fs) 65 e) 65 (khE G (b + 65) (kb_hfs (b + 65)) 4) j = kcE G b fs j := fun j hj => by
  by_cases c : j < 65
  · rw [kb_j_lt c, kb_u_n (by omega)]
  · rw [kb_j_ge c]
    unfold kcE
    rw [if_neg (by omega), if_neg (by omega), if_neg (by omega), if_pos (by omega)]
theorem kcE_c4 : ∀ j, j < 195 + 1 + 2 → kb_j (kb_u (kcE G b fs) 195 e) 195 (ktE G (b + 195)) j = kcE G b fs j := fun j hj => by
  by_cases c : j < 195
  · rw [kb_j_lt c, kb_u_n (by omega)]
  · rw [kb_j_ge c]
    unfold kcE
    rw [if_neg (by omega), if_neg (by omega), if_neg (by omega), if_neg (by omega)]
end KCE
def kb_m0 : va_E := .inr (7, [.null, .null, .null, .null, .int 0, .null, .int 0, .int 0, .int 0, .int 0, .int 0, .int 0, .null])
def kmE (G : ka_G) (fs : List Value) (S : Nat → Int32) : Nat → va_E := fun o =>
  if o = 0 then .inr (7, fs) else if o = 1 then .inl (ka_ca G 0, 269, .inl S) else if o < 4 then .inl (ka_ca G 0, 269, .inl (fun _ => 0)) else if o = 4 then .inl (ka_ca G 0, 1076, .inl (fun _ => 0)) else if o = 5 then .inl (ka_ca G 0, 60, .inl (fun _ => 0)) else .inl (ka_ca G 0, 4, .inl (fun _ => 0))
section KME
variable {G : ka_G} {fs fs' : List Value} {S S' : Nat → Int32}
theorem kmE_0 : kb_u (kmE G fs S) 0 (.inr (7, fs')) = kmE G fs' S := by
  funext j
  by_cases c : j = 0
  · subst c
    rfl
  · rw [kb_u_n c]
    unfold kmE
    rw [if_neg c, if_neg c]
theorem kmE_1 : kb_u (kmE G fs S) 1 (.inl (ka_ca G 0, 269, .inl S')) = kmE G fs S' := by
  funext j
  by_cases c : j = 1
  · subst c
    rfl
  · rw [kb_u_n c]
    unfold kmE
    rw [if_neg c, if_neg c]
end KME
/-- the reference's array at first -/
def kmS (i : Nat) : Nat → Int32 := fun j => if 7 ≤ j ∧ j < 14 then kb_first (j - 7) else if 14 ≤ j ∧ j < 14 + i then 2 else 0
theorem kmS_0 : upd (upd (upd (upd (upd (upd (upd (fun _ => 0) 7 3) 8 10) 9 4) 10 20) 11 2) 12 25) 13 3 = kmS 0 := by
  funext j
  by_cases c : 7 ≤ j ∧ j < 14
  · rcases (show j = 7 ∨ j = 8 ∨ j = 9 ∨ j = 10 ∨ j = 11 ∨ j = 12 ∨ j = 13 by omega) with rfl | rfl | rfl | rfl | rfl | rfl | rfl <;> rfl
  · rw [pk_un (by omega), pk_un (by omega), pk_un (by omega), pk_un (by omega), pk_un (by omega), pk_un (by omega), pk_un (by omega)]
    unfold kmS
    rw [if_neg c, if_neg (by omega)]
theorem kmS_s {i : Nat} : upd (kmS i) (14 + i) 2 = kmS (i + 1) := by
  funext j
  by_cases c : j = 14 + i
  · subst c
    rw [pk_us]
    unfold kmS
    rw [if_neg (by omega), if_pos (by omega)]
  · rw [pk_un c]
    unfold kmS
    by_cases c7 : 7 ≤ j ∧ j < 14
    · rw [if_pos c7, if_pos c7]
    · rw [if_neg c7, if_neg c7]
      by_cases c2 : 14 ≤ j ∧ j < 14 + i
      · rw [if_pos c2, if_pos (by omega)]
      · rw [if_neg c2, if_neg (by omega)]
abbrev kb_mfs (b : Nat) : List Value := [.ref (b + 1), .ref (b + 2), .ref (b + 3), .ref (b + 4), .int 0, .ref (b + 5), .int 0, .int 0, .int 0, .int 0, .int 0, .int 0, .ref (b + 6)]
set_option maxHeartbeats 4000000 in
set_option maxRecDepth 100000 in
theorem m_X0_init {G : ka_G} : kb_M G yX0_init cX0_init 2 3 129 1204 kb_h0 (fun h => khE G h (kb_hfs h) 4) := by
  refine kb_entry ka_pn_X0 rfl (by decide) (fun X h hC hN hR => ?_)
  refine kb_I.to (E' := khE G h [.null, .int 0, .int 0] 0) rfl (Nat.le_refl _) (Nat.le_refl _) rfl (fun j hj => by obtain rfl : j = 0 := (by omega); rfl) ?_
  refine kb_aload_n hC dX0_init_0 rfl ?_
  refine kb_obj hC ka_q_ml_X0_3 (Nat.le_of_ble_eq_true rfl) (by decide) dX0_init_1 ?_
  refine kb_aload_n hC dX0_init_4 rfl ?_
  refine kb_iconst (v := 4) hC dX0_init_5 rfl ?_
  refine kb_newq (N := 4) (t := 3) hC ka_q_cl_X0_9 (fun U h => h.2.2) rfl (by decide) (by decide) (by decide) (by omega) (by omega) dX0_init_6 ?_
  rw [kb_u_id (by rfl)]
  refine kb_put (i := 0) (ci := 0) hC hN (by omega) rfl rfl 0 (by decide) ka_in0 tyX0_ok nmX0 ka_q_fl_X0_11 rfl rfl rfl (tyX0_ok 0 (by decide)) rfl rfl (Nat.le_of_ble_eq_true rfl) dX0_init_9 ?_
  rw [show (List.set [.null, .int 0, .int 0] 0 (Value.ref (h + 1))) = kb_hfs h from rfl, khE_0]
  refine kb_I.to (n' := 2) (k' := 1) (sl' := 4) rfl (by decide) (by decide) rfl (fun _ _ => rfl) ?_
  refine kb_iconst (v := 0) hC dX0_init_12 rfl ?_
  refine kb_sp1 hC dX0_init_13 (by decide) ?_
  suffices H14 : ∀ jj i : Nat, i ≤ 4 → 4 - i < jj → kb_I G X h (2 + 32 * i) (khE G h (kb_hfs h) i) (1 + 32 * i) (4 + 300 * i) 14 [.ref h, .int (nI i)] [] from kb_I.to rfl (by decide) (by decide) rfl (fun _ _ => rfl) (H14 5 0 (by omega) (by omega))
  intro j14
  induction j14 with
  | zero => intro i h1 h2; exact absurd h2 (Nat.not_lt_zero _)
  | succ j14 ih14 =>
    intro i hle14 hlt14
    refine kb_iload_n hC dX0_init_14 rfl ?_
    refine kb_iconst (v := 4) hC dX0_init_15 rfl ?_
    refine kb_ige (tgt := 38) hC dX0_init_16 (by decide) (fun c => ?_) (fun c => ?_)
    · obtain rfl : i = 4 := nlt_nI (by decide) hle14 c
      exact kb_ret hC hR dX0_init_38 rfl (by omega) (by omega) (fun _ _ => rfl)
    · have hi : i < 4 := lt_nI (by decide) hle14 c
      refine kb_aload_n hC dX0_init_19 rfl ?_
      refine kb_get (i := 0) (ci := 0) hC (by omega) rfl rfl 0 (by decide) ka_in0 ka_q_fl_X0_11 rfl rfl dX0_init_20 ?_
      refine kb_iload_n hC dX0_init_23 rfl ?_
      refine kb_new (ci := 3) (fs := [.null, .null, .null, .null, .null, .int 0, .int 0, .int 0, .int 0, .int 0, .int 0]) hC ka_q_cl_X0_9 ka_q_it_X3 ka_q_in_X3 ka_in3 tyX3 tyX3_ok rfl (fun j hj => by rcases (show j = 0 ∨ j = 1 ∨ j = 2 ∨ j = 3 ∨ j = 4 ∨ j = 5 ∨ j = 6 ∨ j = 7 ∨ j = 8 ∨ j = 9 ∨ j = 10 by omega) with rfl | rfl | rfl | rfl | rfl | rfl | rfl | rfl | rfl | rfl | rfl <;> rfl) (by omega) (by omega) dX0_init_24 ?_
      refine kb_dup hC dX0_init_27 rfl ?_
      refine kb_call (i := 2 + 32 * i) hC (m_X3_init) ka_q_ml_X0_17 ka_q_im_X3_init ka_q_in_X3 ka_q_co_X3_init rfl ky_X3_init (by decide) (by decide) (Nat.le_of_ble_eq_true rfl) (by omega) (by omega) kb_u_s dX0_init_28 ?_
      refine kb_I.to (n' := 2 + 32 * i + 32) rfl (Nat.le_refl _) (Nat.le_refl _) rfl khE_c ?_
      refine kb_aast (i := 1) (i2 := 2 + 32 * i) (j := i) (ci := 3) (t := 3) hC (by omega) rfl rfl (by omega) khE_p rfl hi (by decide) rfl dX0_init_31 ?_
      rw [kb_rg_s, khE_1]
      refine kb_inc1 (v := 1) hC dX0_init_32 rfl (by decide) ?_
      refine kb_goto (tgt := 14) hC dX0_init_35 (by decide) ?_
      exact kb_I.to (by omega) (by omega) (by omega) (by rw [← nI_1]) (fun _ _ => rfl) (ih14 (i + 1) (by omega) (by omega))
set_option maxHeartbeats 4000000 in
set_option maxRecDepth 100000 in
theorem m_X1_init {G : ka_G} : kb_M G yX1_init cX1_init 1 1 2 64 kb_t0 (ktE G) := by
  refine kb_entry ka_pn_X1 rfl (by decide) (fun X h hC hN hR => ?_)
  refine kb_aload_n hC dX1_init_0 rfl ?_
  refine kb_obj hC ka_q_ml_X1_3 (Nat.le_of_ble_eq_true rfl) (by decide) dX1_init_1 ?_
  refine kb_aload_n hC dX1_init_4 rfl ?_
  refine kb_bipush (v := 60) hC dX1_init_5 rfl ?_
  refine kb_newa (N := 60) hC (by decide) (by decide) (by decide) (by omega) (by omega) dX1_init_7 ?_
  refine kb_put (i := 0) (ci := 1) hC hN (by omega) rfl rfl 0 (by decide) ka_in1 tyX1_ok nmX1 ka_q_fl_X1_9 rfl rfl rfl (tyX1_ok 0 (by decide)) rfl rfl (Nat.le_of_ble_eq_true rfl) dX1_init_9 ?_
  refine kb_aload_n hC dX1_init_12 rfl ?_
  refine kb_iconst (v := 4) hC dX1_init_13 rfl ?_
  refine kb_newa (N := 4) hC (by decide) (by decide) (by decide) (by omega) (by omega) dX1_init_14 ?_
  refine kb_put (i := 0) (ci := 1) hC hN (by omega) rfl rfl 1 (by decide) ka_in1 tyX1_ok nmX1 ka_q_fl_X1_15 rfl rfl rfl (tyX1_ok 1 (by decide)) rfl rfl (Nat.le_of_ble_eq_true rfl) dX1_init_16 ?_
  exact kb_ret hC hR dX1_init_19 rfl (by omega) (by omega) (fun j hj => by rcases (show j = 0 ∨ j = 1 ∨ j = 2 by omega) with rfl | rfl | rfl <;> rfl)
set_option maxHeartbeats 4000000 in
set_option maxRecDepth 100000 in
theorem m_X6_init {G : ka_G} : kb_M G yX6_init cX6_init 1 4 197 1880 kb_c0 (fun h => kcE G h [.ref (h + 1), .ref (h + 33), .ref (h + 65), .ref (h + 195)]) := by
  refine kb_entry ka_pn_X6 rfl (by decide) (fun X h hC hN hR => ?_)
  refine kb_I.to (E' := kcE G h [.null, .null, .null, .null]) rfl (Nat.le_refl _) (Nat.le_refl _) rfl (fun j hj => by obtain rfl : j = 0 := (by omega); rfl) ?_
  refine kb_aload_n hC dX6_init_0 rfl ?_
  refine kb_obj hC ka_q_ml_X6_1 (Nat.le_of_ble_eq_true rfl) (by decide) dX6_init_1 ?_
  refine kb_aload_n hC dX6_init_4 rfl ?_
  refine kb_new (ci := 3) (fs := [.null, .null, .null, .null, .null, .int 0, .int 0, .int 0, .int 0, .int 0, .int 0]) hC ka_q_cl_X6_7 ka_q_it_X3 ka_q_in_X3 ka_in3 tyX3 tyX3_ok rfl (fun j hj => by rcases (show j = 0 ∨ j = 1 ∨ j = 2 ∨ j = 3 ∨ j = 4 ∨ j = 5 ∨ j = 6 ∨ j = 7 ∨ j = 8 ∨ j = 9 ∨ j = 10 by omega) with rfl | rfl | rfl | rfl | rfl | rfl | rfl | rfl | rfl | rfl | rfl <;> rfl) (by omega) (by omega) dX6_init_5 ?_
  refine kb_dup hC dX6_init_8 rfl ?_
  refine kb_call (i := 1) hC (m_X3_init) ka_q_ml_X6_9 ka_q_im_X3_init ka_q_in_X3 ka_q_co_X3_init rfl ky_X3_init (by decide) (by decide) (Nat.le_of_ble_eq_true rfl) (by omega) (by omega) kb_u_s dX6_init_9 ?_
  refine kb_I.to (n' := 33) rfl (Nat.le_refl _) (Nat.le_refl _) rfl kcE_c1 ?_
  refine kb_put (i := 0) (ci := 6) hC hN (by omega) rfl rfl 0 (by decide) ka_in6 tyX6_ok nmX6 ka_q_fl_X6_10 rfl rfl rfl (tyX6_ok 0 (by decide)) rfl rfl (Nat.le_of_ble_eq_true rfl) dX6_init_12 ?_
  rw [show (List.set [.null, .null, .null, .null] 0 (Value.ref (h + 1))) = [.ref (h + 1), .null, .null, .null] from rfl, kcE_0]
  refine kb_aload_n hC dX6_init_15 rfl ?_
  refine kb_new (ci := 3) (fs := [.null, .null, .null, .null, .null, .int 0, .int 0, .int 0, .int 0, .int 0, .int 0]) hC ka_q_cl_X6_7 ka_q_it_X3 ka_q_in_X3 ka_in3 tyX3 tyX3_ok rfl (fun j hj => by rcases (show j = 0 ∨ j = 1 ∨ j = 2 ∨ j = 3 ∨ j = 4 ∨ j = 5 ∨ j = 6 ∨ j = 7 ∨ j = 8 ∨ j = 9 ∨ j = 10 by omega) with rfl | rfl | rfl | rfl | rfl | rfl | rfl | rfl | rfl | rfl | rfl <;> rfl) (by omega) (by omega) dX6_init_16 ?_
  refine kb_dup hC dX6_init_19 rfl ?_
  refine kb_call (i := 33) hC (m_X3_init) ka_q_ml_X6_9 ka_q_im_X3_init ka_q_in_X3 ka_q_co_X3_init rfl ky_X3_init (by decide) (by decide) (Nat.le_of_ble_eq_true rfl) (by omega) (by omega) kb_u_s dX6_init_20 ?_
  refine kb_I.to (n' := 65) rfl (Nat.le_refl _) (Nat.le_refl _) rfl kcE_c2 ?_
  refine kb_put (i := 0) (ci := 6) hC hN (by omega) rfl rfl 1 (by decide) ka_in6 tyX6_ok nmX6 ka_q_fl_X6_16 rfl rfl rfl (tyX6_ok 1 (by decide)) rfl rfl (Nat.le_of_ble_eq_true rfl) dX6_init_23 ?_
  rw [show (List.set [.ref (h + 1), .null, .null, .null] 1 (Value.ref (h + 33))) = [.ref (h + 1), .ref (h + 33), .null, .null] from rfl, kcE_0]
  refine kb_aload_n hC dX6_init_26 rfl ?_
  refine kb_new (ci := 0) (fs := [.null, .int 0, .int 0]) hC ka_q_cl_X6_19 ka_q_it_X0 ka_q_in_X0 ka_in0 tyX0 tyX0_ok rfl (fun j hj => by rcases (show j = 0 ∨ j = 1 ∨ j = 2 by omega) with rfl | rfl | rfl <;> rfl) (by omega) (by omega) dX6_init_27 ?_
  refine kb_dup hC dX6_init_30 rfl ?_
  refine kb_call (i := 65) hC (m_X0_init) ka_q_ml_X6_21 ka_q_im_X0_init ka_q_in_X0 ka_q_co_X0_init rfl ky_X0_init (by decide) (by decide) (Nat.le_of_ble_eq_true rfl) (by omega) (by omega) kb_u_s dX6_init_31 ?_
  refine kb_I.to (n' := 195) rfl (Nat.le_refl _) (Nat.le_refl _) rfl kcE_c3 ?_
  refine kb_put (i := 0) (ci := 6) hC hN (by omega) rfl rfl 2 (by decide) ka_in6 tyX6_ok nmX6 ka_q_fl_X6_22 rfl rfl rfl (tyX6_ok 2 (by decide)) rfl rfl (Nat.le_of_ble_eq_true rfl) dX6_init_34 ?_
  rw [show (List.set [.ref (h + 1), .ref (h + 33), .null, .null] 2 (Value.ref (h + 65))) = [.ref (h + 1), .ref (h + 33), .ref (h + 65), .null] from rfl, kcE_0]
  refine kb_aload_n hC dX6_init_37 rfl ?_
  refine kb_new (ci := 1) (fs := [.null, .null, .int 0, .int 0, .int 0, .int 0, .int 0, .int 0, .int 0]) hC ka_q_cl_X6_26 ka_q_it_X1 ka_q_in_X1 ka_in1 tyX1 tyX1_ok rfl (fun j hj => by rcases (show j = 0 ∨ j = 1 ∨ j = 2 ∨ j = 3 ∨ j = 4 ∨ j = 5 ∨ j = 6 ∨ j = 7 ∨ j = 8 by omega) with rfl | rfl | rfl | rfl | rfl | rfl | rfl | rfl | rfl <;> rfl) (by omega) (by omega) dX6_init_38 ?_
  refine kb_dup hC dX6_init_41 rfl ?_
  refine kb_call (i := 195) hC (m_X1_init) ka_q_ml_X6_28 ka_q_im_X1_init ka_q_in_X1 ka_q_co_X1_init rfl ky_X1_init (by decide) (by decide) (Nat.le_of_ble_eq_true rfl) (by omega) (by omega) kb_u_s dX6_init_42 ?_
  refine kb_I.to (n' := 198) rfl (Nat.le_refl _) (Nat.le_refl _) rfl kcE_c4 ?_
  refine kb_put (i := 0) (ci := 6) hC hN (by omega) rfl rfl 3 (by decide) ka_in6 tyX6_ok nmX6 ka_q_fl_X6_29 rfl rfl rfl (tyX6_ok 3 (by decide)) rfl rfl (Nat.le_of_ble_eq_true rfl) dX6_init_45 ?_
  rw [show (List.set [.ref (h + 1), .ref (h + 33), .ref (h + 65), .null] 3 (Value.ref (h + 195))) = [.ref (h + 1), .ref (h + 33), .ref (h + 65), .ref (h + 195)] from rfl, kcE_0]
  exact kb_ret hC hR dX6_init_48 rfl (by omega) (by omega) (fun _ _ => rfl)
set_option maxHeartbeats 4000000 in
set_option maxRecDepth 100000 in
theorem m_X7_init {G : ka_G} : kb_M G yX7_init cX7_init 2 1 6 1947 kb_m0 (fun h => kmE G (kb_mfs h) (kmS 25)) := by
  refine kb_entry ka_pn_X7 rfl (by decide) (fun X h hC hN hR => ?_)
  refine kb_I.to (E' := kmE G [.null, .null, .null, .null, .int 0, .null, .int 0, .int 0, .int 0, .int 0, .int 0, .int 0, .null] (fun _ => 0)) rfl (Nat.le_refl _) (Nat.le_refl _) rfl (fun j hj => by obtain rfl : j = 0 := (by omega); rfl) ?_
  refine kb_aload_n hC dX7_init_0 rfl ?_
  refine kb_obj hC ka_q_ml_X7_1 (Nat.le_of_ble_eq_true rfl) (by decide) dX7_init_1 ?_
  refine kb_aload_n hC dX7_init_4 rfl ?_
  refine kb_sipush (v := 269) hC dX7_init_5 rfl ?_
  refine kb_newa (N := 269) hC (by decide) (by decide) (by decide) (by omega) (by omega) dX7_init_8 ?_
  rw [kb_u_id (by rfl)]
  refine kb_put (i := 0) (ci := 7) hC hN (by omega) rfl rfl 0 (by decide) ka_in7 tyX7_ok nmX7 ka_q_fl_X7_7 rfl rfl rfl (tyX7_ok 0 (by decide)) rfl rfl (Nat.le_of_ble_eq_true rfl) dX7_init_10 ?_
  rw [show (List.set [.null, .null, .null, .null, .int 0, .null, .int 0, .int 0, .int 0, .int 0, .int 0, .int 0, .null] 0 (Value.ref (h + 1))) = [.ref (h + 1), .null, .null, .null, .int 0, .null, .int 0, .int 0, .int 0, .int 0, .int 0, .int 0, .null] from rfl, kmE_0]
  refine kb_aload_n hC dX7_init_13 rfl ?_
  refine kb_sipush (v := 269) hC dX7_init_14 rfl ?_
  refine kb_newa (N := 269) hC (by decide) (by decide) (by decide) (by omega) (by omega) dX7_init_17 ?_
  rw [kb_u_id (by rfl)]
  refine kb_put (i := 0) (ci := 7) hC hN (by omega) rfl rfl 1 (by decide) ka_in7 tyX7_ok nmX7 ka_q_fl_X7_13 rfl rfl rfl (tyX7_ok 1 (by decide)) rfl rfl (Nat.le_of_ble_eq_true rfl) dX7_init_19 ?_
  rw [show (List.set [.ref (h + 1), .null, .null, .null, .int 0, .null, .int 0, .int 0, .int 0, .int 0, .int 0, .int 0, .null] 1 (Value.ref (h + 2))) = [.ref (h + 1), .ref (h + 2), .null, .null, .int 0, .null, .int 0, .int 0, .int 0, .int 0, .int 0, .int 0, .null] from rfl, kmE_0]
  refine kb_aload_n hC dX7_init_22 rfl ?_
  refine kb_sipush (v := 269) hC dX7_init_23 rfl ?_
  refine kb_newa (N := 269) hC (by decide) (by decide) (by decide) (by omega) (by omega) dX7_init_26 ?_
  rw [kb_u_id (by rfl)]
  refine kb_put (i := 0) (ci := 7) hC hN (by omega) rfl rfl 2 (by decide) ka_in7 tyX7_ok nmX7 ka_q_fl_X7_16 rfl rfl rfl (tyX7_ok 2 (by decide)) rfl rfl (Nat.le_of_ble_eq_true rfl) dX7_init_28 ?_
  rw [show (List.set [.ref (h + 1), .ref (h + 2), .null, .null, .int 0, .null, .int 0, .int 0, .int 0, .int 0, .int 0, .int 0, .null] 2 (Value.ref (h + 3))) = [.ref (h + 1), .ref (h + 2), .ref (h + 3), .null, .int 0, .null, .int 0, .int 0, .int 0, .int 0, .int 0, .int 0, .null] from rfl, kmE_0]
  refine kb_aload_n hC dX7_init_31 rfl ?_
  refine kb_sipush (v := 1076) hC dX7_init_32 rfl ?_
  refine kb_newa (N := 1076) hC (by decide) (by decide) (by decide) (by omega) (by omega) dX7_init_35 ?_
  rw [kb_u_id (by rfl)]
  refine kb_put (i := 0) (ci := 7) hC hN (by omega) rfl rfl 3 (by decide) ka_in7 tyX7_ok nmX7 ka_q_fl_X7_19 rfl rfl rfl (tyX7_ok 3 (by decide)) rfl rfl (Nat.le_of_ble_eq_true rfl) dX7_init_37 ?_
  rw [show (List.set [.ref (h + 1), .ref (h + 2), .ref (h + 3), .null, .int 0, .null, .int 0, .int 0, .int 0, .int 0, .int 0, .int 0, .null] 3 (Value.ref (h + 4))) = [.ref (h + 1), .ref (h + 2), .ref (h + 3), .ref (h + 4), .int 0, .null, .int 0, .int 0, .int 0, .int 0, .int 0, .int 0, .null] from rfl, kmE_0]
  refine kb_aload_n hC dX7_init_40 rfl ?_
  refine kb_bipush (v := 60) hC dX7_init_41 rfl ?_
  refine kb_newa (N := 60) hC (by decide) (by decide) (by decide) (by omega) (by omega) dX7_init_43 ?_
  rw [kb_u_id (by rfl)]
  refine kb_put (i := 0) (ci := 7) hC hN (by omega) rfl rfl 5 (by decide) ka_in7 tyX7_ok nmX7 ka_q_fl_X7_22 rfl rfl rfl (tyX7_ok 5 (by decide)) rfl rfl (Nat.le_of_ble_eq_true rfl) dX7_init_45 ?_
  rw [show (List.set [.ref (h + 1), .ref (h + 2), .ref (h + 3), .ref (h + 4), .int 0, .null, .int 0, .int 0, .int 0, .int 0, .int 0, .int 0, .null] 5 (Value.ref (h + 5))) = [.ref (h + 1), .ref (h + 2), .ref (h + 3), .ref (h + 4), .int 0, .ref (h + 5), .int 0, .int 0, .int 0, .int 0, .int 0, .int 0, .null] from rfl, kmE_0]
  refine kb_aload_n hC dX7_init_48 rfl ?_
  refine kb_iconst (v := 4) hC dX7_init_49 rfl ?_
  refine kb_newa (N := 4) hC (by decide) (by decide) (by decide) (by omega) (by omega) dX7_init_50 ?_
  rw [kb_u_id (by rfl)]
  refine kb_put (i := 0) (ci := 7) hC hN (by omega) rfl rfl 12 (by decide) ka_in7 tyX7_ok nmX7 ka_q_fl_X7_25 rfl rfl rfl (tyX7_ok 12 (by decide)) rfl rfl (Nat.le_of_ble_eq_true rfl) dX7_init_52 ?_
  rw [show (List.set [.ref (h + 1), .ref (h + 2), .ref (h + 3), .ref (h + 4), .int 0, .ref (h + 5), .int 0, .int 0, .int 0, .int 0, .int 0, .int 0, .null] 12 (Value.ref (h + 6))) = [.ref (h + 1), .ref (h + 2), .ref (h + 3), .ref (h + 4), .int 0, .ref (h + 5), .int 0, .int 0, .int 0, .int 0, .int 0, .int 0, .ref (h + 6)] from rfl, kmE_0]
  refine kb_aload_n hC dX7_init_55 rfl ?_
  refine kb_get (i := 0) (ci := 7) hC (by omega) rfl rfl 0 (by decide) ka_in7 ka_q_fl_X7_7 rfl rfl dX7_init_56 ?_
  refine kb_bipush (v := 7) hC dX7_init_59 rfl ?_
  refine kb_iconst (v := 3) hC dX7_init_61 rfl ?_
  refine kb_iast (i := 1) (j := 7) hC (by omega) rfl (by decide) (by decide) rfl dX7_init_62 ?_
  rw [kmE_1]
  refine kb_aload_n hC dX7_init_63 rfl ?_
  refine kb_get (i := 0) (ci := 7) hC (by omega) rfl rfl 0 (by decide) ka_in7 ka_q_fl_X7_7 rfl rfl dX7_init_64 ?_
  refine kb_bipush (v := 8) hC dX7_init_67 rfl ?_
  refine kb_bipush (v := 10) hC dX7_init_69 rfl ?_
  refine kb_iast (i := 1) (j := 8) hC (by omega) rfl (by decide) (by decide) rfl dX7_init_71 ?_
  rw [kmE_1]
  refine kb_aload_n hC dX7_init_72 rfl ?_
  refine kb_get (i := 0) (ci := 7) hC (by omega) rfl rfl 0 (by decide) ka_in7 ka_q_fl_X7_7 rfl rfl dX7_init_73 ?_
  refine kb_bipush (v := 9) hC dX7_init_76 rfl ?_
  refine kb_iconst (v := 4) hC dX7_init_78 rfl ?_
  refine kb_iast (i := 1) (j := 9) hC (by omega) rfl (by decide) (by decide) rfl dX7_init_79 ?_
  rw [kmE_1]
  refine kb_aload_n hC dX7_init_80 rfl ?_
  refine kb_get (i := 0) (ci := 7) hC (by omega) rfl rfl 0 (by decide) ka_in7 ka_q_fl_X7_7 rfl rfl dX7_init_81 ?_
  refine kb_bipush (v := 10) hC dX7_init_84 rfl ?_
  refine kb_bipush (v := 20) hC dX7_init_86 rfl ?_
  refine kb_iast (i := 1) (j := 10) hC (by omega) rfl (by decide) (by decide) rfl dX7_init_88 ?_
  rw [kmE_1]
  refine kb_aload_n hC dX7_init_89 rfl ?_
  refine kb_get (i := 0) (ci := 7) hC (by omega) rfl rfl 0 (by decide) ka_in7 ka_q_fl_X7_7 rfl rfl dX7_init_90 ?_
  refine kb_bipush (v := 11) hC dX7_init_93 rfl ?_
  refine kb_iconst (v := 2) hC dX7_init_95 rfl ?_
  refine kb_iast (i := 1) (j := 11) hC (by omega) rfl (by decide) (by decide) rfl dX7_init_96 ?_
  rw [kmE_1]
  refine kb_aload_n hC dX7_init_97 rfl ?_
  refine kb_get (i := 0) (ci := 7) hC (by omega) rfl rfl 0 (by decide) ka_in7 ka_q_fl_X7_7 rfl rfl dX7_init_98 ?_
  refine kb_bipush (v := 12) hC dX7_init_101 rfl ?_
  refine kb_bipush (v := 25) hC dX7_init_103 rfl ?_
  refine kb_iast (i := 1) (j := 12) hC (by omega) rfl (by decide) (by decide) rfl dX7_init_105 ?_
  rw [kmE_1]
  refine kb_aload_n hC dX7_init_106 rfl ?_
  refine kb_get (i := 0) (ci := 7) hC (by omega) rfl rfl 0 (by decide) ka_in7 ka_q_fl_X7_7 rfl rfl dX7_init_107 ?_
  refine kb_bipush (v := 13) hC dX7_init_110 rfl ?_
  refine kb_iconst (v := 3) hC dX7_init_112 rfl ?_
  refine kb_iast (i := 1) (j := 13) hC (by omega) rfl (by decide) (by decide) rfl dX7_init_113 ?_
  rw [kmE_1]
  refine kb_iconst (v := 0) hC dX7_init_114 rfl ?_
  refine kb_sp1 hC dX7_init_115 (by decide) ?_
  suffices H116 : ∀ jj i : Nat, i ≤ 25 → 25 - i < jj → kb_I G X h (7) (kmE G (kb_mfs h) (kmS i)) (6) (1947) 116 [.ref h, .int (nI i)] [] from kb_I.to rfl (by decide) (by decide) rfl (fun _ _ => by rw [kmS_0]) (H116 26 0 (by omega) (by omega))
  intro j116
  induction j116 with
  | zero => intro i h1 h2; exact absurd h2 (Nat.not_lt_zero _)
  | succ j116 ih116 =>
    intro i hle116 hlt116
    refine kb_iload_n hC dX7_init_116 rfl ?_
    refine kb_bipush (v := 25) hC dX7_init_117 rfl ?_
    refine kb_ige (tgt := 138) hC dX7_init_119 (by decide) (fun c => ?_) (fun c => ?_)
    · obtain rfl : i = 25 := nlt_nI (by decide) hle116 c
      exact kb_ret hC hR dX7_init_138 rfl (by omega) (by omega) (fun _ _ => rfl)
    · have hi : i < 25 := lt_nI (by decide) hle116 c
      refine kb_aload_n hC dX7_init_122 rfl ?_
      refine kb_get (i := 0) (ci := 7) hC (by omega) rfl rfl 0 (by decide) ka_in7 ka_q_fl_X7_7 rfl rfl dX7_init_123 ?_
      refine kb_bipush (v := 14) hC dX7_init_126 rfl ?_
      refine kb_iload_n hC dX7_init_128 rfl ?_
      refine kb_iadd hC dX7_init_129 ?_
      refine kb_iconst (v := 2) hC dX7_init_130 rfl ?_
      refine kb_iast (i := 1) (j := 14 + i) hC (by omega) rfl (by omega) (by decide) (nI_add 14 i) dX7_init_131 ?_
      rw [kmS_s, kmE_1]
      refine kb_inc1 (v := 1) hC dX7_init_132 rfl (by decide) ?_
      refine kb_goto (tgt := 116) hC dX7_init_135 (by decide) ?_
      exact kb_I.to (by omega) (by omega) (by omega) (by rw [← nI_1]) (fun _ _ => rfl) (ih116 (i + 1) (by omega) (by omega))
