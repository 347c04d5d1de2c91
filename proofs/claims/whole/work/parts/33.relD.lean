/-! settings, wagons, loads, unloading, repairs on both sides -/
theorem RC.sts {e : Nat → Int32} {P P' : ka_P} {S S' : ka_F} (h : RC e P S) (hP : ∀ o, o ≠ 29 → P' o = P o) (hS : ∀ j, (j < 7 ∨ 14 ≤ j) → S' j = S j) (hl : ∀ j, j < 7 → P' 29 j = S' (7 + j)) : RC e P' S' := by
  obtain ⟨⟨a0, a1, a2, a3, a4, a5, a6, a7⟩, hPl, hW⟩ := h
  refine ⟨⟨?_, ?_, ?_, ?_, ?_, ?_, hl, fun j hj => ?_⟩, fun p hp => ?_, fun w hw => ?_⟩
  · rw [hP 0 (by decide), hS 0 (Or.inl (by decide))]; exact a0
  · rw [hP 0 (by decide), hS 1 (Or.inl (by decide))]; exact a1
  · rw [hP 0 (by decide), hS 2 (Or.inl (by decide))]; exact a2
  · rw [hP 0 (by decide), hS 3 (Or.inl (by decide))]; exact a3
  · rw [hP 0 (by decide), hS 4 (Or.inl (by decide))]; exact a4
  · rw [hP 0 (by decide), hS 5 (Or.inl (by decide))]; exact a5
  · rw [hP 28 (by decide), hS _ (Or.inr (by omega))]; exact a7 j hj
  · rw [hP (2 + p) (by omega), pr_of (T := S') (S := S) (fun j hj => hS _ (Or.inr (by omega)))]
    exact hPl p hp
  · rw [hP 0 (by decide), hS 1 (Or.inl (by decide)), hP (8 + w) (by omega), wr_of (T := S') (S := S) (fun j hj => hS _ (Or.inr (by omega)))]
    exact hW w hw
theorem kw_ub {x lo : Int32} {n : Nat} (hn : n < 2 ^ 31) (hlo : ¬ lo < 0) (h : kw x lo (nI n) = true) : ub n x := by
  obtain ⟨g1, g2⟩ := kw_t h
  have q1 := nlt_int g1
  have q2 := nlt_int g2
  have q3 := nlt_int hlo
  have ez : (0 : Int32).toInt = 0 := by decide
  obtain ⟨k, hk, rfl⟩ := nI_of (x := x) (fun z => by
    have := lt_int z
    omega)
  rw [nI_toInt hk, nI_toInt hn] at q2
  exact ub_nI (by omega) hn
theorem set_cond {x v : Int32} : (kw x 0 6 && kw v (ka_low (cn x)) (ka_high (cn x))) = rf_isSet x v := by
  unfold rf_isSet
  by_cases h : kw x 0 6 = true
  · obtain ⟨k, hk, rfl⟩ := kw_nat (n := 6) (by decide) h
    rw [h, Bool.true_and, cn_nI (by omega)]
    rcases (show k = 0 ∨ k = 1 ∨ k = 2 ∨ k = 3 ∨ k = 4 ∨ k = 5 ∨ k = 6 by omega) with rfl | rfl | rfl | rfl | rfl | rfl | rfl
    · rw [if_pos (by decide)]; rfl
    · rw [if_neg (by decide), if_neg (by decide), if_neg (by decide), Bool.true_and]; rfl
    · rw [if_neg (by decide), if_neg (by decide), if_neg (by decide), Bool.true_and]; rfl
    · rw [if_neg (by decide), if_pos (by decide)]; rfl
    · rw [if_neg (by decide), if_neg (by decide), if_neg (by decide), Bool.true_and]; rfl
    · rw [if_neg (by decide), if_neg (by decide), if_neg (by decide), Bool.true_and]; rfl
    · rw [if_neg (by decide), if_neg (by decide), if_pos (by decide)]; rfl
  · have hf : kw x 0 6 = false := by simpa using h
    rw [hf, Bool.false_and, Bool.false_and, if_neg, if_neg, if_neg]
    · intro e; rw [e] at hf; exact absurd hf (by decide)
    · intro e; rw [e] at hf; exact absurd hf (by decide)
    · intro e; rw [e] at hf; exact absurd hf (by decide)
theorem sim_set {c D : Nat} {P : ka_P} {S : ka_F} {x v : Int32} (h : RS c D P S) : simO (c + 1) D (sp_set P x v) (rf_set S x v) := by
  obtain ⟨hR, hM, hI, a, b, hst, hQ⟩ := h
  unfold sp_set rf_set
  rw [← set_cond]
  by_cases c1 : kw x 0 6 = false
  · rw [c1, if_pos rfl, Bool.false_and, if_pos rfl]
    exact simO_1
  · have t1 : kw x 0 6 = true := by simpa using c1
    rw [if_neg c1, t1, Bool.true_and]
    split
    · exact simO_1
    · next c2 =>
      have t2 : kw v (ka_low (cn x)) (ka_high (cn x)) = true := by simpa using c2
      obtain ⟨k, hk, rfl⟩ := kw_nat (n := 6) (by decide) t1
      rw [cn_nI (by omega)] at t2 ⊢
      have hs : ∀ j, j ≠ 7 + k → upd S (7 + k) v j = S j := fun j hj => pk_un hj
      have hv : ub 99 v ∧ (k = 6 → ub 30 v) := by
        rcases (show k = 0 ∨ k = 1 ∨ k = 2 ∨ k = 3 ∨ k = 4 ∨ k = 5 ∨ k = 6 by omega) with rfl | rfl | rfl | rfl | rfl | rfl | rfl
        · exact ⟨(kw_ub (n := 30) (lo := 0) (by decide) (by decide) t2).up (by decide), fun e => absurd e (by decide)⟩
        · exact ⟨kw_ub (n := 99) (lo := 0) (by decide) (by decide) t2, fun e => absurd e (by decide)⟩
        · exact ⟨kw_ub (n := 99) (lo := 0) (by decide) (by decide) t2, fun e => absurd e (by decide)⟩
        · exact ⟨kw_ub (n := 99) (lo := 1) (by decide) (by decide) t2, fun e => absurd e (by decide)⟩
        · exact ⟨kw_ub (n := 99) (lo := 0) (by decide) (by decide) t2, fun e => absurd e (by decide)⟩
        · exact ⟨kw_ub (n := 99) (lo := 0) (by decide) (by decide) t2, fun e => absurd e (by decide)⟩
        · exact ⟨(kw_ub (n := 30) (lo := 1) (by decide) (by decide) t2).up (by decide), fun _ => kw_ub (n := 30) (lo := 1) (by decide) (by decide) t2⟩
      have r : RC ez0 (ka_s2 P 29 (upd (P 29) k v)) (upd S (7 + k) v) := by
        refine hR.sts (fun o ho => ka_s2_n ho) (fun j hj => hs j (by omega)) (fun j hj => ?_)
        rw [ka_s2_s]
        by_cases e1 : j = k
        · rw [e1, pk_us, pk_us]
        · rw [pk_un e1, hs _ (by omega)]
          exact hR.st hj
      refine simO_mk (hR.st (by omega)) ?_ ⟨r, ?_, ?_, a, b, hst, ?_⟩
      · rw [hR.st (show k < 7 by omega)]
        exact isErr_leg (hI.1.1 k (by omega))
      · obtain ⟨h0, h1, h2, h3, hw⟩ := hM
        refine ⟨?_, ?_, ?_, ?_, fun w hw20 => ?_⟩
        · rw [hs 0 (by omega)]; exact h0
        · rw [hs 1 (by omega)]; exact h1
        · rw [hs 2 (by omega)]; exact h2
        · by_cases e6 : k = 6
          · subst e6
            rw [show (13 : Nat) = 7 + 6 from rfl, pk_us]
            exact hv.2 rfl
          · rw [hs 13 (by omega)]; exact h3
        · unfold wg
          rw [hs _ (by omega), hs _ (by omega)]
          exact hw w hw20
      · refine IV.up (c := c) ⟨⟨fun j hj => ?_, fun j hj => ?_⟩, ?_, ?_, ?_⟩ (by omega)
        · by_cases e1 : j = k
          · rw [e1, pk_us]; exact hv.1
          · rw [hs _ (by omega)]; exact hI.1.1 j hj
        · rw [hs _ (by omega)]; exact hI.1.2 j hj
        · rw [hs _ (by omega)]; exact hI.2.1
        · unfold pg
          rw [hs _ (by omega)]; exact hI.2.2.1
        · rw [hs 2 (by omega)]
          exact hI.2.2.2.of (fun p hp => by
            unfold pg
            rw [hs _ (by omega)])
      · exact hQ.of hM.n (by rw [ka_s2_n (by decide)]) (fun j _ => by rw [ka_s2_n (by decide)]) (qsS.u (by omega) (by omega) (by omega))
/-- the new wagon's row is cleared -/
theorem rf_zero_k {S : ka_F} {n : Nat} : ∀ i, i ≤ 10 → (∀ j, j < i → wg (rf_zero S n i) n j = 0) ∧ swk S (rf_zero S n i) n
  | 0, _ => ⟨fun j hj => absurd hj (Nat.not_lt_zero _), swk.rf⟩
  | i + 1, h => by
    obtain ⟨h1, h2⟩ := rf_zero_k (S := S) (n := n) i (by omega)
    rw [rf_zero_s]
    refine ⟨fun j hj => ?_, h2.up (by omega)⟩
    by_cases c : j = i
    · subst c
      exact wU_s
    · rw [wU_n (by omega) (by omega) (fun _ => c)]
      exact h1 j (by omega)
theorem IV.wag {c : Nat} {S T : ka_F} {k : Nat} (h : IV c S) (hs : swk S T k) : IV c T :=
  h.of (fun j _ hj _ _ _ => hs.1 j (by omega)) (by unfold pg; exact hs.1 _ (by decide)) (fun p hp => by unfold pg; exact hs.1 _ (by omega))
theorem lt20 {D : Nat} {P : ka_P} {S : ka_F} {e : Nat → Int32} (h : RC e P S) (hM : MK D S) : (¬ P 0 6 < 20) ↔ S 1 = 20 := by
  rw [h.n]
  constructor
  · intro c
    by_cases c2 : S 1 = 20
    · exact c2
    · have h4 := hM.w20 c2
      exact absurd (by rw [hM.2.1.1]; exact nI_lt (a := cn (S 1)) (b := 20) h4 (by decide)) c
  · intro c
    rw [c]
    decide
theorem sim_join {c D : Nat} {P : ka_P} {S : ka_F} {x : Int32} (h : RS c D P S) : simO (c + 1) D (sp_addWagon P x) (rf_joins S x) := by
  obtain ⟨hR, hM, hI, a, b, hst, hQ⟩ := h
  have hMJ := hM.joins (x := x)
  unfold sp_addWagon
  unfold rf_joins at hMJ ⊢
  rw [hR.isMine]
  by_cases c1 : rf_isMine S x = false
  · rw [if_pos c1, if_pos c1]
    exact simO_1
  · rw [if_neg c1, if_neg c1]
    rw [if_neg c1] at hMJ
    by_cases c2 : ¬ P 0 6 < 20
    · rw [if_pos c2, if_pos ((lt20 hR hM).mp c2)]
      exact simO_3
    · have c3 : ¬ S 1 = 20 := fun z => c2 ((lt20 hR hM).mpr z)
      have hn := hM.w20 c3
      have en : S 1 = nI (cn (S 1)) := hM.2.1.1
      rw [if_neg c2, if_neg c3, hR.n]
      rw [if_neg c3] at hMJ
      unfold rf_join at hMJ ⊢
      generalize hk : cn (S 1) = n at *
      rw [en, wgIx_nI hn]
      have ed : sp_joinAt P (nI n) x 0 7 = P 0 7 := by
        unfold sp_joinAt
        rw [wgIx_nI hn, pU_n (by omega), pU_n (by omega)]
        exact pU_j (fun _ => by decide)
      rw [ed]
      obtain ⟨z1, z2⟩ := rf_zero_k (S := sA S 1 1) (n := n) 10 (Nat.le_refl _)
      have hsw : swk (sA S 1 1) (wU (wU (wU (rf_zero (sA S 1 1) n 10) n 0 x) n 1 x) n 6 (-1)) n := ((z2.up (by decide)).up (by decide)).up (by decide)
      have zr : ∀ j, j < 10 → j ≠ 0 → j ≠ 1 → j ≠ 6 → wg (wU (wU (wU (rf_zero (sA S 1 1) n 10) n 0 x) n 1 x) n 6 (-1)) n j = 0 := fun j hj h0 h1 h6 => by
        rw [wU_n (by decide) hj (fun _ => h6), wU_n (by decide) hj (fun _ => h1), wU_n (by decide) hj (fun _ => h0)]
        exact z1 j hj
      have z0 : wg (wU (wU (wU (rf_zero (sA S 1 1) n 10) n 0 x) n 1 x) n 6 (-1)) n 0 = x := by
        rw [wU_n (by decide) (by decide) (fun _ => by decide), wU_n (by decide) (by decide) (fun _ => by decide), wU_s]
      have zx : wg (wU (wU (wU (rf_zero (sA S 1 1) n 10) n 0 x) n 1 x) n 6 (-1)) n 1 = x := by
        rw [wU_n (by decide) (by decide) (fun _ => by decide), wU_s]
      generalize (wU (wU (wU (rf_zero (sA S 1 1) n 10) n 0 x) n 1 x) n 6 (-1)) = T at hMJ hsw zr z0 zx ⊢
      have t1 : T 1 = nI (n + 1) := by
        rw [hsw.1 1 (by decide), sA_s, en, nI_1]
      have tc : cn (T 1) = n + 1 := by rw [t1, cn_nI (by omega)]
      have tj : ∀ j, j < 69 → j ≠ 1 → T j = S j := fun j hj h1 => (hsw.1 j hj).trans (sA_n h1)
      have hp0 : ∀ o, o ≠ 0 → o ≠ 8 + n → sp_standFrom (sp_joinAt P (nI n) x) n (P 0 7) o = P o := fun o h0 h8 => by
        unfold sp_standFrom sp_joinAt sp_add
        rw [wgIx_nI hn, pU_n h8, pU_n h8, pU_n h8, pU_n h8, pU_n h0]
      have hp1 : ∀ j, j ≠ 6 → sp_standFrom (sp_joinAt P (nI n) x) n (P 0 7) 0 j = P 0 j := fun j hj => by
        unfold sp_standFrom sp_joinAt sp_add
        rw [wgIx_nI hn, pU_n (by omega), pU_n (by omega), pU_n (by omega), pU_n (by omega)]
        exact pU_j (fun _ => hj)
      have hp6 : sp_standFrom (sp_joinAt P (nI n) x) n (P 0 7) 0 6 = P 0 6 + 1 := by
        unfold sp_standFrom sp_joinAt sp_add
        rw [wgIx_nI hn, pU_n (by omega), pU_n (by omega), pU_n (by omega), pU_n (by omega)]
        exact pU_e
      have hr : sp_standFrom (sp_joinAt P (nI n) x) n (P 0 7) (8 + n) = upd (upd (upd (upd (P (8 + n)) 0 x) 1 x) 2 0) 5 (P 0 7) := by
        unfold sp_standFrom sp_joinAt sp_add
        rw [wgIx_nI hn, pU_s, pU_s, pU_s, pU_s, pU_n (by omega)]
      have hu : URel (P (8 + n)) := (hR.2.2 n hn).2 (by omega)
      have r : RC ez0 (sp_standFrom (sp_joinAt P (nI n) x) n (P 0 7)) T := by
        obtain ⟨⟨a0, a1, a2, a3, a4, a5, a6, a7⟩, hPl, hW⟩ := hR
        refine ⟨⟨?_, ?_, ?_, ?_, ?_, ?_, fun j hj => ?_, fun j hj => ?_⟩, fun p hp => ?_, fun w hw => ?_⟩
        · rw [hp1 5 (by decide), tj 0 (by decide) (by decide)]; exact a0
        · rw [hp6, a1, t1, en, nI_1]
        · rw [hp1 7 (by decide), tj 2 (by decide) (by decide)]; exact a2
        · rw [hp1 8 (by decide), tj 3 (by decide) (by decide)]; exact a3
        · rw [hp1 9 (by decide), tj 4 (by decide) (by decide)]; exact a4
        · rw [hp1 10 (by decide), tj 5 (by decide) (by decide)]; exact a5
        · rw [hp0 29 (by decide) (by omega), tj _ (by omega) (by omega)]; exact a6 j hj
        · rw [hp0 28 (by decide) (by omega), tj _ (by omega) (by omega)]; exact a7 j hj
        · rw [hp0 (2 + p) (by omega) (by omega), pr_of (T := T) (S := S) (fun j hj => tj _ (by omega) (by omega))]
          exact hPl p hp
        · rw [tc, hp1 7 (by decide)]
          by_cases c4 : w = n
          · subst c4
            refine ⟨fun _ => ?_, fun z => absurd (Nat.lt_succ_self _) z⟩
            rw [hr]
            obtain ⟨u3, u4, u8⟩ := hu
            refine ⟨⟨?_, ?_, ?_, ?_, ?_, ?_⟩, Or.inl ⟨rfl, ?_⟩⟩
            · rw [wr_k (by decide), z0]; rfl
            · rw [wr_k (by decide), zx]; rfl
            · rw [wr_k (by decide), zr 3 (by decide) (by decide) (by decide) (by decide)]; rfl
            · rw [wr_k (by decide), zr 2 (by decide) (by decide) (by decide) (by decide)]
              show ka_b (ka_t (P (8 + w) 3)) = 0
              rw [u3]; rfl
            · rw [wr_k (by decide), zr 4 (by decide) (by decide) (by decide) (by decide)]
              exact u4
            · rw [wr_k (by decide), zr 7 (by decide) (by decide) (by decide) (by decide)]
              exact u8
            · rw [wr_k (by decide), zr 5 (by decide) (by decide) (by decide) (by decide)]
              show P 0 7 - P 0 7 = 0 + 0
              rw [Int32.sub_self]; rfl
          · rw [hp0 (8 + w) (by omega) (by omega), hsw.2 w hw c4, show wrw (sA S 1 1) w = wrw S w from wr_u (by decide)]
            have g := hW w hw
            rw [hk] at g
            exact ⟨fun q => g.1 (by omega), fun q => g.2 (by omega)⟩
      refine simO_mk rfl (okA_nn (nI_pos (by omega))) ⟨r, hMJ, (((hI.ka (j := 1) (v := S 1 + 1) (Or.inl (by decide))).wag hsw)).up (by omega), a, b, hst, ?_⟩
      have hl := hQ.len
      have hlt : ∀ w, w ∈ a ++ b → w < n := fun w hw => by
        have := hQ.lt hw
        omega
      have hg : ∀ w j, w < n → j < 10 → wg T w j = wg S w j := fun w j hw hj => by
        rw [wg_of (hsw.2 w (by omega) (by omega)) hj]
        exact sA_w (by decide)
      obtain ⟨⟨b1, b2⟩, b3, b4, b5, b6, b7, b8⟩ := hQ
      refine ⟨⟨?_, fun i w hi => ?_⟩, fun w => ?_, ?_, fun w hw => ?_, fun w hw => ?_, fun w hw => ?_, b8⟩
      · rw [hp0 30 (by decide) (by omega)]; exact b1
      · rw [hp0 31 (by decide) (by omega)]; exact b2 i w hi
      · rw [b3 w, tc, hk]
        constructor
        · rintro ⟨q1, q2⟩
          exact ⟨by omega, by rw [hg w 3 q1 (by decide)]; exact q2⟩
        · rintro ⟨q1, q2⟩
          by_cases c4 : w = n
          · rw [c4, zr 3 (by decide) (by decide) (by decide) (by decide)] at q2
            exact absurd q2 (by decide)
          · have q3 : w < n := by omega
            rw [hg w 3 q3 (by decide)] at q2
            exact ⟨q3, q2⟩
      · refine b4.imp_of_mem (fun {x y} hx hy hxy => ?_)
        rw [hg x 9 (hlt x hx) (by decide), hg y 9 (hlt y hy) (by decide)]
        exact hxy
      · rw [hg w 9 (hlt w hw) (by decide), tj 6 (by decide) (by decide)]
        exact b5 w hw
      · rw [hg w 6 (hlt w (List.mem_append_left _ hw)) (by decide)]
        exact b6 w hw
      · rw [hg w 6 (hlt w (List.mem_append_right _ hw)) (by decide)]
        exact b7 w hw
theorem why_pos {D : Nat} {P : ka_P} {S : ka_F} {e : Nat → Int32} (h : RC e P S) {w : Nat} (hn : w < cn (S 1)) (hw : w < 20) : (¬ rf_whyNot S w = 0) ↔ 0 < rf_whyNot S w := by
  unfold rf_whyNot rf_why2
  rcases h.ws hn hw with ⟨h3, _⟩ | ⟨h3, _⟩ | ⟨h3, _⟩
  · rw [h3, if_pos rfl]
    repeat' split
    all_goals decide
  · rw [h3, if_neg (show ¬ (1 : Int32) = 0 by decide)]; decide
  · rw [h3, if_neg (show ¬ (2 : Int32) = 0 by decide)]; decide
theorem sim_load {c D : Nat} {P : ka_P} {S : ka_F} {x : Int32} (h : RS c D P S) : simO (c + 1) D (sp_load P x) (rf_loads S x) := by
  obtain ⟨hR, hM, hI, a, b, hst, hQ⟩ := h
  have hML := hM.loads (x := x)
  unfold sp_load
  unfold rf_loads at hML ⊢
  rw [hR.isWagon]
  by_cases c1 : rf_isWagon S x = false
  · rw [if_pos c1, if_pos c1]
    exact simO_1
  · rw [if_neg c1, if_neg c1]
    rw [if_neg c1] at hML
    obtain ⟨w, hwn, hw, rfl⟩ := rf_isWagon_of hM (by simpa using c1)
    rw [cn_nI (by omega)] at hML ⊢
    rw [wgIx_nI hw, hR.whyNot hM hwn hw]
    by_cases c2 : ¬ rf_whyNot S w = 0
    · rw [if_pos c2, if_pos ((why_pos (D := D) hR hwn hw).mp c2)]
      exact simO_2
    · have c3 : ¬ 0 < rf_whyNot S w := fun z => c2 ((why_pos (D := D) hR hwn hw).mpr z)
      rw [if_neg c2, if_neg c3]
      rw [if_neg c3] at hML
      have hp4 := (hM.2.2.2.2 w hw).2
      have hp5 := hM.a5 hw
      rw [hR.w1 hwn hw, plIx_ub hp4]
      -- what is known of the wagon
      have c0 : rf_whyNot S w = 0 := by simpa using c2
      have k3 : wg S w 3 = 0 := by
        unfold rf_whyNot at c0
        split at c0
        · assumption
        · exact absurd c0 (by assumption)
      have k2 : wg S w 2 = 0 := by
        rcases hR.full hwn hw with ⟨_, f2⟩ | ⟨_, f2⟩
        · unfold rf_whyNot at c0
          rw [if_pos k3, if_pos f2] at c0
          exact absurd c0 (by decide)
        · exact f2
      have kh : ¬ pg S (cn (wg S w 1)) 0 < 30 := by
        unfold rf_whyNot rf_why2 at c0
        rw [if_pos k3, if_neg (by rw [k2]; decide)] at c0
        intro z
        rw [if_pos z] at c0
        split at c0
        · exact absurd c0 (by decide)
        · split at c0
          · exact absurd c0 (by decide)
          · exact absurd c0 (by decide)
      have hloads := hR.w8 hwn hw
      generalize hq : cn (wg S w 1) = q at *
      have r1 := (hR.pS (p := q) 1 0 (x := 30) hp5 (by decide)).pA (p := q) 5 5 (x := 30) hp5 (by decide)
      have q1 : QUE (sp_add (sp_sub P (2 + q) 1 30) (2 + q) 5 30) (qA (qA S q 0 (-30)) q 5 30) a b := (hQ.pl (p := q) (j := 1) (j' := 0) hM.n hp5 (by decide)).pl (by rw [qU_j (by decide)]; exact hM.n) hp5 (by decide)
      have eT : ∀ j, wg (qA (qA S q 0 (-30)) q 5 30) w j = wg S w j := fun j => (qU_w hp5 (by decide)).trans (qU_w hp5 (by decide))
      have eP : sp_add (sp_sub P (2 + q) 1 30) (2 + q) 5 30 (8 + w) = P (8 + w) := (pU_n (by omega)).trans (pU_n (by omega))
      have e1 : qA (qA S q 0 (-30)) q 5 30 1 = S 1 := (qU_j (by decide)).trans (qU_j (by decide))
      have i1 : IV c (qA (qA S q 0 (-30)) q 5 30) := by
        by_cases q0 : q = 0
        · exfalso
          unfold rf_whyNot rf_why2 at c0
          rw [if_pos k3, if_neg (by rw [k2]; decide), if_pos] at c0
          · exact absurd c0 (by decide)
          · rw [hp4.1, hq, q0]; rfl
        · exact (hI.kq (by decide) (by decide) (fun e => absurd e q0)).kq (by decide) (by decide) (fun e => absurd e q0)
      have ans : pg (qA (qA S q 0 (-30)) q 5 30) q 0 = pg S q 0 + (-30) := by
        unfold qA
        rw [qU_n (by decide) (by decide) (fun _ => by decide), qU_s]
      unfold sp_loadAt
      unfold rf_load rf_load1 at hML ⊢
      generalize sp_add (sp_sub P (2 + q) 1 30) (2 + q) 5 30 = P1 at r1 q1 eP ⊢
      generalize qA (qA S q 0 (-30)) q 5 30 = S1 at r1 q1 eT e1 i1 ans hML ⊢
      have ed : sp_add (pU P1 (8 + w) 3 (ka_b true)) (8 + w) 8 1 0 7 = P1 0 7 := by
        unfold sp_add
        rw [pU_n (by omega), pU_n (by omega)]
      have ew7 : wg (wU (wU S1 w 2 1) w 5 0) w 7 = wg S1 w 7 := by
        rw [wU_n (by decide) (by decide) (fun _ => by decide), wU_n (by decide) (by decide) (fun _ => by decide)]
      rw [ed]
      rw [ew7] at hML ⊢
      have sw : swk S1 (wU (wU (wU S1 w 2 1) w 5 0) w 7 (wg S1 w 7 + 1)) w := ((swk.rf.up (by decide)).up (by decide)).up (by decide)
      have pw : pwk P1 (sp_standFrom (sp_add (pU P1 (8 + w) 3 (ka_b true)) (8 + w) 8 1) w (P1 0 7)) w := ((pwk.rf.up).add).stand
      have hrow : sp_standFrom (sp_add (pU P1 (8 + w) 3 (ka_b true)) (8 + w) 8 1) w (P1 0 7) (8 + w) = upd (upd (upd (upd (P (8 + w)) 3 (ka_b true)) 8 (P (8 + w) 8 + 1)) 2 0) 5 (P1 0 7) := by
        unfold sp_standFrom sp_add
        rw [pU_s, pU_s, pU_s, pU_s, eP]
        rfl
      have srow : wrw (wU (wU (wU S1 w 2 1) w 5 0) w 7 (wg S1 w 7 + 1)) w = upd (upd (upd (wrw S1 w) 2 1) 5 0) 7 (wg S1 w 7 + 1) := by
        rw [wr_s (by decide), wr_s (by decide), wr_s (by decide)]
      have hn1 : w < cn (S1 1) := by rw [e1]; exact hwn
      have r : RC ez0 (sp_standFrom (sp_add (pU P1 (8 + w) 3 (ka_b true)) (8 + w) 8 1) w (P1 0 7)) (wU (wU (wU S1 w 2 1) w 5 0) w 7 (wg S1 w 7 + 1)) := by
        refine r1.wag' hw pw sw hn1 ?_
        obtain ⟨⟨g0, g1, g2, g3, g4, g5⟩, _⟩ := r1.w hn1 hw
        rw [eP] at g0 g1 g2 g3 g4 g5
        rw [hrow, srow]
        refine ⟨⟨g0, g1, ?_, rfl, g4, ?_⟩, Or.inl ⟨rfl, ?_⟩⟩
        · show (0 : Int32) = wrw S1 w 3
          rw [wr_k (by decide), eT, k3]
        · show P (8 + w) 8 + 1 = wg S1 w 7 + 1
          rw [hloads, eT]
        · show P1 0 7 - P1 0 7 = 0 + 0
          rw [Int32.sub_self]; rfl
      have m3 : wg (wU (wU (wU S1 w 2 1) w 5 0) w 7 (wg S1 w 7 + 1)) w 3 = 0 := by
        rw [wU_n (by decide) (by decide) (fun _ => by decide), wU_n (by decide) (by decide) (fun _ => by decide), wU_n (by decide) (by decide) (fun _ => by decide), eT, k3]
      have qq : QUE (sp_standFrom (sp_add (pU P1 (8 + w) 3 (ka_b true)) (8 + w) 8 1) w (P1 0 7)) (wU (wU (wU S1 w 2 1) w 5 0) w 7 (wg S1 w 7 + 1)) a b :=
        q1.of (by rw [e1]; exact hM.n) (by rw [pw 30 (by omega)]) (fun i _ => by rw [pw 31 (by omega)]) (qsS.wag sw (by rw [eT, k3]; decide) (by rw [m3]; decide))
      have av := r.pv (p := q) 1 0 hp5 (by decide)
      refine simO_mk av ?_ ⟨r, hML, (i1.wag sw).up (by omega), a, b, hst, qq⟩
      rw [av]
      have e5 : pg (wU (wU (wU S1 w 2 1) w 5 0) w 7 (wg S1 w 7 + 1)) q 0 = pg S q 0 + (-30) := by
        rw [wU_p hp5 (by decide), wU_p hp5 (by decide), wU_p hp5 (by decide), ans]
      rw [e5]
      refine okA_nn (fun z => ?_)
      have z1 := lt_int z
      have z2 := nlt_int kh
      have e30 : (30 : Int32).toInt = 30 := by decide
      have em : (-30 : Int32).toInt = -30 := by decide
      have ez : (0 : Int32).toInt = 0 := by decide
      have l1 := Int32.toInt_lt (pg S q 0)
      rw [Int32.toInt_add, em, Int.bmod_eq_of_le_mul_two (by omega) (by omega)] at z1
      omega
