/-! one call on both sides: V the world ahead, V1 behind the class's call, W2 behind the reference's -/
def STEP (c : Nat) (V V1 : ka_W) (a1 a2 : Int32) (W2 : ka_W) : Prop := a1 = a2 ∧ V1 9 = V 9 ∧ ∃ M' S', W2 = ka_ms V1 M' S' ∧ TOP (c + 60) V1 M' S'
theorem TOP.gd {c : Nat} {V : ka_W} {M : ka_P} {S : ka_F} (h : TOP c V M S) : gd (V 0) ∧ ¬ V 0 0 5 < 0 := by
  obtain ⟨⟨hR, hM, _, a, b, _, hQ⟩, _, _⟩ := h
  have e5 : V 0 0 5 = S 0 := hR.m
  have e30 := hQ.1.1
  have hl := hQ.len
  have n20 := hM.n
  refine ⟨⟨by rw [e5]; exact hM.m5, by rw [e30]; exact nI_pos (by omega)⟩, by rw [e5]; exact hM.1.pos⟩
theorem TOP.up {c c' : Nat} {V : ka_W} {M : ka_P} {S : ka_F} (h : TOP c V M S) (hc : c ≤ c') : TOP c' V M S := h.of hc (fun _ _ _ => rfl) (fun _ _ _ _ _ => rfl) rfl rfl smS.rf
theorem TOP.mk {c : Nat} {V : ka_W} {M : ka_P} {S : ka_F} (h : TOP c V M S) : MK 1999 S := h.1.2.1
theorem TOP.t4 {c : Nat} {V : ka_W} {M : ka_P} {S : ka_F} (h : TOP c V M S) : ub 4 (M 0 4) := h.2.1.t4
theorem TOP.t6 {c : Nat} {V : ka_W} {M : ka_P} {S : ka_F} (h : TOP c V M S) : ub 60 (M 0 6) := h.2.2.2.2
theorem sp_settle_9 {V : ka_W} {a : Int32} {r : Nat} (hr : 7 < r) : sp_settle V a r = V r := by
  unfold sp_settle
  split
  · rfl
  · rw [ka_sp_n (by omega)]
    unfold sp_record sp_recS ka_st
    rw [ka_sp_n (by omega)]
    unfold sp_rec2
    rw [ka_sp_n (by have := sp_recQ_lt (V := sp_rec1 V); omega)]
    unfold sp_rec1
    split
    · rfl
    · unfold sp_recM sp_recA ka_st
      rw [ka_sp_n (by omega), ka_sp_n (by omega)]
theorem st_act {c : Nat} {V : ka_W} {M : ka_P} {S : ka_F} {r : Int32 × ka_P} {q : Int32 × ka_F} (h : TOP c V M S) (hs : simO (c + 1) 1999 r q) : STEP c V (sp_act V r) r.1 q.1 (rf_fin (sp_act V r) M S q) := by
  refine ⟨hs.1, ?_, _, _, rfl, h.act hs⟩
  unfold sp_act
  rw [sp_settle_9 (by decide), ka_sp_n (by decide)]
theorem st_ask {c : Nat} {V : ka_W} {M : ka_P} {S : ka_F} {a1 a2 : Int32} (h : TOP c V M S) (e : a1 = a2) : STEP c V V a1 a2 (ka_ms V M S) := ⟨e, rfl, M, S, rfl, h.up (by omega)⟩
theorem st_mine {c : Nat} {V : ka_W} {M : ka_P} {S : ka_F} {x : Int32} (h : TOP c V M S) : STEP c V (sp_act V (sp_addMine (sp_tr V) x)) (sp_addMine (sp_tr V) x).1 (rf_mine S x).1 (rf_fin (sp_act V (sp_addMine (sp_tr V) x)) M S (rf_mine S x)) := st_act h (sim_mine h.tr)
theorem st_leg {c : Nat} {V : ka_W} {M : ka_P} {S : ka_F} {x y v : Int32} (h : TOP c V M S) : STEP c V (sp_act V (sp_changeLeg (sp_tr V) x y v)) (sp_changeLeg (sp_tr V) x y v).1 (rf_legs S x y v).1 (rf_fin (sp_act V (sp_changeLeg (sp_tr V) x y v)) M S (rf_legs S x y v)) := st_act h (sim_leg h.tr)
theorem st_wagon {c : Nat} {V : ka_W} {M : ka_P} {S : ka_F} {x : Int32} (h : TOP c V M S) : STEP c V (sp_act V (sp_addWagon (sp_tr V) x)) (sp_addWagon (sp_tr V) x).1 (rf_joins S x).1 (rf_fin (sp_act V (sp_addWagon (sp_tr V) x)) M S (rf_joins S x)) := st_act h (sim_join h.tr)
theorem st_load {c : Nat} {V : ka_W} {M : ka_P} {S : ka_F} {x : Int32} (h : TOP c V M S) : STEP c V (sp_act V (sp_load (sp_tr V) x)) (sp_load (sp_tr V) x).1 (rf_loads S x).1 (rf_fin (sp_act V (sp_load (sp_tr V) x)) M S (rf_loads S x)) := st_act h (sim_load h.tr)
theorem st_unload {c : Nat} {V : ka_W} {M : ka_P} {S : ka_F} {x : Int32} (h : TOP c V M S) (hc : c < 39000) : STEP c V (sp_act V (sp_unload (sp_tr V) x)) (sp_unload (sp_tr V) x).1 (rf_unloads S x).1 (rf_fin (sp_act V (sp_unload (sp_tr V) x)) M S (rf_unloads S x)) := st_act h (sim_unload h.tr (by omega) (by decide))
theorem st_repair {c : Nat} {V : ka_W} {M : ka_P} {S : ka_F} {x : Int32} (h : TOP c V M S) (hc : c < 39000) : STEP c V (sp_act V (sp_repair (sp_tr V) x)) (sp_repair (sp_tr V) x).1 (rf_sends S x).1 (rf_fin (sp_act V (sp_repair (sp_tr V) x)) M S (rf_sends S x)) := st_act h (sim_repair h.tr (by omega) (by decide))
theorem st_train {c : Nat} {V : ka_W} {M : ka_P} {S : ka_F} {x y k n : Int32} (h : TOP c V M S) : STEP c V (sp_act V (sp_train (sp_tr V) x y k n)) (sp_train (sp_tr V) x y k n).1 (rf_trains S x y k n).1 (rf_fin (sp_act V (sp_train (sp_tr V) x y k n)) M S (rf_trains S x y k n)) := st_act h (sim_train h.tr (by decide))
theorem st_pass {c : Nat} {V : ka_W} {M : ka_P} {S : ka_F} {x : Int32} (h : TOP c V M S) (hc : c < 39000) : STEP c V (sp_act V (sp_pass (sp_tr V) x)) (sp_pass (sp_tr V) x).1 (rf_passes S x).1 (rf_fin (sp_act V (sp_pass (sp_tr V) x)) M S (rf_passes S x)) := st_act h (sim_pass h.tr (by omega))
theorem st_set {c : Nat} {V : ka_W} {M : ka_P} {S : ka_F} {x v : Int32} (h : TOP c V M S) : STEP c V (sp_act V (sp_set (sp_tr V) x v)) (sp_set (sp_tr V) x v).1 (rf_set S x v).1 (rf_fin (sp_act V (sp_set (sp_tr V) x v)) M S (rf_set S x v)) := st_act h (sim_set h.tr)
theorem st_would {c : Nat} {V : ka_W} {M : ka_P} {S : ka_F} {x y : Int32} (h : TOP c V M S) (hc : c < 39000) : STEP c V (sp_would V x y).2 (sp_would V x y).1 (rf_wouldV S x y) (rf_wouldW (sp_would V x y).2 M S x y) := by
  have e := sim_would (x := x) (y := y) h.tr (by omega)
  have ep : sp_isPlace (V 0) x = sp_isPlace (sp_tr V) x := h.1.1.isPlace.trans h.tr.1.isPlace.symm
  have er : sp_isPlace (V 0) x = rf_isPlace S x := h.1.1.isPlace
  rw [← ep] at e
  rw [← e]
  unfold sp_would rf_wouldW
  rw [← er]
  by_cases c1 : sp_isPlace (V 0) x = false
  · rw [if_pos c1, if_pos c1, if_pos c1]
    exact st_ask h rfl
  · rw [if_neg c1, if_neg c1, if_neg c1]
    by_cases c2 : kw y 0 99 = false
    · rw [if_pos c2, if_pos c2, if_pos c2]
      exact st_ask h rfl
    · rw [if_neg c2, if_neg c2, if_neg c2]
      show STEP c V (ka_sp V 1 (sp_letDays (sp_tr V) y).2) (sp_accountOf (sp_letDays (sp_tr V) y).2 x) _ (ka_ms (ka_sp V 1 (sp_letDays (sp_tr V) y).2) (rf_aside M S 269) (cpF 269 S (rf_days S (cn y)).1))
      refine ⟨rfl, ka_sp_n (by decide), _, _, rfl, h.of (by omega) (fun r _ hr => ka_sp_n hr) (fun o _ _ h3 _ => ka_s2_n h3) ?_ ?_ cpF_sm⟩
      · exact congrFun (ka_s2_n (by decide)) 4
      · exact congrFun (ka_s2_n (by decide)) 6
theorem st_count {c : Nat} {V : ka_W} {M : ka_P} {S : ka_F} {x : Int32} (h : TOP c V M S) : STEP c V V (sp_count V x) (rf_count M S x) (ka_ms V M S) := by
  refine st_ask h ?_
  unfold sp_count
  by_cases c1 : x = 13
  · subst c1
    obtain ⟨o, k, _, ⟨_, h3, h5⟩, _⟩ := h.2.1
    rw [if_pos rfl, h3, ← h5]
    rfl
  · rw [if_neg c1]
    by_cases c2 : x = 14
    · subst c2
      rw [if_pos rfl, h.2.2.1]
      rfl
    · rw [if_neg c2]
      exact ask_count h.1 c1 c2
theorem st_undo {c : Nat} {V : ka_W} {M : ka_P} {S : ka_F} (h : TOP c V M S) : STEP c V (sp_undo V).2 (sp_undo V).1 (rf_undo (sp_undo V).2 M S).1 (rf_undo (sp_undo V).2 M S).2 := by
  obtain ⟨e, M', S', e2, h2, h3⟩ := h.undo (sp_undo V).2
  exact ⟨e, h3 9 (by decide), M', S', e2, h2.up (by omega)⟩
theorem TOP.text {c c' : Nat} {V V1 : ka_W} {M M1 : ka_P} {S S1 : ka_F} (h : TOP c V M S) (hc : c ≤ c') (hW : ∀ r, r ≠ 1 → r ≠ 7 → V1 r = V r) (ht : TXT (V1 7) M1) (h4 : M1 0 4 = M 0 4) (hM : M1 4 = M 4) (hS : smS S S1) : TOP c' V1 M1 S1 := by
  obtain ⟨h1, h2, h3⟩ := h
  refine ⟨?_, h2.of hc (fun r h0 h1 => hW r (by omega) (by omega)) h4 hM, ht⟩
  rw [hW 0 (by decide) (by decide)]
  exact (h1.up hc (Nat.le_refl _)).smr hS
theorem st_type {c : Nat} {V : ka_W} {M : ka_P} {S : ka_F} {x : Int32} (h : TOP c V M S) : STEP c V (ka_sp V 7 (st_append (V 7) x).2) (st_append (V 7) x).1 (rt_type M x).1 (ka_ms (ka_sp V 7 (st_append (V 7) x).2) (rt_type M x).2 S) := by
  have h6 := h.t6
  have e : V 7 0 2 = M 0 6 := h.2.2.1
  have key : (st_append (V 7) x).1 = (rt_type M x).1 ∧ TXT (st_append (V 7) x).2 (rt_type M x).2 ∧ (rt_type M x).2 0 4 = M 0 4 ∧ (rt_type M x).2 4 = M 4 := by
    unfold st_append rt_type
    by_cases c1 : kw x 32 126 = false
    · rw [if_pos c1, if_pos c1]
      exact ⟨rfl, h.2.2, rfl, rfl⟩
    · rw [if_neg c1, if_neg c1, e, if_neg h6.pos]
      by_cases c2 : M 0 6 = 60
      · rw [if_pos c2, if_pos (show ¬ M 0 6 < 60 by rw [c2]; decide)]
        exact ⟨rfl, h.2.2, rfl, rfl⟩
      · have l60 := ub60 h6 c2
        have c3 : M 0 6 < 60 := by
          rw [h6.1]
          exact nI_lt (a := cn (M 0 6)) (b := 60) l60 (by decide)
        rw [if_neg c2, if_neg (not_not_intro c3)]
        show M 0 6 + 1 = sp_add (pU M 5 (cn (M 0 6)) x) 0 6 1 0 6 ∧ TXT (sp_add (ka_s2 (V 7) 1 (upd (V 7 1) (cn (M 0 6)) x)) 0 2 1) (sp_add (pU M 5 (cn (M 0 6)) x) 0 6 1) ∧ sp_add (pU M 5 (cn (M 0 6)) x) 0 6 1 0 4 = M 0 4 ∧ sp_add (pU M 5 (cn (M 0 6)) x) 0 6 1 4 = M 4
        have m6 : pU M 5 (cn (M 0 6)) x 0 6 = M 0 6 := congrFun (pU_n (by decide)) 6
        have g6 : sp_add (pU M 5 (cn (M 0 6)) x) 0 6 1 0 6 = M 0 6 + 1 := by
          unfold sp_add
          rw [pU_e, m6]
        have g5 : sp_add (pU M 5 (cn (M 0 6)) x) 0 6 1 5 = upd (M 5) (cn (M 0 6)) x := by
          unfold sp_add
          rw [pU_n (by decide), pU_s]
        have t2 : ka_s2 (V 7) 1 (upd (V 7 1) (cn (M 0 6)) x) 0 2 = M 0 6 := (congrFun (ka_s2_n (by decide)) 2).trans e
        have t1 : sp_add (ka_s2 (V 7) 1 (upd (V 7 1) (cn (M 0 6)) x)) 0 2 1 1 = upd (V 7 1) (cn (M 0 6)) x := by
          unfold sp_add
          rw [pU_n (by decide), ka_s2_s]
        have t02 : sp_add (ka_s2 (V 7) 1 (upd (V 7 1) (cn (M 0 6)) x)) 0 2 1 0 2 = M 0 6 + 1 := by
          unfold sp_add
          rw [pU_e, t2]
        have g4 : sp_add (pU M 5 (cn (M 0 6)) x) 0 6 1 0 4 = M 0 4 := by
          unfold sp_add
          rw [pU_j (fun _ => by decide)]
          exact congrFun (pU_n (by decide)) 4
        have g44 : sp_add (pU M 5 (cn (M 0 6)) x) 0 6 1 4 = M 4 := by
          unfold sp_add
          rw [pU_n (by decide), pU_n (by decide)]
        have u1 : M 0 6 + 1 = nI (cn (M 0 6) + 1) := by
          rw [← nI_1, ← h6.1]
        refine ⟨g6.symm, ⟨t02.trans g6.symm, fun j hj => ?_, ?_⟩, g4, g44⟩
        · rw [t1, g5]
          by_cases cj : j = cn (M 0 6)
          · subst cj
            rw [pk_us, pk_us]
          · rw [pk_un cj, pk_un cj]
            exact h.2.2.2.1 j hj
        · rw [g6, u1]
          exact ub_nI (by omega) (by decide)
  refine ⟨key.1, ka_sp_n (by decide), _, _, rfl, h.text (by omega) (fun r _ hr => ka_sp_n hr) ?_ key.2.2.1 key.2.2.2 smS.rf⟩
  rw [ka_sp_s]
  exact key.2.1
theorem st_clear {c : Nat} {V : ka_W} {M : ka_P} {S : ka_F} (h : TOP c V M S) : STEP c V (ka_sp V 7 (pU (V 7) 0 2 0)) (V 7 0 2) (M 0 6) (ka_ms (ka_sp V 7 (pU (V 7) 0 2 0)) (pU M 0 6 0) S) := by
  refine ⟨h.2.2.1, ka_sp_n (by decide), _, _, rfl, h.text (by omega) (fun r _ hr => ka_sp_n hr) ?_ (pU_j (fun _ => by decide)) (pU_n (by decide)) smS.rf⟩
  rw [ka_sp_s]
  refine ⟨?_, fun j hj => ?_, ?_⟩
  · rw [pU_e, pU_e]
  · rw [pU_n (by decide), pU_n (by decide)]
    exact h.2.2.2.1 j hj
  · rw [pU_e]
    exact ub_nI (m := 0) (Nat.zero_le _) (by decide)
/-- what a text does on both sides -/
theorem TOP.ran {c : Nat} {V : ka_W} {M : ka_P} {S : ka_F} (h : TOP c V M S) (hc : c < 39000) : DA c 60 (st_all (V 7) (sp_tr V)) (rt_all (rf_beg M S) S) ∧ TOP (c + 60) (sp_ran V) (rt_all (rf_beg M S) S).1 S ∧ ∀ k, k < 269 → (rt_all (rf_beg M S) S).1 2 k = S k := by
  have ht : TXT (V 7) (rf_beg M S) := h.2.2.of rfl rfl (congrFun (rf_beg_n (by decide)) 6) (rf_beg_n (by decide))
  have hd := all_sim ht h.tr hc
  have hi : rt_inv (rf_beg M S) 60 (rt_all (rf_beg M S) S) := rt_allX_inv ht.2.2 h.mk 60
  obtain ⟨_, _, ⟨k4, k2, kp4, _⟩, _⟩ := hi
  refine ⟨hd, h.text (by omega) (fun r h1 h7 => (ka_sp_n h7).trans (ka_sp_n h1)) ?_ ?_ ?_ smS.rf, fun k hk => ?_⟩
  · unfold sp_ran
    rw [ka_sp_s]
    exact hd.1
  · rw [k4]
    exact congrFun (rf_beg_n (by decide)) 4
  · rw [kp4]
    exact rf_beg_n (by decide)
  · rw [k2, rf_beg_2, cpF_lt hk]
theorem st_fault {c : Nat} {V : ka_W} {M : ka_P} {S : ka_F} {x : Int32} (h : TOP c V M S) (hc : c < 39000) : STEP c V (sp_fault V x).2 (sp_fault V x).1 (rt_fault M S x) (rt_faultW (sp_fault V x).2 M S x) := by
  obtain ⟨hd, h2, _⟩ := h.ran hc
  have h9 : sp_ran V 9 = V 9 := (ka_sp_n (by decide)).trans (ka_sp_n (by decide))
  unfold sp_fault rt_fault rt_faultW
  by_cases c1 : kw x 0 2 = false
  · rw [if_pos c1, if_pos c1, if_pos c1]
    exact st_ask h rfl
  · rw [if_neg c1, if_neg c1, if_neg c1]
    have fin : ∀ a1 a2 : Int32, a1 = a2 → STEP c V (sp_ran V) a1 a2 (ka_ms (sp_ran V) (rt_all (rf_beg M S) S).1 (cpF 269 S (rt_all (rf_beg M S) S).2.1)) := fun a1 a2 e => ⟨e, h9, _, _, rfl, h2.text (Nat.le_refl _) (fun _ _ _ => rfl) h2.2.2 rfl rfl cpF_sm⟩
    unfold sp_rt
    rcases hd.2 with ⟨g1, _, g3, _⟩ | ⟨g1, g2, g3, g4⟩
    · rw [g3, if_pos (show ka_t 0 = false by decide), if_pos g1]
      exact fin _ _ rfl
    · have n7 : ¬ ka_t ((st_all (V 7) (sp_tr V)).1 0 7) = false := by
        rw [g3]
        split <;> decide
      rw [if_neg n7, if_neg (show ¬ (rt_all (rf_beg M S) S).2.2 = true by rw [g1]; decide)]
      unfold rt_faultR
      by_cases e0 : x = 0
      · rw [if_pos e0, if_pos e0]
        dsimp only
        exact fin _ _ g2
      · rw [if_neg e0, if_neg e0]
        by_cases e1 : x = 1
        · rw [if_pos e1, if_pos e1]
          dsimp only
          exact fin _ _ g3
        · rw [if_neg e1, if_neg e1]
          dsimp only
          exact fin _ _ g4
theorem st_play {c : Nat} {V : ka_W} {M : ka_P} {S : ka_F} (h : TOP c V M S) (hc : c < 39000) : STEP c V (sp_settle (sp_ran V) (sp_playA V)) (sp_playA V) (rt_playA M S) (rt_playW (sp_settle (sp_ran V) (sp_playA V)) M S) := by
  obtain ⟨hd, h2, h3⟩ := h.ran hc
  have h9 : sp_ran V 9 = V 9 := (ka_sp_n (by decide)).trans (ka_sp_n (by decide))
  have r1 : sp_ran V 1 = (st_all (V 7) (sp_tr V)).2 := (ka_sp_n (by decide)).trans ka_sp_s
  have key : sp_playA V = rt_playA M S ∧ okA (sp_playA V) ∧ (-2000000001 < sp_playA V → RS (c + 60) 1999 (sp_ran V 1) (rt_all (rf_beg M S) S).2.1) := by
    unfold sp_playA rt_playA sp_rt
    rw [r1]
    rcases hd.2 with ⟨g1, _, g3, g5, ⟨n, hn, g6⟩, g7⟩ | ⟨g1, g2, g3, g4⟩
    · rw [g3, if_neg (show ¬ ka_t 0 = true by decide), if_pos g1, g5, g6]
      refine ⟨rfl, ?_, fun _ => g7⟩
      exact okA_nn (nI_pos (by omega))
    · have n7 : ka_t ((st_all (V 7) (sp_tr V)).1 0 7) = true := by
        rw [g3]
        split <;> decide
      rw [if_pos n7, if_neg (show ¬ (rt_all (rf_beg M S) S).2.2 = true by rw [g1]; decide)]
      exact ⟨rfl, Or.inl ⟨by decide, by decide⟩, fun z => absurd z (by decide)⟩
  refine ⟨key.1, ?_, _, _, rfl, ?_⟩
  · rw [sp_settle_9 (by decide)]
    exact h9
  · rw [← key.1]
    exact h2.settle (Nat.le_refl _) key.2.1 h3 key.2.2
/-- the worlds behind a call -/
theorem STEP.w {c : Nat} {V V1 : ka_W} {M : ka_P} {S : ka_F} (h : V 9 = ka_s2 M 1 S) (h9 : V1 9 = V 9) : V1 = ka_ms V1 M S := by
  unfold ka_ms
  rw [← h, ← h9, ka_sp_self]
theorem TOP.ms {c : Nat} {V : ka_W} {M : ka_P} {S : ka_F} (h : TOP c V M S) : TOP c (ka_ms V M S) M S := h.of (Nat.le_refl _) (fun r hr _ => ka_sp_n (by omega)) (fun _ _ _ _ _ => rfl) rfl rfl smS.rf
theorem ka_ms_9 {V : ka_W} {M : ka_P} {S : ka_F} : ka_ms V M S 9 = ka_s2 M 1 S := ka_sp_s
