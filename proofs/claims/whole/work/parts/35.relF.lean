/-! trains on both sides -/
theorem bit_nI : ∀ i, i < 20 → (1 <<< (nI i &&& 31) : Int32) = nI (2 ^ i) := by decide
theorem nI_or (a b : Nat) : nI a ||| nI b = nI (a ||| b) := by
  apply Int32.toBitVec_inj.mp
  rw [Int32.toBitVec_or]
  show BitVec.ofNat 32 a ||| BitVec.ofNat 32 b = BitVec.ofNat 32 (a ||| b)
  exact BitVec.ofNat_or.symm
theorem or_bit {m i : Nat} (hi : i < 20) (hm : m < 2 ^ i) : nI m ||| (1 <<< (nI i &&& 31)) = nI (2 ^ i + m) := by
  have h := Nat.two_pow_add_eq_or_of_lt hm 1
  rw [Nat.mul_one] at h
  rw [bit_nI i hi, nI_or, Nat.or_comm, ← h]
theorem ofKind_eq {e : Nat → Int32} {P : ka_P} {S : ka_F} (h : RC e P S) {w : Nat} (hn : w < cn (S 1)) (hw : w < 20) {kind : Int32} (hk : kw kind 0 2 = true) : sp_isOfKind P w kind = decide (kind = 2 ∨ wg S w 2 = kind) := by
  obtain ⟨k, hk2, rfl⟩ := kw_nat (n := 2) (by decide) hk
  unfold sp_isOfKind
  rcases h.full hn hw with ⟨f1, f2⟩ | ⟨f1, f2⟩
  · rw [f1, f2]
    rcases (show k = 0 ∨ k = 1 ∨ k = 2 by omega) with rfl | rfl | rfl <;> decide
  · rw [f1, f2]
    rcases (show k = 0 ∨ k = 1 ∨ k = 2 by omega) with rfl | rfl | rfl <;> decide
def trR (c : Nat) (S : ka_F) (a b : List Nat) (i : Nat) (x : ka_P × Int32 × Int32 × Bool) (y : ka_F × Int32 × Int32 × Int32) : Prop :=
  (RC ez0 x.1 y.1 ∧ QUE x.1 y.1 a b ∧ IV c y.1 ∧ ∀ j, j < 69 → y.1 j = S j) ∧ (x.2.1 = y.2.1 ∧ ∃ m, m < 2 ^ i ∧ y.2.1 = nI m) ∧ x.2.2.1 = y.2.2.1 ∧ ∃ f, f ≤ i ∧ y.2.2.2 = nI f ∧ x.2.2.2 = decide (f = 0)
theorem trR.up {c : Nat} {S : ka_F} {a b : List Nat} {i : Nat} {x : ka_P × Int32 × Int32 × Bool} {y : ka_F × Int32 × Int32 × Int32} (h : trR c S a b i x y) : trR c S a b (i + 1) x y := by
  obtain ⟨h1, ⟨h2, m, hm, h3⟩, h4, f, hf, h5⟩ := h
  exact ⟨h1, ⟨h2, m, by rw [Nat.pow_succ]; omega, h3⟩, h4, f, by omega, h5⟩
theorem tr_go {c D : Nat} {S : ka_F} {a b : List Nat} {i : Nat} {to leg : Int32} {x : ka_P × Int32 × Int32 × Bool} {y : ka_F × Int32 × Int32 × Int32} (h : trR c S a b i x y) (hM : MK D S) (hD : D ≤ 2200) (hlg : ub 9 leg) (hi : i < cn (S 1)) (hst : wg y.1 i 3 = 0) :
    trR c S a b (i + 1) (sp_leaveFor x.1 i to (x.1 0 7) leg, x.2.1 ||| (1 <<< (nI i &&& 31)), x.2.2.1 + 1, x.2.2.2 && !sp_full (sp_leaveFor x.1 i to (x.1 0 7) leg) i) (rf_tr1 to leg i y) := by
  obtain ⟨⟨hR, hQ, hI, hJ⟩, ⟨h2, m, hm, h3⟩, h4, f, hf, h5, h6⟩ := h
  have hi20 : i < 20 := Nat.lt_of_lt_of_le hi hM.n
  have hi' : i < cn (y.1 1) := by rw [hJ 1 (by decide)]; exact hi
  have hn' : cn (y.1 1) ≤ 20 := by rw [hJ 1 (by decide)]; exact hM.n
  have hd := hM.2.2.1
  have eday : rf_go1 y.1 i to 2 = y.1 2 := (wU_j (by decide)).trans (wU_j (by decide))
  have pw : pwk x.1 (sp_leaveFor x.1 i to (x.1 0 7) leg) i := (((pwk.rf.up).up).up).up
  have hrow : sp_leaveFor x.1 i to (x.1 0 7) leg (8 + i) = upd (upd (upd (upd (x.1 (8 + i)) 2 1) 1 to) 7 leg) 6 (x.1 0 7 + leg) := by
    unfold sp_leaveFor
    rw [pU_s, pU_s, pU_s, pU_s]
  have hG : rf_go y.1 i to leg = wU (wU (wU (wU y.1 i 3 1) i 1 to) i 6 (y.1 2 + leg)) i 8 leg := by
    unfold rf_go
    rw [eday]
    rfl
  have sw : swk y.1 (rf_go y.1 i to leg) i := by
    rw [hG]
    exact (((swk.rf.up (by decide)).up (by decide)).up (by decide)).up (by decide)
  have srow : wrw (rf_go y.1 i to leg) i = upd (upd (upd (upd (wrw y.1 i) 3 1) 1 to) 6 (y.1 2 + leg)) 8 leg := by
    rw [hG, wr_s (by decide), wr_s (by decide), wr_s (by decide), wr_s (by decide)]
  have hpos : ¬ y.1 2 + leg < 0 := by
    rw [hJ 2 (by decide), hd.1, hlg.1, nI_add]
    have := hd.2
    have := hlg.2
    exact nI_pos (by omega)
  have r : RC ez0 (sp_leaveFor x.1 i to (x.1 0 7) leg) (rf_go y.1 i to leg) := by
    refine hR.wag' hi20 pw sw hi' ?_
    obtain ⟨⟨g0, g1, g2, g3, g4, g5⟩, _⟩ := hR.w hi' hi20
    rw [hrow, srow]
    refine ⟨⟨g0, rfl, rfl, g3, g4, g5⟩, Or.inr (Or.inl ⟨rfl, ?_, ?_, rfl⟩)⟩
    · show x.1 0 7 + leg = y.1 2 + leg
      rw [hR.d]
    · show ¬ y.1 2 + leg < 0
      exact hpos
  have g3 : wg (rf_go y.1 i to leg) i 3 = 1 := by
    rw [← wr_k (by decide), srow]; rfl
  have q : QUE (sp_leaveFor x.1 i to (x.1 0 7) leg) (rf_go y.1 i to leg) a b :=
    hQ.of hn' (by rw [pw 30 (by omega)]) (fun k _ => by rw [pw 31 (by omega)]) (qsS.wag sw (by rw [hst]; decide) (by rw [g3]; decide))
  have ef : sp_full (sp_leaveFor x.1 i to (x.1 0 7) leg) i = sp_full x.1 i := by
    unfold sp_full
    rw [hrow]
    rfl
  refine ⟨⟨r, q, hI.wag sw, fun j hj => (sw.1 j hj).trans (hJ j hj)⟩, ⟨?_, 2 ^ i + m, ?_, ?_⟩, ?_, ?_⟩
  · show x.2.1 ||| _ = y.2.1 ||| _
    rw [h2]
  · rw [Nat.pow_succ]; omega
  · show y.2.1 ||| _ = _
    rw [h3, or_bit hi20 hm]
  · show x.2.2.1 + 1 = y.2.2.1 + 1
    rw [h4]
  · show ∃ g, g ≤ i + 1 ∧ y.2.2.2 + wg y.1 i 2 = nI g ∧ (x.2.2.2 && !sp_full (sp_leaveFor x.1 i to (x.1 0 7) leg) i) = decide (g = 0)
    rw [ef, h5]
    rcases hR.full hi' hi20 with ⟨f1, f2⟩ | ⟨f1, f2⟩
    · rw [f1, f2]
      exact ⟨f + 1, by omega, nI_1 f, by simp⟩
    · rw [f1, f2]
      exact ⟨f, by omega, Int32.add_zero _, by rw [h6]; simp⟩
theorem tr_at {c D : Nat} {S : ka_F} {a b : List Nat} {i : Nat} {frm to kind many leg : Int32} {x : ka_P × Int32 × Int32 × Bool} {y : ka_F × Int32 × Int32 × Int32} (h : trR c S a b i x y) (hM : MK D S) (hD : D ≤ 2200) (hlg : ub 9 leg) (hk : kw kind 0 2 = true) (hi : i < cn (S 1)) : trR c S a b (i + 1) (sp_trainAt frm to kind many leg i x) (rf_trainAt frm to kind many leg i y) := by
  have hi20 : i < 20 := Nat.lt_of_lt_of_le hi hM.n
  have hR := h.1.1
  have hJ := h.1.2.2.2
  have hi' : i < cn (y.1 1) := by rw [hJ 1 (by decide)]; exact hi
  unfold sp_trainAt rf_trainAt
  rw [wgIx_nI hi20, h.2.2.1, hR.stands hi' hi20, ofKind_eq hR hi' hi20 hk]
  split
  · exact h.up
  · split
    · next c2 =>
      have hst : wg y.1 i 3 = 0 := by
        unfold rf_stands at c2
        rw [Bool.and_eq_true, decide_eq_true_eq] at c2
        exact c2.1
      have g := tr_go (to := to) h hM hD hlg hi hst
      rw [h.2.2.1] at g
      by_cases c3 : kind = 2
      · rw [if_pos c3, if_pos (by simp [c3])]
        exact g
      · by_cases c4 : wg y.1 i 2 = kind
        · rw [if_neg c3, if_pos c4, if_pos (by simp [c4])]
          exact g
        · rw [if_neg c3, if_neg c4, if_neg (by simp [c3, c4])]
          exact h.up
    · exact h.up
theorem sim_train {c D : Nat} {P : ka_P} {S : ka_F} {x y kind many : Int32} (h : RS c D P S) (hD : D ≤ 2200) : simO (c + 1) D (sp_train P x y kind many) (rf_trains S x y kind many) := by
  have h0 := h
  obtain ⟨hR, hM, hI, a, b, hst, hQ⟩ := h
  have hML := hM.trains (a := x) (b := y) (kd := kind) (mn := many)
  unfold sp_train
  unfold rf_trains at hML ⊢
  rw [isLeg_eq hR]
  by_cases c1 : rf_isPlace S x = false
  · rw [if_pos c1, if_pos (show (rf_isPlace S x && rf_isPlace S y && !decide (x = y)) = false by simp [c1])]
    exact simO_1
  · by_cases c2 : rf_isPlace S y = false
    · rw [if_neg c1, if_pos c2, if_pos (show (rf_isPlace S x && rf_isPlace S y && !decide (x = y)) = false by simp [c2])]
      exact simO_1
    · rw [if_neg c1, if_neg c2]
      rw [if_neg c1, if_neg c2] at hML
      have t1 : rf_isPlace S x = true := by simpa using c1
      have t2 : rf_isPlace S y = true := by simpa using c2
      by_cases c3 : x = y
      · rw [if_pos c3, if_pos (show (rf_isPlace S x && rf_isPlace S y && !decide (x = y)) = false by simp [c3])]
        exact simO_1
      · rw [if_neg c3, if_neg (show ¬ (rf_isPlace S x && rf_isPlace S y && !decide (x = y)) = false by simp [c3, t1, t2])]
        rw [if_neg c3] at hML
        by_cases c4 : kw kind 0 2 = false
        · rw [if_pos c4, if_pos c4]
          exact simO_1
        · rw [if_neg c4, if_neg c4]
          rw [if_neg c4] at hML
          by_cases c5 : kw many 1 8 = false
          · rw [if_pos c5, if_pos c5]
            exact simO_1
          · rw [if_neg c5, if_neg c5, hR.n]
            rw [if_neg c5] at hML
            obtain ⟨i, hi, rfl⟩ := rf_isPlace_of hM t1
            obtain ⟨j, hj, rfl⟩ := rf_isPlace_of hM t2
            have elg : sp_legDays P (nI i) (nI j) = rf_leg S (nI i) (nI j) := by
              unfold rf_leg
              rw [hR.legs hi hj, cn_nI (by omega), cn_nI (by omega)]
            have ulg : ub 9 (rf_leg S (nI i) (nI j)) := by
              unfold rf_leg
              rw [cn_nI (by omega), cn_nI (by omega), show 14 + 5 * i + j = 14 + (5 * i + j) by omega]
              exact hI.1.2 (5 * i + j) (by omega)
            have key : ∀ k, k ≤ cn (S 1) → trR c S a b k (sp_trainX P (nI i) (nI j) kind many k) (rf_trainX S (nI i) (nI j) kind many k) := by
              intro k
              induction k with
              | zero => exact fun _ => ⟨⟨hR, hQ, hI, fun _ _ => rfl⟩, ⟨rfl, 0, by decide, rfl⟩, rfl, 0, Nat.le_refl _, rfl, rfl⟩
              | succ k ih =>
                intro hk
                rw [sp_trainX_s, rf_trainX_s, elg]
                exact tr_at (ih (by omega)) hM hD ulg (by simpa using c4) (by omega)
            have t := key _ (Nat.le_refl _)
            generalize sp_trainX P (nI i) (nI j) kind many (cn (S 1)) = X at t ⊢
            generalize rf_trainX S (nI i) (nI j) kind many (cn (S 1)) = Y at t hML ⊢
            obtain ⟨⟨r, q, iv, hJ⟩, ⟨e2, m, hm, e3⟩, e4, f, hf, e5, e6⟩ := t
            rw [e4]
            by_cases c6 : Y.2.2.1 = 0
            · rw [if_pos c6, if_pos c6]
              exact ⟨rfl, okA_2, fun z => absurd (show (-2000000001 : Int32) < -2000000002 from z) (by decide)⟩
            · rw [if_neg c6, if_neg c6]
              rw [if_neg c6] at hML
              have hm31 : m < 2 ^ 31 := Nat.lt_of_lt_of_le hm (Nat.pow_le_pow_right (by decide) (by have := hM.n; omega))
              have hn' : cn (Y.1 1) ≤ 20 := by rw [hJ 1 (by decide)]; exact hM.n
              have r1 := r.hd 9 4 (v := 1) (Or.inr (Or.inr (Or.inl ⟨rfl, rfl⟩)))
              have q1 : QUE (sp_add X.1 0 9 1) (sA Y.1 4 1) a b := q.hd hn' (by decide) (by decide) (by decide)
              have i1 : IV c (sA Y.1 4 1) := iv.ka (Or.inr (Or.inr (Or.inl rfl)))
              have ok : okA X.2.1 := by
                rw [e2, e3]
                exact okA_nn (nI_pos hm31)
              by_cases c7 : f = 0
              · subst c7
                rw [if_pos (show X.2.2.2 = true by rw [e6]; rfl), if_pos (show Y.2.2.2 = 0 by rw [e5]; rfl)]
                rw [if_pos (show Y.2.2.2 = 0 by rw [e5]; rfl)] at hML
                refine simO_mk e2 ok ⟨r1.hd 10 5 (v := 1) (Or.inr (Or.inr (Or.inr ⟨rfl, rfl⟩))), hML, (IV.ka i1 (Or.inr (Or.inr (Or.inr rfl)))).up (by omega), a, b, hst, ?_⟩
                exact q1.hd (by rw [sA_n (by decide)]; exact hn') (by decide) (by decide) (by decide)
              · have hne : ¬ Y.2.2.2 = 0 := by
                  rw [e5]
                  have := hM.n
                  exact nI_ne0 (by omega) (by omega)
                rw [if_neg (show ¬ X.2.2.2 = true by rw [e6]; simp [c7]), if_neg hne, sA_0]
                rw [if_neg hne, sA_0] at hML
                exact simO_mk e2 ok ⟨r1, hML, i1.up (by omega), a, b, hst, q1⟩
