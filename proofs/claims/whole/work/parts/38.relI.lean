/-! what is asked, on both sides -/
theorem itr_cg {σ : Type} {f g : Nat → σ → σ} {s : σ} {n : Nat} (h : ∀ i x, i < n → f i x = g i x) : ∀ m, m ≤ n → itr f m s = itr g m s
  | 0, _ => rfl
  | m + 1, hm => by
    rw [itr_s, itr_s, itr_cg h m (by omega), h m _ (by omega)]
theorem ask_wagon {c D : Nat} {P : ka_P} {S : ka_F} {x y : Int32} (h : RS c D P S) : sp_tellWagon P x y = rf_wagonOf S x y := by
  obtain ⟨hR, hM, hI, _⟩ := h
  unfold sp_tellWagon rf_wagonOf
  rw [hR.isWagon]
  by_cases c1 : rf_isWagon S x = false
  · rw [if_pos c1, if_pos c1]
  · rw [if_neg c1, if_neg c1]
    by_cases c2 : kw y 0 8 = false
    · rw [if_pos c2, if_pos c2]
    · rw [if_neg c2, if_neg c2]
      have c2' : kw y 0 8 = true := by simpa using c2
      obtain ⟨w, hwn, hw, rfl⟩ := rf_isWagon_of hM (by simpa using c1)
      obtain ⟨k, hk, rfl⟩ := kw_nat (n := 8) (by decide) c2'
      rw [wgIx_nI hw, cn_nI (n := w) (by omega), cn_nI (n := k) (by omega), hR.w0 hwn hw, hR.w1 hwn hw, hR.w2 hwn hw, hR.w3 hwn hw, hR.w4 hwn hw, hR.w8 hwn hw, hR.whyNot hM hwn hw]
      have h5 : (if wg S w 3 = 0 then P 0 7 - P (8 + w) 5 else -2000000004) = if wg S w 3 = 0 then wg S w 5 else -2000000004 := by
        by_cases c3 : wg S w 3 = 0
        · rw [if_pos c3, if_pos c3]
          rcases hR.ws hwn hw with q | q | q
          · rw [q.2]
            exact Int32.add_zero _
          · rw [c3] at q; exact absurd q.1 (by decide)
          · rw [c3] at q; exact absurd q.1 (by decide)
        · rw [if_neg c3, if_neg c3]
      have h6 : (if wg S w 3 = 0 then -2000000004 else if P (8 + w) 6 = -1 then -2000000004 else P (8 + w) 6 - P 0 7) = rf_daysOf S w := by
        unfold rf_daysOf
        by_cases c3 : wg S w 3 = 0
        · rw [if_pos c3, if_pos c3]
        · rw [if_neg c3, if_neg c3, hR.d]
          have e : P (8 + w) 6 = wg S w 6 ∧ (wg S w 6 = -1 ∨ ¬ wg S w 6 < 0) := by
            rcases hR.ws hwn hw with q | q | q
            · exact absurd q.1 c3
            · exact ⟨q.2.1, Or.inr q.2.2.1⟩
            · exact ⟨q.2.1, q.2.2⟩
          rw [e.1]
          rcases e.2 with q | q
          · rw [if_pos q, if_pos (by rw [q]; decide)]
          · rw [if_neg (fun z => q (by rw [z]; decide)), if_neg q]
      rw [h5, h6]
      rcases (show k = 0 ∨ k = 1 ∨ k = 2 ∨ k = 3 ∨ k = 4 ∨ k = 5 ∨ k = 6 ∨ k = 7 ∨ k = 8 by omega) with rfl | rfl | rfl | rfl | rfl | rfl | rfl | rfl | rfl <;> rfl
theorem loop_stand {c D : Nat} {P : ka_P} {S : ka_F} {p k : Int32} (h : RS c D P S) (hk : kw k 0 1 = true) : sp_setStanding P p k = rf_standX S p k (cn (S 1)) := by
  obtain ⟨hR, hM, hI, _⟩ := h
  unfold sp_setStanding
  rw [hR.n]
  refine itr_cg (n := cn (S 1)) (fun i x hi => ?_) _ (Nat.le_refl _)
  have hi20 : i < 20 := Nat.lt_of_lt_of_le hi hM.n
  obtain ⟨j, hj, rfl⟩ := kw_nat (n := 1) (by decide) hk
  have hk2 : kw (nI j) 0 2 = true := by
    rcases (show j = 0 ∨ j = 1 by omega) with rfl | rfl <;> decide
  have hne : ¬ nI j = 2 := by
    rcases (show j = 0 ∨ j = 1 by omega) with rfl | rfl <;> decide
  unfold sp_standAt rf_standAt
  rw [wgIx_nI hi20, hR.stands hi hi20, ofKind_eq hR hi hi20 hk2, Int32.or_zero]
  by_cases c1 : rf_stands S i p = true
  · rw [if_pos c1, if_pos c1]
    by_cases c2 : wg S i 2 = nI j
    · rw [if_pos c2, if_pos (by simp [c2])]
    · rw [if_neg c2, if_neg (by simp [c2, hne])]
  · rw [if_neg c1, if_neg c1]
theorem loop_go {c D : Nat} {P : ka_P} {S : ka_F} {p : Int32} (h : RS c D P S) : sp_setGoing P p = rf_goX S p (cn (S 1)) := by
  obtain ⟨hR, hM, hI, _⟩ := h
  unfold sp_setGoing
  rw [hR.n]
  refine itr_cg (n := cn (S 1)) (fun i x hi => ?_) _ (Nat.le_refl _)
  have hi20 : i < 20 := Nat.lt_of_lt_of_le hi hM.n
  unfold sp_goingAt rf_goAt sp_goesTo
  rw [wgIx_nI hi20, hR.w2 hi hi20, hR.w1 hi hi20, Int32.or_zero]
  by_cases c1 : wg S i 3 = 1
  · by_cases c2 : wg S i 1 = p
    · rw [if_pos c1, if_pos c2, if_pos (by simp [c1, c2])]
    · rw [if_pos c1, if_neg c2, if_neg (by simp [c2])]
  · rw [if_neg c1, if_neg (by simp [c1])]
theorem loop_own {c D : Nat} {P : ka_P} {S : ka_F} {p : Int32} (h : RS c D P S) : sp_setOwned P p = rf_ownX S p (cn (S 1)) := by
  obtain ⟨hR, hM, hI, _⟩ := h
  unfold sp_setOwned
  rw [hR.n]
  refine itr_cg (n := cn (S 1)) (fun i x hi => ?_) _ (Nat.le_refl _)
  have hi20 : i < 20 := Nat.lt_of_lt_of_le hi hM.n
  unfold sp_ownedAt rf_ownAt
  rw [wgIx_nI hi20, hR.w0 hi hi20, Int32.or_zero]
theorem ask_place {c D : Nat} {P : ka_P} {S : ka_F} {x y : Int32} (h : RS c D P S) : sp_tellPlace P x y = rf_placeOf S x y := by
  have h0 := h
  obtain ⟨hR, hM, hI, _⟩ := h
  unfold sp_tellPlace rf_placeOf
  rw [hR.isPlace]
  by_cases c1 : rf_isPlace S x = false
  · rw [if_pos c1, if_pos c1]
  · rw [if_neg c1, if_neg c1]
    by_cases c2 : kw y 0 9 = false
    · rw [if_pos c2, if_pos c2]
    · rw [if_neg c2, if_neg c2]
      have c2' : kw y 0 9 = true := by simpa using c2
      obtain ⟨p, hp, rfl⟩ := rf_isPlace_of hM (by simpa using c1)
      obtain ⟨k, hk, rfl⟩ := kw_nat (n := 9) (by decide) c2'
      have e2 : sp_tellPlace2 P (nI p) (nI k) = rf_placeOf2 S (nI p) (nI k) := by
        unfold sp_tellPlace2 rf_placeOf2
        rw [plIx_nI hp, cn_nI (n := p) (by omega), hR.pv 1 0 hp (by decide), hR.pv 0 1 hp (by decide), hR.pv 2 2 hp (by decide), hR.pv 3 3 hp (by decide), hR.pv 4 4 hp (by decide), hR.pv 5 5 hp (by decide), loop_stand h0 (k := 0) (by decide), loop_stand h0 (k := 1) (by decide), loop_go h0, loop_own h0]
        rcases (show k = 0 ∨ k = 1 ∨ k = 2 ∨ k = 3 ∨ k = 4 ∨ k = 5 ∨ k = 6 ∨ k = 7 ∨ k = 8 ∨ k = 9 by omega) with rfl | rfl | rfl | rfl | rfl | rfl | rfl | rfl | rfl | rfl <;> rfl
      rw [e2]
      by_cases c3 : nI p = 0
      · rw [if_pos c3, if_pos c3]
        generalize rf_placeOf2 S (nI p) (nI k) = z
        rcases (show k = 0 ∨ k = 1 ∨ k = 2 ∨ k = 3 ∨ k = 4 ∨ k = 5 ∨ k = 6 ∨ k = 7 ∨ k = 8 ∨ k = 9 by omega) with rfl | rfl | rfl | rfl | rfl | rfl | rfl | rfl | rfl | rfl <;> rfl
      · rw [if_neg c3, if_neg c3]
theorem ask_days {c D : Nat} {P : ka_P} {S : ka_F} {x y : Int32} (h : RS c D P S) : sp_daysOf P x y = rf_daysT S x y := by
  obtain ⟨hR, hM, hI, _⟩ := h
  unfold sp_daysOf rf_daysT
  rw [isLeg_eq hR]
  by_cases c1 : rf_isPlace S x = false
  · rw [if_pos c1, if_pos (by simp [c1])]
  · by_cases c2 : rf_isPlace S y = false
    · rw [if_neg c1, if_pos c2, if_pos (by simp [c2])]
    · have t1 : rf_isPlace S x = true := by simpa using c1
      have t2 : rf_isPlace S y = true := by simpa using c2
      rw [if_neg c1, if_neg c2]
      by_cases c3 : x = y
      · rw [if_pos c3, if_pos (by simp [c3])]
      · rw [if_neg c3, if_neg (by simp [c3, t1, t2])]
        obtain ⟨i, hi, rfl⟩ := rf_isPlace_of hM t1
        obtain ⟨j, hj, rfl⟩ := rf_isPlace_of hM t2
        rw [hR.legs hi hj, cn_nI (by omega), cn_nI (by omega)]
theorem loop_ready {c D : Nat} {P : ka_P} {S : ka_F} {p : Int32} (h : RS c D P S) : sp_readyAt_ P p = rf_ready S p := by
  obtain ⟨hR, hM, hI, _⟩ := h
  unfold sp_readyAt_ rf_ready
  rw [hR.n]
  refine itr_cg (n := cn (S 1)) (fun i x hi => ?_) _ (Nat.le_refl _)
  have hi20 : i < 20 := Nat.lt_of_lt_of_le hi hM.n
  unfold sp_readyAt rf_readyAt
  rw [wgIx_nI hi20, hR.stands hi hi20, hR.isDue hi hi20, Int32.add_zero]
  by_cases c1 : rf_stands S i p = true
  · rw [if_pos c1, if_pos c1]
    rcases hR.full hi hi20 with ⟨f1, f2⟩ | ⟨f1, f2⟩
    · rw [if_pos f1, if_neg (by rw [f2]; decide)]
    · rw [if_neg (by rw [f1]; decide), if_pos f2]
  · rw [if_neg c1, if_neg c1]
theorem sub_1 (x y : Int32) : x - (y + 1) = x - y - 1 := by
  rw [Int32.sub_eq_add_neg, Int32.sub_eq_add_neg, Int32.sub_eq_add_neg, Int32.neg_add, Int32.sub_eq_add_neg, ← Int32.add_assoc]
theorem loop_lack {c D : Nat} {P : ka_P} {S : ka_F} {p : Nat} (h : RS c D P S) (hp : p < 5) : sp_lackOf P (nI p) = rf_lack S p := by
  have hr := loop_ready (p := nI p) h
  obtain ⟨hR, hM, hI, _⟩ := h
  have key : ∀ i, i ≤ cn (S 1) → rf_lackX S p i = pg S p 0 / 30 - rf_ready S (nI p) - sp_comingX P (nI p) i := by
    intro i
    induction i with
    | zero => exact fun _ => (Int32.sub_zero _).symm
    | succ i ih =>
      intro hi
      have hi20 : i < 20 := Nat.lt_of_lt_of_le hi hM.n
      rw [rf_lackX_s, sp_comingX_s, ih (by omega)]
      unfold rf_lackAt sp_comingAt sp_goesTo
      rw [wgIx_nI hi20, hR.w2 hi hi20, hR.w1 hi hi20, Int32.sub_zero]
      by_cases c1 : wg S i 3 = 1
      · by_cases c2 : wg S i 1 = nI p
        · rw [if_pos c1, if_pos c2, if_pos (show (decide (wg S i 3 = 1) && decide (wg S i 1 = nI p)) = true by simp [c1, c2])]
          rcases hR.full hi hi20 with ⟨f1, f2⟩ | ⟨f1, f2⟩
          · rw [if_pos f1, if_neg (by rw [f2]; decide)]
          · rw [if_pos f2, if_neg (show ¬ sp_full P i = true by rw [f1]; decide), sub_1]
        · rw [if_pos c1, if_neg c2, if_neg (show ¬ (decide (wg S i 3 = 1) && decide (wg S i 1 = nI p)) = true by simp [c2])]
      · rw [if_neg c1, if_neg (show ¬ (decide (wg S i 3 = 1) && decide (wg S i 1 = nI p)) = true by simp [c1])]
  unfold sp_lackOf rf_lack sp_lack0 sp_loadsOfHeap
  rw [plIx_nI hp, hR.pv 1 0 hp (by decide), hr, hR.n, key _ (Nat.le_refl _)]
  generalize pg S p 0 / 30 - rf_ready S (nI p) - sp_comingX P (nI p) (cn (S 1)) = z
  by_cases c1 : 0 < z
  · rw [if_pos c1, if_neg (fun q => Int32.lt_irrefl (Int32.lt_trans c1 q))]
  · rw [if_neg c1]
    by_cases c2 : z < 0
    · rw [if_pos c2]
    · rw [if_neg c2]
      have a1 := nlt_int c1
      have a2 := nlt_int c2
      exact Int32.toInt_inj.mp (by omega)
theorem loop_spare {c D : Nat} {P : ka_P} {S : ka_F} {p : Nat} (h : RS c D P S) (hp : p < 5) : sp_spareOf P (nI p) = rf_spare S p := by
  unfold sp_spareOf rf_spare sp_loadsOfHeap
  rw [plIx_nI hp, h.1.pv 1 0 hp (by decide), loop_ready h]
  by_cases c1 : nI p = 0
  · have : p = 0 := by
      rcases Nat.eq_zero_or_pos p with q | q
      · exact q
      · exact absurd c1 (nI_ne0 q (by omega))
    subst this
    rw [if_pos c1, h.2.2.1.2.2.1]
    rfl
  · rw [if_neg c1]
theorem ask_lacks {c D : Nat} {P : ka_P} {S : ka_F} {x : Int32} (h : RS c D P S) : sp_lacks P x = rf_lacks S x := by
  unfold sp_lacks rf_lacks
  rw [h.1.isMine]
  by_cases c1 : rf_isMine S x = false
  · rw [if_pos c1, if_pos c1]
  · rw [if_neg c1, if_neg c1]
    obtain ⟨p, hp, rfl⟩ := rf_isMine_of h.2.1 (by simpa using c1)
    rw [cn_nI (by omega)]
    exact loop_lack h hp
theorem pl_ge {i : Nat} {x : Int32} (h : rf_pl i x) (hi : i < 2 ^ 31) : x < 0 ↔ x = -1 := by
  constructor
  · intro q
    rcases h with h1 | h1
    · exact h1
    · rw [h1.1] at q
      exact absurd q (nI_pos (by have := h1.2; omega))
  · intro q
    rw [q]
    decide
theorem loop_need {c D : Nat} {P : ka_P} {S : ka_F} (h : RS c D P S) : ∀ i, i ≤ cn (S 0) → sp_needX P i = (rf_needX S i, if rf_needX S i < 0 then 0 else rf_lack S (cn (rf_needX S i)))
  | 0, _ => rfl
  | i + 1, hi => by
    have hm := h.2.1.m
    have hp := rf_needX_pl (S := S) i (by omega)
    rw [sp_needX_s, rf_needX_s, loop_need h i (by omega)]
    unfold sp_needAt rf_needAt
    rw [loop_lack h (p := i + 1) (by omega)]
    generalize rf_needX S i = x at hp ⊢
    have np : ¬ nI (i + 1) < 0 := nI_pos (by omega)
    have nc : cn (nI (i + 1)) = i + 1 := cn_nI (by omega)
    dsimp only
    by_cases c1 : x < 0
    · rw [if_pos c1, if_pos c1]
      by_cases c2 : 0 < rf_lack S (i + 1)
      · rw [if_pos c2, if_pos c2, if_neg np, nc]
      · rw [if_neg c2, if_neg c2, if_pos c1]
    · rw [if_neg c1, if_neg c1]
      by_cases c2 : rf_lack S (cn x) < rf_lack S (i + 1)
      · rw [if_pos c2, if_pos c2, if_neg np, nc]
      · rw [if_neg c2, if_neg c2, if_neg c1]
theorem loop_near {c D : Nat} {P : ka_P} {S : ka_F} {to : Nat} (h : RS c D P S) (ht : to < 5) : ∀ i, i ≤ cn (S 0) + 1 → sp_nearX P (nI to) i = (rf_nearX S to i, if rf_nearX S to i < 0 then 10 else S (14 + 5 * cn (rf_nearX S to i) + to))
  | 0, _ => rfl
  | i + 1, hi => by
    have hm := h.2.1.m
    rw [sp_nearX_s, rf_nearX_s, loop_near h ht i (by omega)]
    unfold sp_nearAt rf_nearAt
    rw [loop_spare h (p := i) (by omega), h.1.legs (a := i) (b := to) (by omega) ht]
    generalize rf_nearX S to i = x
    have np : ¬ nI i < 0 := nI_pos (by omega)
    have nc : cn (nI i) = i := cn_nI (by omega)
    dsimp only
    by_cases c1 : nI i = nI to
    · rw [if_pos c1, if_pos c1]
    · rw [if_neg c1, if_neg c1]
      by_cases c2 : 0 < rf_spare S i
      · rw [if_pos c2, if_pos c2]
        by_cases c3 : x < 0
        · have ul : ub 9 (S (14 + 5 * i + to)) := by
            rw [show 14 + 5 * i + to = 14 + (5 * i + to) by omega]
            exact h.2.2.1.1.2 (5 * i + to) (by omega)
          have c4 : S (14 + 5 * i + to) < 10 := by
            rw [ul.1]
            have := ul.2
            exact nI_lt (a := cn (S (14 + 5 * i + to))) (b := 10) (by omega) (by decide)
          rw [if_pos c3, if_pos c3, if_pos c4, if_neg np, nc]
        · rw [if_neg c3, if_neg c3]
          by_cases c4 : S (14 + 5 * i + to) < S (14 + 5 * cn x + to)
          · rw [if_pos c4, if_pos c4, if_neg np, nc]
          · rw [if_neg c4, if_neg c4, if_neg c3]
      · rw [if_neg c2, if_neg c2]
theorem mn_eq (x y : Int32) : sp_mn x y = if x < y then x else y := by
  unfold sp_mn
  by_cases c1 : y < x
  · rw [if_pos c1, if_neg (fun q => Int32.lt_irrefl (Int32.lt_trans c1 q))]
  · rw [if_neg c1]
    by_cases c2 : x < y
    · rw [if_pos c2]
    · rw [if_neg c2]
      have a1 := nlt_int c1
      have a2 := nlt_int c2
      exact Int32.toInt_inj.mp (by omega)
theorem ask_best {c D : Nat} {P : ka_P} {S : ka_F} {x : Int32} (h : RS c D P S) : sp_best P x = rf_best S x := by
  have hm := h.2.1.m
  have en : sp_neediest P = rf_need S := by
    unfold sp_neediest rf_need
    rw [h.1.m, loop_need h _ (Nat.le_refl _)]
  unfold sp_best rf_best
  rw [en]
  by_cases c1 : kw x 0 2 = false
  · rw [if_pos c1, if_pos c1]
  · rw [if_neg c1, if_neg c1]
    have hp : rf_pl (cn (S 0)) (rf_need S) := rf_needX_pl (S := S) (cn (S 0)) hm
    by_cases c2 : rf_need S < 0
    · rw [if_pos c2, if_pos ((pl_ge hp (by omega)).mp c2)]
      unfold sp_best3
      rw [if_pos rfl]
    · rw [if_neg c2, if_neg (fun q => c2 ((pl_ge hp (by omega)).mpr q))]
      obtain ⟨t1, t2⟩ := rf_need_pl h.2.1 c2
      have ef : sp_nearest P (rf_need S) = rf_near S (cn (rf_need S)) := by
        unfold sp_nearest rf_near
        rw [h.1.m, t1, loop_near h t2 _ (Nat.le_refl _), ← t1]
      rw [ef]
      unfold sp_best3 rf_best2
      have hq : rf_pl (cn (S 0) + 1 - 1) (rf_near S (cn (rf_need S))) := rf_nearX_pl (S := S) (to := cn (rf_need S)) (cn (S 0) + 1) (by omega)
      by_cases c3 : rf_near S (cn (rf_need S)) < 0
      · rw [if_pos c3, if_pos ((pl_ge hq (by omega)).mp c3)]
      · obtain ⟨f1, f2⟩ := rf_near_pl h.2.1 c3
        have el : sp_lackOf P (rf_need S) = rf_lack S (cn (rf_need S)) := by
          have := loop_lack h t2
          rw [← t1] at this
          exact this
        have es : sp_spareOf P (rf_near S (cn (rf_need S))) = rf_spare S (cn (rf_near S (cn (rf_need S)))) := by
          have := loop_spare h f2
          rw [← f1] at this
          exact this
        rw [if_neg c3, if_neg (fun q => c3 ((pl_ge hq (by omega)).mpr q)), el, es, mn_eq, mn_eq, ← t1]
        unfold rf_many
        rfl
theorem loop_cst {c D : Nat} {P : ka_P} {S : ka_F} {k : Int32} (h : RS c D P S) (hk : kw k 0 1 = true) : sp_cntStanding P k = rf_wagsX S k (cn (S 1)) := by
  obtain ⟨hR, hM, hI, _⟩ := h
  unfold sp_cntStanding
  rw [hR.n]
  refine itr_cg (n := cn (S 1)) (fun i x hi => ?_) _ (Nat.le_refl _)
  have hi20 : i < 20 := Nat.lt_of_lt_of_le hi hM.n
  obtain ⟨j, hj, rfl⟩ := kw_nat (n := 1) (by decide) hk
  have hj2 : j = 0 ∨ j = 1 := by omega
  have hk2 : kw (nI j) 0 2 = true := by
    rcases hj2 with rfl | rfl <;> decide
  have hne : ¬ nI j = 2 := by
    rcases hj2 with rfl | rfl <;> decide
  unfold sp_cstandAt rf_wagsAt rf_its
  rw [wgIx_nI hi20, hR.w2 hi hi20, ofKind_eq hR hi hi20 hk2, Int32.add_zero]
  by_cases c1 : wg S i 3 = 0
  · rw [if_pos c1, if_pos c1]
    by_cases c2 : wg S i 2 = nI j
    · rw [if_pos c2, if_pos (by simp [c2])]
    · rw [if_neg c2, if_neg (by simp [c2, hne])]
  · rw [if_neg c1, if_neg c1, if_neg]
    rcases hR.ws hi hi20 with q | q | q
    · exact absurd q.1 c1
    · rw [q.1]
      rcases hj2 with rfl | rfl <;> decide
    · rw [q.1]
      rcases hj2 with rfl | rfl <;> decide
theorem loop_cgo {c D : Nat} {P : ka_P} {S : ka_F} (h : RS c D P S) : sp_cntGoing P = rf_wagsX S 2 (cn (S 1)) := by
  obtain ⟨hR, hM, hI, _⟩ := h
  unfold sp_cntGoing
  rw [hR.n]
  refine itr_cg (n := cn (S 1)) (fun i x hi => ?_) _ (Nat.le_refl _)
  have hi20 : i < 20 := Nat.lt_of_lt_of_le hi hM.n
  unfold sp_cgoAt rf_wagsAt rf_its
  rw [wgIx_nI hi20, hR.w2 hi hi20, Int32.add_zero]
  rcases hR.ws hi hi20 with q | q | q
  · rw [q.1]
    rcases hR.full hi hi20 with ⟨_, f2⟩ | ⟨_, f2⟩
    · rw [f2]; rfl
    · rw [f2]; rfl
  · rw [q.1]; rfl
  · rw [q.1]; rfl
theorem loop_crep {c D : Nat} {P : ka_P} {S : ka_F} (h : RS c D P S) : P 30 1 = rf_wagsX S 3 (cn (S 1)) := by
  obtain ⟨hR, hM, hI, a, b, _, hQ⟩ := h
  rw [hQ.1.1, ← hQ.all]
  unfold rf_inRep
  refine itr_cg (n := cn (S 1)) (fun i x hi => ?_) _ (Nat.le_refl _)
  have hi20 : i < 20 := Nat.lt_of_lt_of_le hi hM.n
  unfold rf_inRepAt rf_wagsAt rf_its
  rcases hR.ws hi hi20 with q | q | q
  · rw [q.1]
    rcases hR.full hi hi20 with ⟨_, f2⟩ | ⟨_, f2⟩
    · rw [f2]; rfl
    · rw [f2]; rfl
  · rw [q.1]; rfl
  · rw [q.1]; rfl
theorem loop_due {c D : Nat} {P : ka_P} {S : ka_F} (h : RS c D P S) : sp_cntDue P = rf_dueX S (cn (S 1)) := by
  obtain ⟨hR, hM, hI, _⟩ := h
  unfold sp_cntDue
  rw [hR.n]
  refine itr_cg (n := cn (S 1)) (fun i x hi => ?_) _ (Nat.le_refl _)
  have hi20 : i < 20 := Nat.lt_of_lt_of_le hi hM.n
  unfold sp_cdueAt
  rw [wgIx_nI hi20, hR.isDue hi hi20, Int32.add_zero]
theorem loop_acc {c D : Nat} {P : ka_P} {S : ka_F} (h : RS c D P S) : sp_allAcc P = rf_sum S 2 := by
  have hm := h.2.1.m
  unfold sp_allAcc rf_sum
  rw [h.1.m]
  refine itr_cg (n := cn (S 0) + 1) (fun i x hi => ?_) _ (Nat.le_refl _)
  unfold sp_accAt sp_accountOf
  rw [plIx_nI (by omega), h.1.pv 2 2 (by omega) (by decide)]
theorem loop_heaps {c D : Nat} {P : ka_P} {S : ka_F} (h : RS c D P S) : ∀ i, i ≤ cn (S 0) → sp_heapsX P i = rf_sumX S 0 (i + 1)
  | 0, _ => by
    rw [rf_sumX_s, rf_sumX_0, h.2.2.1.2.2.1]
    rfl
  | i + 1, hi => by
    have hm := h.2.1.m
    rw [rf_sumX_s, ← loop_heaps h i (by omega), sp_heapsX_s]
    unfold sp_heapsAt
    rw [plIx_nI (by omega), h.1.pv 1 0 (by omega) (by decide)]
theorem loop_tons {c D : Nat} {P : ka_P} {S : ka_F} (h : RS c D P S) : sp_allTonnes P = rf_tonX S (cn (S 1)) := by
  unfold sp_allTonnes
  rw [h.1.m, h.1.n, loop_heaps h _ (Nat.le_refl _)]
  refine itr_cg (n := cn (S 1)) (fun i x hi => ?_) _ (Nat.le_refl _)
  have hi20 : i < 20 := Nat.lt_of_lt_of_le hi h.2.1.n
  unfold sp_tonsAt
  rw [wgIx_nI hi20]
  rcases h.1.full hi hi20 with ⟨f1, f2⟩ | ⟨f1, f2⟩
  · rw [if_pos f1, f2]; rfl
  · rw [if_neg (by rw [f1]; decide), f2]
    exact (Int32.add_zero _).symm
theorem ask_count {c D : Nat} {P : ka_P} {S : ka_F} {M : ka_P} {x : Int32} (h : RS c D P S) (h13 : ¬ x = 13) (h14 : ¬ x = 14) : sp_tellNumber P x = rf_count M S x := by
  have h0 := h
  obtain ⟨hR, hM, hI, _⟩ := h
  obtain ⟨a0, a1, a2, a3, a4, a5, _⟩ := hR.1
  unfold sp_tellNumber
  rw [a0, a1, a2, a3, a4, a5, loop_cst h0 (k := 0) (by decide), loop_cst h0 (k := 1) (by decide), loop_cgo h0, loop_crep h0, loop_acc h0, loop_tons h0, loop_due h0]
  by_cases c1 : kw x 20 26 = true
  · rw [if_pos c1]
    obtain ⟨g1, g2⟩ := kw_t c1
    have q1 := nlt_int g1
    have q2 := nlt_int g2
    have e20 : (20 : Int32).toInt = 20 := by decide
    have e26 : (26 : Int32).toInt = 26 := by decide
    have ez : (0 : Int32).toInt = 0 := by decide
    obtain ⟨k, hk, rfl⟩ := nI_of (x := x) (fun z => by
      have := lt_int z
      omega)
    rw [nI_toInt hk] at q1 q2
    have ne : ∀ j, j < 20 → ¬ nI k = nI j := fun j hj e => by
      have := (nI_eq (a := k) (b := j) hk (by omega)).mp e
      omega
    have e1 : nI k - 20 = nI (k - 20) := nI_sub (a := k) (b := 20) (by omega)
    have e2 : 7 + nI k - 20 = nI (7 + k - 20) := by
      show nI 7 + nI k - nI 20 = _
      rw [nI_add, nI_sub (by omega)]
    unfold rf_count
    rw [if_neg (show ¬ nI k = 0 from ne 0 (by decide)), if_neg (show ¬ nI k = 1 from ne 1 (by decide)), if_neg (show ¬ nI k = 2 from ne 2 (by decide)), if_neg (show ¬ nI k = 3 from ne 3 (by decide)), if_neg (show ¬ nI k = 4 from ne 4 (by decide)), if_neg (show ¬ nI k = 5 from ne 5 (by decide)), if_neg (show ¬ nI k = 6 from ne 6 (by decide)), if_neg (show ¬ nI k = 7 from ne 7 (by decide)), if_neg (show ¬ nI k = 8 from ne 8 (by decide)), if_neg (show ¬ nI k = 9 from ne 9 (by decide)), if_neg (show ¬ nI k = 10 from ne 10 (by decide)), if_neg (show ¬ nI k = 11 from ne 11 (by decide)), if_neg (show ¬ nI k = 12 from ne 12 (by decide)), if_neg (show ¬ nI k = 13 from ne 13 (by decide)), if_neg (show ¬ nI k = 14 from ne 14 (by decide)), if_pos c1, e1, hR.set (by omega), e2, cn_nI (by omega), show 7 + (k - 20) = 7 + k - 20 by omega]
  · rw [if_neg c1]
    unfold rf_count
    rw [if_neg h13, if_neg h14, if_neg c1]
    by_cases e0 : x = 0
    · subst e0; rfl
    by_cases e1 : x = 1
    · subst e1; rfl
    by_cases e2 : x = 2
    · subst e2; rfl
    by_cases e3 : x = 3
    · subst e3; rfl
    by_cases e4 : x = 4
    · subst e4; rfl
    by_cases e5 : x = 5
    · subst e5; rfl
    by_cases e6 : x = 6
    · subst e6; rfl
    by_cases e7 : x = 7
    · subst e7; rfl
    by_cases e8 : x = 8
    · subst e8; rfl
    by_cases e9 : x = 9
    · subst e9; rfl
    by_cases e10 : x = 10
    · subst e10; rfl
    by_cases e11 : x = 11
    · subst e11; rfl
    by_cases e12 : x = 12
    · subst e12; rfl
    rw [if_neg e0, if_neg e1, if_neg e2, if_neg e3, if_neg e4, if_neg e5, if_neg e6, if_neg e7, if_neg e8, if_neg e9, if_neg e10, if_neg e11, if_neg e12, if_neg e0, if_neg e1, if_neg e2, if_neg e3, if_neg e4, if_neg e5, if_neg e6, if_neg e7, if_neg e8, if_neg e9, if_neg e10, if_neg e11]
