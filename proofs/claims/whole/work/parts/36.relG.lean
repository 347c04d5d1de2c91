/-! a day on both sides -/
theorem if_cg {α : Type} {p q : Prop} [Decidable p] [Decidable q] {x y : α} (h : p ↔ q) : (if p then x else y) = if q then x else y := by
  by_cases c : p
  · rw [if_pos c, if_pos (h.mp c)]
  · rw [if_neg c, if_neg (fun z => c (h.mpr z))]
def IW (B c : Nat) (S : ka_F) : Prop := IVs S ∧ ub c (S 6) ∧ pg S 0 0 = 0 ∧ ACC B S
theorem IW.up {B B' c : Nat} {S : ka_F} (h : IW B c S) (hB : B ≤ B') : IW B' c S := ⟨h.1, h.2.1, h.2.2.1, h.2.2.2.up hB⟩
theorem IW.of {B c : Nat} {S T : ka_F} (h : IW B c S) (hT : ∀ j, 6 ≤ j → j < 39 → T j = S j) (h0 : pg T 0 0 = pg S 0 0) (hA : ∀ p, p < 5 → pg T p 2 = pg S p 2) : IW B c T :=
  ⟨h.1.of (fun j h7 h39 => hT j (by omega) h39), by rw [hT 6 (by decide) (by decide)]; exact h.2.1, by rw [h0]; exact h.2.2.1, h.2.2.2.of hA⟩
theorem IW.kw {B c : Nat} {S : ka_F} {w k : Nat} {v : Int32} (h : IW B c S) : IW B c (wU S w k v) := h.of (fun j _ hj => wU_j (by omega)) (wU_p (by decide) (by decide)) (fun _ hp => wU_p hp (by decide))
theorem IW.ku {B c : Nat} {S : ka_F} {j : Nat} {v : Int32} (h : IW B c S) (hj : j < 6) : IW B c (upd S j v) :=
  h.of (fun i _ _ => pk_un (by omega)) (by unfold pg; exact pk_un (by omega)) (fun p hp => by unfold pg; exact pk_un (by omega))
theorem IW.kq {B c : Nat} {S : ka_F} {p k : Nat} {v : Int32} (h : IW B c S) (hk : k < 6) (h2 : k ≠ 2) (h0 : p = 0 → k ≠ 0) : IW B c (qU S p k v) :=
  h.of (fun i _ hi => qU_j (by omega)) (qU_n hk (by decide) (fun e e2 => h0 e.symm e2.symm)) (fun q hq => qU_n hk (by decide) (fun _ e => h2 e.symm))
theorem IW.ac {B c m : Nat} {S : ka_F} {p : Nat} {v : Int32} (h : IW B c S) (hv : abI m v) (hB : B + m < 2 ^ 31) : IW (B + m) c (qA S p 2 v) :=
  ⟨h.1.of (fun j _ hj => qU_j hj), by rw [show qA S p 2 v 6 = S 6 from qU_j (by decide)]; exact h.2.1, by rw [show pg (qA S p 2 v) 0 0 = pg S 0 0 from qU_n (by decide) (by decide) (fun _ => by decide)]; exact h.2.2.1, h.2.2.2.pA (by decide) hv hB⟩
theorem IW.smw {B c : Nat} {S T : ka_F} (h : IW B c S) (hs : smS S T) : IW B c T := h.of (fun j _ hj => hs.1 j (by omega)) (hs.1 _ (by decide)) (fun p hp => hs.1 _ (by omega))
/-- a phase of the day: the pool P and the reference's S -/
def phD (e : Nat → Int32) (B c : Nat) (a b : List Nat) (P : ka_P) (S : ka_F) : Prop := RC e P S ∧ QUE P S a b ∧ IW B c S
theorem day_next {c : Nat} {P : ka_P} {S : ka_F} {a b : List Nat} (hR : RC ez0 P S) (hQ : QUE P S a b) (hI : IV c S) (hn : cn (S 1) ≤ 20) : phD ez1 (4000 * cn (S 2) + 6000 * c) c a b (sp_add P 0 7 1) (sA S 2 1) := by
  have n : ∀ o, o ≠ 0 → sp_add P 0 7 1 o = P o := fun o ho => pU_n ho
  have n0 : ∀ j, j ≠ 7 → sp_add P 0 7 1 0 j = P 0 j := fun j hj => pU_j (fun _ => hj)
  have n7 : sp_add P 0 7 1 0 7 = P 0 7 + 1 := pU_e
  refine ⟨?_, hQ.hd hn (by decide) (by decide) (by decide), IW.ku hI (by decide)⟩
  obtain ⟨⟨a0, a1, a2, a3, a4, a5, a6, a7⟩, hPl, hW⟩ := hR
  refine ⟨⟨?_, ?_, ?_, ?_, ?_, ?_, fun j hj => ?_, fun j hj => ?_⟩, fun p hp => ?_, fun w hw => ?_⟩
  · rw [n0 5 (by decide), sA_n (by decide)]; exact a0
  · rw [n0 6 (by decide), sA_n (by decide)]; exact a1
  · rw [n7, sA_s, a2]
  · rw [n0 8 (by decide), sA_n (by decide)]; exact a3
  · rw [n0 9 (by decide), sA_n (by decide)]; exact a4
  · rw [n0 10 (by decide), sA_n (by decide)]; exact a5
  · rw [n 29 (by decide), sA_n (by omega)]; exact a6 j hj
  · rw [n 28 (by decide), sA_n (by omega)]; exact a7 j hj
  · rw [n (2 + p) (by omega), show prp (sA S 2 1) p = prp S p from pr_u (by decide)]
    exact hPl p hp
  · rw [n (8 + w) (by omega), sA_n (by decide), n7, show wrw (sA S 2 1) w = wrw S w from wr_u (by decide)]
    refine ⟨fun q => ?_, fun q => (hW w hw).2 q⟩
    obtain ⟨g1, g2⟩ := (hW w hw).1 q
    refine ⟨g1, ?_⟩
    rcases g2 with ⟨g3, g4⟩ | g2 | g2
    · refine Or.inl ⟨g3, ?_⟩
      have g5 : P 0 7 - P (8 + w) 5 = wrw S w 5 + 0 := g4
      rw [Int32.add_zero] at g5
      show P 0 7 + 1 - P (8 + w) 5 = wrw S w 5 + 1
      rw [← g5, Int32.sub_eq_add_neg, Int32.sub_eq_add_neg, Int32.add_assoc, Int32.add_comm 1, ← Int32.add_assoc]
    · exact Or.inr (Or.inl g2)
    · exact Or.inr (Or.inr g2)
theorem day_grow {e : Nat → Int32} {B c : Nat} {a b : List Nat} {P : ka_P} {S : ka_F} (h : phD e B c a b P S) (hn : cn (S 1) ≤ 20) : ∀ i, i ≤ 4 → phD e B c a b (sp_growX P i) (rf_grX S i) ∧ rf_grX S i 1 = S 1
  | 0, _ => ⟨h, rfl⟩
  | i + 1, hi => by
    obtain ⟨⟨ih, iq, iw⟩, i1⟩ := day_grow h hn i (by omega)
    rw [sp_growX_s, rf_grX_s, plIx_nI (by omega)]
    have e1 : pU (sp_growX P i) (2 + (i + 1)) 1 (if 999 < (sp_growX P i) (2 + (i + 1)) 1 + (sp_growX P i) (2 + (i + 1)) 0 then 999 else (sp_growX P i) (2 + (i + 1)) 1 + (sp_growX P i) (2 + (i + 1)) 0) = sp_grow (sp_growX P i) (i + 1) := rfl
    rw [← e1, ih.pv (p := i + 1) 1 0 (by omega) (by decide), ih.pv (p := i + 1) 0 1 (by omega) (by decide)]
    exact ⟨⟨ih.pU1 1 0 (by omega) (by decide), iq.pl (by rw [i1]; exact hn) (by omega) (by decide), iw.kq (by decide) (by decide) (fun z => by omega)⟩, (qU_j (by decide)).trans i1⟩
def arR (B c : Nat) (a b : List Nat) (S : ka_F) (i : Nat) (x : ka_P × Int32) (y : ka_F × Int32) : Prop :=
  phD ez1 B c a b x.1 y.1 ∧ (∀ j, j < 69 → y.1 j = S j) ∧ x.2 = y.2 ∧ ∃ n, n ≤ i ∧ y.2 = nI n
theorem ar_at {B c : Nat} {a b : List Nat} {S : ka_F} {i : Nat} {x : ka_P × Int32} {y : ka_F × Int32} (h : arR B c a b S i x y) (hi : i < cn (S 1)) (hn : cn (S 1) ≤ 20) : arR B c a b S (i + 1) (sp_arriveAt i x) (rf_arrAt i y) := by
  have h0 := h
  obtain ⟨⟨hR, hQ, hI⟩, hJ, h2, n, hn2, h3⟩ := h
  have hi20 : i < 20 := by omega
  have hi' : i < cn (y.1 1) := by rw [hJ 1 (by decide)]; exact hi
  have hn' : cn (y.1 1) ≤ 20 := by rw [hJ 1 (by decide)]; exact hn
  have up : arR B c a b S (i + 1) x y := ⟨⟨hR, hQ, hI⟩, hJ, h2, n, by omega, h3⟩
  unfold sp_arriveAt rf_arrAt
  rw [wgIx_nI hi20, hR.w2 hi' hi20]
  by_cases c1 : wg y.1 i 3 = 1
  · rw [if_neg (not_not_intro c1), if_pos c1]
    obtain ⟨_, g6, gp, g7⟩ : wg y.1 i 3 = 1 ∧ x.1 (8 + i) 6 = wg y.1 i 6 ∧ ¬ wg y.1 i 6 < 0 ∧ x.1 (8 + i) 7 = wg y.1 i 8 := by
      rcases hR.ws hi' hi20 with q | q | q
      · rw [c1] at q; exact absurd q.1 (by decide)
      · exact q
      · rw [c1] at q; exact absurd q.1 (by decide)
    rw [g6, hR.d]
    by_cases c2 : wg y.1 i 6 = y.1 2
    · rw [if_neg (not_not_intro c2), if_pos c2, g7]
      have ed : sp_add x.1 (8 + i) 4 (wg y.1 i 8) 0 7 = x.1 0 7 := by
        unfold sp_add
        rw [pU_n (by omega)]
      rw [ed]
      have pw : pwk x.1 (sp_standFrom (sp_add x.1 (8 + i) 4 (wg y.1 i 8)) i (x.1 0 7)) i := (pwk.rf.add).stand
      have sw : swk y.1 (rf_arr1 y.1 i) i := ((swk.rf.up (by decide)).up (by decide)).up (by decide)
      have hrow : sp_standFrom (sp_add x.1 (8 + i) 4 (wg y.1 i 8)) i (x.1 0 7) (8 + i) = upd (upd (upd (x.1 (8 + i)) 4 (wg y.1 i 4 + wg y.1 i 8)) 2 0) 5 (x.1 0 7) := by
        unfold sp_standFrom sp_add
        rw [pU_s, pU_s, pU_s, hR.w4 hi' hi20]
      have e4 : wg (wU y.1 i 3 0) i 4 = wg y.1 i 4 := wU_n (by decide) (by decide) (fun _ => by decide)
      have e8 : wg (wU y.1 i 3 0) i 8 = wg y.1 i 8 := wU_n (by decide) (by decide) (fun _ => by decide)
      have srow : wrw (rf_arr1 y.1 i) i = upd (upd (upd (wrw y.1 i) 3 0) 4 (wg y.1 i 4 + wg y.1 i 8)) 5 (-1) := by
        unfold rf_arr1
        rw [e4, e8, wr_s (by decide), wr_s (by decide), wr_s (by decide)]
      have r : RC ez1 (sp_standFrom (sp_add x.1 (8 + i) 4 (wg y.1 i 8)) i (x.1 0 7)) (rf_arr1 y.1 i) := by
        refine hR.wag' hi20 pw sw hi' ?_
        obtain ⟨⟨g0, g1, g2, g3, g4, g5⟩, _⟩ := hR.w hi' hi20
        rw [hrow, srow]
        refine ⟨⟨g0, g1, rfl, g3, rfl, g5⟩, Or.inl ⟨rfl, ?_⟩⟩
        show x.1 0 7 - x.1 0 7 = -1 + 1
        rw [Int32.sub_self]
        decide
      have g3 : wg (rf_arr1 y.1 i) i 3 = 0 := by
        rw [← wr_k (by decide), srow]; rfl
      have q : QUE (sp_standFrom (sp_add x.1 (8 + i) 4 (wg y.1 i 8)) i (x.1 0 7)) (rf_arr1 y.1 i) a b :=
        hQ.of hn' (by rw [pw 30 (by omega)]) (fun k _ => by rw [pw 31 (by omega)]) (qsS.wag sw (by rw [c1]; decide) (by rw [g3]; decide))
      have iw : IW B c (rf_arr1 y.1 i) := ((hI.kw).kw).kw
      refine ⟨⟨r, q, iw⟩, fun j hj => (sw.1 j hj).trans (hJ j hj), ?_, n + 1, by omega, ?_⟩
      · show x.2 + 1 = y.2 + 1
        rw [h2]
      · show y.2 + 1 = _
        rw [h3, nI_1]
    · rw [if_pos c2, if_neg c2]
      exact up
  · rw [if_pos c1, if_neg c1]
    exact up
theorem day_arr {B c : Nat} {a b : List Nat} {P : ka_P} {S : ka_F} (h : phD ez1 B c a b P S) (hn : cn (S 1) ≤ 20) : arR B c a b S (cn (S 1)) (sp_arrive P) (rf_arr S) := by
  have key : ∀ i, i ≤ cn (S 1) → arR B c a b S i (sp_arriveX P i) (rf_arrX S i) := by
    intro i
    induction i with
    | zero => exact fun _ => ⟨h, fun _ _ => rfl, rfl, 0, Nat.le_refl _, rfl⟩
    | succ i ih =>
      intro hi
      rw [sp_arriveX_s, rf_arrX_s]
      exact ar_at (ih (by omega)) (by omega) hn
  unfold sp_arrive rf_arr
  rw [h.1.n]
  exact key _ (Nat.le_refl _)
/-- the repair of w ends today -/
def rf_end (T : ka_F) (w : Nat) : Bool := decide (wg T w 3 = 2) && decide (wg T w 6 = T 2)
def rf_erow (g : ka_F) : ka_F := upd (upd (upd g 3 0) 4 0) 5 (-1)
theorem rep1_row {S : ka_F} {w : Nat} : wrw (rf_rep1 S w) w = rf_erow (wrw S w) := by
  unfold rf_rep1 rf_erow
  rw [show ∀ T : ka_F, wrw (sA T 3 1) w = wrw T w from fun T => wr_u (by decide), wr_s (by decide), wr_s (by decide), wr_s (by decide)]
theorem rep1_oth {S : ka_F} {w x : Nat} (h : x ≠ w) : wrw (rf_rep1 S w) x = wrw S x := by
  unfold rf_rep1
  rw [show ∀ T : ka_F, wrw (sA T 3 1) x = wrw T x from fun T => wr_u (by decide), wr_n h (by decide), wr_n h (by decide), wr_n h (by decide)]
theorem rep1_j {S : ka_F} {w j : Nat} (hj : j < 69) (h3 : j ≠ 3) : rf_rep1 S w j = S j := by
  unfold rf_rep1
  rw [sA_n h3, wU_j hj, wU_j hj, wU_j hj]
theorem rep1_3 {S : ka_F} {w : Nat} : rf_rep1 S w 3 = S 3 + 1 := by
  unfold rf_rep1
  rw [sA_s, wU_j (by decide), wU_j (by decide), wU_j (by decide)]
theorem repX_pt {T : ka_F} : ∀ i, i ≤ 20 → (∀ j, j < 69 → j ≠ 3 → rf_repX T i j = T j) ∧ rf_repX T i 3 = T 3 + nI (cntN (rf_end T) i) ∧ ∀ w, w < 20 → wrw (rf_repX T i) w = if w < i ∧ rf_end T w = true then rf_erow (wrw T w) else wrw T w
  | 0, _ => ⟨fun _ _ _ => rfl, (Int32.add_zero _).symm, fun w _ => by rw [if_neg (fun h => absurd h.1 (Nat.not_lt_zero _))]; rfl⟩
  | i + 1, hi => by
    obtain ⟨h1, h2, h3⟩ := repX_pt (T := T) i (by omega)
    rw [rf_repX_s]
    have hrow : wrw (rf_repX T i) i = wrw T i := by rw [h3 i (by omega), if_neg (fun h => absurd h.1 (Nat.lt_irrefl _))]
    have hE : (wg (rf_repX T i) i 3 = 2 ∧ wg (rf_repX T i) i 6 = rf_repX T i 2) ↔ rf_end T i = true := by
      rw [wg_of hrow (by decide), wg_of hrow (by decide), h1 2 (by decide) (by decide)]
      unfold rf_end
      simp
    have hc : cntN (rf_end T) (i + 1) = cntN (rf_end T) i + if rf_end T i = true then 1 else 0 := rfl
    have hw0 : ∀ w, w ≠ i → ((w < i + 1 ∧ rf_end T w = true) ↔ (w < i ∧ rf_end T w = true)) := fun w hw => by
      constructor
      · rintro ⟨q1, q2⟩
        exact ⟨by omega, q2⟩
      · rintro ⟨q1, q2⟩
        exact ⟨by omega, q2⟩
    rw [hc]
    generalize rf_repX T i = U at *
    by_cases c : rf_end T i = true
    · have e := hE.mpr c
      have ea : rf_repAt i U = rf_rep1 U i := by
        unfold rf_repAt
        rw [if_pos e.1, if_pos e.2]
      rw [ea, if_pos c]
      refine ⟨fun j hj hj3 => (rep1_j hj hj3).trans (h1 j hj hj3), ?_, fun w hw => ?_⟩
      · rw [rep1_3, h2, Int32.add_assoc, nI_1]
      · by_cases cw : w = i
        · subst cw
          rw [rep1_row, hrow, if_pos ⟨Nat.lt_succ_self _, c⟩]
        · rw [rep1_oth cw, h3 w hw]
          exact if_cg (hw0 w cw).symm
    · have ea : rf_repAt i U = U := by
        unfold rf_repAt
        split
        · next q1 =>
          split
          · next q2 => exact absurd (hE.mp ⟨q1, q2⟩) c
          · rfl
        · rfl
      rw [ea, if_neg c, Nat.add_zero]
      refine ⟨h1, h2, fun w hw => ?_⟩
      by_cases cw : w = i
      · subst cw
        rw [hrow, if_neg (fun h => c h.2)]
      · rw [h3 w hw]
        exact if_cg (hw0 w cw).symm
def rf_reps1 : List Nat → ka_F → ka_F
  | [], T => T
  | x :: es, T => rf_reps1 es (rf_rep1 T x)
theorem reps1_pt : ∀ (es : List Nat) (T : ka_F), es.Nodup → (∀ j, j < 69 → j ≠ 3 → rf_reps1 es T j = T j) ∧ rf_reps1 es T 3 = T 3 + nI es.length ∧ ∀ w, wrw (rf_reps1 es T) w = if w ∈ es then rf_erow (wrw T w) else wrw T w
  | [], T, _ => ⟨fun _ _ _ => rfl, (Int32.add_zero _).symm, fun w => by rw [if_neg List.not_mem_nil]; rfl⟩
  | x :: es, T, hd => by
    have hx := List.nodup_cons.mp hd
    obtain ⟨h1, h2, h3⟩ := reps1_pt es (rf_rep1 T x) hx.2
    refine ⟨fun j hj hj3 => (h1 j hj hj3).trans (rep1_j hj hj3), ?_, fun w => ?_⟩
    · show rf_reps1 es (rf_rep1 T x) 3 = _
      rw [h2, rep1_3, List.length_cons, ← nI_1, Int32.add_assoc, Int32.add_comm 1]
    · show wrw (rf_reps1 es (rf_rep1 T x)) w = _
      rw [h3 w]
      by_cases c : w = x
      · subst c
        rw [if_neg hx.1, rep1_row, if_pos List.mem_cons_self]
      · rw [rep1_oth c]
        exact if_cg ⟨fun q => List.mem_cons_of_mem _ q, fun q => by
          rcases List.mem_cons.mp q with q | q
          · exact absurd q c
          · exact q⟩
theorem reps1_sm {T : ka_F} {es : List Nat} (hd : es.Nodup) (hn : cn (T 1) ≤ 20) (hE : ∀ w, w ∈ es ↔ (w < cn (T 1) ∧ rf_end T w = true)) : smS (rf_reps1 es T) (rf_reps0 T) := by
  obtain ⟨h1, h2, h3⟩ := reps1_pt es T hd
  obtain ⟨g1, g2, g3⟩ := repX_pt (T := T) (cn (T 1)) hn
  have hc : cntN (rf_end T) (cn (T 1)) = es.length := cntN_list es (rf_end T) hd (fun w hw => ((hE w).mp hw).1) (fun w hw => by
    rw [hE w]
    exact ⟨fun q => ⟨hw, q⟩, fun q => q.2⟩)
  unfold rf_reps0
  refine ⟨fun j hj => ?_, fun w hw => ?_⟩
  · by_cases c : j = 3
    · subst c
      rw [g2, h2, hc]
    · rw [g1 j hj c, h1 j hj c]
  · rw [g3 w hw, h3 w]
    exact if_cg (hE w).symm
theorem shifts_eq {P : ka_P} {n j : Nat} (h : P 30 1 = nI n) (hn : n ≤ 20) (hj : j < n) : sp_shifts P j = n - 1 - j := by
  unfold sp_shifts
  rw [h, cn_nI (by omega)]
  split <;> omega
/-- one repair ends -/
theorem end_one {B c : Nat} {a1 a2 b : List Nat} {w : Nat} {P : ka_P} {S : ka_F} (h : phD ez1 B c (a1 ++ w :: a2) b P S) (hn : cn (S 1) ≤ 20) (hE : wg S w 6 = S 2) : phD ez1 B c (a1 ++ a2) b (sp_endAt P a1.length w) (rf_rep1 S w) := by
  obtain ⟨hR, hQ, hI⟩ := h
  have hwm : w ∈ (a1 ++ w :: a2) ++ b := List.mem_append_left _ (List.mem_append_right _ List.mem_cons_self)
  have hw := hQ.lt hwm
  have hw20 : w < 20 := by omega
  have hw3 := hQ.s2 hwm
  have hlen := hQ.len
  have hz : P (8 + w) 6 = P 0 7 := by
    rcases hR.ws hw hw20 with q | q | q
    · rw [hw3] at q; exact absurd q.1 (by decide)
    · rw [hw3] at q; exact absurd q.1 (by decide)
    · rw [q.2.1, hE, hR.d]
  have hN : ((a1 ++ w :: a2) ++ b).length = a1.length + (1 + a2.length + b.length) := by
    rw [List.length_append, List.length_append, List.length_cons]
    omega
  have hshift := shifts_eq (P := P) (j := a1.length) hQ.1.1 (by omega) (by omega)
  have hnd := hQ.nd
  have hE2 : sp_endAt P a1.length w = sp_add (sp_standFrom (pU (sp_leave P a1.length) (8 + w) 4 0) w (P 0 7)) 0 8 1 := by
    unfold sp_endAt
    rw [if_pos hz]
    have : pU (sp_leave P a1.length) (8 + w) 4 0 0 7 = P 0 7 := by
      unfold sp_leave sp_sub
      rw [pU_n (by omega), pU_n (by decide), ka_s2_n (by decide)]
    rw [this]
  rw [hE2]
  -- rows of the new pool
  have pl : ∀ o, o ≠ 30 → o ≠ 31 → sp_leave P a1.length o = P o := fun o h1 h2 => by
    unfold sp_leave sp_sub
    rw [pU_n h1, ka_s2_n h2]
  have p0 : ∀ o, o ≠ 0 → o ≠ 8 + w → sp_add (sp_standFrom (pU (sp_leave P a1.length) (8 + w) 4 0) w (P 0 7)) 0 8 1 o = sp_leave P a1.length o := fun o h0 h8 => by
    unfold sp_add sp_standFrom
    rw [pU_n h0, pU_n h8, pU_n h8, pU_n h8]
  have hrow : sp_add (sp_standFrom (pU (sp_leave P a1.length) (8 + w) 4 0) w (P 0 7)) 0 8 1 (8 + w) = upd (upd (upd (P (8 + w)) 4 0) 2 0) 5 (P 0 7) := by
    unfold sp_add sp_standFrom
    rw [pU_n (by omega), pU_s, pU_s, pU_s, pl _ (by omega) (by omega)]
  have pst : ∀ j, sp_standFrom (pU (sp_leave P a1.length) (8 + w) 4 0) w (P 0 7) 0 j = P 0 j := fun j => by
    unfold sp_standFrom
    rw [pU_n (by omega), pU_n (by omega), pU_n (by omega), pl 0 (by decide) (by decide)]
  refine ⟨?_, ?_, ?_⟩
  · -- the relation: wagon w, then the counter
    have r1 : RC ez1 (sp_leave P a1.length) S := hR.qu pl
    have sw : swk S (wU (wU (wU S w 3 0) w 4 0) w 5 (-1)) w := ((swk.rf.up (by decide)).up (by decide)).up (by decide)
    have r2 : RC ez1 (sp_standFrom (pU (sp_leave P a1.length) (8 + w) 4 0) w (P 0 7)) (wU (wU (wU S w 3 0) w 4 0) w 5 (-1)) := by
      refine r1.wag' hw20 (pwk.rf.up).stand sw hw ?_
      obtain ⟨⟨g0, g1, g2, g3, g4, g5⟩, _⟩ := hR.w hw hw20
      unfold sp_standFrom
      rw [pU_s, pU_s, pU_s, pl (8 + w) (by omega) (by omega), pl 0 (by decide) (by decide), wr_s (by decide), wr_s (by decide), wr_s (by decide)]
      refine ⟨⟨g0, g1, rfl, g3, rfl, g5⟩, Or.inl ⟨rfl, ?_⟩⟩
      show P 0 7 - P 0 7 = -1 + 1
      rw [Int32.sub_self]
      decide
    exact r2.hd 8 3 (Or.inr (Or.inl ⟨rfl, rfl⟩))
  · -- the queue
    have hne : ∀ x, x ∈ (a1 ++ a2) ++ b → x ≠ w ∧ x ∈ (a1 ++ w :: a2) ++ b := fun x hx => by
      have hx2 : x ∈ (a1 ++ w :: a2) ++ b := by
        simp only [List.mem_append, List.mem_cons] at hx ⊢
        rcases hx with (q | q) | q
        · exact Or.inl (Or.inl q)
        · exact Or.inl (Or.inr (Or.inr q))
        · exact Or.inr q
      refine ⟨fun e => ?_, hx2⟩
      rw [e] at hx
      rw [List.append_assoc, List.cons_append] at hnd
      have h1 := List.nodup_append.mp hnd
      rw [List.append_assoc] at hx
      rcases List.mem_append.mp hx with q | q
      · exact h1.2.2 w q w List.mem_cons_self rfl
      · exact (List.nodup_cons.mp h1.2.1).1 q
    have hg : ∀ x j, x ≠ w → j < 10 → wg (rf_rep1 S w) x j = wg S x j := fun x j hx hj => wg_of (rep1_oth hx) hj
    have hgw : wg (rf_rep1 S w) w 3 = 0 := by
      rw [← wr_k (by decide), rep1_row]; rfl
    have s1 : rf_rep1 S w 1 = S 1 := rep1_j (by decide) (by decide)
    have s6 : rf_rep1 S w 6 = S 6 := rep1_j (by decide) (by decide)
    obtain ⟨⟨b1, b2⟩, b3, b4, b5, b6, b7, b8⟩ := hQ
    refine ⟨⟨?_, fun i x hi => ?_⟩, fun x => ?_, ?_, fun x hx => ?_, fun x hx => ?_, fun x hx => ?_, ?_⟩
    · rw [p0 30 (by decide) (by omega)]
      unfold sp_leave sp_sub
      rw [pU_e, ka_s2_n (by decide), b1, hN, show a1.length + (1 + a2.length + b.length) = (a1.length + a2.length + b.length) + 1 by omega, nI_pred, List.length_append, List.length_append]
    · rw [p0 31 (by decide) (by omega)]
      have hl := (List.getElem?_eq_some_iff.mp hi).1
      rw [List.length_append, List.length_append] at hl
      unfold sp_leave sp_sub
      rw [pU_n (by decide), ka_s2_s, hshift, hN]
      unfold sp_shift
      rw [List.append_assoc] at hi
      have ea : (a1 ++ w :: a2) ++ b = a1 ++ (w :: (a2 ++ b)) := by rw [List.append_assoc, List.cons_append]
      by_cases ci : i < a1.length
      · rw [if_neg (by omega)]
        refine b2 i x ?_
        rw [ea, List.getElem?_append_left ci]
        rw [List.getElem?_append_left ci] at hi
        exact hi
      · rw [if_pos (by omega)]
        refine b2 (i + 1) x ?_
        rw [List.getElem?_append_right (by omega)] at hi
        rw [ea, List.getElem?_append_right (by omega), show i + 1 - a1.length = (i - a1.length) + 1 by omega, List.getElem?_cons_succ]
        exact hi
    · rw [s1]
      constructor
      · intro hx
        obtain ⟨q1, q2⟩ := hne x hx
        rw [hg x 3 q1 (by decide)]
        exact (b3 x).mp q2
      · rintro ⟨q1, q2⟩
        have q3 : x ≠ w := fun e => by
          rw [e, hgw] at q2
          exact absurd q2 (by decide)
        rw [hg x 3 q3 (by decide)] at q2
        have q4 := (b3 x).mpr ⟨q1, q2⟩
        simp only [List.mem_append, List.mem_cons] at q4 ⊢
        rcases q4 with (q | q | q) | q
        · exact Or.inl (Or.inl q)
        · exact absurd q q3
        · exact Or.inl (Or.inr q)
        · exact Or.inr q
    · have hs : ((a1 ++ a2) ++ b).Sublist ((a1 ++ w :: a2) ++ b) := List.Sublist.append_right (List.Sublist.append_left (List.sublist_cons_self w a2) a1) b
      refine (b4.sublist hs).imp_of_mem (fun {x y} hx hy hxy => ?_)
      rw [hg x 9 (hne x hx).1 (by decide), hg y 9 (hne y hy).1 (by decide)]
      exact hxy
    · rw [hg x 9 (hne x hx).1 (by decide), s6]
      exact b5 x (hne x hx).2
    · rw [hg x 6 (hne x (List.mem_append_left _ hx)).1 (by decide)]
      refine b6 x ?_
      simp only [List.mem_append, List.mem_cons] at hx ⊢
      rcases hx with q | q
      · exact Or.inl q
      · exact Or.inr (Or.inr q)
    · rw [hg x 6 (hne x (List.mem_append_right _ hx)).1 (by decide)]
      exact b7 x hx
    · rw [List.length_append, List.length_cons] at b8
      rw [List.length_append]
      omega
  · exact (((hI.kw).kw).kw).ku (by decide)
theorem end_none {B c : Nat} {a b : List Nat} {w j : Nat} {P : ka_P} {S : ka_F} (h : phD ez1 B c a b P S) (hn : cn (S 1) ≤ 20) (hw : w ∈ a) (hE : ¬ wg S w 6 = S 2) : sp_endAt P j w = P := by
  have h1 := h.2.1.lt (List.mem_append_left _ hw)
  have h3 := h.2.1.s2 (List.mem_append_left _ hw)
  unfold sp_endAt
  rw [if_neg]
  rcases h.1.ws h1 (by omega) with q | q | q
  · rw [h3] at q; exact absurd q.1 (by decide)
  · rw [h3] at q; exact absurd q.1 (by decide)
  · rw [q.2.1, h.1.d]
    exact hE
/-- the wagons in the shop whose repair ends -/
theorem end_iff {P : ka_P} {S : ka_F} {a b : List Nat} (h : QUE P S a b) (hd : ¬ S 2 < 0) {w : Nat} : (w < cn (S 1) ∧ rf_end S w = true) ↔ (w ∈ a ∧ wg S w 6 = S 2) := by
  unfold rf_end
  rw [Bool.and_eq_true, decide_eq_true_eq, decide_eq_true_eq]
  constructor
  · rintro ⟨q1, q2, q3⟩
    rcases List.mem_append.mp ((h.2.1 w).mpr ⟨q1, q2⟩) with q | q
    · exact ⟨q, q3⟩
    · have := h.2.2.2.2.2.1 w q
      rw [q3] at this
      exact absurd this hd
  · rintro ⟨q1, q2⟩
    exact ⟨h.lt (List.mem_append_left _ q1), h.s2 (List.mem_append_left _ q1), q2⟩
theorem day_ends {B c : Nat} {a b : List Nat} {P : ka_P} {S : ka_F} (h : phD ez1 B c a b P S) (hst : stQ a b) (hn : cn (S 1) ≤ 20) (hd : ¬ S 2 < 0) : ∃ a', phD ez1 B c a' b (sp_ends P) (rf_reps0 S) ∧ (∀ j, j < 69 → j ≠ 3 → rf_reps0 S j = S j) := by
  have hat := stQ_w h.2.1 hst hn
  have hE := fun w => end_iff (w := w) h.2.1 hd
  have h2 := h.2.1.2.2.2.2.2.2
  have hj : ∀ j, j < 69 → j ≠ 3 → rf_reps0 S j = S j := (repX_pt (T := S) (cn (S 1)) hn).1
  -- from the list of the ended to the reference's loop
  have fin : ∀ (es a' : List Nat) (Q : ka_P), es.Nodup → (∀ w, w ∈ es ↔ (w ∈ a ∧ wg S w 6 = S 2)) → phD ez1 B c a' b Q (rf_reps1 es S) → Q = sp_ends P → ∃ a', phD ez1 B c a' b (sp_ends P) (rf_reps0 S) ∧ (∀ j, j < 69 → j ≠ 3 → rf_reps0 S j = S j) := by
    rintro es a' Q hes hes2 ⟨g1, g2, g3⟩ rfl
    have hsm := reps1_sm hes hn (fun w => (hes2 w).trans (hE w).symm)
    have e1 : rf_reps1 es S 1 = S 1 := (reps1_pt es S hes).1 1 (by decide) (by decide)
    exact ⟨a', ⟨g1.smt hsm, g2.smq (by rw [e1]; exact hn) hsm, g3.smw hsm⟩, hj⟩
  unfold sp_ends at fin ⊢
  rw [hat] at fin ⊢
  match a, h, h2, hat, hE, fin with
  | [], h, h2, hat, hE, fin => exact fin [] [] P List.nodup_nil (fun w => by simp) h rfl
  | [x], h, h2, hat, hE, fin =>
    have e1 : sp_endX P 1 = sp_endAt P 0 x := by
      rw [sp_endX_s, sp_endX_0, hat]
      show sp_endAt P 0 (wgIx (sp_numberAt P (nI 0))) = _
      rw [h.2.1.num hn (i := 0) (w := x) rfl]
    by_cases cx : wg S x 6 = S 2
    · refine fin [x] [] (sp_endAt P 0 x) (by simp) (fun w => ?_) (end_one (a1 := []) (a2 := []) h hn cx) e1.symm
      simp only [List.mem_singleton]
      exact ⟨fun q => ⟨q, by rw [q]; exact cx⟩, fun q => q.1⟩
    · refine fin [] [x] P List.nodup_nil (fun w => ?_) h ?_
      · simp only [List.mem_singleton, List.not_mem_nil, false_iff]
        rintro ⟨q1, q2⟩
        rw [q1] at q2
        exact cx q2
      · show P = sp_endX P 1
        rw [e1, end_none h hn List.mem_cons_self cx]
  | [x, y], h, h2, hat, hE, fin =>
    have hxy : x ≠ y := fun e => by
      have hnd := (List.nodup_append.mp h.2.1.nd).1
      rw [e] at hnd
      exact (List.nodup_cons.mp hnd).1 List.mem_cons_self
    have e2 : ∀ Q, sp_endAt P 1 y = Q → sp_endX P 2 = sp_endAt Q 0 (wgIx (sp_numberAt Q (nI 0))) := fun Q hQ => by
      rw [sp_endX_s, sp_endX_s, sp_endX_0, hat]
      show sp_endAt (sp_endAt P 1 (wgIx (sp_numberAt P (nI 1)))) 0 (wgIx (sp_numberAt (sp_endAt P 1 (wgIx (sp_numberAt P (nI 1)))) (nI 0))) = _
      rw [h.2.1.num hn (i := 1) (w := y) rfl, hQ]
    by_cases cy : wg S y 6 = S 2
    · have hs : phD ez1 B c [x] b (sp_endAt P 1 y) (rf_rep1 S y) := end_one (a1 := [x]) (a2 := []) h hn cy
      have n1 : cn (rf_rep1 S y 1) ≤ 20 := by rw [rep1_j (by decide) (by decide)]; exact hn
      have x6 : wg (rf_rep1 S y) x 6 = wg S x 6 := wg_of (rep1_oth hxy) (by decide)
      have x2 : rf_rep1 S y 2 = S 2 := rep1_j (by decide) (by decide)
      have e3 := e2 _ rfl
      have hnum := hs.2.1.num n1 (i := 0) (w := x) rfl
      have e4 : sp_endX P 2 = sp_endAt (sp_endAt P 1 y) 0 x := by
        rw [e3]
        exact congrArg (sp_endAt (sp_endAt P 1 y) 0) hnum
      by_cases cx : wg S x 6 = S 2
      · have hs2 := end_one (a1 := []) (a2 := []) (w := x) hs n1 (by rw [x6, x2]; exact cx)
        refine fin [y, x] [] (sp_endAt (sp_endAt P 1 y) 0 x) (by simp [hxy.symm]) (fun w => ?_) hs2 e4.symm
        simp only [List.mem_cons, List.not_mem_nil, or_false]
        constructor
        · rintro (q | q)
          · exact ⟨Or.inr q, by rw [q]; exact cy⟩
          · exact ⟨Or.inl q, by rw [q]; exact cx⟩
        · rintro ⟨q | q, _⟩
          · exact Or.inr q
          · exact Or.inl q
      · refine fin [y] [x] (sp_endAt P 1 y) (by simp) (fun w => ?_) hs ?_
        · simp only [List.mem_cons, List.not_mem_nil, or_false]
          constructor
          · intro q
            exact ⟨Or.inr q, by rw [q]; exact cy⟩
          · rintro ⟨q | q, q2⟩
            · rw [q] at q2; exact absurd q2 cx
            · exact q
        · show sp_endAt P 1 y = sp_endX P 2
          rw [e4, end_none hs n1 List.mem_cons_self (by rw [x6, x2]; exact cx)]
    · have e3 := e2 P (end_none h hn (List.mem_cons_of_mem _ List.mem_cons_self) cy)
      rw [h.2.1.num hn (i := 0) (w := x) rfl] at e3
      by_cases cx : wg S x 6 = S 2
      · refine fin [x] [y] (sp_endAt P 0 x) (by simp) (fun w => ?_) (end_one (a1 := []) (a2 := [y]) h hn cx) e3.symm
        simp only [List.mem_cons, List.not_mem_nil, or_false]
        constructor
        · intro q
          exact ⟨Or.inl q, by rw [q]; exact cx⟩
        · rintro ⟨q | q, q2⟩
          · exact q
          · rw [q] at q2; exact absurd q2 cy
      · refine fin [] [x, y] P List.nodup_nil (fun w => ?_) h ?_
        · simp only [List.mem_cons, List.not_mem_nil, or_false, false_iff]
          rintro ⟨q | q, q2⟩
          · rw [q] at q2; exact cx q2
          · rw [q] at q2; exact cy q2
        · show P = sp_endX P 2
          rw [e3, end_none h hn List.mem_cons_self cx]
  | x :: y :: z :: t, h, h2, hat, hE, fin => simp at h2
