/-! charges, the whole day, days on both sides -/
theorem RC.ee {e e' : Nat → Int32} {P : ka_P} {S : ka_F} (h : RC e P S) (he : ∀ w, w < cn (S 1) → e' w = e w) : RC e' P S :=
  ⟨h.1, h.2.1, fun w hw => ⟨fun q => by rw [he w q]; exact (h.2.2 w hw).1 q, (h.2.2 w hw).2⟩⟩
def eL (i : Nat) : Nat → Int32 := fun w => if w < i then 0 else 1
theorem eL_n {i w : Nat} (h : w ≠ i) : eL (i + 1) w = eL i w := by
  unfold eL
  exact if_cg ⟨fun q => by omega, fun q => by omega⟩
theorem eL_s {i : Nat} : eL (i + 1) i = 0 := if_pos (Nat.lt_succ_self i)
theorem eL_i {i : Nat} : eL i i = 1 := if_neg (Nat.lt_irrefl i)
theorem phD.acc {e : Nat → Int32} {B c m p : Nat} {a b : List Nat} {P : ka_P} {S : ka_F} {v : Int32} (h : phD e B c a b P S) (hn : cn (S 1) ≤ 20) (hp : p < 5) (hv : abI m v) (hB : B + m < 2 ^ 31) : phD e (B + m) c a b (sp_add P (2 + p) 2 v) (qA S p 2 v) :=
  ⟨h.1.pA 2 2 hp (by decide), h.2.1.pl hn hp (by decide), h.2.2.ac hv hB⟩
theorem phD.accS {e : Nat → Int32} {B c m p : Nat} {a b : List Nat} {P : ka_P} {S : ka_F} {v : Int32} (h : phD e B c a b P S) (hn : cn (S 1) ≤ 20) (hp : p < 5) (hv : abI m v) (hB : B + m < 2 ^ 31) : phD e (B + m) c a b (sp_sub P (2 + p) 2 v) (qA S p 2 (-v)) :=
  ⟨h.1.pS 2 2 hp (by decide), h.2.1.pl hn hp (by decide), h.2.2.ac (hv.neg (by omega)) hB⟩
theorem phD.oth {e : Nat → Int32} {B c p : Nat} {a b : List Nat} {P : ka_P} {S : ka_F} {v : Int32} (j : Nat) (h : phD e B c a b P S) (hn : cn (S 1) ≤ 20) (hp : p < 5) (hj : j = 3 ∨ j = 4) : phD e B c a b (sp_add P (2 + p) j v) (qA S p j v) :=
  ⟨h.1.pA j j hp (by omega), h.2.1.pl hn hp (by omega), h.2.2.kq (by omega) (by omega) (fun _ => by omega)⟩
theorem phD.othS {e : Nat → Int32} {B c p : Nat} {a b : List Nat} {P : ka_P} {S : ka_F} {v : Int32} (j : Nat) (h : phD e B c a b P S) (hn : cn (S 1) ≤ 20) (hp : p < 5) (hj : j = 3 ∨ j = 4) : phD e B c a b (sp_sub P (2 + p) j v) (qA S p j (-v)) :=
  ⟨h.1.pS j j hp (by omega), h.2.1.pl hn hp (by omega), h.2.2.kq (by omega) (by omega) (fun _ => by omega)⟩
theorem qA_1 {S : ka_F} {p j : Nat} {v : Int32} : qA S p j v 1 = S 1 := qU_j (by decide)
theorem dem_sim {e : Nat → Int32} {B c o : Nat} {a b : List Nat} {P : ka_P} {S : ka_F} {v : Int32} (h : phD e B c a b P S) (hn : cn (S 1) ≤ 20) (ho : o < 5) (hv : abI 99 v) (hB : B + 198 < 2 ^ 31) (hS : S 8 = v) : phD e (B + 198) c a b (sp_payDem P o 0 v) (rf_dem S o) := by
  have h1 := (((h.accS (p := o) hn ho hv (by omega)).oth (p := o) (v := v) 3 (by rw [qA_1]; exact hn) ho (Or.inl rfl)).acc (p := 0) (v := v) (by rw [qA_1, qA_1]; exact hn) (by decide) hv (by omega)).oth (p := 0) (v := v) 3 (by rw [qA_1, qA_1, qA_1]; exact hn) (by decide) (Or.inl rfl)
  have e1 : qA (qA (qA (qA S o 2 (-v)) o 3 v) 0 2 v) 0 3 v = rf_dem S o := by
    unfold rf_dem rf_pays
    rw [hS]
    simp only [qA_sA]
    rw [sA_comm (i := 39 + 6 * o + 3) (j := 39 + 6 * 0 + 2) (by omega)]
  rw [e1] at h1
  exact h1
theorem hire_sim {e : Nat → Int32} {B c p o : Nat} {a b : List Nat} {P : ka_P} {S : ka_F} {v : Int32} (h : phD e B c a b P S) (hn : cn (S 1) ≤ 20) (hp : p < 5) (ho : o < 5) (hv : abI 99 v) (hB : B + 198 < 2 ^ 31) (hS : S 9 = v) : phD e (B + 198) c a b (sp_payHire P p o v) (rf_hire S p o) := by
  have h1 := (((h.accS (p := p) hn hp hv (by omega)).othS (p := p) (v := v) 4 (by rw [qA_1]; exact hn) hp (Or.inr rfl)).acc (p := o) (v := v) (by rw [qA_1, qA_1]; exact hn) ho hv (by omega)).oth (p := o) (v := v) 4 (by rw [qA_1, qA_1, qA_1]; exact hn) ho (Or.inr rfl)
  have e1 : qA (qA (qA (qA S p 2 (-v)) p 4 (-v)) o 2 v) o 4 v = rf_hire S p o := by
    unfold rf_hire rf_pays
    rw [hS]
    simp only [qA_sA]
    rw [sA_comm (i := 39 + 6 * p + 4) (j := 39 + 6 * o + 2) (by omega)]
  rw [e1] at h1
  exact h1
theorem phD.up {e : Nat → Int32} {B B' c : Nat} {a b : List Nat} {P : ka_P} {S : ka_F} (h : phD e B c a b P S) (hB : B ≤ B') : phD e B' c a b P S := ⟨h.1, h.2.1, h.2.2.up hB⟩
theorem pay_at {B c D i : Nat} {a b : List Nat} {P : ka_P} {S : ka_F} {hire dem free : Int32} (h : phD (eL i) B c a b P S) (hM : MK D S) (hi : i < cn (S 1)) (hB : B + 198 < 2 ^ 31) (h7 : S 7 = free) (h8 : S 8 = dem) (h9 : S 9 = hire) : phD (eL (i + 1)) (B + 198) c a b (sp_payAt hire dem free i P) (rf_stAt i S) := by
  obtain ⟨hR, hQ, hI⟩ := h
  have hn := hM.n
  have hi20 : i < 20 := by omega
  have ho4 := (hM.2.2.2.2 i hi20).1
  have ho5 := hM.o5 hi20
  have hp4 := (hM.2.2.2.2 i hi20).2
  have hp5 := hM.a5 hi20
  have w0 := hR.w0 hi hi20
  have w1 := hR.w1 hi hi20
  have w2 := hR.w2 hi hi20
  have u8 : abI 99 dem := by rw [← h8]; exact (hI.1.1 1 (by decide)).ab
  have u9 : abI 99 hire := by rw [← h9]; exact (hI.1.1 2 (by decide)).ab
  unfold sp_payAt rf_stAt
  rw [wgIx_nI hi20, w0, w1, plIx_ub ho4, plIx_ub hp4, plIx_0]
  have wgs : ∀ (Q : ka_P), Q (8 + i) = P (8 + i) → sp_isLoadedAtPort Q i = sp_isLoadedAtPort P i := fun Q hQ => by
    unfold sp_isLoadedAtPort sp_full
    rw [hQ]
  by_cases c1 : wg S i 3 = 0
  · rw [if_pos c1]
    -- the standing grows
    have g5 : P 0 7 - P (8 + i) 5 = wg S i 5 + 1 := by
      rcases hR.ws hi hi20 with q | q | q
      · rw [q.2, eL_i]
      · rw [c1] at q; exact absurd q.1 (by decide)
      · rw [c1] at q; exact absurd q.1 (by decide)
    have sw : swk S (wU S i 5 (wg S i 5 + 1)) i := swk.rf.up (by decide)
    have r : RC (eL (i + 1)) P (wU S i 5 (wg S i 5 + 1)) := by
      refine hR.wag hi20 (fun _ _ => rfl) sw.1 sw.2 (fun w hw => eL_n hw) hi ?_
      obtain ⟨g, _⟩ := hR.w hi hi20
      rw [wr_s (by decide), eL_s]
      refine ⟨g, Or.inl ⟨?_, ?_⟩⟩
      · rw [w2, c1]
      · show P 0 7 - P (8 + i) 5 = wg S i 5 + 1 + 0
        rw [g5, Int32.add_zero]
    have q : QUE P (wU S i 5 (wg S i 5 + 1)) a b := hQ.of hn rfl (fun _ _ => rfl) (qsS.wag2 sw (wU_n (by decide) (by decide) (fun _ => by decide)) (wU_n (by decide) (by decide) (fun _ => by decide)) (wU_n (by decide) (by decide) (fun _ => by decide)))
    have ph : phD (eL (i + 1)) B c a b P (wU S i 5 (wg S i 5 + 1)) := ⟨r, q, hI.kw⟩
    have hn' : cn (wU S i 5 (wg S i 5 + 1) 1) ≤ 20 := by rw [wU_j (by decide)]; exact hn
    have e0 : wg (wU S i 5 (wg S i 5 + 1)) i 0 = wg S i 0 := wU_n (by decide) (by decide) (fun _ => by decide)
    have e1 : wg (wU S i 5 (wg S i 5 + 1)) i 1 = wg S i 1 := wU_n (by decide) (by decide) (fun _ => by decide)
    have e2 : wg (wU S i 5 (wg S i 5 + 1)) i 2 = wg S i 2 := wU_n (by decide) (by decide) (fun _ => by decide)
    have e5 : wg (wU S i 5 (wg S i 5 + 1)) i 5 = wg S i 5 + 1 := wU_s
    have t7 : wU S i 5 (wg S i 5 + 1) 7 = free := (wU_j (by decide)).trans h7
    have t8 : wU S i 5 (wg S i 5 + 1) 8 = dem := (wU_j (by decide)).trans h8
    have t9 : wU S i 5 (wg S i 5 + 1) 9 = hire := (wU_j (by decide)).trans h9
    have hl := loadedAt_eq hR hi hi20
    unfold rf_chg rf_chg1
    rw [e0, e1, e2, e5, t7]
    generalize wU S i 5 (wg S i 5 + 1) = T at ph hn' t8 t9 ⊢
    by_cases c2 : wg S i 1 = 0
    · -- at the port
      have hh : sp_isHired P i = false := by
        unfold sp_isHired
        rw [w1, c2]
        simp
      rw [hh, if_neg (by decide), if_pos c2, c2]
      dsimp only
      have hl2 : sp_isLoadedAtPort P i = !decide (wg S i 2 = 0) := by
        rw [hl]
        unfold rf_stands
        rw [c1, c2]
        simp
      have hz : ∀ U : ka_F, rf_chg2 U 0 (wg S i 0) = U := fun U => by
        unfold rf_chg2
        rw [if_neg (by decide)]
      rw [hz, hl2, g5]
      rcases hR.full hi hi20 with ⟨_, f2⟩ | ⟨_, f2⟩
      · rw [f2, if_pos (by decide), if_pos rfl]
        by_cases c3 : free < wg S i 5 + 1
        · rw [if_pos c3, if_pos c3]
          exact dem_sim ph hn' ho5 u8 hB t8
        · rw [if_neg c3, if_neg c3]
          exact ph.up (by omega)
      · rw [f2, if_neg (by decide), if_neg (by decide)]
        exact ph.up (by omega)
    · -- at a mine
      have hl2 : sp_isLoadedAtPort P i = false := by
        rw [hl]
        unfold rf_stands
        simp [c2]
      rw [if_neg c2]
      have hpos : (0 : Int32) < wg S i 1 := by
        rw [hp4.1]
        have : cn (wg S i 1) ≠ 0 := fun z => c2 (by rw [hp4.1, z]; rfl)
        exact nI_lt (a := 0) (b := cn (wg S i 1)) (by omega) (by omega)
      unfold rf_chg2
      rw [if_pos hpos]
      by_cases c3 : wg S i 1 = wg S i 0
      · have hh : sp_isHired P i = false := by
          unfold sp_isHired
          rw [w1, w0, c3]
          simp
        rw [hh, if_neg (by decide), if_pos c3]
        dsimp only
        rw [hl2, if_neg (by decide)]
        exact ph.up (by omega)
      · have hh : sp_isHired P i = true := by
          unfold sp_isHired
          rw [w1, w0, w2, c1]
          simp [c2, c3]
        rw [hh, if_pos rfl, if_neg c3]
        dsimp only
        rw [wgs _ (show sp_payHire P (cn (wg S i 1)) (cn (wg S i 0)) hire (8 + i) = P (8 + i) from by
          unfold sp_payHire sp_add sp_sub
          rw [pU_n (by omega), pU_n (by omega), pU_n (by omega), pU_n (by omega)]), hl2, if_neg (by decide)]
        exact hire_sim ph hn' hp5 ho5 u9 hB t9
  · rw [if_neg c1]
    have hh : sp_isHired P i = false := by
      unfold sp_isHired
      rw [w2]
      simp [c1]
    have hl2 : sp_isLoadedAtPort P i = false := by
      rw [loadedAt_eq hR hi hi20]
      unfold rf_stands
      simp [c1]
    rw [hh, if_neg (by decide)]
    dsimp only
    rw [hl2, if_neg (by decide)]
    refine ⟨?_, hQ, hI.up (by omega)⟩
    refine hR.wag hi20 (fun _ _ => rfl) (fun _ _ => rfl) (fun _ _ _ => rfl) (fun w hw => eL_n hw) hi ?_
    obtain ⟨g, g2⟩ := hR.w hi hi20
    refine ⟨g, ?_⟩
    rcases g2 with g3 | g3
    · rw [w2] at g3
      exact absurd g3.1 c1
    · exact Or.inr g3
theorem day_pay {B c D : Nat} {a b : List Nat} {P : ka_P} {S : ka_F} (h : phD ez1 B c a b P S) (hM : MK D S) (hB : B + 4000 < 2 ^ 31) : phD ez0 (B + 3960) c a b (sp_payDay P) (rf_stX S (cn (S 1))) := by
  have hn := hM.n
  have s0 : sp_setting P 0 = S 7 := h.1.set (j := 0) (by decide)
  have s1 : sp_setting P 1 = S 8 := h.1.set (j := 1) (by decide)
  have s2 : sp_setting P 2 = S 9 := h.1.set (j := 2) (by decide)
  have key : ∀ i, i ≤ cn (S 1) → phD (eL i) (B + 198 * i) c a b (sp_payX P i) (rf_stX S i) := by
    intro i
    induction i with
    | zero => exact fun _ => ⟨h.1.ee (fun w _ => rfl), h.2.1, h.2.2⟩
    | succ i ih =>
      intro hi
      have hx := rx_stX hM (i := i) (by omega)
      have ih := ih (by omega)
      rw [sp_payX_s, rf_stX_s, s0, s1, s2]
      have := pay_at ih (MK.of hx hM) (by rw [hx.s1]; omega) (by omega) (hx.hi (by decide) (by decide)) (hx.hi (by decide) (by decide)) (hx.hi (by decide) (by decide))
      rw [show B + 198 * (i + 1) = B + 198 * i + 198 by omega]
      exact this
  have k := key _ (Nat.le_refl _)
  have hx := rx_stX hM (i := cn (S 1)) hn
  unfold sp_payDay
  rw [h.1.n]
  refine phD.up (B := B + 198 * cn (S 1)) ⟨k.1.ee (fun w hw => ?_), k.2.1, k.2.2⟩ (by omega)
  rw [hx.s1] at hw
  exact (if_pos hw).symm
theorem IW.fill {B c : Nat} {S : ka_F} (h : IW B c S) : IW B c (rf_fill S) := by
  refine itr_inv (fun _ T => IW B c T) h (fun i T hT => ?_) 3
  unfold rf_fillAt
  split
  · exact hT
  · split
    · exact hT.kw
    · exact hT
theorem sim_day {c D : Nat} {P : ka_P} {S : ka_F} (h : RS c D P S) (hc : c < 40000) (hD : D ≤ 2150) : RS c (D + 1) (sp_dayP P) (rf_day S) ∧ (sp_day1 P).2 = (rf_day2 S).2 ∧ ∃ n, n ≤ 20 ∧ (rf_day2 S).2 = nI n := by
  obtain ⟨hR, hM, hI, a, b, hst, hQ⟩ := h
  have hn := hM.n
  have hd := hM.2.2.1.2
  have x1 := rx_day1 hM
  have x2 := rx_day2 hM
  have hMn := hM.next (D := D) (by omega)
  have p1 := day_next hR hQ hI hn
  have n1 : cn (sA S 2 1 1) ≤ 20 := hMn.n
  have e05 : cn (sp_add P 0 7 1 0 5) = cn (S 0) := by
    rw [show sp_add P 0 7 1 0 5 = P 0 5 from pU_j (fun _ => by decide), hR.m]
  have p2 : phD ez1 (4000 * cn (S 2) + 6000 * c) c a b (sp_growAll (sp_add P 0 7 1)) (rf_day1 S) := by
    unfold sp_growAll rf_day1
    rw [e05]
    exact (day_grow p1 n1 _ hM.m).1
  have n2 : cn (rf_day1 S 1) ≤ 20 := by rw [x1.s1]; exact n1
  have p3 := day_arr p2 n2
  have ea : sp_arrive (sp_growAll (sp_add P 0 7 1)) = sp_day1 P := rfl
  have eb : rf_arr (rf_day1 S) = rf_day2 S := rfl
  rw [ea, eb] at p3
  obtain ⟨q3, j3, v3, m, hm, hm2⟩ := p3
  have n3 : cn ((rf_day2 S).1 1) ≤ 20 := by rw [x2.s1]; exact n1
  have d3 : ¬ (rf_day2 S).1 2 < 0 := (MK.of x2 hMn).2.2.1.pos
  obtain ⟨a', q4, j4⟩ := day_ends q3 hst n3 d3
  have x4 : rx (sA S 2 1) (rf_reps0 (rf_day2 S).1) := x2.tr rx_reps0
  have M4 := MK.of x4 hMn
  obtain ⟨a5, b5, _, st5, q5, r5⟩ := fill_sim q4.2.1 q4.1 M4.n (M4.v (by omega))
  have ec : sp_begins (sp_ends (sp_day1 P).1) = sp_day2 P := rfl
  have ed : rf_fill (rf_reps0 (rf_day2 S).1) = rf_day3 S := rfl
  have i5 := q4.2.2.fill
  rw [ec, ed] at r5
  rw [ec] at q5
  rw [ed] at q5 i5
  have x5 := rx_day3 hM
  have p6 := day_pay (D := D + 1) ⟨r5, q5, i5⟩ (MK.of x5 hMn) (by omega)
  have ee : sp_payDay (sp_day2 P) = sp_dayP P := rfl
  have ef : rf_stX (rf_day3 S) (cn (rf_day3 S 1)) = rf_day S := by
    rw [x5.s1, sA_n (by decide)]
    rfl
  rw [ee, ef] at p6
  have e2 : rf_day S 2 = nI (cn (S 2) + 1) := by
    have h2 := hM.2.2.1.1
    rw [(rx_day hM (by omega)).s2, sA_s, h2, nI_1]
    rw [← h2]
  refine ⟨⟨p6.1, hM.day (by omega), ⟨p6.2.2.1, p6.2.2.2.1, p6.2.2.2.2.1, ?_⟩, a5, b5, st5, p6.2.1⟩, v3, m, by omega, hm2⟩
  rw [e2, cn_nI (by omega)]
  exact p6.2.2.2.2.2.up (by omega)
theorem sim_days {c D : Nat} {P : ka_P} {S : ka_F} (h : RS c D P S) (hc : c < 40000) : ∀ i, D + i ≤ 2150 → RS c (D + i) (sp_days P i).1 (rf_days S i).1 ∧ (sp_days P i).2 = (rf_days S i).2 ∧ ∃ n, n ≤ 20 * i ∧ (rf_days S i).2 = nI n
  | 0, _ => ⟨h, rfl, 0, Nat.le_refl _, rfl⟩
  | i + 1, hi => by
    obtain ⟨h1, h2, n, hn, h3⟩ := sim_days h hc i (by omega)
    rw [sp_days_s, rf_days_s]
    generalize sp_days P i = X at h1 h2 ⊢
    generalize rf_days S i = Y at h1 h2 h3 ⊢
    obtain ⟨g1, g2, m, hm, g3⟩ := sim_day h1 hc (by omega)
    dsimp only
    refine ⟨g1, ?_, n + m, by omega, ?_⟩
    · rw [h2, g2]
    · rw [h3, g3, nI_add]
theorem sim_pass {c : Nat} {P : ka_P} {S : ka_F} {x : Int32} (h : RS c 1999 P S) (hc : c < 40000) : simO (c + 1) 1999 (sp_pass P x) (rf_passes S x) := by
  have hMP := h.2.1.passes (x := x)
  unfold sp_pass
  unfold rf_passes at hMP ⊢
  by_cases c1 : kw x 1 99 = false
  · rw [if_pos c1, if_pos c1]
    exact simO_1
  · rw [if_neg c1, if_neg c1, h.1.d]
    rw [if_neg c1] at hMP
    by_cases c2 : 1999 < S 2 + x
    · rw [if_pos c2, if_pos c2]
      exact simO_3
    · rw [if_neg c2, if_neg c2]
      rw [if_neg c2] at hMP
      have c1' : kw x 1 99 = true := by simpa using c1
      have hx : cn x ≤ 99 := kw_cn (n := 99) (lo := 1) (by decide) (by decide) c1'
      obtain ⟨g1, g2, n, hn, g3⟩ := sim_days h hc (cn x) (by omega)
      unfold sp_letDays
      refine simO_mk g2 ?_ ⟨g1.1, hMP, g1.2.2.1.up (by omega), g1.2.2.2⟩
      rw [g2, g3]
      exact okA_nn (nI_pos (by omega))
theorem sim_would {c : Nat} {P : ka_P} {S : ka_F} {x y : Int32} (h : RS c 1999 P S) (hc : c < 40000) : (if sp_isPlace P x = false then (-2000000001 : Int32) else if kw y 0 99 = false then -2000000001 else sp_accountOf (sp_letDays P y).2 x) = rf_wouldV S x y := by
  unfold rf_wouldV
  rw [h.1.isPlace]
  by_cases c1 : rf_isPlace S x = false
  · rw [if_pos c1, if_pos c1]
  · rw [if_neg c1, if_neg c1]
    by_cases c2 : kw y 0 99 = false
    · rw [if_pos c2, if_pos c2]
    · rw [if_neg c2, if_neg c2]
      have c2' : kw y 0 99 = true := by simpa using c2
      have hy : cn y ≤ 99 := kw_cn (n := 99) (lo := 0) (by decide) (by decide) c2'
      obtain ⟨p, hp, rfl⟩ := rf_isPlace_of h.2.1 (by simpa using c1)
      obtain ⟨g1, _⟩ := sim_days h hc (cn y) (by omega)
      unfold sp_accountOf sp_letDays rf_would
      rw [plIx_nI hp, cn_nI (by omega)]
      exact g1.1.pv 2 2 hp (by decide)
