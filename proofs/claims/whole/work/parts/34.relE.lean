/-! unloading, repairs, trains on both sides -/
theorem sA_0 {S : ka_F} {j : Nat} : sA S j 0 = S := by
  funext k
  unfold sA
  by_cases c : k = j
  · subst c
    rw [pk_us, Int32.add_zero]
  · rw [pk_un c]
theorem sp_pay_eq {P : ka_P} {a b : Nat} {v : Int32} : sp_pay P a b v = sp_add (sp_sub P (2 + a) 2 v) (2 + b) 2 v := rfl
theorem ub30 {x : Int32} (h : ub 99 x) : abI 3000 (30 * x) := by
  have h2 := h.2
  have e : 30 * x = nI (30 * cn x) := by
    have : (30 : Int32) * nI (cn x) = nI (30 * cn x) := nI_mul 30 (cn x)
    rw [← h.1] at this
    exact this
  rw [e]
  exact (ub_nI (n := 3000) (by omega) (by decide)).ab
theorem loadedAt_eq {e : Nat → Int32} {P : ka_P} {S : ka_F} (h : RC e P S) {w : Nat} (hn : w < cn (S 1)) (hw : w < 20) : sp_isLoadedAtPort P w = (!decide (wg S w 2 = 0) && rf_stands S w 0) := by
  unfold sp_isLoadedAtPort rf_stands
  rw [h.w2 hn hw, h.w1 hn hw]
  rcases h.full hn hw with ⟨f1, f2⟩ | ⟨f1, f2⟩
  · rw [f1, f2]; rfl
  · rw [f1, f2]; rfl
theorem unl_eq {S : ka_F} {w o : Nat} {v : Int32} (ho : o < 5) : rf_pays (qA (wU (wU S w 2 0) w 5 0) 0 5 30) 0 o v = wU (wU (qA (rf_pays S 0 o v) 0 5 30) w 2 0) w 5 0 := by
  unfold rf_pays
  simp only [qA_sA]
  rw [sA_wU (by omega), sA_wU (by omega), sA_wU (by omega), sA_wU (by omega), sA_wU (by omega), sA_wU (by omega)]
  rw [sA_comm (S := S) (i := 39 + 6 * 0 + 5) (j := 39 + 6 * 0 + 2) (by decide), sA_comm (i := 39 + 6 * 0 + 5) (j := 39 + 6 * o + 2) (by omega)]
theorem sim_unload {c D : Nat} {P : ka_P} {S : ka_F} {x : Int32} (h : RS c D P S) (hc : c < 40000) (hD : D ≤ 2200) : simO (c + 1) D (sp_unload P x) (rf_unloads S x) := by
  obtain ⟨hR, hM, hI, a, b, hst, hQ⟩ := h
  have hML := hM.unloads (x := x)
  unfold sp_unload
  unfold rf_unloads at hML ⊢
  rw [hR.isWagon]
  by_cases c1 : rf_isWagon S x = false
  · rw [if_pos c1, if_pos c1]
    exact simO_1
  · rw [if_neg c1, if_neg c1]
    rw [if_neg c1] at hML
    obtain ⟨w, hwn, hw, rfl⟩ := rf_isWagon_of hM (by simpa using c1)
    rw [cn_nI (by omega)] at hML ⊢
    rw [wgIx_nI hw, loadedAt_eq hR hwn hw]
    by_cases c2 : wg S w 2 = 0
    · rw [if_pos c2, if_pos (by simp [c2])]
      exact simO_2
    · rw [if_neg c2]
      rw [if_neg c2] at hML
      by_cases c3 : rf_stands S w 0 = false
      · rw [if_pos c3, if_pos (by simp [c3])]
        exact simO_2
      · have t3 : rf_stands S w 0 = true := by simpa using c3
        rw [if_neg c3, if_neg (by simp [c2, t3])]
        rw [if_neg c3] at hML
        have k3 : wg S w 3 = 0 := by
          unfold rf_stands at t3
          rw [Bool.and_eq_true, decide_eq_true_eq] at t3
          exact t3.1
        have ho4 := (hM.2.2.2.2 w hw).1
        have ho5 := hM.o5 hw
        have hset : IV (c + 1) (rf_unl S w) := ((((hI.pay (a := 0) (b := cn (wg S w 0)) (ub30 (hI.1.1 4 (by decide))) hc (by have := hM.2.2.1.2; omega)).kq (p := 0) (k := 5) (by decide) (by decide) (fun _ => by decide)).kw).kw)
        have eo : wg (rf_unl S w) w 0 = wg S w 0 := by
          unfold rf_unl rf_pays
          rw [wU_n (by decide) (by decide) (fun _ => by decide), wU_n (by decide) (by decide) (fun _ => by decide)]
          exact (qU_w (by decide) (by decide)).trans ((qU_w ho5 (by decide)).trans (qU_w (by decide) (by decide)))
        have pw : pwk P (sp_unloadAt P w) w := (pwk.rf.up).stand
        have hrow : sp_unloadAt P w (8 + w) = upd (upd (upd (P (8 + w)) 3 (ka_b false)) 2 0) 5 (P 0 7) := by
          unfold sp_unloadAt sp_standFrom
          rw [pU_s, pU_s, pU_s, show pU P (8 + w) 3 (ka_b false) 0 = P 0 from pU_n (by omega)]
        have sw : swk S (wU (wU S w 2 0) w 5 0) w := (swk.rf.up (by decide)).up (by decide)
        have r1 : RC ez0 (sp_unloadAt P w) (wU (wU S w 2 0) w 5 0) := by
          refine hR.wag' hw pw sw hwn ?_
          obtain ⟨⟨g0, g1, g2, g3, g4, g5⟩, _⟩ := hR.w hwn hw
          rw [hrow, wr_s (by decide), wr_s (by decide)]
          refine ⟨⟨g0, g1, ?_, rfl, g4, g5⟩, Or.inl ⟨rfl, ?_⟩⟩
          · show (0 : Int32) = wrw S w 3
            rw [wr_k (by decide), k3]
          · show P 0 7 - P 0 7 = 0 + 0
            rw [Int32.sub_self]; rfl
        have n3 : ∀ j, j ≠ 2 → j ≠ 5 → j < 10 → wg (wU (wU S w 2 0) w 5 0) w j = wg S w j := fun j h2 h5 hj => by
          rw [wU_n (by decide) hj (fun _ => h5), wU_n (by decide) hj (fun _ => h2)]
        have q1 : QUE (sp_unloadAt P w) (wU (wU S w 2 0) w 5 0) a b :=
          hQ.of hM.n (by rw [pw 30 (by omega)]) (fun i _ => by rw [pw 31 (by omega)]) (qsS.wag2 sw (n3 3 (by decide) (by decide) (by decide)) (n3 6 (by decide) (by decide) (by decide)) (n3 9 (by decide) (by decide) (by decide)))
        have e1 : wU (wU S w 2 0) w 5 0 1 = S 1 := sw.1 1 (by decide)
        have e11 : wU (wU S w 2 0) w 5 0 11 = S 11 := sw.1 11 (by decide)
        have ew : sp_unloadAt P w (8 + w) 0 = wg S w 0 := by
          rw [hrow]
          exact hR.w0 hwn hw
        have hu := unl_eq (S := S) (w := w) (o := cn (wg S w 0)) (v := 30 * S 11) ho5
        have hu2 : rf_pays (qA (wU (wU S w 2 0) w 5 0) 0 5 30) 0 (cn (wg S w 0)) (30 * S 11) = rf_unl S w := hu
        generalize sp_unloadAt P w = P1 at r1 q1 ew ⊢
        generalize wU (wU S w 2 0) w 5 0 = S1 at r1 q1 e1 e11 hu2
        have r2 := r1.pA (p := 0) 5 5 (x := 30) (by decide) (by decide)
        have q2 : QUE (sp_add P1 (2 + 0) 5 30) (qA S1 0 5 30) a b := q1.pl (by rw [e1]; exact hM.n) (by decide) (by decide)
        have es : sp_setting (sp_add P1 (2 + 0) 5 30) 4 = S 11 := by
          have := r2.set (j := 4) (by decide)
          rw [show sp_setting (sp_add P1 (2 + 0) 5 30) 4 = qA S1 0 5 30 11 from this]
          exact (qU_j (by decide)).trans e11
        have r3 := (r2.pS (p := 0) 2 2 (x := 30 * S 11) (by decide) (by decide)).pA (p := cn (wg S w 0)) 2 2 (x := 30 * S 11) ho5 (by decide)
        have q3 : QUE (sp_add (sp_sub (sp_add P1 (2 + 0) 5 30) (2 + 0) 2 (30 * S 11)) (2 + cn (wg S w 0)) 2 (30 * S 11)) (qA (qA (qA S1 0 5 30) 0 2 (-(30 * S 11))) (cn (wg S w 0)) 2 (30 * S 11)) a b :=
          (q2.pl (p := 0) (j := 2) (j' := 2) (by rw [show qA S1 0 5 30 1 = S1 1 from qU_j (by decide), e1]; exact hM.n) (by decide) (by decide)).pl (by rw [qU_j (by decide), show qA S1 0 5 30 1 = S1 1 from qU_j (by decide), e1]; exact hM.n) ho5 (by decide)
        have hu3 : qA (qA (qA S1 0 5 30) 0 2 (-(30 * S 11))) (cn (wg S w 0)) 2 (30 * S 11) = rf_unl S w := hu2
        rw [hu3] at r3 q3
        have eP : sp_unload2 P1 w = sp_add (sp_sub (sp_add P1 (2 + 0) 5 30) (2 + 0) 2 (30 * S 11)) (2 + cn (wg S w 0)) 2 (30 * S 11) := by
          unfold sp_unload2
          rw [plIx_0, es, sp_pay_eq, ew, plIx_ub ho4]
        rw [eP, ew, plIx_ub ho4, eo]
        have av := r3.pv (p := cn (wg S w 0)) 2 2 ho5 (by decide)
        refine simO_mk av ?_ ⟨r3, hML, hset, a, b, hst, q3⟩
        rw [av]
        have e2 : rf_unl S w 2 = S 2 := (rx_unl ho5).s2
        have hb := hset.2.2.2 (cn (wg S w 0)) ho5
        rw [e2] at hb
        have := hM.2.2.1.2
        exact okA_ab hb (by omega)
theorem IV.fillX {c : Nat} {S : ka_F} (h : IV c S) (i : Nat) : IV c (rf_fillX S i) := by
  refine itr_inv (fun _ T => IV c T) h (fun i T hT => ?_) i
  unfold rf_fillAt
  split
  · exact hT
  · split
    · exact hT.kw
    · exact hT
theorem IV.fill {c : Nat} {S : ka_F} (h : IV c S) : IV c (rf_fill S) := h.fillX 3
theorem nd_len {n : Nat} {l : List Nat} (hd : l.Nodup) (hl : ∀ w, w ∈ l → w < n) : l.length ≤ n := by
  rw [← cntN_list l (fun w => decide (w ∈ l)) hd hl (fun w _ => by simp)]
  exact cntN_le n
/-- one more comes to the queue -/
theorem QUE.enter {P P' : ka_P} {S S' : ka_F} {a b : List Nat} {w : Nat} (h : QUE P S a b) (hn : cn (S 1) ≤ 20) (hw : w < cn (S 1)) (h3 : ¬ wg S w 3 = 2) (sw : swk S S' w) (h6 : ub 40000 (S 6)) (e3 : wg S' w 3 = 2) (e6 : wg S' w 6 = -1) (e9 : wg S' w 9 = S 6) (hP : P' 30 1 = P 30 1 ∧ ∀ i, P' 31 i = P 31 i) : QUE (sp_enter P' (nI w)) (sA S' 6 1) a (b ++ [w]) ∧ ∀ o, o ≠ 30 → o ≠ 31 → sp_enter P' (nI w) o = P' o := by
  have hni : w ∉ a ++ b := fun q => h3 (h.s2 q)
  have hnd2 : ((a ++ b) ++ [w]).Nodup := List.nodup_append.mpr ⟨h.nd, by simp, fun x hx y hy e => by
    rw [List.mem_singleton.mp hy] at e
    exact hni (e ▸ hx)⟩
  have hl2 := nd_len (n := cn (S 1)) hnd2 (fun x hx => by
    rcases List.mem_append.mp hx with q | q
    · exact h.lt q
    · rw [List.mem_singleton.mp q]; exact hw)
  have e7 : ((a ++ b) ++ [w]).length = (a ++ b).length + 1 := by
    rw [List.length_append]
    rfl
  have hlen : (a ++ b).length + 1 ≤ cn (S 1) := by
    rw [← e7]
    exact hl2
  have hlt : ∀ x, x ∈ a ++ b → x < 20 ∧ x ≠ w := fun x hx => ⟨by have := h.lt hx; omega, fun e => hni (e ▸ hx)⟩
  have hg : ∀ x j, x ∈ a ++ b → j < 10 → wg (sA S' 6 1) x j = wg S x j := fun x j hx hj => by
    rw [sA_w (by decide)]
    exact wg_of (sw.2 x (hlt x hx).1 (hlt x hx).2) hj
  have hgw : ∀ j, wg (sA S' 6 1) w j = wg S' w j := fun j => sA_w (by decide)
  have s6 : sA S' 6 1 6 = nI (cn (S 6) + 1) := by
    rw [sA_s, sw.1 6 (by decide), h6.1, nI_1]
    rw [← h6.1]
  have s1 : sA S' 6 1 1 = S 1 := (sA_n (by decide)).trans (sw.1 1 (by decide))
  have h62 := h6.2
  have l6 : S 6 < nI (cn (S 6) + 1) := by
    have : nI (cn (S 6)) < nI (cn (S 6) + 1) := nI_lt (by omega) (by omega)
    rw [← h6.1] at this
    exact this
  have e : a ++ (b ++ [w]) = (a ++ b) ++ [w] := (List.append_assoc a b [w]).symm
  have hE : sp_enter P' (nI w) = sp_add (ka_s2 P' 31 (upd (P' 31) (a ++ b).length (nI w))) 30 1 1 := by
    unfold sp_enter
    rw [hP.1, h.1.1, if_neg (nI_pos (by omega)), if_pos (show nI (a ++ b).length < 20 from nI_lt (a := (a ++ b).length) (b := 20) (by omega) (by decide)), cn_nI (by omega)]
  rw [hE]
  refine ⟨?_, fun o h30 h31 => (pU_n h30).trans (ka_s2_n h31)⟩
  obtain ⟨⟨b1, b2⟩, b3, b4, b5, b6, b7, b8⟩ := h
  refine ⟨⟨?_, fun i x hi => ?_⟩, fun x => ?_, ?_, fun x hx => ?_, fun x hx => ?_, fun x hx => ?_, b8⟩
  · unfold sp_add
    rw [pU_e, ka_s2_n (by decide), hP.1, b1, nI_1, e, e7]
  · unfold sp_add
    rw [pU_n (by decide), ka_s2_s]
    rw [e] at hi
    by_cases c : i = (a ++ b).length
    · subst c
      rw [List.getElem?_append_right (Nat.le_refl _), Nat.sub_self] at hi
      have hx : w = x := by simpa using hi
      rw [pk_us, hx]
    · have hl := (List.getElem?_eq_some_iff.mp hi).1
      rw [List.length_append] at hl
      simp at hl
      rw [List.length_append] at c
      rw [List.getElem?_append_left (by rw [List.length_append]; omega)] at hi
      rw [pk_un (by rw [List.length_append]; omega), hP.2]
      exact b2 i x hi
  · rw [e, List.mem_append, s1]
    constructor
    · rintro (hx | hx)
      · rw [hg x 3 hx (by decide)]
        exact (b3 x).mp hx
      · rw [List.mem_singleton.mp hx, hgw, e3]
        exact ⟨hw, rfl⟩
    · rintro ⟨q1, q2⟩
      by_cases c : x = w
      · exact Or.inr (by rw [c]; exact List.mem_singleton.mpr rfl)
      · refine Or.inl ((b3 x).mpr ⟨q1, ?_⟩)
        rw [sA_w (by decide), wg_of (sw.2 x (by omega) c) (by decide)] at q2
        exact q2
  · rw [e]
    refine List.pairwise_append.mpr ⟨b4.imp_of_mem (fun {x y} hx hy hxy => ?_), List.pairwise_singleton _ _, fun x hx y hy => ?_⟩
    · rw [hg x 9 hx (by decide), hg y 9 hy (by decide)]
      exact hxy
    · rw [List.mem_singleton.mp hy, hg x 9 hx (by decide), hgw, e9]
      exact b5 x hx
  · rw [e] at hx
    rw [s6]
    rcases List.mem_append.mp hx with q | q
    · rw [hg x 9 q (by decide)]
      exact Int32.lt_trans (b5 x q) l6
    · rw [List.mem_singleton.mp q, hgw, e9]
      exact l6
  · rw [hg x 6 (List.mem_append_left _ hx) (by decide)]
    exact b6 x hx
  · rcases List.mem_append.mp hx with q | q
    · rw [hg x 6 (List.mem_append_right _ q) (by decide)]
      exact b7 x q
    · rw [List.mem_singleton.mp q, hgw, e6]
      decide
theorem sim_repair {c D : Nat} {P : ka_P} {S : ka_F} {x : Int32} (h : RS c D P S) (hc : c < 40000) (hD : D ≤ 2200) : simO (c + 1) D (sp_repair P x) (rf_sends S x) := by
  obtain ⟨hR, hM, hI, a, b, hst, hQ⟩ := h
  have hML := hM.sends (x := x)
  unfold sp_repair
  unfold rf_sends at hML ⊢
  rw [hR.isWagon]
  by_cases c1 : rf_isWagon S x = false
  · rw [if_pos c1, if_pos c1]
    exact simO_1
  · rw [if_neg c1, if_neg c1]
    rw [if_neg c1] at hML
    obtain ⟨w, hwn, hw, rfl⟩ := rf_isWagon_of hM (by simpa using c1)
    rw [cn_nI (by omega)] at hML ⊢
    rw [wgIx_nI hw, hR.stands hwn hw]
    rcases hR.full hwn hw with ⟨f1, f2⟩ | ⟨f1, f2⟩
    · rw [if_pos f1, if_pos f2]
      exact simO_2
    · have f3 : ¬ wg S w 2 = 1 := by rw [f2]; decide
      rw [if_neg (by rw [f1]; decide), if_neg f3]
      rw [if_neg f3] at hML
      split
      · exact simO_2
      · next c3 =>
        have t3 : rf_stands S w 0 = true := by simpa using c3
        rw [if_neg c3] at hML
        have k3 : wg S w 3 = 0 := by
          unfold rf_stands at t3
          rw [Bool.and_eq_true, decide_eq_true_eq] at t3
          exact t3.1
        have ho4 := (hM.2.2.2.2 w hw).1
        have ho5 := hM.o5 hw
        have es : sp_setting P 5 = S 12 := hR.set (j := 5) (by decide)
        have i1 : IV (c + 1) (rf_pays S (cn (wg S w 0)) 0 (S 12)) := hI.pay ((hI.1.1 5 (by decide)).ab.up (by decide)) hc (by have := hM.2.2.1.2; omega)
        unfold sp_repairAt
        unfold rf_snd rf_snd1 at hML ⊢
        rw [plIx_0, es, hR.w0 hwn hw, plIx_ub ho4, sp_pay_eq]
        have r1 := (hR.pS (p := cn (wg S w 0)) 2 2 (x := S 12) ho5 (by decide)).pA (p := 0) 2 2 (x := S 12) (by decide) (by decide)
        have q1 : QUE (sp_add (sp_sub P (2 + cn (wg S w 0)) 2 (S 12)) (2 + 0) 2 (S 12)) (rf_pays S (cn (wg S w 0)) 0 (S 12)) a b :=
          (hQ.pl (p := cn (wg S w 0)) (j := 2) (j' := 2) hM.n ho5 (by decide)).pl (by rw [qU_j (by decide)]; exact hM.n) (by decide) (by decide)
        have r1 : RC ez0 (sp_add (sp_sub P (2 + cn (wg S w 0)) 2 (S 12)) (2 + 0) 2 (S 12)) (rf_pays S (cn (wg S w 0)) 0 (S 12)) := r1
        have eT : ∀ j, wg (rf_pays S (cn (wg S w 0)) 0 (S 12)) w j = wg S w j := fun j => (qU_w (by decide) (by decide)).trans (qU_w ho5 (by decide))
        have eJ : ∀ j, j < 39 → rf_pays S (cn (wg S w 0)) 0 (S 12) j = S j := fun j hj => (qU_j hj).trans (qU_j hj)
        have e30 : sp_add (sp_sub P (2 + cn (wg S w 0)) 2 (S 12)) (2 + 0) 2 (S 12) 30 = P 30 := (pU_n (by decide)).trans (pU_n (by omega))
        have eP : sp_add (sp_sub P (2 + cn (wg S w 0)) 2 (S 12)) (2 + 0) 2 (S 12) (8 + w) = P (8 + w) := (pU_n (by omega)).trans (pU_n (by omega))
        generalize sp_add (sp_sub P (2 + cn (wg S w 0)) 2 (S 12)) (2 + 0) 2 (S 12) = P1 at r1 q1 e30 eP ⊢
        generalize rf_pays S (cn (wg S w 0)) 0 (S 12) = S1 at r1 q1 eT eJ i1 hML ⊢
        have e6 : wU (wU S1 w 3 2) w 6 (-1) 6 = S1 6 := (wU_j (by decide)).trans (wU_j (by decide))
        rw [e6] at hML ⊢
        dsimp only at hML
        have sw : swk S1 (wU (wU (wU S1 w 3 2) w 6 (-1)) w 9 (S1 6)) w := ((swk.rf.up (by decide)).up (by decide)).up (by decide)
        have pw : pwk P1 (pU (pU P1 (8 + w) 2 2) (8 + w) 6 (-1)) w := (pwk.rf.up).up
        have hn1 : w < cn (S1 1) := by rw [eJ 1 (by decide)]; exact hwn
        have hn20 : cn (S1 1) ≤ 20 := by rw [eJ 1 (by decide)]; exact hM.n
        have r2 : RC ez0 (pU (pU P1 (8 + w) 2 2) (8 + w) 6 (-1)) (wU (wU (wU S1 w 3 2) w 6 (-1)) w 9 (S1 6)) := by
          refine r1.wag' hw pw sw hn1 ?_
          obtain ⟨⟨g0, g1, g2, g3, g4, g5⟩, _⟩ := r1.w hn1 hw
          rw [pU_s, pU_s, wr_s (by decide), wr_s (by decide), wr_s (by decide)]
          exact ⟨⟨g0, g1, rfl, g3, g4, g5⟩, Or.inr (Or.inr ⟨rfl, rfl, Or.inl rfl⟩)⟩
        have g3 : wg (wU (wU (wU S1 w 3 2) w 6 (-1)) w 9 (S1 6)) w 3 = 2 := by
          rw [wU_n (by decide) (by decide) (fun _ => by decide), wU_n (by decide) (by decide) (fun _ => by decide), wU_s]
        have g6 : wg (wU (wU (wU S1 w 3 2) w 6 (-1)) w 9 (S1 6)) w 6 = -1 := by
          rw [wU_n (by decide) (by decide) (fun _ => by decide), wU_s]
        have g9 : wg (wU (wU (wU S1 w 3 2) w 6 (-1)) w 9 (S1 6)) w 9 = S1 6 := wU_s
        have h6 : ub 40000 (S1 6) := i1.2.1.up (by omega)
        obtain ⟨q2, hoth⟩ := q1.enter (P' := pU (pU P1 (8 + w) 2 2) (8 + w) 6 (-1)) hn20 hn1 (by rw [eT, k3]; decide) sw h6 g3 g6 g9 ⟨by rw [pw 30 (by omega)], fun i => by rw [pw 31 (by omega)]⟩
        have r3 := (r2.qu hoth).s6 (v := 1)
        have i3 : IV (c + 1) (sA (wU (wU (wU S1 w 3 2) w 6 (-1)) w 9 (S1 6)) 6 1) := by
          obtain ⟨j1, j2, j3, j4⟩ := hI
          obtain ⟨k1, k2, k3, k4⟩ := i1.wag sw
          refine ⟨k1.of (fun j hj _ => sA_n (by omega)), ?_, ?_, ?_⟩
          · rw [sA_s, sw.1 6 (by decide), eJ 6 (by decide), j2.1, nI_1]
            have := j2.2
            exact ub_nI (by omega) (by omega)
          · rw [sA_p (by decide)]; exact k3
          · rw [sA_n (by decide)]
            exact k4.of (fun p hp => sA_p (by decide))
        have hv : ¬ sA (wU (wU (wU S1 w 3 2) w 6 (-1)) w 9 (S1 6)) 6 1 2 + sA (wU (wU (wU S1 w 3 2) w 6 (-1)) w 9 (S1 6)) 6 1 13 < 0 := by
          rw [sA_n (by decide), sA_n (by decide), sw.1 2 (by decide), sw.1 13 (by decide), eJ 2 (by decide), eJ 13 (by decide)]
          exact hM.v (by omega)
        have n20 : cn (sA (wU (wU (wU S1 w 3 2) w 6 (-1)) w 9 (S1 6)) 6 1 1) ≤ 20 := by
          rw [sA_n (by decide), sw.1 1 (by decide)]; exact hn20
        obtain ⟨a', b', _, t2, t3, t4⟩ := fill_sim q2 r3 n20 hv
        refine simO_mk ?_ ?_ ⟨t4, hML, i3.fill, a', b', t2, t3⟩
        · rw [e30, hQ.1.1, hQ.all]
        · rw [e30, hQ.1.1]
          have := hQ.len
          have := hM.n
          exact okA_nn (nI_pos (by omega))
