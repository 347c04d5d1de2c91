/-! bounds of the reference's numbers, and the orders on both sides -/
def abI (B : Nat) (x : Int32) : Prop := -(B : Int) ≤ x.toInt ∧ x.toInt ≤ (B : Int)
theorem abI.add {B k : Nat} {x v : Int32} (h : abI B x) (hv : abI k v) (hB : B + k < 2 ^ 31) : abI (B + k) (x + v) := by
  unfold abI at *
  rw [Int32.toInt_add, Int.bmod_eq_of_le_mul_two (by omega) (by omega)]
  omega
theorem abI.neg {k : Nat} {v : Int32} (h : abI k v) (hk : k < 2 ^ 31) : abI k (-v) := by
  unfold abI at *
  rw [Int32.toInt_neg, Int.bmod_eq_of_le_mul_two (by omega) (by omega)]
  omega
theorem abI.up {B C : Nat} {x : Int32} (h : abI B x) (hB : B ≤ C) : abI C x := by
  unfold abI at *
  omega
theorem ub.ab {n : Nat} {x : Int32} (h : ub n x) : abI n x := by
  have h1 := h.int
  have h2 := h.2
  unfold abI
  omega
def ACC (B : Nat) (S : ka_F) : Prop := ∀ p, p < 5 → abI B (pg S p 2)
theorem ACC.up {B C : Nat} {S : ka_F} (h : ACC B S) (hB : B ≤ C) : ACC C S := fun p hp => (h p hp).up hB
theorem ACC.of {B : Nat} {S T : ka_F} (h : ACC B S) (hT : ∀ p, p < 5 → pg T p 2 = pg S p 2) : ACC B T := fun p hp => by rw [hT p hp]; exact h p hp
theorem ACC.pA {B k : Nat} {S : ka_F} {p j : Nat} {v : Int32} (h : ACC B S) (hj : j < 6) (hv : abI k v) (hB : B + k < 2 ^ 31) : ACC (B + k) (qA S p j v) := fun q hq => by
  unfold qA
  by_cases c : q = p ∧ 2 = j
  · obtain ⟨rfl, rfl⟩ := c
    rw [qU_s]
    exact (h q hq).add hv hB
  · rw [qU_n hj (by decide) (fun e e2 => c ⟨e, e2⟩)]
    exact (h q hq).up (Nat.le_add_right _ _)
theorem ACC.ww {B : Nat} {S : ka_F} {w k : Nat} {v : Int32} (h : ACC B S) : ACC B (wU S w k v) := h.of (fun _ hp => wU_p hp (by decide))
theorem ACC.uu {B : Nat} {S : ka_F} {j : Nat} {v : Int32} (h : ACC B S) (hj : j < 39) : ACC B (upd S j v) := h.of (fun p hp => by
  unfold pg
  exact pk_un (by omega))
/-- settings and legs in their ranges -/
def IVs (S : ka_F) : Prop := (∀ j, j < 7 → ub 99 (S (7 + j))) ∧ ∀ j, j < 25 → ub 9 (S (14 + j))
theorem IVs.of {S T : ka_F} (h : IVs S) (hT : ∀ j, 7 ≤ j → j < 39 → T j = S j) : IVs T := ⟨fun j hj => by rw [hT _ (by omega) (by omega)]; exact h.1 j hj, fun j hj => by rw [hT _ (by omega) (by omega)]; exact h.2 j hj⟩
def IV (c : Nat) (S : ka_F) : Prop := IVs S ∧ ub c (S 6) ∧ pg S 0 0 = 0 ∧ ACC (4000 * cn (S 2) + 6000 * c) S
theorem IV.up {c c' : Nat} {S : ka_F} (h : IV c S) (hc : c ≤ c') : IV c' S := ⟨h.1, h.2.1.up hc, h.2.2.1, h.2.2.2.up (by omega)⟩
theorem IV.of {c : Nat} {S T : ka_F} (h : IV c S) (hT : ∀ j, 2 ≤ j → j < 39 → j ≠ 3 → j ≠ 4 → j ≠ 5 → T j = S j) (h0 : pg T 0 0 = pg S 0 0) (hA : ∀ p, p < 5 → pg T p 2 = pg S p 2) : IV c T := by
  obtain ⟨a, b, d, e⟩ := h
  refine ⟨a.of (fun j h7 h39 => hT j (by omega) h39 (by omega) (by omega) (by omega)), ?_, ?_, ?_⟩
  · rw [hT 6 (by decide) (by decide) (by decide) (by decide) (by decide)]; exact b
  · rw [h0]; exact d
  · rw [hT 2 (by decide) (by decide) (by decide) (by decide) (by decide)]
    exact e.of hA
theorem IV.kw {c : Nat} {S : ka_F} {w k : Nat} {v : Int32} (h : IV c S) : IV c (wU S w k v) := h.of (fun j _ hj _ _ _ => wU_j (by omega)) (wU_p (by decide) (by decide)) (fun _ hp => wU_p hp (by decide))
theorem IV.ka {c : Nat} {S : ka_F} {j : Nat} {v : Int32} (h : IV c S) (hj : j < 2 ∨ j = 3 ∨ j = 4 ∨ j = 5) : IV c (upd S j v) :=
  h.of (fun i _ _ _ _ _ => pk_un (by omega)) (by unfold pg; exact pk_un (by omega)) (fun p hp => by unfold pg; exact pk_un (by omega))
theorem IV.kq {c : Nat} {S : ka_F} {p k : Nat} {v : Int32} (h : IV c S) (hk : k < 6) (h2 : k ≠ 2) (h0 : p = 0 → k ≠ 0) : IV c (qU S p k v) :=
  h.of (fun i _ hi _ _ _ => qU_j (by omega)) (qU_n hk (by decide) (fun e e2 => h0 e.symm e2.symm)) (fun q hq => qU_n hk (by decide) (fun _ e => h2 e.symm))
/-- a payment, in an order -/
theorem IV.pay {c : Nat} {S : ka_F} {a b : Nat} {v : Int32} (h : IV c S) (hv : abI 3000 v) (hc : c < 40000) (hd : cn (S 2) ≤ 2200) : IV (c + 1) (rf_pays S a b v) := by
  obtain ⟨h1, h2, h3, h4⟩ := h
  have e : ∀ j, j < 39 → rf_pays S a b v j = S j := fun j hj => (qU_j hj).trans (qU_j hj)
  refine ⟨h1.of (fun j _ hj => e j hj), ?_, ?_, ?_⟩
  · rw [e 6 (by decide)]; exact h2.up (by omega)
  · unfold rf_pays qA
    rw [qU_n (by decide) (by decide) (fun _ => by decide), qU_n (by decide) (by decide) (fun _ => by decide)]
    exact h3
  · rw [e 2 (by decide)]
    unfold rf_pays
    have := (h4.pA (p := a) (j := 2) (by decide) (hv.neg (by decide)) (by omega)).pA (p := b) (j := 2) (by decide) hv (by omega)
    exact this.up (by omega)
/-- the whole relation: c orders so far, the day at most D -/
def RS (c D : Nat) (P : ka_P) (S : ka_F) : Prop := RC ez0 P S ∧ MK D S ∧ IV c S ∧ ∃ a b, stQ a b ∧ QUE P S a b
theorem RS.up {c c' D D' : Nat} {P : ka_P} {S : ka_F} (h : RS c D P S) (hc : c ≤ c') (hD : D ≤ D') : RS c' D' P S := ⟨h.1, h.2.1.up hD, h.2.2.1.up hc, h.2.2.2⟩
theorem RS.n {c D : Nat} {P : ka_P} {S : ka_F} (h : RS c D P S) : cn (S 1) ≤ 20 := h.2.1.n
def okA (x : Int32) : Prop := (sp_isErr x = true ∧ ¬ -2000000001 < x) ∨ (sp_isErr x = false ∧ -2000000001 < x)
theorem okA_gt {x : Int32} (h : -2000000001 < x) : okA x := by
  refine Or.inr ⟨?_, h⟩
  unfold sp_isErr kw
  simp [h]
theorem okA_nn {x : Int32} (h : ¬ x < 0) : okA x := okA_gt (by
  have h1 := nlt_int h
  refine Int32.lt_iff_toInt_lt.mpr ?_
  have e0 : (0 : Int32).toInt = 0 := by decide
  have e1 : (-2000000001 : Int32).toInt = -2000000001 := by decide
  omega)
theorem okA_ab {B : Nat} {x : Int32} (h : abI B x) (hB : B < 2000000000) : okA x := okA_gt (by
  refine Int32.lt_iff_toInt_lt.mpr ?_
  have e1 : (-2000000001 : Int32).toInt = -2000000001 := by decide
  unfold abI at h
  omega)
/-- an order's answers are the same, and if it is no error, so is what it leaves -/
def simO (c D : Nat) (r : Int32 × ka_P) (q : Int32 × ka_F) : Prop := r.1 = q.1 ∧ okA r.1 ∧ (-2000000001 < r.1 → RS c D r.2 q.2)
theorem okA_1 : okA (-2000000001) := Or.inl ⟨by decide, by decide⟩
theorem simO_1 {c D : Nat} {P : ka_P} {S : ka_F} : simO c D (-2000000001, P) (-2000000001, S) := ⟨rfl, okA_1, fun h => absurd (show (-2000000001 : Int32) < -2000000001 from h) (by decide)⟩
theorem okA_2 : okA (-2000000002) := Or.inl ⟨by decide, by decide⟩
theorem simO_2 {c D : Nat} {P : ka_P} {S : ka_F} : simO c D (-2000000002, P) (-2000000002, S) := ⟨rfl, okA_2, fun h => absurd (show (-2000000001 : Int32) < -2000000002 from h) (by decide)⟩
theorem okA_3 : okA (-2000000003) := Or.inl ⟨by decide, by decide⟩
theorem simO_3 {c D : Nat} {P : ka_P} {S : ka_F} : simO c D (-2000000003, P) (-2000000003, S) := ⟨rfl, okA_3, fun h => absurd (show (-2000000001 : Int32) < -2000000003 from h) (by decide)⟩
theorem simO_mk {c D : Nat} {x y : Int32} {P : ka_P} {S : ka_F} (h1 : x = y) (h2 : okA x) (h3 : RS c D P S) : simO c D (x, P) (y, S) := ⟨h1, h2, fun _ => h3⟩
theorem sA_comm {S : ka_F} {i j : Nat} {x y : Int32} (h : i ≠ j) : sA (sA S i x) j y = sA (sA S j y) i x := by
  funext k
  unfold sA
  rw [pk_un (f := S) (k := i) (j := j) h.symm, pk_un (f := S) (k := j) (j := i) h]
  by_cases c1 : k = i
  · subst c1
    rw [pk_us, pk_un h, pk_us]
  · by_cases c2 : k = j
    · subst c2
      rw [pk_us, pk_un c1, pk_us]
    · rw [pk_un c2, pk_un c1, pk_un c1, pk_un c2]
theorem sA_wU {S : ka_F} {i w k : Nat} {x v : Int32} (h : i < 69) : sA (wU S w k v) i x = wU (sA S i x) w k v := by
  funext j
  unfold sA wU
  rw [pk_un (show i ≠ 69 + 10 * w + k by omega)]
  by_cases c1 : j = i
  · subst c1
    rw [pk_us, pk_un (by omega), pk_us]
  · by_cases c2 : j = 69 + 10 * w + k
    · subst c2
      rw [pk_us, pk_un c1, pk_us]
    · rw [pk_un c1, pk_un c2, pk_un c2, pk_un c1]
theorem qA_sA {S : ka_F} {p k : Nat} {v : Int32} : qA S p k v = sA S (39 + 6 * p + k) v := rfl
theorem RC.qu {e : Nat → Int32} {P P' : ka_P} {S : ka_F} (h : RC e P S) (hP : ∀ o, o ≠ 30 → o ≠ 31 → P' o = P o) : RC e P' S := by
  refine ⟨h.1.of (hP 0 (by decide) (by decide)) (hP 28 (by decide) (by decide)) (hP 29 (by decide) (by decide)) (fun _ _ => rfl), fun p hp => ?_, fun w hw => ?_⟩
  · rw [hP (2 + p) (by omega) (by omega)]
    exact h.2.1 p hp
  · rw [hP 0 (by decide) (by decide), hP (8 + w) (by omega) (by omega)]
    exact h.2.2 w hw
/-- a number ahead of the settings, in the head's row -/
theorem RC.h0 {e : Nat → Int32} {P P' : ka_P} {S S' : ka_F} (h : RC e P S) (hP : ∀ o, o ≠ 0 → P' o = P o) (hS : ∀ j, 7 ≤ j → S' j = S j) (h1 : S' 1 = S 1) (h7 : P' 0 7 = P 0 7) (hh : P' 0 5 = S' 0 ∧ P' 0 6 = S' 1 ∧ P' 0 7 = S' 2 ∧ P' 0 8 = S' 3 ∧ P' 0 9 = S' 4 ∧ P' 0 10 = S' 5) : RC e P' S' := by
  obtain ⟨⟨a0, a1, a2, a3, a4, a5, a6, a7⟩, hPl, hW⟩ := h
  obtain ⟨b0, b1, b2, b3, b4, b5⟩ := hh
  refine ⟨⟨b0, b1, b2, b3, b4, b5, fun j hj => ?_, fun j hj => ?_⟩, fun p hp => ?_, fun w hw => ?_⟩
  · rw [hP 29 (by decide), hS _ (by omega)]; exact a6 j hj
  · rw [hP 28 (by decide), hS _ (by omega)]; exact a7 j hj
  · rw [hP (2 + p) (by omega), pr_of (T := S') (S := S) (fun j hj => hS _ (by omega))]
    exact hPl p hp
  · rw [h1, h7, hP (8 + w) (by omega), wr_of (T := S') (S := S) (fun j hj => hS _ (by omega))]
    exact hW w hw
theorem RC.s6 {e : Nat → Int32} {P : ka_P} {S : ka_F} {v : Int32} (h : RC e P S) : RC e P (sA S 6 v) := by
  obtain ⟨a0, a1, a2, a3, a4, a5, a6, a7⟩ := h.1
  exact h.h0 (fun _ _ => rfl) (fun j hj => sA_n (by omega)) (sA_n (by decide)) rfl ⟨a0.trans (sA_n (by decide)).symm, a1.trans (sA_n (by decide)).symm, a2.trans (sA_n (by decide)).symm, a3.trans (sA_n (by decide)).symm, a4.trans (sA_n (by decide)).symm, a5.trans (sA_n (by decide)).symm⟩
/-- one of the head's counters grows on both sides: mines, repairs, trains, empty trains -/
theorem RC.hd {e : Nat → Int32} {P : ka_P} {S : ka_F} (j j' : Nat) {v : Int32} (h : RC e P S) (hj : (j = 5 ∧ j' = 0) ∨ (j = 8 ∧ j' = 3) ∨ (j = 9 ∧ j' = 4) ∨ (j = 10 ∧ j' = 5)) : RC e (sp_add P 0 j v) (sA S j' v) := by
  obtain ⟨a0, a1, a2, a3, a4, a5, a6, a7⟩ := h.1
  have n : ∀ i, i ≠ j → sp_add P 0 j v 0 i = P 0 i := fun i hi => pU_j (fun _ => hi)
  have s : sp_add P 0 j v 0 j = P 0 j + v := pU_e
  refine h.h0 (fun o ho => pU_n ho) (fun i hi => sA_n (by omega)) (sA_n (by omega)) (n 7 (by omega)) ?_
  rcases hj with ⟨rfl, rfl⟩ | ⟨rfl, rfl⟩ | ⟨rfl, rfl⟩ | ⟨rfl, rfl⟩
  · rw [s, sA_s, n 6 (by decide), n 7 (by decide), n 8 (by decide), n 9 (by decide), n 10 (by decide), sA_n (by decide), sA_n (by decide), sA_n (by decide), sA_n (by decide), sA_n (by decide), a0]
    exact ⟨rfl, a1, a2, a3, a4, a5⟩
  · rw [s, sA_s, n 5 (by decide), n 6 (by decide), n 7 (by decide), n 9 (by decide), n 10 (by decide), sA_n (by decide), sA_n (by decide), sA_n (by decide), sA_n (by decide), sA_n (by decide), a3]
    exact ⟨a0, a1, a2, rfl, a4, a5⟩
  · rw [s, sA_s, n 5 (by decide), n 6 (by decide), n 7 (by decide), n 8 (by decide), n 10 (by decide), sA_n (by decide), sA_n (by decide), sA_n (by decide), sA_n (by decide), sA_n (by decide), a4]
    exact ⟨a0, a1, a2, a3, rfl, a5⟩
  · rw [s, sA_s, n 5 (by decide), n 6 (by decide), n 7 (by decide), n 8 (by decide), n 9 (by decide), sA_n (by decide), sA_n (by decide), sA_n (by decide), sA_n (by decide), sA_n (by decide), a5]
    exact ⟨a0, a1, a2, a3, a4, rfl⟩
theorem QUE.hd {P : ka_P} {S : ka_F} {a b : List Nat} {j j' : Nat} {v : Int32} (h : QUE P S a b) (hn : cn (S 1) ≤ 20) (hj' : j' < 69) (h1 : 1 ≠ j') (h6 : 6 ≠ j') : QUE (sp_add P 0 j v) (sA S j' v) a b :=
  h.of hn (by unfold sp_add; rw [pU_n (by decide)]) (fun i _ => by unfold sp_add; rw [pU_n (by decide)]) (qsS.u hj' h1 h6)
theorem QUE.pl {P : ka_P} {S : ka_F} {a b : List Nat} {p j j' : Nat} {x y : Int32} (h : QUE P S a b) (hn : cn (S 1) ≤ 20) (hp : p < 5) (hj : j' < 6) : QUE (pU P (2 + p) j x) (qU S p j' y) a b :=
  h.of hn (by rw [pU_n (by omega)]) (fun i _ => by rw [pU_n (by omega)]) (qsS.qq hp hj)
theorem MK.mine {D : Nat} {S : ka_F} {x : Int32} (hM : MK D S) (c : ¬ S 0 = 4) : MK D (rf_mine1 S x) := by
  have h4 := rf_lt4 hM c
  obtain ⟨h0, h1, h2, h3, hw⟩ := hM
  have e : ∀ j, j < 39 → j ≠ 0 → rf_mine1 S x j = S j := fun j hj hj0 => (qU_j hj).trans (sA_n hj0)
  refine ⟨?_, ?_, ?_, ?_, fun w hw20 => ?_⟩
  · unfold rf_mine1
    rw [qU_j (by decide), sA_s, h0.1, nI_1]
    exact ub_nI (by omega) (by omega)
  · rw [e 1 (by decide) (by decide)]; exact h1
  · rw [e 2 (by decide) (by decide)]; exact h2
  · rw [e 13 (by decide) (by decide)]; exact h3
  · unfold rf_mine1
    rw [qU_w (by omega) (by decide), qU_w (by omega) (by decide), sA_w (by decide), sA_w (by decide)]
    exact hw w hw20
theorem mine_lt {D : Nat} {P : ka_P} {S : ka_F} {e : Nat → Int32} (h : RC e P S) (hM : MK D S) : (¬ P 0 5 < 4) ↔ S 0 = 4 := by
  rw [h.m]
  constructor
  · intro c
    by_cases c2 : S 0 = 4
    · exact c2
    · have h4 := rf_lt4 hM c2
      exact absurd (by rw [hM.1.1]; exact nI_lt (a := cn (S 0)) (b := 4) (by omega) (by decide)) c
  · intro c
    rw [c]
    decide
theorem sim_mine {c D : Nat} {P : ka_P} {S : ka_F} {x : Int32} (h : RS c D P S) : simO (c + 1) D (sp_addMine P x) (rf_mine S x) := by
  obtain ⟨hR, hM, hI, a, b, hst, hQ⟩ := h
  unfold sp_addMine rf_mine
  split
  · exact simO_1
  · split
    · next c2 =>
      rw [if_pos ((mine_lt hR hM).mp c2)]
      exact simO_3
    · next c2 =>
      have c3 : ¬ S 0 = 4 := fun z => c2 ((mine_lt hR hM).mpr z)
      have h4 := rf_lt4 hM c3
      rw [if_neg c3]
      have e5 : sp_add P 0 5 1 0 5 = nI (cn (S 0) + 1) := by
        unfold sp_add
        rw [pU_e, hR.m, hM.1.1, nI_1]
        rw [← hM.1.1]
      have r1 := hR.hd 5 0 (v := 1) (Or.inl ⟨rfl, rfl⟩)
      have r2 := r1.pU1 (p := cn (S 0) + 1) 0 1 (x := x) (by omega) (by decide)
      have q2 := (hQ.hd (j := 5) (j' := 0) (v := 1) hM.n (by decide) (by decide) (by decide)).pl (p := cn (S 0) + 1) (j := 0) (j' := 1) (x := x) (y := x) (by rw [sA_n (by decide)]; exact hM.n) (by omega) (by decide)
      rw [e5, plIx_nI (by omega)]
      have v : pU (sp_add P 0 5 1) (2 + (cn (S 0) + 1)) 0 x 0 5 = rf_mine1 S x 0 := r2.m
      refine simO_mk v ?_ ⟨r2, hM.mine c3, ((hI.ka (Or.inl (by decide))).kq (by decide) (by decide) (fun e => by omega)).up (by omega), a, b, hst, q2⟩
      rw [pU_n (by omega), e5]
      exact okA_nn (nI_pos (by omega))
theorem isLeg_eq {e : Nat → Int32} {P : ka_P} {S : ka_F} (h : RC e P S) {x y : Int32} : sp_isLeg P x y = (rf_isPlace S x && rf_isPlace S y && !decide (x = y)) := by
  unfold sp_isLeg
  rw [h.isPlace, h.isPlace]
theorem keepLeg_eq {P : ka_P} {a b : Nat} {v : Int32} (ha : a < 5) (hb : b < 5) : sp_keepLeg P (nI a) (nI b) v = ka_s2 P 28 (upd (P 28) (a * 5 + b) v) := by
  have e1 : nI a * 5 + nI b = nI (a * 5 + b) := by
    show nI a * nI 5 + nI b = _
    rw [nI_mul, nI_add]
  unfold sp_keepLeg
  rw [e1, if_neg (nI_pos (by omega)), if_pos (show nI (a * 5 + b) < 25 from nI_lt (a := a * 5 + b) (b := 25) (by omega) (by decide)), cn_nI (by omega)]
theorem RC.lgs {e : Nat → Int32} {P P' : ka_P} {S S' : ka_F} (h : RC e P S) (hP : ∀ o, o ≠ 28 → P' o = P o) (hS : ∀ j, (j < 14 ∨ 39 ≤ j) → S' j = S j) (hl : ∀ j, j < 25 → P' 28 j = S' (14 + j)) : RC e P' S' := by
  obtain ⟨⟨a0, a1, a2, a3, a4, a5, a6, a7⟩, hPl, hW⟩ := h
  refine ⟨⟨?_, ?_, ?_, ?_, ?_, ?_, fun j hj => ?_, hl⟩, fun p hp => ?_, fun w hw => ?_⟩
  · rw [hP 0 (by decide), hS 0 (Or.inl (by decide))]; exact a0
  · rw [hP 0 (by decide), hS 1 (Or.inl (by decide))]; exact a1
  · rw [hP 0 (by decide), hS 2 (Or.inl (by decide))]; exact a2
  · rw [hP 0 (by decide), hS 3 (Or.inl (by decide))]; exact a3
  · rw [hP 0 (by decide), hS 4 (Or.inl (by decide))]; exact a4
  · rw [hP 0 (by decide), hS 5 (Or.inl (by decide))]; exact a5
  · rw [hP 29 (by decide), hS _ (Or.inl (by omega))]; exact a6 j hj
  · rw [hP (2 + p) (by omega), pr_of (T := S') (S := S) (fun j hj => hS _ (Or.inr (by omega)))]
    exact hPl p hp
  · rw [hP 0 (by decide), hS 1 (Or.inl (by decide)), hP (8 + w) (by omega), wr_of (T := S') (S := S) (fun j hj => hS _ (Or.inr (by omega)))]
    exact hW w hw
theorem isErr_leg {x : Int32} (h : ub 99 x) : okA x := okA_nn h.pos
theorem sim_leg {c D : Nat} {P : ka_P} {S : ka_F} {x y v : Int32} (h : RS c D P S) : simO (c + 1) D (sp_changeLeg P x y v) (rf_legs S x y v) := by
  obtain ⟨hR, hM, hI, a, b, hst, hQ⟩ := h
  unfold sp_changeLeg rf_legs
  rw [isLeg_eq hR]
  by_cases c1 : rf_isPlace S x = false
  · rw [if_pos c1, if_pos (show (rf_isPlace S x && rf_isPlace S y && !decide (x = y)) = false by simp [c1])]
    exact simO_1
  · by_cases c2 : rf_isPlace S y = false
    · rw [if_neg c1, if_pos c2, if_pos (show (rf_isPlace S x && rf_isPlace S y && !decide (x = y)) = false by simp [c2])]
      exact simO_1
    · rw [if_neg c1, if_neg c2]
      have t1 : rf_isPlace S x = true := by simpa using c1
      have t2 : rf_isPlace S y = true := by simpa using c2
      by_cases c3 : x = y
      · rw [if_pos c3, if_pos (show (rf_isPlace S x && rf_isPlace S y && !decide (x = y)) = false by simp [c3])]
        exact simO_1
      · rw [if_neg c3, if_neg (show ¬ (rf_isPlace S x && rf_isPlace S y && !decide (x = y)) = false by simp [c3, t1, t2])]
        split
        · exact simO_1
        · next c4 =>
          obtain ⟨i, hi, rfl⟩ := rf_isPlace_of hM t1
          obtain ⟨j, hj, rfl⟩ := rf_isPlace_of hM t2
          have hij : i ≠ j := fun e => c3 (by rw [e])
          have hv : ub 9 v := by
            obtain ⟨g1, g2⟩ := kw_t (show kw v 1 9 = true by simpa using c4)
            have q1 := nlt_int g1
            have q2 := nlt_int g2
            have e1 : (1 : Int32).toInt = 1 := by decide
            have e9 : (9 : Int32).toInt = 9 := by decide
            obtain ⟨k, hk, rfl⟩ := nI_of (x := v) (fun z => by
              have := lt_int z
              have e0 : (0 : Int32).toInt = 0 := by decide
              omega)
            rw [nI_toInt hk] at q1 q2
            exact ub_nI (by omega) (by decide)
          rw [hR.legs hi hj, cn_nI (by omega), cn_nI (by omega), keepLeg_eq hi hj, keepLeg_eq hj hi, ka_s2_s, ka_s2_s2]
          have r : RC ez0 (ka_s2 P 28 (upd (upd (P 28) (i * 5 + j) v) (j * 5 + i) v)) (rf_legs1 S i j v) := by
            refine hR.lgs (fun o ho => ka_s2_n ho) (fun k hk => ?_) (fun k hk => ?_)
            · unfold rf_legs1
              rw [pk_un (by omega), pk_un (by omega)]
            · rw [ka_s2_s]
              unfold rf_legs1
              by_cases e1 : k = j * 5 + i
              · rw [e1, pk_us, show 14 + (j * 5 + i) = 14 + 5 * j + i by omega, pk_us]
              · rw [pk_un e1, pk_un (show 14 + k ≠ 14 + 5 * j + i by omega)]
                by_cases e2 : k = i * 5 + j
                · rw [e2, pk_us, show 14 + (i * 5 + j) = 14 + 5 * i + j by omega, pk_us]
                · rw [pk_un e2, pk_un (show 14 + k ≠ 14 + 5 * i + j by omega)]
                  exact hR.lg hk
          have hs : ∀ k, k < 14 ∨ 39 ≤ k → rf_legs1 S i j v k = S k := fun k hk => by
            unfold rf_legs1
            rw [pk_un (by omega), pk_un (by omega)]
          refine simO_mk rfl (isErr_leg ((show ub 9 (S (14 + 5 * i + j)) by
            have := hI.1.2 (5 * i + j) (by omega)
            rw [show 14 + 5 * i + j = 14 + (5 * i + j) by omega]
            exact this).up (by decide))) ⟨r, ?_, ?_, a, b, hst, ?_⟩
          · obtain ⟨h0, h1, h2, h3, hw⟩ := hM
            refine ⟨?_, ?_, ?_, ?_, fun w hw20 => ?_⟩
            · rw [hs 0 (Or.inl (by decide))]; exact h0
            · rw [hs 1 (Or.inl (by decide))]; exact h1
            · rw [hs 2 (Or.inl (by decide))]; exact h2
            · rw [hs 13 (Or.inl (by decide))]; exact h3
            · unfold wg
              rw [hs _ (Or.inr (by omega)), hs _ (Or.inr (by omega))]
              exact hw w hw20
          · refine IV.up (c := c) ⟨⟨fun k hk => ?_, fun k hk => ?_⟩, ?_, ?_, ?_⟩ (by omega)
            · rw [hs _ (Or.inl (by omega))]; exact hI.1.1 k hk
            · unfold rf_legs1
              by_cases e1 : 14 + k = 14 + 5 * j + i
              · rw [e1, pk_us]; exact hv
              · rw [pk_un e1]
                by_cases e2 : 14 + k = 14 + 5 * i + j
                · rw [e2, pk_us]; exact hv
                · rw [pk_un e2]
                  exact hI.1.2 k hk
            · rw [hs _ (Or.inl (by decide))]; exact hI.2.1
            · unfold pg
              rw [hs _ (Or.inr (by decide))]; exact hI.2.2.1
            · rw [hs 2 (Or.inl (by decide))]
              exact hI.2.2.2.of (fun p hp => by
                unfold pg
                rw [hs _ (Or.inr (by omega))])
          · refine hQ.of hM.n (by rw [ka_s2_n (by decide)]) (fun k _ => by rw [ka_s2_n (by decide)]) ⟨hs 1 (Or.inl (by decide)), hs 6 (Or.inl (by decide)), fun w hw => ?_⟩
            unfold wg
            rw [hs _ (Or.inr (by omega)), hs _ (Or.inr (by omega)), hs _ (Or.inr (by omega))]
            exact ⟨Iff.rfl, fun _ => ⟨rfl, rfl⟩⟩
