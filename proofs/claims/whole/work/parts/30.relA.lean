/-! the relation between a pool P of the class and the reference's array S: rows, frames -/
def wrw (S : ka_F) (w : Nat) : ka_F := fun k => if k < 10 then wg S w k else 0
def prp (S : ka_F) (p : Nat) : ka_F := fun k => if k < 6 then pg S p k else 0
theorem wr_k {S : ka_F} {w k : Nat} (hk : k < 10) : wrw S w k = wg S w k := if_pos hk
theorem pr_k {S : ka_F} {p k : Nat} (hk : k < 6) : prp S p k = pg S p k := if_pos hk
theorem wr_s {S : ka_F} {w k : Nat} {v : Int32} (hk : k < 10) : wrw (wU S w k v) w = upd (wrw S w) k v := by
  funext j
  by_cases hj : j = k
  · subst hj
    rw [wr_k hk, wU_s, pk_us]
  · rw [pk_un hj]
    unfold wrw
    split
    · next h => exact wU_n hk h (fun _ => hj)
    · rfl
theorem wr_n {S : ka_F} {w w' k : Nat} {v : Int32} (h : w' ≠ w) (hk : k < 10) : wrw (wU S w k v) w' = wrw S w' := by
  funext j
  unfold wrw
  split
  · next h2 => exact wU_n hk h2 (fun e => absurd e h)
  · rfl
theorem wr_q {S : ka_F} {p k w : Nat} {v : Int32} (hp : p < 5) (hk : k < 6) : wrw (qU S p k v) w = wrw S w := by
  funext j
  unfold wrw
  rw [qU_w hp hk]
theorem wr_u {S : ka_F} {j w : Nat} {v : Int32} (hj : j < 69) : wrw (upd S j v) w = wrw S w := by
  funext k
  unfold wrw wg
  rw [pk_un (by omega)]
theorem pr_s {S : ka_F} {p k : Nat} {v : Int32} (hk : k < 6) : prp (qU S p k v) p = upd (prp S p) k v := by
  funext j
  by_cases hj : j = k
  · subst hj
    rw [pr_k hk, qU_s, pk_us]
  · rw [pk_un hj]
    unfold prp
    split
    · next h => exact qU_n hk h (fun _ => hj)
    · rfl
theorem pr_n {S : ka_F} {p p' k : Nat} {v : Int32} (h : p' ≠ p) (hk : k < 6) : prp (qU S p k v) p' = prp S p' := by
  funext j
  unfold prp
  split
  · next h2 => exact qU_n hk h2 (fun e => absurd e h)
  · rfl
theorem pr_w {S : ka_F} {p k w : Nat} {v : Int32} (hp : p < 5) : prp (wU S w k v) p = prp S p := by
  funext j
  unfold prp
  split
  · next h2 => exact wU_p hp h2
  · rfl
theorem pr_u {S : ka_F} {j p : Nat} {v : Int32} (hj : j < 39) : prp (upd S j v) p = prp S p := by
  funext k
  unfold prp pg
  rw [pk_un (by omega)]
theorem wr_of {S T : ka_F} {w : Nat} (h : ∀ k, k < 10 → wg T w k = wg S w k) : wrw T w = wrw S w := by
  funext k
  unfold wrw
  split
  · next h2 => exact h k h2
  · rfl
theorem pr_of {S T : ka_F} {p : Nat} (h : ∀ k, k < 6 → pg T p k = pg S p k) : prp T p = prp S p := by
  funext k
  unfold prp
  split
  · next h2 => exact h k h2
  · rfl
theorem wg_of {S T : ka_F} {w k : Nat} (h : wrw T w = wrw S w) (hk : k < 10) : wg T w k = wg S w k := by
  rw [← wr_k hk, ← wr_k hk, h]
theorem pg_of {S T : ka_F} {p k : Nat} (h : prp T p = prp S p) (hk : k < 6) : pg T p k = pg S p k := by
  rw [← pr_k hk, ← pr_k hk, h]
abbrev pmj (j j' : Nat) : Prop := (j = 0 ∧ j' = 1) ∨ (j = 1 ∧ j' = 0) ∨ (j = 2 ∧ j' = 2) ∨ (j = 3 ∧ j' = 3) ∨ (j = 4 ∧ j' = 4) ∨ (j = 5 ∧ j' = 5)
def PRel (f g : ka_F) : Prop := f 0 = g 1 ∧ f 1 = g 0 ∧ f 2 = g 2 ∧ f 3 = g 3 ∧ f 4 = g 4 ∧ f 5 = g 5
theorem PRel.up {f g : ka_F} {j j' : Nat} {x : Int32} (h : PRel f g) (hj : pmj j j') : PRel (upd f j x) (upd g j' x) := by
  obtain ⟨h0, h1, h2, h3, h4, h5⟩ := h
  rcases hj with ⟨rfl, rfl⟩ | ⟨rfl, rfl⟩ | ⟨rfl, rfl⟩ | ⟨rfl, rfl⟩ | ⟨rfl, rfl⟩ | ⟨rfl, rfl⟩
  · exact ⟨rfl, h1, h2, h3, h4, h5⟩
  · exact ⟨h0, rfl, h2, h3, h4, h5⟩
  · exact ⟨h0, h1, rfl, h3, h4, h5⟩
  · exact ⟨h0, h1, h2, rfl, h4, h5⟩
  · exact ⟨h0, h1, h2, h3, rfl, h5⟩
  · exact ⟨h0, h1, h2, h3, h4, rfl⟩
def WCom (f g : ka_F) : Prop := f 0 = g 0 ∧ f 1 = g 1 ∧ f 2 = g 3 ∧ ka_b (ka_t (f 3)) = g 2 ∧ f 4 = g 4 ∧ f 8 = g 7
def WRel (e d : Int32) (f g : ka_F) : Prop := WCom f g ∧ ((f 2 = 0 ∧ d - f 5 = g 5 + e) ∨ (f 2 = 1 ∧ f 6 = g 6 ∧ ¬ g 6 < 0 ∧ f 7 = g 8) ∨ (f 2 = 2 ∧ f 6 = g 6 ∧ (g 6 = -1 ∨ ¬ g 6 < 0)))
def URel (f : ka_F) : Prop := ka_t (f 3) = false ∧ f 4 = 0 ∧ f 8 = 0
def HRel (P : ka_P) (S : ka_F) : Prop := P 0 5 = S 0 ∧ P 0 6 = S 1 ∧ P 0 7 = S 2 ∧ P 0 8 = S 3 ∧ P 0 9 = S 4 ∧ P 0 10 = S 5 ∧ (∀ j, j < 7 → P 29 j = S (7 + j)) ∧ (∀ j, j < 25 → P 28 j = S (14 + j))
theorem HRel.of {P P' : ka_P} {S S' : ka_F} (h : HRel P S) (h0 : P' 0 = P 0) (h28 : P' 28 = P 28) (h29 : P' 29 = P 29) (hS : ∀ j, j < 39 → S' j = S j) : HRel P' S' := by
  obtain ⟨a0, a1, a2, a3, a4, a5, a6, a7⟩ := h
  unfold HRel
  rw [h0, h28, h29, hS 0 (by decide), hS 1 (by decide), hS 2 (by decide), hS 3 (by decide), hS 4 (by decide), hS 5 (by decide)]
  exact ⟨a0, a1, a2, a3, a4, a5, fun j hj => by rw [hS _ (by omega)]; exact a6 j hj, fun j hj => by rw [hS _ (by omega)]; exact a7 j hj⟩
/-- e: by how much the reference's standing is behind -/
def RC (e : Nat → Int32) (P : ka_P) (S : ka_F) : Prop := HRel P S ∧ (∀ p, p < 5 → PRel (P (2 + p)) (prp S p)) ∧ (∀ w, w < 20 → (w < cn (S 1) → WRel (e w) (P 0 7) (P (8 + w)) (wrw S w)) ∧ (¬ w < cn (S 1) → URel (P (8 + w))))
def ez0 : Nat → Int32 := fun _ => 0
def ez1 : Nat → Int32 := fun _ => 1
theorem RC.wag {e e' : Nat → Int32} {P P' : ka_P} {S S' : ka_F} {k : Nat} (h : RC e P S) (hk20 : k < 20) (hP : ∀ o, o ≠ 8 + k → P' o = P o) (hS : ∀ j, j < 69 → S' j = S j) (hw : ∀ w, w < 20 → w ≠ k → wrw S' w = wrw S w) (he : ∀ w, w ≠ k → e' w = e w) (hk : k < cn (S 1)) (hr : WRel (e' k) (P 0 7) (P' (8 + k)) (wrw S' k)) : RC e' P' S' := by
  obtain ⟨hH, hPl, hW⟩ := h
  refine ⟨hH.of (hP 0 (by omega)) (hP 28 (by omega)) (hP 29 (by omega)) (fun j hj => hS j (by omega)), fun p hp => ?_, fun w hw20 => ?_⟩
  · rw [hP (2 + p) (by omega), pr_of (T := S') (S := S) (fun j hj => hS _ (by omega))]
    exact hPl p hp
  · rw [hS 1 (by decide), hP 0 (by omega)]
    by_cases c : w = k
    · subst c
      exact ⟨fun _ => hr, fun n => absurd hk n⟩
    · rw [hP (8 + w) (by omega), hw w hw20 c, he w c]
      exact hW w hw20
theorem RC.pU1 {e : Nat → Int32} {P : ka_P} {S : ka_F} {p : Nat} (j j' : Nat) {x : Int32} (h : RC e P S) (hp : p < 5) (hj : pmj j j') : RC e (pU P (2 + p) j x) (qU S p j' x) := by
  have hj6 : j' < 6 := by omega
  obtain ⟨hH, hPl, hW⟩ := h
  have n0 : pU P (2 + p) j x 0 = P 0 := pU_n (by omega)
  refine ⟨hH.of n0 (pU_n (by omega)) (pU_n (by omega)) (fun j hj => qU_j hj), fun q hq => ?_, fun w hw20 => ?_⟩
  · by_cases c : q = p
    · subst c
      rw [pU_s, pr_s hj6]
      exact (hPl q hq).up hj
    · rw [pU_n (by omega), pr_n c hj6]
      exact hPl q hq
  · rw [qU_j (by decide), n0, wr_q hp hj6, show pU P (2 + p) j x (8 + w) = P (8 + w) from pU_n (by omega)]
    exact hW w hw20
theorem RC.pv {e : Nat → Int32} {P : ka_P} {S : ka_F} {p : Nat} (j j' : Nat) (h : RC e P S) (hp : p < 5) (hj : pmj j j') : P (2 + p) j = pg S p j' := by
  have hj6 : j' < 6 := by omega
  rw [← pr_k hj6]
  obtain ⟨h0, h1, h2, h3, h4, h5⟩ := h.2.1 p hp
  rcases hj with ⟨rfl, rfl⟩ | ⟨rfl, rfl⟩ | ⟨rfl, rfl⟩ | ⟨rfl, rfl⟩ | ⟨rfl, rfl⟩ | ⟨rfl, rfl⟩
  · exact h0
  · exact h1
  · exact h2
  · exact h3
  · exact h4
  · exact h5
theorem RC.pA {e : Nat → Int32} {P : ka_P} {S : ka_F} {p : Nat} (j j' : Nat) {x : Int32} (h : RC e P S) (hp : p < 5) (hj : pmj j j') : RC e (sp_add P (2 + p) j x) (qA S p j' x) := by
  unfold sp_add qA
  rw [h.pv j j' hp hj]
  exact h.pU1 j j' hp hj
theorem RC.pS {e : Nat → Int32} {P : ka_P} {S : ka_F} {p : Nat} (j j' : Nat) {x : Int32} (h : RC e P S) (hp : p < 5) (hj : pmj j j') : RC e (sp_sub P (2 + p) j x) (qA S p j' (-x)) := by
  unfold sp_sub qA
  rw [h.pv j j' hp hj, Int32.sub_eq_add_neg]
  exact h.pU1 j j' hp hj
/-- only wagon k of S has changed -/
def swk (S S' : ka_F) (k : Nat) : Prop := (∀ j, j < 69 → S' j = S j) ∧ ∀ w, w < 20 → w ≠ k → wrw S' w = wrw S w
theorem swk.rf {S : ka_F} {k : Nat} : swk S S k := ⟨fun _ _ => rfl, fun _ _ _ => rfl⟩
theorem swk.up {S T : ka_F} {k j : Nat} {v : Int32} (h : swk S T k) (hj : j < 10) : swk S (wU T k j v) k :=
  ⟨fun i hi => (wU_j hi).trans (h.1 i hi), fun w hw hn => (wr_n hn hj).trans (h.2 w hw hn)⟩
def pwk (P P' : ka_P) (k : Nat) : Prop := ∀ o, o ≠ 8 + k → P' o = P o
theorem pwk.rf {P : ka_P} {k : Nat} : pwk P P k := fun _ _ => rfl
theorem pwk.up {P Q : ka_P} {k j : Nat} {v : Int32} (h : pwk P Q k) : pwk P (pU Q (8 + k) j v) k := fun o ho => (pU_n ho).trans (h o ho)
theorem pwk.stand {P Q : ka_P} {k : Nat} {d : Int32} (h : pwk P Q k) : pwk P (sp_standFrom Q k d) k := h.up.up
theorem pwk.add {P Q : ka_P} {k j : Nat} {v : Int32} (h : pwk P Q k) : pwk P (sp_add Q (8 + k) j v) k := h.up
theorem RC.wag' {e : Nat → Int32} {P P' : ka_P} {S S' : ka_F} {k : Nat} (h : RC e P S) (hk20 : k < 20) (hP : pwk P P' k) (hS : swk S S' k) (hk : k < cn (S 1)) (hr : WRel (e k) (P 0 7) (P' (8 + k)) (wrw S' k)) : RC e P' S' :=
  h.wag hk20 hP hS.1 hS.2 (fun _ _ => rfl) hk hr
theorem RC.m {e : Nat → Int32} {P : ka_P} {S : ka_F} (h : RC e P S) : P 0 5 = S 0 := h.1.1
theorem RC.n {e : Nat → Int32} {P : ka_P} {S : ka_F} (h : RC e P S) : P 0 6 = S 1 := h.1.2.1
theorem RC.d {e : Nat → Int32} {P : ka_P} {S : ka_F} (h : RC e P S) : P 0 7 = S 2 := h.1.2.2.1
theorem RC.st {e : Nat → Int32} {P : ka_P} {S : ka_F} (h : RC e P S) {j : Nat} (hj : j < 7) : P 29 j = S (7 + j) := h.1.2.2.2.2.2.2.1 j hj
theorem RC.lg {e : Nat → Int32} {P : ka_P} {S : ka_F} (h : RC e P S) {j : Nat} (hj : j < 25) : P 28 j = S (14 + j) := h.1.2.2.2.2.2.2.2 j hj
theorem RC.w {e : Nat → Int32} {P : ka_P} {S : ka_F} (h : RC e P S) {w : Nat} (hn : w < cn (S 1)) (hw : w < 20) : WRel (e w) (P 0 7) (P (8 + w)) (wrw S w) := (h.2.2 w hw).1 hn
theorem RC.w0 {e : Nat → Int32} {P : ka_P} {S : ka_F} (h : RC e P S) {w : Nat} (hn : w < cn (S 1)) (hw : w < 20) : P (8 + w) 0 = wg S w 0 := (h.w hn hw).1.1.trans (wr_k (by decide))
theorem RC.w1 {e : Nat → Int32} {P : ka_P} {S : ka_F} (h : RC e P S) {w : Nat} (hn : w < cn (S 1)) (hw : w < 20) : P (8 + w) 1 = wg S w 1 := (h.w hn hw).1.2.1.trans (wr_k (by decide))
theorem RC.w2 {e : Nat → Int32} {P : ka_P} {S : ka_F} (h : RC e P S) {w : Nat} (hn : w < cn (S 1)) (hw : w < 20) : P (8 + w) 2 = wg S w 3 := (h.w hn hw).1.2.2.1.trans (wr_k (by decide))
theorem RC.w3 {e : Nat → Int32} {P : ka_P} {S : ka_F} (h : RC e P S) {w : Nat} (hn : w < cn (S 1)) (hw : w < 20) : ka_b (sp_full P w) = wg S w 2 := (h.w hn hw).1.2.2.2.1.trans (wr_k (by decide))
theorem RC.w4 {e : Nat → Int32} {P : ka_P} {S : ka_F} (h : RC e P S) {w : Nat} (hn : w < cn (S 1)) (hw : w < 20) : P (8 + w) 4 = wg S w 4 := (h.w hn hw).1.2.2.2.2.1.trans (wr_k (by decide))
theorem RC.w8 {e : Nat → Int32} {P : ka_P} {S : ka_F} (h : RC e P S) {w : Nat} (hn : w < cn (S 1)) (hw : w < 20) : P (8 + w) 8 = wg S w 7 := (h.w hn hw).1.2.2.2.2.2.trans (wr_k (by decide))
/-- how it stands with a wagon, by the reference's state -/
theorem RC.ws {e : Nat → Int32} {P : ka_P} {S : ka_F} (h : RC e P S) {w : Nat} (hn : w < cn (S 1)) (hw : w < 20) : (wg S w 3 = 0 ∧ P 0 7 - P (8 + w) 5 = wg S w 5 + e w) ∨ (wg S w 3 = 1 ∧ P (8 + w) 6 = wg S w 6 ∧ ¬ wg S w 6 < 0 ∧ P (8 + w) 7 = wg S w 8) ∨ (wg S w 3 = 2 ∧ P (8 + w) 6 = wg S w 6 ∧ (wg S w 6 = -1 ∨ ¬ wg S w 6 < 0)) := by
  have h1 := (h.w hn hw).2
  rw [show P (8 + w) 2 = wg S w 3 from h.w2 hn hw, wr_k (k := 5) (by decide), wr_k (k := 6) (by decide), wr_k (k := 8) (by decide)] at h1
  exact h1
theorem wgIx_nI {w : Nat} (hw : w < 20) : wgIx (nI w) = w := by
  unfold wgIx
  rw [if_neg (nI_pos (by omega)), if_pos (show nI w < 20 from nI_lt (a := w) (b := 20) hw (by decide)), cn_nI (by omega)]
theorem plIx_nI {p : Nat} (hp : p < 5) : plIx (nI p) = p := by
  unfold plIx
  rw [if_neg (nI_pos (by omega)), if_pos (show nI p < 5 from nI_lt (a := p) (b := 5) hp (by decide)), cn_nI (by omega)]
theorem plIx_ub {x : Int32} (h : ub 4 x) : plIx x = cn x := by
  have h2 := h.2
  have e : plIx x = plIx (nI (cn x)) := by rw [← h.1]
  rw [e, plIx_nI (by omega)]
theorem plIx_0 : plIx 0 = 0 := by decide
theorem RC.set {e : Nat → Int32} {P : ka_P} {S : ka_F} (h : RC e P S) {j : Nat} (hj : j < 7) : sp_setting P (nI j) = S (7 + j) := by
  unfold sp_setting
  rw [if_neg (nI_pos (by omega)), if_pos (show nI j < 7 from nI_lt (a := j) (b := 7) hj (by decide)), cn_nI (by omega)]
  exact h.st hj
theorem RC.isPlace {e : Nat → Int32} {P : ka_P} {S : ka_F} (h : RC e P S) {x : Int32} : sp_isPlace P x = rf_isPlace S x := by
  unfold sp_isPlace rf_isPlace
  rw [h.m]
theorem RC.isMine {e : Nat → Int32} {P : ka_P} {S : ka_F} (h : RC e P S) {x : Int32} : sp_isMine P x = rf_isMine S x := by
  unfold sp_isMine rf_isMine
  rw [h.m]
theorem RC.isWagon {e : Nat → Int32} {P : ka_P} {S : ka_F} (h : RC e P S) {x : Int32} : sp_isWagon P x = rf_isWagon S x := by
  unfold sp_isWagon rf_isWagon
  rw [h.n]
theorem RC.stands {e : Nat → Int32} {P : ka_P} {S : ka_F} (h : RC e P S) {w : Nat} (hn : w < cn (S 1)) (hw : w < 20) {p : Int32} : sp_standsAt P w p = rf_stands S w p := by
  unfold sp_standsAt rf_stands
  rw [h.w2 hn hw, h.w1 hn hw]
theorem RC.isDue {e : Nat → Int32} {P : ka_P} {S : ka_F} (h : RC e P S) {w : Nat} (hn : w < cn (S 1)) (hw : w < 20) : sp_isDue P w = rf_isDue S w := by
  unfold sp_isDue rf_isDue
  rw [h.w4 hn hw, show sp_setting P 3 = S 10 from h.set (j := 3) (by decide)]
theorem RC.full {e : Nat → Int32} {P : ka_P} {S : ka_F} (h : RC e P S) {w : Nat} (hn : w < cn (S 1)) (hw : w < 20) : (sp_full P w = true ∧ wg S w 2 = 1) ∨ (sp_full P w = false ∧ wg S w 2 = 0) := by
  have h1 := h.w3 hn hw
  cases hf : sp_full P w
  · rw [hf] at h1
    exact Or.inr ⟨rfl, h1.symm⟩
  · rw [hf] at h1
    exact Or.inl ⟨rfl, h1.symm⟩
theorem RC.legs {e : Nat → Int32} {P : ka_P} {S : ka_F} (h : RC e P S) {a b : Nat} (ha : a < 5) (hb : b < 5) : sp_legDays P (nI a) (nI b) = S (14 + 5 * a + b) := by
  have ea : nI a * 5 + nI b = nI (a * 5 + b) := by
    show nI a * nI 5 + nI b = _
    rw [nI_mul, nI_add]
  unfold sp_legDays
  rw [ea, if_neg (nI_pos (by omega)), if_pos (show nI (a * 5 + b) < 25 from nI_lt (a := a * 5 + b) (b := 25) (by omega) (by decide)), cn_nI (by omega), h.lg (by omega)]
  rw [show 14 + (a * 5 + b) = 14 + 5 * a + b by omega]
theorem RC.whyNot {e : Nat → Int32} {P : ka_P} {S : ka_F} {D : Nat} (h : RC e P S) (hM : MK D S) {w : Nat} (hn : w < cn (S 1)) (hw : w < 20) : sp_whyNot P w = rf_whyNot S w := by
  have hp := (hM.2.2.2.2 w hw).2
  unfold sp_whyNot rf_whyNot rf_why2
  rw [h.w2 hn hw, h.w1 hn hw, h.isDue hn hw, plIx_ub hp, h.pv 1 0 (Nat.lt_succ_of_le hp.2) (by decide)]
  rcases h.ws hn hw with ⟨h3, _⟩ | ⟨h3, _⟩ | ⟨h3, _⟩
  · rw [h3, if_neg (show ¬ (0 : Int32) = 1 by decide), if_neg (show ¬ (0 : Int32) = 2 by decide), if_pos rfl]
    rcases h.full hn hw with ⟨f1, f2⟩ | ⟨f1, f2⟩
    · rw [f1, f2, if_pos rfl, if_pos rfl]
    · rw [f1, f2, if_neg (show ¬ false = true by decide), if_neg (show ¬ (0 : Int32) = 1 by decide)]
  · rw [h3, if_pos rfl, if_neg (by decide)]
  · rw [h3, if_neg (by decide), if_pos rfl, if_neg (by decide)]
/-- S and T have the same cells -/
def smS (S T : ka_F) : Prop := (∀ j, j < 69 → T j = S j) ∧ ∀ w, w < 20 → wrw T w = wrw S w
theorem smS.prr {S T : ka_F} (h : smS S T) {p : Nat} (hp : p < 5) : prp T p = prp S p := pr_of (fun j hj => h.1 _ (by omega))
theorem RC.smt {e : Nat → Int32} {P : ka_P} {S T : ka_F} (h : RC e P S) (hs : smS S T) : RC e P T := by
  refine ⟨h.1.of rfl rfl rfl (fun j hj => hs.1 j (by omega)), fun p hp => ?_, fun w hw => ?_⟩
  · rw [hs.prr hp]
    exact h.2.1 p hp
  · rw [hs.1 1 (by decide), hs.2 w hw]
    exact h.2.2 w hw
theorem RC.eP {e : Nat → Int32} {P Q : ka_P} {S : ka_F} (h : RC e P S) (h5 : ∀ j, 5 ≤ j → j ≤ 10 → Q 0 j = P 0 j) (h28 : ∀ j, j < 25 → Q 28 j = P 28 j) (h29 : ∀ j, j < 7 → Q 29 j = P 29 j) (hp : ∀ p, p < 5 → ∀ j, j < 6 → Q (2 + p) j = P (2 + p) j) (hw : ∀ w, w < 20 → (∀ j, j < 9 → j ≠ 3 → Q (8 + w) j = P (8 + w) j) ∧ ka_t (Q (8 + w) 3) = ka_t (P (8 + w) 3)) : RC e Q S := by
  obtain ⟨⟨a0, a1, a2, a3, a4, a5, a6, a7⟩, hPl, hW⟩ := h
  refine ⟨⟨?_, ?_, ?_, ?_, ?_, ?_, ?_, ?_⟩, fun p hp5 => ?_, fun w hw20 => ?_⟩
  · rw [h5 5 (by decide) (by decide)]; exact a0
  · rw [h5 6 (by decide) (by decide)]; exact a1
  · rw [h5 7 (by decide) (by decide)]; exact a2
  · rw [h5 8 (by decide) (by decide)]; exact a3
  · rw [h5 9 (by decide) (by decide)]; exact a4
  · rw [h5 10 (by decide) (by decide)]; exact a5
  · intro j hj
    rw [h29 j hj]; exact a6 j hj
  · intro j hj
    rw [h28 j hj]; exact a7 j hj
  · have q := hp p hp5
    unfold PRel
    rw [q 0 (by decide), q 1 (by decide), q 2 (by decide), q 3 (by decide), q 4 (by decide), q 5 (by decide)]
    exact hPl p hp5
  · obtain ⟨q, q3⟩ := hw w hw20
    have g := hW w hw20
    unfold WRel WCom URel at g ⊢
    rw [h5 7 (by decide) (by decide), q3, q 0 (by decide) (by decide), q 1 (by decide) (by decide), q 2 (by decide) (by decide), q 4 (by decide) (by decide), q 5 (by decide) (by decide), q 6 (by decide) (by decide), q 7 (by decide) (by decide), q 8 (by decide) (by decide)]
    exact g
