/-! the shop's queue: a the wagons at work, b those that wait -/
theorem cntN_0 {p : Nat → Bool} : ∀ n, (∀ i, i < n → p i = false) → cntN p n = 0
  | 0, _ => rfl
  | n + 1, h => by
    unfold cntN
    rw [cntN_0 n (fun i hi => h i (by omega)), h n (by omega)]
    rfl
theorem cntN_list {n : Nat} : ∀ (l : List Nat) (p : Nat → Bool), l.Nodup → (∀ w, w ∈ l → w < n) → (∀ w, w < n → (p w = true ↔ w ∈ l)) → cntN p n = l.length
  | [], p, _, _, h => by
    rw [cntN_0 n (fun i hi => by
      cases hp : p i
      · rfl
      · exact absurd ((h i hi).mp hp) List.not_mem_nil)]
    rfl
  | x :: l, p, hd, hn, h => by
    have hx := List.nodup_cons.mp hd
    have hxn := hn x List.mem_cons_self
    have h1 := cntN_list l (fun w => p w && !decide (w = x)) hx.2 (fun w hw => hn w (List.mem_cons_of_mem _ hw)) (fun w hw => by
      rw [Bool.and_eq_true, h w hw, List.mem_cons]
      constructor
      · rintro ⟨h1 | h1, h2⟩
        · simp [h1] at h2
        · exact h1
      · intro h1
        refine ⟨Or.inr h1, ?_⟩
        have : w ≠ x := fun e => hx.1 (e ▸ h1)
        simp [this])
    rw [List.length_cons, ← h1]
    refine cntN_one (f := x) ?_ ?_ ?_ n hxn
    · simp
    · exact (h x hxn).mpr List.mem_cons_self
    · intro i hi
      simp [hi]
def QUE (P : ka_P) (S : ka_F) (a b : List Nat) : Prop :=
  (P 30 1 = nI (a ++ b).length ∧ ∀ i w, (a ++ b)[i]? = some w → P 31 i = nI w) ∧
  (∀ w, w ∈ a ++ b ↔ (w < cn (S 1) ∧ wg S w 3 = 2)) ∧
  (a ++ b).Pairwise (fun x y => wg S x 9 < wg S y 9) ∧ (∀ w, w ∈ a ++ b → wg S w 9 < S 6) ∧
  (∀ w, w ∈ a → ¬ wg S w 6 < 0) ∧ (∀ w, w ∈ b → wg S w 6 < 0) ∧ a.length ≤ 2
theorem QUE.nd {P : ka_P} {S : ka_F} {a b : List Nat} (h : QUE P S a b) : (a ++ b).Nodup :=
  h.2.2.1.imp (fun {x y} (hxy : wg S x 9 < wg S y 9) (e : x = y) => by
    rw [e] at hxy
    exact Int32.lt_irrefl hxy)
theorem QUE.lt {P : ka_P} {S : ka_F} {a b : List Nat} (h : QUE P S a b) {w : Nat} (hw : w ∈ a ++ b) : w < cn (S 1) := ((h.2.1 w).mp hw).1
theorem QUE.s2 {P : ka_P} {S : ka_F} {a b : List Nat} (h : QUE P S a b) {w : Nat} (hw : w ∈ a ++ b) : wg S w 3 = 2 := ((h.2.1 w).mp hw).2
theorem QUE.cnt {P : ka_P} {S : ka_F} {a b : List Nat} (h : QUE P S a b) : cntN (rf_rep S true) (cn (S 1)) = (a ++ b).length :=
  cntN_list (a ++ b) _ h.nd (fun w hw => h.lt hw) (fun w hw => by
    rw [h.2.1 w]
    unfold rf_rep
    simp [hw])
theorem QUE.len {P : ka_P} {S : ka_F} {a b : List Nat} (h : QUE P S a b) : (a ++ b).length ≤ cn (S 1) := by
  rw [← h.cnt]
  exact cntN_le _
theorem QUE.all {P : ka_P} {S : ka_F} {a b : List Nat} (h : QUE P S a b) : rf_inRep S true = nI (a ++ b).length := by
  unfold rf_inRep
  rw [rf_inRepX_n, h.cnt]
theorem QUE.wrk {P : ka_P} {S : ka_F} {a b : List Nat} (h : QUE P S a b) : rf_inRep S false = nI a.length := by
  unfold rf_inRep
  rw [rf_inRepX_n]
  have hnd := (List.nodup_append.mp h.nd).1
  rw [cntN_list a (rf_rep S false) hnd (fun w hw => h.lt (List.mem_append_left _ hw)) (fun w hw => ?_)]
  unfold rf_rep
  constructor
  · intro h1
    simp at h1
    have h2 : w ∈ a ++ b := (h.2.1 w).mpr ⟨hw, h1.1⟩
    rcases List.mem_append.mp h2 with h3 | h3
    · exact h3
    · exact absurd (h.2.2.2.2.2.1 w h3) (by simpa using h1.2)
  · intro h1
    have h2 := h.s2 (List.mem_append_left _ h1)
    have h3 := h.2.2.2.2.1 w h1
    simp [h2, h3]
/-- a wagon that waits -/
def wtS (S : ka_F) (w : Nat) : Prop := wg S w 3 = 2 ∧ wg S w 6 < 0
/-- what firstWaiting has found among the first i -/
def fwS (S : ka_F) (i : Nat) (x : Int32) : Prop := (x = -1 ∧ ∀ w, w < i → ¬ wtS S w) ∨ ∃ f, x = nI f ∧ f < i ∧ wtS S f ∧ ∀ w, w < i → wtS S w → ¬ wg S w 9 < wg S f 9
theorem rf_firstX_fw {S : ka_F} : ∀ i, i ≤ 20 → fwS S i (rf_firstX S i)
  | 0, _ => Or.inl ⟨rfl, fun w hw => absurd hw (Nat.not_lt_zero _)⟩
  | i + 1, h => by
    rw [rf_firstX_s]
    have ih := rf_firstX_fw (S := S) i (by omega)
    unfold rf_firstAt
    generalize rf_firstX S i = x at ih ⊢
    have keep : ¬ wtS S i → fwS S (i + 1) x := by
      intro hn
      rcases ih with ⟨h1, h2⟩ | ⟨f, h1, h2, h3, h4⟩
      · refine Or.inl ⟨h1, fun w hw => ?_⟩
        rcases Nat.lt_or_ge w i with c | c
        · exact h2 w c
        · rw [show w = i by omega]; exact hn
      · refine Or.inr ⟨f, h1, by omega, h3, fun w hw hw2 => ?_⟩
        rcases Nat.lt_or_ge w i with c | c
        · exact h4 w c hw2
        · rw [show w = i by omega] at hw2; exact absurd hw2 hn
    split
    · next c1 =>
      split
      · next c2 =>
        have hi : wtS S i := ⟨c1, c2⟩
        split
        · next c3 =>
          rcases ih with ⟨h1, h2⟩ | ⟨f, h1, h2, h3, h4⟩
          · refine Or.inr ⟨i, rfl, by omega, hi, fun w hw hw2 => ?_⟩
            rcases Nat.lt_or_ge w i with c | c
            · exact absurd hw2 (h2 w c)
            · rw [show w = i by omega]; exact Int32.lt_irrefl
          · rw [h1] at c3
            exact absurd c3 (nI_pos (by omega))
        · next c3 =>
          rcases ih with ⟨h1, h2⟩ | ⟨f, h1, h2, h3, h4⟩
          · rw [h1] at c3
            exact absurd (by decide) c3
          · have ef : cn x = f := by rw [h1, cn_nI (by omega)]
            rw [ef]
            split
            · next c4 =>
              refine Or.inr ⟨i, rfl, by omega, hi, fun w hw hw2 => ?_⟩
              rcases Nat.lt_or_ge w i with c | c
              · intro h5
                exact h4 w c hw2 (Int32.lt_trans h5 c4)
              · rw [show w = i by omega]; exact Int32.lt_irrefl
            · next c4 =>
              refine Or.inr ⟨f, h1, by omega, h3, fun w hw hw2 => ?_⟩
              rcases Nat.lt_or_ge w i with c | c
              · exact h4 w c hw2
              · rw [show w = i by omega]; exact c4
      · next c2 => exact keep (fun q => c2 q.2)
    · next c1 => exact keep (fun q => c1 q.1)
theorem QUE.wt {P : ka_P} {S : ka_F} {a b : List Nat} (h : QUE P S a b) {w : Nat} : w ∈ b ↔ (w < cn (S 1) ∧ wtS S w) := by
  constructor
  · intro hw
    have h1 := (h.2.1 w).mp (List.mem_append_right _ hw)
    exact ⟨h1.1, h1.2, h.2.2.2.2.2.1 w hw⟩
  · rintro ⟨h1, h2, h3⟩
    rcases List.mem_append.mp ((h.2.1 w).mpr ⟨h1, h2⟩) with h4 | h4
    · exact absurd h3 (h.2.2.2.2.1 w h4)
    · exact h4
theorem QUE.first0 {P : ka_P} {S : ka_F} {a : List Nat} (h : QUE P S a []) (hn : cn (S 1) ≤ 20) : rf_first S = -1 := by
  unfold rf_first
  rcases rf_firstX_fw (S := S) (cn (S 1)) hn with ⟨h1, _⟩ | ⟨f, h1, h2, h3, _⟩
  · exact h1
  · exact absurd (h.wt.mpr ⟨h2, h3⟩) List.not_mem_nil
theorem QUE.first {P : ka_P} {S : ka_F} {a b : List Nat} {w : Nat} (h : QUE P S a (w :: b)) (hn : cn (S 1) ≤ 20) : rf_first S = nI w := by
  have hw := h.wt.mp (List.mem_cons_self (a := w) (l := b))
  unfold rf_first
  rcases rf_firstX_fw (S := S) (cn (S 1)) hn with ⟨_, h2⟩ | ⟨f, h1, h2, h3, h4⟩
  · exact absurd hw.2 (h2 w hw.1)
  · rw [h1]
    rcases List.mem_cons.mp (h.wt.mpr ⟨h2, h3⟩) with h5 | h5
    · rw [h5]
    · have hs := (List.pairwise_append.mp h.2.2.1).2.1
      exact absurd ((List.pairwise_cons.mp hs).1 f h5) (h4 w hw.1 hw.2)
/-- what a change must leave of the wagons in repair -/
def qsS (S S' : ka_F) : Prop := S' 1 = S 1 ∧ S' 6 = S 6 ∧ ∀ w, w < 20 → (wg S' w 3 = 2 ↔ wg S w 3 = 2) ∧ (wg S w 3 = 2 → wg S' w 6 = wg S w 6 ∧ wg S' w 9 = wg S w 9)
theorem QUE.of {P P' : ka_P} {S S' : ka_F} {a b : List Nat} (h : QUE P S a b) (hn : cn (S 1) ≤ 20) (h30 : P' 30 1 = P 30 1) (h31 : ∀ i, i < 20 → P' 31 i = P 31 i) (hs : qsS S S') : QUE P' S' a b := by
  obtain ⟨q1, q6, qw⟩ := hs
  have hl := h.len
  have hlt : ∀ w, w ∈ a ++ b → w < 20 := fun w hw => Nat.lt_of_lt_of_le (h.lt hw) hn
  have hs2 : ∀ w, w ∈ a ++ b → wg S w 3 = 2 := fun w hw => h.s2 hw
  have h9 : ∀ w, w ∈ a ++ b → wg S' w 9 = wg S w 9 := fun w hw => ((qw w (hlt w hw)).2 (hs2 w hw)).2
  have h6 : ∀ w, w ∈ a ++ b → wg S' w 6 = wg S w 6 := fun w hw => ((qw w (hlt w hw)).2 (hs2 w hw)).1
  obtain ⟨⟨b1, b2⟩, b3, b4, b5, b6, b7, b8⟩ := h
  refine ⟨⟨h30.trans b1, fun i w hi => ?_⟩, fun w => ?_, ?_, fun w hw => ?_, fun w hw => ?_, fun w hw => ?_, b8⟩
  · have := (List.getElem?_eq_some_iff.mp hi).1
    rw [h31 i (by omega)]
    exact b2 i w hi
  · rw [b3 w, q1]
    constructor
    · rintro ⟨c1, c2⟩
      exact ⟨c1, ((qw w (by omega)).1).mpr c2⟩
    · rintro ⟨c1, c2⟩
      exact ⟨c1, ((qw w (by omega)).1).mp c2⟩
  · refine b4.imp_of_mem (fun {x y} hx hy hxy => ?_)
    rw [h9 x hx, h9 y hy]
    exact hxy
  · rw [h9 w hw, q6]
    exact b5 w hw
  · rw [h6 w (List.mem_append_left _ hw)]
    exact b6 w hw
  · rw [h6 w (List.mem_append_right _ hw)]
    exact b7 w hw
theorem qsS.rf {S : ka_F} : qsS S S := ⟨rfl, rfl, fun _ _ => ⟨Iff.rfl, fun _ => ⟨rfl, rfl⟩⟩⟩
theorem qsS.tr {S T U : ka_F} (h : qsS S T) (h2 : qsS T U) : qsS S U :=
  ⟨h2.1.trans h.1, h2.2.1.trans h.2.1, fun w hw => ⟨(h2.2.2 w hw).1.trans (h.2.2 w hw).1, fun e => by
    have e2 := ((h.2.2 w hw).1).mpr e
    have a := (h.2.2 w hw).2 e
    have b := (h2.2.2 w hw).2 e2
    exact ⟨b.1.trans a.1, b.2.trans a.2⟩⟩⟩
theorem qsS.qq {S : ka_F} {p k : Nat} {v : Int32} (hp : p < 5) (hk : k < 6) : qsS S (qU S p k v) :=
  ⟨qU_j (by decide), qU_j (by decide), fun w hw => by rw [qU_w hp hk, qU_w hp hk, qU_w hp hk]; exact ⟨Iff.rfl, fun _ => ⟨rfl, rfl⟩⟩⟩
theorem qsS.u {S : ka_F} {j : Nat} {v : Int32} (hj : j < 69) (h1 : 1 ≠ j) (h6 : 6 ≠ j) : qsS S (upd S j v) :=
  ⟨pk_un h1, pk_un h6, fun w hw => by
    unfold wg
    rw [pk_un (by omega), pk_un (by omega), pk_un (by omega)]
    exact ⟨Iff.rfl, fun _ => ⟨rfl, rfl⟩⟩⟩
/-- only wagon k changes, which is not in repair, before and after -/
theorem qsS.wag {S S' : ka_F} {k : Nat} (h : swk S S' k) (h1 : ¬ wg S k 3 = 2) (h2 : ¬ wg S' k 3 = 2) : qsS S S' :=
  ⟨h.1 1 (by decide), h.1 6 (by decide), fun w hw => by
    by_cases c : w = k
    · subst c
      exact ⟨⟨fun e => absurd e h2, fun e => absurd e h1⟩, fun e => absurd e h1⟩
    · have e := h.2 w hw c
      rw [wg_of e (by decide), wg_of e (by decide), wg_of e (by decide)]
      exact ⟨Iff.rfl, fun _ => ⟨rfl, rfl⟩⟩⟩
/-- only wagon k changes, but not how it is, nor its repair -/
theorem qsS.wag2 {S S' : ka_F} {k : Nat} (h : swk S S' k) (h3 : wg S' k 3 = wg S k 3) (h6 : wg S' k 6 = wg S k 6) (h9 : wg S' k 9 = wg S k 9) : qsS S S' :=
  ⟨h.1 1 (by decide), h.1 6 (by decide), fun w hw => by
    by_cases c : w = k
    · subst c
      rw [h3, h6, h9]
      exact ⟨Iff.rfl, fun _ => ⟨rfl, rfl⟩⟩
    · have e := h.2 w hw c
      rw [wg_of e (by decide), wg_of e (by decide), wg_of e (by decide)]
      exact ⟨Iff.rfl, fun _ => ⟨rfl, rfl⟩⟩⟩
theorem QUE.smq {P : ka_P} {S T : ka_F} {a b : List Nat} (h : QUE P S a b) (hn : cn (S 1) ≤ 20) (hs : smS S T) : QUE P T a b :=
  h.of hn rfl (fun _ _ => rfl) ⟨hs.1 1 (by decide), hs.1 6 (by decide), fun w hw => by
    have e := hs.2 w hw
    rw [wg_of e (by decide), wg_of e (by decide), wg_of e (by decide)]
    exact ⟨Iff.rfl, fun _ => ⟨rfl, rfl⟩⟩⟩
/-- the queue is at rest: the first two are at work -/
def stQ (a b : List Nat) : Prop := a.length = 2 ∨ b = []
theorem stQ_w {P : ka_P} {S : ka_F} {a b : List Nat} (h : QUE P S a b) (hs : stQ a b) (hn : cn (S 1) ≤ 20) : cn (sp_atWork P) = a.length := by
  have hl := h.len
  have h2 := h.2.2.2.2.2.2
  unfold sp_atWork
  rw [h.1.1]
  rw [List.length_append] at *
  rcases hs with hs | hs
  · by_cases c : nI (a.length + b.length) < 2
    · rw [if_pos c, cn_nI (by omega)]
      have := (nI_ltI (a := a.length + b.length) (b := 2) (by omega) (by decide)).mp c
      omega
    · rw [if_neg c, hs]
      decide
  · rw [hs, List.length_nil, Nat.add_zero] at hl ⊢
    by_cases c : nI a.length < 2
    · rw [if_pos c, cn_nI (by omega)]
    · rw [if_neg c]
      have : ¬ a.length < 2 := fun z => c (nI_lt (a := a.length) (b := 2) z (by decide))
      rw [show a.length = 2 by omega]
      decide
/-- how many are taken in hand -/
theorem atW {P : ka_P} {S : ka_F} {a b : List Nat} (h : QUE P S a b) (hn : cn (S 1) ≤ 20) : cn (sp_atWork P) = min 2 (a ++ b).length := by
  have hl := h.len
  unfold sp_atWork
  rw [h.1.1]
  generalize (a ++ b).length = n at hl
  by_cases c : nI n < 2
  · rw [if_pos c, cn_nI (by omega)]
    have := (nI_ltI (a := n) (b := 2) (by omega) (by decide)).mp c
    omega
  · rw [if_neg c]
    have : ¬ n < 2 := fun z => c (nI_lt (a := n) (b := 2) z (by decide))
    rw [show cn (2 : Int32) = 2 from by decide]
    omega
theorem QUE.num {P : ka_P} {S : ka_F} {a b : List Nat} (h : QUE P S a b) (hn : cn (S 1) ≤ 20) {i w : Nat} (hi : (a ++ b)[i]? = some w) : wgIx (sp_numberAt P (nI i)) = w := by
  have hl := h.len
  have h1 := (List.getElem?_eq_some_iff.mp hi).1
  have hw : w < 20 := Nat.lt_of_lt_of_le (h.lt (List.mem_of_getElem? hi)) hn
  unfold sp_numberAt
  rw [if_neg (nI_pos (by omega)), if_pos (show nI i < 20 from nI_lt (a := i) (b := 20) (by omega) (by decide)), cn_nI (by omega), h.1.2 i w hi, wgIx_nI hw]
/-- one that waits is begun -/
theorem QUE.put {P : ka_P} {S : ka_F} {a b : List Nat} {w : Nat} {v : Int32} (h : QUE P S a (w :: b)) (hn : cn (S 1) ≤ 20) (ha : a.length < 2) (hv : ¬ v < 0) : QUE (pU P (8 + w) 6 v) (wU S w 6 v) (a ++ [w]) b := by
  have hw : w < cn (S 1) := h.lt (List.mem_append_right _ List.mem_cons_self)
  have hnd := h.nd
  have hna : w ∉ a := fun h1 => (List.nodup_append.mp hnd).2.2 w h1 w List.mem_cons_self rfl
  have hnb : w ∉ b := (List.nodup_cons.mp (List.nodup_append.mp hnd).2.1).1
  have e : a ++ [w] ++ b = a ++ w :: b := by simp
  obtain ⟨⟨b1, b2⟩, b3, b4, b5, b6, b7, b8⟩ := h
  have n3 : ∀ x, wg (wU S w 6 v) x 3 = wg S x 3 := fun x => wU_n (by decide) (by decide) (fun _ => by decide)
  have n9 : ∀ x, wg (wU S w 6 v) x 9 = wg S x 9 := fun x => wU_n (by decide) (by decide) (fun _ => by decide)
  have n6 : ∀ x, x ≠ w → wg (wU S w 6 v) x 6 = wg S x 6 := fun x hx => wU_n (by decide) (by decide) (fun q => absurd q hx)
  refine ⟨⟨?_, ?_⟩, ?_, ?_, ?_, ?_, ?_, ?_⟩
  · rw [e, pU_n (by omega)]; exact b1
  · rw [e, pU_n (by omega)]; exact b2
  · intro x
    rw [e, b3 x, n3 x, wU_j (by decide)]
  · rw [e]
    refine b4.imp (fun {x y} hxy => ?_)
    rw [n9 x, n9 y]; exact hxy
  · intro x hx
    rw [e] at hx
    rw [n9 x, wU_j (by decide)]
    exact b5 x hx
  · intro x hx
    rcases List.mem_append.mp hx with h1 | h1
    · rw [n6 x (fun q => hna (q ▸ h1))]
      exact b6 x h1
    · rw [List.mem_singleton.mp h1, wU_s]
      exact hv
  · intro x hx
    rw [n6 x (fun q => hnb (q ▸ hx))]
    exact b7 x (List.mem_cons_of_mem _ hx)
  · rw [List.length_append]
    simp
    omega
theorem RC.put {e : Nat → Int32} {P : ka_P} {S : ka_F} {w : Nat} {v : Int32} (h : RC e P S) (hn : w < cn (S 1)) (hw : w < 20) (h2 : wg S w 3 = 2) (hv : ¬ v < 0) : RC e (pU P (8 + w) 6 v) (wU S w 6 v) := by
  refine h.wag' hw pwk.rf.up (swk.rf.up (by decide)) hn ?_
  have h1 := h.w hn hw
  rw [pU_s, wr_s (by decide)]
  obtain ⟨hc, _⟩ := h1
  refine ⟨hc, Or.inr (Or.inr ⟨?_, rfl, Or.inr hv⟩)⟩
  show P (8 + w) 2 = 2
  rw [h.w2 hn hw, h2]
/-- the filling of the shop on both sides -/
def fillOK (e : Nat → Int32) (P P' : ka_P) (S : ka_F) (a b : List Nat) : Prop := ∃ a' b', a' ++ b' = a ++ b ∧ stQ a' b' ∧ QUE P' (rf_fill S) a' b' ∧ RC e P' (rf_fill S)
theorem beginAt_no {e : Nat → Int32} {P : ka_P} {S : ka_F} {a b : List Nat} {w : Nat} (h : QUE P S a b) (hR : RC e P S) (hn : cn (S 1) ≤ 20) (hw : w ∈ a) : sp_beginAt P w = P := by
  have h1 := h.lt (List.mem_append_left _ hw)
  have h2 := h.s2 (List.mem_append_left _ hw)
  have h3 := h.2.2.2.2.1 w hw
  have h4 : P (8 + w) 6 = wg S w 6 := by
    rcases hR.ws h1 (by omega) with q | q | q
    · rw [h2] at q; exact absurd q.1 (by decide)
    · rw [h2] at q; exact absurd q.1 (by decide)
    · exact q.2.1
  unfold sp_beginAt
  rw [if_neg]
  rw [h4]
  intro q
  rw [q] at h3
  exact h3 (by decide)
theorem beginAt_yes {e : Nat → Int32} {P : ka_P} {S : ka_F} {a b : List Nat} {w : Nat} (h : QUE P S a b) (hR : RC e P S) (hn : cn (S 1) ≤ 20) (hw : w ∈ b) : sp_beginAt P w = pU P (8 + w) 6 (S 2 + S 13) := by
  have h1 := h.lt (List.mem_append_right _ hw)
  have h2 := h.s2 (List.mem_append_right _ hw)
  have h3 := h.2.2.2.2.2.1 w hw
  have h4 : P (8 + w) 6 = -1 := by
    rcases hR.ws h1 (by omega) with q | q | q
    · rw [h2] at q; exact absurd q.1 (by decide)
    · rw [h2] at q; exact absurd q.1 (by decide)
    · rcases q.2.2 with q2 | q2
      · rw [q.2.1, q2]
      · exact absurd h3 q2
  unfold sp_beginAt
  rw [if_pos h4, hR.d, show sp_setting P 6 = S 13 from hR.set (j := 6) (by decide)]
theorem fill_put {P : ka_P} {S : ka_F} {a b : List Nat} {w : Nat} (h : QUE P S a (w :: b)) (hn : cn (S 1) ≤ 20) (ha : a.length < 2) : rf_fillAt S = wU S w 6 (S 2 + S 13) := by
  have hw := h.lt (List.mem_append_right _ List.mem_cons_self)
  unfold rf_fillAt rf_put
  rw [h.first hn, if_neg (nI_pos (by omega)), h.wrk, if_pos (show nI a.length < 2 from nI_lt (a := a.length) (b := 2) ha (by decide)), cn_nI (by omega)]
theorem fill_stop {P : ka_P} {S : ka_F} {a b : List Nat} (h : QUE P S a b) (hn : cn (S 1) ≤ 20) (hs : stQ a b) : rf_stop S := by
  rcases hs with hs | hs
  · refine Or.inr ?_
    rw [h.wrk, hs]
    decide
  · subst hs
    refine Or.inl ?_
    rw [h.first0 hn]
    decide
theorem fill_sim {e : Nat → Int32} {P : ka_P} {S : ka_F} {a b : List Nat} (h : QUE P S a b) (hR : RC e P S) (hn : cn (S 1) ≤ 20) (hv : ¬ S 2 + S 13 < 0) : fillOK e P (sp_begins P) S a b := by
  have h2 := h.2.2.2.2.2.2
  have hat := atW h hn
  unfold sp_begins
  -- nothing to begin
  have stop : stQ a b → (∀ i, i ≤ a.length → sp_beginX P i = P) ∧ rf_fill S = S := by
    intro hs
    constructor
    · intro i
      induction i with
      | zero => intro _; rfl
      | succ i ih =>
        intro hi
        have hg : a[i]? = some a[i] := List.getElem?_eq_getElem (by omega)
        have hg2 : (a ++ b)[i]? = some a[i] := by rw [List.getElem?_append_left (by omega)]; exact hg
        rw [sp_beginX_s, ih (by omega), h.num hn hg2]
        exact beginAt_no h hR hn (List.mem_of_getElem? hg)
    · exact rf_fillX_stop (S := S) (i := 0) (n := 3) (fill_stop h hn hs) (by decide)
  -- one step of both
  match a, b, h, h2, hat, stop with
  | a, [], h, h2, hat, stop =>
    obtain ⟨s1, s2⟩ := stop (Or.inr rfl)
    rw [hat, List.append_nil, show min 2 a.length = a.length by omega, s1 _ (Nat.le_refl _)]
    unfold fillOK
    rw [s2]
    exact ⟨a, [], rfl, Or.inr rfl, h, hR⟩
  | x :: y :: c, b, h, h2, hat, stop =>
    have hc : (x :: y :: c).length = 2 := by simp at h2 ⊢; omega
    obtain ⟨s1, s2⟩ := stop (Or.inl hc)
    rw [hat, List.length_append, show min 2 ((x :: y :: c).length + b.length) = (x :: y :: c).length by omega, s1 _ (Nat.le_refl _)]
    unfold fillOK
    rw [s2]
    exact ⟨_, b, rfl, Or.inl hc, h, hR⟩
  | [x], w :: b, h, h2, hat, stop =>
    have hw := h.lt (List.mem_append_right _ List.mem_cons_self)
    have hw2 := h.s2 (List.mem_append_right _ List.mem_cons_self)
    have q := h.put hn (by simp) hv
    have r := hR.put hw (by omega) hw2 hv
    have f1 := fill_put h hn (by simp)
    have q1 : cn (wU S w 6 (S 2 + S 13) 1) ≤ 20 := by rw [wU_j (by decide)]; exact hn
    have f2 : rf_fill S = wU S w 6 (S 2 + S 13) := by
      have st : rf_stop (rf_fillX S 1) := by
        rw [rf_fillX_s, rf_fillX_0, f1]
        exact fill_stop q q1 (Or.inl rfl)
      have := rf_fillX_stop (n := 3) st (by decide)
      unfold rf_fill
      rw [this, rf_fillX_s, rf_fillX_0, f1]
    rw [hat, show min 2 ([x] ++ w :: b).length = 2 by simp, sp_beginX_s, sp_beginX_s, sp_beginX_0, h.num hn (i := 0) (w := x) rfl, beginAt_no h hR hn List.mem_cons_self, h.num hn (i := 1) (w := w) rfl, beginAt_yes h hR hn List.mem_cons_self]
    unfold fillOK
    rw [f2]
    exact ⟨[x, w], b, rfl, Or.inl rfl, q, r⟩
  | [], [w], h, h2, hat, stop =>
    have hw := h.lt (List.mem_append_right _ List.mem_cons_self)
    have hw2 := h.s2 (List.mem_append_right _ List.mem_cons_self)
    have q := h.put hn (by simp) hv
    have r := hR.put hw (by omega) hw2 hv
    have f1 := fill_put h hn (by simp)
    have q1 : cn (wU S w 6 (S 2 + S 13) 1) ≤ 20 := by rw [wU_j (by decide)]; exact hn
    have f2 : rf_fill S = wU S w 6 (S 2 + S 13) := by
      have st : rf_stop (rf_fillX S 1) := by
        rw [rf_fillX_s, rf_fillX_0, f1]
        exact fill_stop q q1 (Or.inr rfl)
      have := rf_fillX_stop (n := 3) st (by decide)
      unfold rf_fill
      rw [this, rf_fillX_s, rf_fillX_0, f1]
    rw [hat, show min 2 ([] ++ [w] : List Nat).length = 1 by simp, sp_beginX_s, sp_beginX_0, h.num hn (i := 0) (w := w) rfl, beginAt_yes h hR hn List.mem_cons_self]
    unfold fillOK
    rw [f2]
    exact ⟨[w], [], rfl, Or.inr rfl, q, r⟩
  | [], w :: z :: b, h, h2, hat, stop =>
    have hw := h.lt (List.mem_append_right _ List.mem_cons_self)
    have hw2 := h.s2 (List.mem_append_right _ List.mem_cons_self)
    have q := h.put hn (by simp) hv
    have r := hR.put hw (by omega) hw2 hv
    have f1 := fill_put h hn (by simp)
    have j2 : wU S w 6 (S 2 + S 13) 2 = S 2 := wU_j (by decide)
    have j13 : wU S w 6 (S 2 + S 13) 13 = S 13 := wU_j (by decide)
    have j1 : wU S w 6 (S 2 + S 13) 1 = S 1 := wU_j (by decide)
    generalize wU S w 6 (S 2 + S 13) = T at q r f1 j2 j13 j1
    have hn2 : cn (T 1) ≤ 20 := by rw [j1]; exact hn
    have hv2 : ¬ T 2 + T 13 < 0 := by rw [j2, j13]; exact hv
    have hz := q.lt (List.mem_append_right _ List.mem_cons_self)
    have hz2 := q.s2 (List.mem_append_right _ List.mem_cons_self)
    have f3 := fill_put q hn2 (by simp)
    have hb := beginAt_yes h hR hn (w := w) List.mem_cons_self
    have hb2 := beginAt_yes q r hn2 (w := z) List.mem_cons_self
    have hnum := q.num hn2 (i := 1) (w := z) rfl
    generalize hQ : pU P (8 + w) 6 (S 2 + S 13) = Q at q r hb hb2 hnum
    have q' := q.put hn2 (by simp) hv2
    have r' := r.put hz (by omega) hz2 hv2
    have f4 : rf_fill S = wU T z 6 (T 2 + T 13) := by
      have st : rf_stop (rf_fillX S 2) := by
        rw [rf_fillX_s, rf_fillX_s, rf_fillX_0, f1, f3]
        exact fill_stop q' (by rw [wU_j (by decide)]; exact hn2) (Or.inl rfl)
      have := rf_fillX_stop (n := 3) st (by decide)
      unfold rf_fill
      rw [this, rf_fillX_s, rf_fillX_s, rf_fillX_0, f1, f3]
    rw [hat, show min 2 ([] ++ w :: z :: b : List Nat).length = 2 by simp, sp_beginX_s, sp_beginX_s, sp_beginX_0, h.num hn (i := 0) (w := w) rfl, hb, hnum, hb2]
    unfold fillOK
    rw [f4]
    exact ⟨[w, z], b, rfl, Or.inl rfl, q', r'⟩
