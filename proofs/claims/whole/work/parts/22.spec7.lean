/-! the reference's text, and that its orders keep the ranges -/
theorem MK.kU {D : Nat} {S : ka_F} {w k : Nat} {v : Int32} (hM : MK D S) (hk : 2 ≤ k) (hk2 : k < 10) : MK D (wU S w k v) := MK.of (rx.wU rx.rf hk hk2) hM
theorem MK.kA {D : Nat} {S : ka_F} {j : Nat} {v : Int32} (hM : MK D S) (hj : 3 ≤ j) (hj2 : j < 7) : MK D (sA S j v) := MK.of (rx.sA rx.rf hj hj2) hM
theorem MK.k01 {D : Nat} {S : ka_F} {w k p : Nat} (hM : MK D S) (hk : k < 2) (hp : p < 5) : MK D (wU S w k (nI p)) := by
  obtain ⟨h0, h1, h2, h3, h4⟩ := hM
  have up : ub 4 (nI p) := ub_nI (by omega) (by omega)
  refine ⟨?_, ?_, ?_, ?_, fun w' hw' => ?_⟩
  · rw [wU_j (by decide)]; exact h0
  · rw [wU_j (by decide)]; exact h1
  · rw [wU_j (by decide)]; exact h2
  · rw [wU_j (by decide)]; exact h3
  · have h5 := h4 w' hw'
    by_cases e : w' = w
    · subst e
      rcases (show k = 0 ∨ k = 1 by omega) with e | e
      · subst e
        rw [wU_s, wU_n (by decide) (by decide) (fun _ => by decide)]
        exact ⟨up, h5.2⟩
      · subst e
        rw [wU_s, wU_n (by decide) (by decide) (fun _ => by decide)]
        exact ⟨h5.1, up⟩
    · rw [wU_n (by omega) (by decide) (fun h => absurd h e), wU_n (by omega) (by decide) (fun h => absurd h e)]
      exact h5
theorem MK.zero {D : Nat} {S : ka_F} {n : Nat} (hM : MK D S) : ∀ i, i ≤ 10 → MK D (rf_zero S n i)
  | 0, _ => hM
  | i + 1, h => by
    rw [rf_zero_s]
    have ih := MK.zero (n := n) hM i (by omega)
    rcases Nat.lt_or_ge i 2 with h1 | h1
    · exact ih.k01 (p := 0) h1 (by decide)
    · exact ih.kU h1 (by omega)
theorem MK.joins {D : Nat} {S : ka_F} {x : Int32} (hM : MK D S) : MK D (rf_joins S x).2 := by
  unfold rf_joins
  split
  · exact hM
  · next c =>
    split
    · exact hM
    · next c2 =>
      obtain ⟨p, hp, rfl⟩ := rf_isMine_of hM (by simpa using c)
      have h20 := hM.w20 c2
      have h1 : MK D (sA S 1 1) := by
        obtain ⟨h0, h1, h2, h3, h4⟩ := hM
        refine ⟨?_, ?_, ?_, ?_, fun w hw => ?_⟩
        · rw [sA_n (by decide)]; exact h0
        · rw [sA_s, h1.1, nI_1]
          exact ub_nI (by omega) (by omega)
        · rw [sA_n (by decide)]; exact h2
        · rw [sA_n (by decide)]; exact h3
        · rw [sA_w (by decide), sA_w (by decide)]; exact h4 w hw
      have h2 := h1.zero (n := cn (S 1)) 10 (Nat.le_refl _)
      exact ((h2.k01 (by decide) hp).k01 (by decide) hp).kU (by decide) (by decide)
theorem MK.loads {D : Nat} {S : ka_F} {x : Int32} (hM : MK D S) : MK D (rf_loads S x).2 := by
  unfold rf_loads
  split
  · exact hM
  · next c =>
    split
    · exact hM
    · obtain ⟨w, hwn, hw, rfl⟩ := rf_isWagon_of hM (by simpa using c)
      rw [cn_nI (by omega)]
      have hp := hM.a5 hw
      have h : rx S (rf_load1 S w (cn (wg S w 1))) := (((rx.rf.qA hp (by decide)).qA hp (by decide)).wU (by decide) (by decide)).wU (by decide) (by decide)
      exact MK.of (h.wU (by decide) (by decide)) hM
theorem MK.unloads {D : Nat} {S : ka_F} {x : Int32} (hM : MK D S) : MK D (rf_unloads S x).2 := by
  unfold rf_unloads
  split
  · exact hM
  · next c =>
    split
    · exact hM
    · split
      · exact hM
      · obtain ⟨w, hwn, hw, rfl⟩ := rf_isWagon_of hM (by simpa using c)
        rw [cn_nI (by omega)]
        exact MK.of (rx_unl (hM.o5 hw)) hM
theorem MK.sends {D : Nat} {S : ka_F} {x : Int32} (hM : MK D S) : MK D (rf_sends S x).2 := by
  unfold rf_sends
  split
  · exact hM
  · next c =>
    split
    · exact hM
    · split
      · exact hM
      · obtain ⟨w, hwn, hw, rfl⟩ := rf_isWagon_of hM (by simpa using c)
        rw [cn_nI (by omega)]
        have h : rx S (rf_fill (rf_snd S w)) := (rx_snd (hM.o5 hw)).tr rx_fill
        generalize rf_fill (rf_snd S w) = T at h ⊢
        exact MK.of h hM
theorem MK.go {D : Nat} {S : ka_F} {i p : Nat} {leg : Int32} (hM : MK D S) (hp : p < 5) : MK D (rf_go S i (nI p) leg) := by
  unfold rf_go rf_go1
  exact (((hM.kU (by decide) (by decide)).k01 (by decide) hp).kU (by decide) (by decide)).kU (by decide) (by decide)
theorem MK.trainX {D : Nat} {S : ka_F} {a kd mn : Int32} {p : Nat} (hM : MK D S) (hp : p < 5) : ∀ i, MK D (rf_trainX S a (nI p) kd mn i).1 := by
  refine itr_inv (fun _ (x : ka_F × Int32 × Int32 × Int32) => MK D x.1) hM (fun i x h => ?_)
  have h2 : MK D (rf_tr1 (nI p) (rf_leg S a (nI p)) i x).1 := h.go hp
  unfold rf_trainAt
  split
  · exact h
  · split
    · split
      · exact h2
      · split
        · exact h2
        · exact h
    · exact h
theorem MK.trains {D : Nat} {S : ka_F} {a b kd mn : Int32} (hM : MK D S) : MK D (rf_trains S a b kd mn).2 := by
  unfold rf_trains
  split
  · exact hM
  · split
    · exact hM
    · next c =>
      obtain ⟨p, hp, rfl⟩ := rf_isPlace_of hM (x := b) (by simpa using c)
      have h := hM.trainX (a := a) (kd := kd) (mn := mn) hp (cn (S 1))
      generalize rf_trainX S a (nI p) kd mn (cn (S 1)) = x at h
      split
      · exact hM
      · split
        · exact hM
        · split
          · exact hM
          · split
            · exact h
            · show MK D (if _ then _ else _)
              split
              · exact (h.kA (by decide) (by decide)).kA (by decide) (by decide)
              · exact (h.kA (by decide) (by decide)).kA (by decide) (by decide)
theorem rf_days_2 {D : Nat} {S : ka_F} (hM : MK D S) : ∀ i, D + i ≤ 9000 → (rf_days S i).1 2 = nI (cn (S 2) + i)
  | 0, _ => by rw [rf_days_0, Nat.add_zero]; exact hM.2.2.1.1
  | i + 1, h => by
    have ih := rf_days_2 hM i (by omega)
    have hi := hM.days i (by omega)
    rw [rf_days_s]
    generalize (rf_days S i).1 = T at ih hi ⊢
    show rf_day T 2 = _
    rw [(rx_day hi (by omega)).s2, sA_s, ih, nI_1]
    rfl
theorem MK.passes {S : ka_F} {x : Int32} (hM : MK 1999 S) : MK 1999 (rf_passes S x).2 := by
  unfold rf_passes
  split
  · exact hM
  · next c =>
    split
    · exact hM
    · next c2 =>
      have c' : kw x 1 99 = true := by simpa using c
      have hx : cn x ≤ 99 := kw_cn (n := 99) (lo := 1) (by decide) (by decide) c'
      have h := hM.days (cn x) (by omega)
      have h2 := rf_days_2 hM (cn x) (by omega)
      have h3 := hM.2.2.1
      have e : x = nI (cn x) := by
        obtain ⟨a1, _⟩ := kw_t c'
        have := nlt_int a1
        obtain ⟨j, hj, rfl⟩ := nI_of (x := x) (fun hh => by
          have := lt_int hh
          have e0 : (0 : Int32).toInt = 0 := by decide
          have e1 : (1 : Int32).toInt = 1 := by decide
          omega)
        rw [cn_nI hj]
      have h4 := h3.2
      have h5 : cn (S 2) + cn x ≤ 1999 := by
        rw [h3.1, e, nI_add] at c2
        have := nlt_int c2
        rw [nI_toInt (by omega)] at this
        have e9 : (1999 : Int32).toInt = 1999 := by decide
        omega
      obtain ⟨g0, g1, _, g3, g4⟩ := h
      refine ⟨g0, g1, ?_, g3, g4⟩
      show ub 1999 ((rf_days S (cn x)).1 2)
      rw [h2]
      exact ub_nI h5 (by omega)
/-- the text: length 0 6, at 0 7, from 0 8, done 0 9, told 0 10, isForm 0 11; signs 5, numbers 6 -/
def TK (M : ka_P) : Prop := ub 60 (M 0 6) ∧ ub (cn (M 0 6)) (M 0 7)
theorem TK.lt {M : ka_P} (h : TK M) (c : M 0 7 < M 0 6) : cn (M 0 7) < cn (M 0 6) := by
  have := lt_int c
  rw [h.1.int, h.2.int] at this
  omega
theorem TK.at60 {M : ka_P} (h : TK M) (c : M 0 7 < M 0 6) : cn (M 0 7) < 60 := Nat.lt_of_lt_of_le (h.lt c) h.1.2
def rt_here (M : ka_P) : Int32 := if M 0 7 < M 0 6 then M 5 (cn (M 0 7)) else -1
theorem rt_here_lt {M : ka_P} (h : ¬ rt_here M = -1) : M 0 7 < M 0 6 := by
  unfold rt_here at h
  split at h
  · assumption
  · exact absurd rfl h
theorem rt_here_dg {M : ka_P} (h : kw (rt_here M) 48 57 = true) : M 0 7 < M 0 6 := rt_here_lt (fun e => by
  rw [e] at h
  exact absurd h (by decide))
def rt_type (M : ka_P) (x : Int32) : Int32 × ka_P := if kw x 32 126 = false then (-2000000001, M) else if M 0 6 = 60 then (-2000000003, M) else (sp_add (pU M 5 (cn (M 0 6)) x) 0 6 1 0 6, sp_add (pU M 5 (cn (M 0 6)) x) 0 6 1)
theorem ub60 {x : Int32} (h : ub 60 x) (c : ¬ x = 60) : cn x < 60 := by
  have := h.2
  rcases Nat.lt_or_ge (cn x) 60 with h2 | h2
  · exact h2
  · exact absurd (h.1.trans (by rw [show cn x = 60 by omega]; rfl)) c
def rt_step (M : ka_P) : ka_P := pU M 0 7 (M 0 7 + (if ka_t (M 0 11) = true then 1 else 0))
def rt_flag (M : ka_P) (b : Bool) : ka_P := pU M 0 11 (ka_b b)
def rt_sign (M : ka_P) (s : Int32) : ka_P := rt_step (rt_flag M (ka_t (M 0 11) && decide (rt_here M = s)))
def rt_num0 (M : ka_P) : ka_P := rt_flag M (ka_t (M 0 11) && kw (rt_here M) 48 57)
def rt_numAt (x : Int32 × ka_P) : Int32 × ka_P := if ka_t (x.2 0 11) = false then x else if kw (rt_here x.2) 48 57 = false then x else (10 * x.1 + rt_here x.2 - 48, sp_add x.2 0 7 1)
def rt_numX (M : ka_P) (i : Nat) : Int32 × ka_P := itr (fun _ x => rt_numAt x) i (0, rt_num0 M)
theorem rt_numX_0 {M : ka_P} : rt_numX M 0 = (0, rt_num0 M) := rfl
theorem rt_numX_s {M : ka_P} {i : Nat} : rt_numX M (i + 1) = rt_numAt (rt_numX M i) := rfl
def rt_numS (x : Int32 × ka_P) : Prop := ka_t (x.2 0 11) = false ∨ kw (rt_here x.2) 48 57 = false
theorem rt_numX_stop {M : ka_P} {i n : Nat} (h : rt_numS (rt_numX M i)) (hi : i ≤ n) : rt_numX M n = rt_numX M i :=
  itr_stop (fun x => rt_numS x) (fun _ x hx => by
    show rt_numAt x = x
    unfold rt_numAt
    rcases hx with h | h
    · rw [if_pos h]
    · split
      · rfl
      · first | rfl | rw [if_pos h]) h n hi
def rt_number (M : ka_P) : Int32 × ka_P := rt_numX M 2
def rt_many (s : Int32) : Int32 := if s = 116 then 4 else if s = 119 then 1 else if s = 108 then 1 else if s = 117 then 1 else if s = 114 then 1 else if s = 100 then 1 else 0
def rt_called (M : ka_P) (S : ka_F) (s : Int32) : Int32 × ka_F :=
  if s = 108 then rf_loads S (M 6 0) else if s = 114 then rf_sends S (M 6 0) else if s = 116 then rf_trains S (M 6 0) (M 6 1) (M 6 2) (M 6 3) else if s = 117 then rf_unloads S (M 6 0) else if s = 119 then rf_joins S (M 6 0) else rf_passes S (M 6 0)
theorem MK.called {M : ka_P} {S : ka_F} {s : Int32} (hM : MK 1999 S) : MK 1999 (rt_called M S s).2 := by
  unfold rt_called
  split
  · exact hM.loads
  · split
    · exact hM.sends
    · split
      · exact hM.trains
      · split
        · exact hM.unloads
        · split
          · exact hM.joins
          · exact hM.passes
