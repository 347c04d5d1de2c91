/-! the reference's orders: what they keep -/
def kp (M N : ka_P) : Prop := N 0 4 = M 0 4 ∧ N 0 9 = M 0 9 ∧ N 2 = M 2 ∧ N 4 = M 4 ∧ N 5 = M 5
/-- the text goes on: its length as before, the place not before, the form no better -/
def tx (M N : ka_P) : Prop := (TK N ∧ N 0 6 = M 0 6) ∧ cn (M 0 7) ≤ cn (N 0 7) ∧ (ka_t (N 0 11) = true → ka_t (M 0 11) = true) ∧ kp M N
theorem tx.rf {M : ka_P} (h : TK M) : tx M M := ⟨⟨h, rfl⟩, Nat.le_refl _, id, rfl, rfl, rfl, rfl, rfl⟩
theorem kp.tr {A B C : ka_P} (h : kp A B) (h2 : kp B C) : kp A C := ⟨h2.1.trans h.1, h2.2.1.trans h.2.1, h2.2.2.1.trans h.2.2.1, h2.2.2.2.1.trans h.2.2.2.1, h2.2.2.2.2.trans h.2.2.2.2⟩
theorem tx.tr {A B C : ka_P} (h : tx A B) (h2 : tx B C) : tx A C := ⟨⟨h2.1.1, h2.1.2.trans h.1.2⟩, Nat.le_trans h.2.1 h2.2.1, fun e => h.2.2.1 (h2.2.2.1 e), h.2.2.2.tr h2.2.2.2⟩
theorem kp_pU0 {M : ka_P} {j : Nat} {v : Int32} (h4 : 4 ≠ j) (h9 : 9 ≠ j) : kp M (pU M 0 j v) := ⟨pU_j (fun _ => h4), pU_j (fun _ => h9), pU_n (by decide), pU_n (by decide), pU_n (by decide)⟩
theorem tx_flag {M : ka_P} {b : Bool} (h : TK M) (hb : b = true → ka_t (M 0 11) = true) : tx M (rt_flag M b) := by
  have e6 : rt_flag M b 0 6 = M 0 6 := pU_j (fun _ => by decide)
  have e7 : rt_flag M b 0 7 = M 0 7 := pU_j (fun _ => by decide)
  refine ⟨⟨?_, e6⟩, ?_, ?_, kp_pU0 (by decide) (by decide)⟩
  · unfold TK
    rw [e6, e7]
    exact h
  · rw [e7]; exact Nat.le_refl _
  · intro e
    unfold rt_flag at e
    rw [pU_e, ka_t_b] at e
    exact hb e
theorem tx_next {M : ka_P} (h : TK M) (c : M 0 7 < M 0 6) : tx M (sp_add M 0 7 1) ∧ cn (sp_add M 0 7 1 0 7) = cn (M 0 7) + 1 := by
  have e6 : sp_add M 0 7 1 0 6 = M 0 6 := pU_j (fun _ => by decide)
  have e11 : sp_add M 0 7 1 0 11 = M 0 11 := pU_j (fun _ => by decide)
  have e7 : sp_add M 0 7 1 0 7 = nI (cn (M 0 7) + 1) := by
    unfold sp_add
    rw [pU_e, h.2.1, nI_1]
    rw [← h.2.1]
  have hl := h.lt c
  have h60 := h.1.2
  have e8 : cn (sp_add M 0 7 1 0 7) = cn (M 0 7) + 1 := by rw [e7, cn_nI (by omega)]
  refine ⟨⟨⟨⟨?_, ?_⟩, e6⟩, ?_, ?_, kp_pU0 (by decide) (by decide)⟩, e8⟩
  · rw [e6]; exact h.1
  · rw [e6, e7]; exact ub_nI (by omega) (by omega)
  · omega
  · rw [e11]; exact id
theorem tx_step {M : ka_P} (h : TK M) (c : ka_t (M 0 11) = true → M 0 7 < M 0 6) : tx M (rt_step M) := by
  unfold rt_step
  by_cases e : ka_t (M 0 11) = true
  · rw [if_pos e]
    exact (tx_next h (c e)).1
  · rw [if_neg e]
    have e2 : pU M 0 7 (M 0 7 + 0) = M := by
      rw [Int32.add_zero]
      funext o j
      by_cases h1 : o = 0 ∧ j = 7
      · rw [h1.1, h1.2, pU_e]
      · exact pU_j (fun e => fun e2 => h1 ⟨e, e2⟩)
    rw [e2]
    exact tx.rf h
theorem rt_flag_7 {M : ka_P} {b : Bool} : rt_flag M b 0 7 = M 0 7 := pU_j (fun _ => by decide)
theorem rt_flag_6 {M : ka_P} {b : Bool} : rt_flag M b 0 6 = M 0 6 := pU_j (fun _ => by decide)
theorem rt_flag_11 {M : ka_P} {b : Bool} : ka_t (rt_flag M b 0 11) = b := by
  unfold rt_flag
  rw [pU_e, ka_t_b]
theorem tx_sign {M : ka_P} {s : Int32} (h : TK M) (hs : ¬ s = -1) : tx M (rt_sign M s) := by
  unfold rt_sign
  have h1 : tx M (rt_flag M (ka_t (M 0 11) && decide (rt_here M = s))) := tx_flag h (fun e => by
    rw [Bool.and_eq_true] at e
    exact e.1)
  refine h1.tr (tx_step h1.1.1 (fun e => ?_))
  rw [rt_flag_11, Bool.and_eq_true, decide_eq_true_eq] at e
  rw [rt_flag_7, rt_flag_6]
  exact rt_here_lt (fun e2 => hs (e.2.symm.trans e2))
theorem tx_num0 {M : ka_P} (h : TK M) : tx M (rt_num0 M) := tx_flag h (fun e => by
  rw [Bool.and_eq_true] at e
  exact e.1)
theorem tx_numAt {x : Int32 × ka_P} (h : TK x.2) : tx x.2 (rt_numAt x).2 := by
  unfold rt_numAt
  split
  · exact tx.rf h
  · split
    · exact tx.rf h
    · next c => exact (tx_next h (rt_here_dg (by simpa using c))).1
theorem tx_numX {M : ka_P} (h : TK M) : ∀ i, tx M (rt_numX M i).2
  | 0 => tx_num0 h
  | i + 1 => by
    rw [rt_numX_s]
    have ih := tx_numX h i
    generalize rt_numX M i = x at ih ⊢
    exact ih.tr (tx_numAt ih.1.1)
theorem tx_number {M : ka_P} (h : TK M) : tx M (rt_number M).2 := by unfold rt_number; exact tx_numX h 2
def rt_o1 (M : ka_P) : ka_P := pU M 0 8 (M 0 7)
def rt_s (M : ka_P) : Int32 := rt_here (rt_o1 M)
def rt_o2 (M : ka_P) : ka_P := rt_flag (rt_o1 M) (decide (0 < rt_many (rt_s M)))
def rt_o3 (M : ka_P) : ka_P := rt_step (rt_o2 M)
def rt_arg1 (k : Nat) (M : ka_P) : ka_P := if 0 < nI k then rt_sign M 44 else M
def rt_argAt (k : Nat) (M : ka_P) : ka_P := pU (rt_number (rt_arg1 k M)).2 6 k (rt_number (rt_arg1 k M)).1
def rt_argX (M : ka_P) (i : Nat) : ka_P := itr rt_argAt i M
theorem rt_argX_0 {M : ka_P} : rt_argX M 0 = M := rfl
theorem rt_argX_s {M : ka_P} {i : Nat} : rt_argX M (i + 1) = rt_argAt i (rt_argX M i) := by unfold rt_argX; rw [itr_s]
def rt_o4 (M : ka_P) : ka_P := rt_argX (rt_o3 M) (cn (rt_many (rt_s M)))
def rt_o5 (M : ka_P) : ka_P := rt_sign (rt_o4 M) 59
def rt_c (M : ka_P) (S : ka_F) : Int32 × ka_F := if ka_t (rt_o5 M 0 11) = true then rt_called (rt_o5 M) S (rt_s M) else (0, S)
def rt_o6 (M : ka_P) (S : ka_F) : ka_P := pU (rt_o5 M) 0 10 (rt_c M S).1
def rt_good (M : ka_P) : Bool := ka_t (M 0 11) && decide (-2000000001 < M 0 10)
abbrev rt_st : Type := ka_P × ka_F × Bool
def rt_goes (M : ka_P) (S : ka_F) : rt_st := (sp_add (rt_o6 M S) 0 9 1, (rt_c M S).2, true)
def rt_ends (M : ka_P) (S : ka_F) : rt_st := (rt_o6 M S, (rt_c M S).2, false)
def rt_allAt (x : rt_st) : rt_st := if x.2.2 = false then x else if ¬ x.1 0 7 < x.1 0 6 then x else if rt_good (rt_o6 x.1 x.2.1) = true then rt_goes x.1 x.2.1 else rt_ends x.1 x.2.1
def rt_all0 (M : ka_P) : ka_P := pU (pU M 0 7 0) 0 9 0
def rt_allX (M : ka_P) (S : ka_F) (i : Nat) : rt_st := itr (fun _ x => rt_allAt x) i (rt_all0 M, S, true)
theorem rt_allX_0 {M : ka_P} {S : ka_F} : rt_allX M S 0 = (rt_all0 M, S, true) := rfl
theorem rt_allX_s {M : ka_P} {S : ka_F} {i : Nat} : rt_allX M S (i + 1) = rt_allAt (rt_allX M S i) := rfl
def rt_stop (x : rt_st) : Prop := x.2.2 = false ∨ ¬ x.1 0 7 < x.1 0 6
theorem rt_allX_stop {M : ka_P} {S : ka_F} {i n : Nat} (h : rt_stop (rt_allX M S i)) (hi : i ≤ n) : rt_allX M S n = rt_allX M S i :=
  itr_stop (fun x => rt_stop x) (fun _ x hx => by
    show rt_allAt x = x
    unfold rt_allAt
    rcases hx with h | h
    · rw [if_pos h]
    · split
      · rfl
      · first | rfl | rw [if_pos h]) h n hi
def rt_all (M : ka_P) (S : ka_F) : rt_st := rt_allX M S 60
theorem tx_o1 {M : ka_P} (h : TK M) : tx M (rt_o1 M) := by
  have e6 : rt_o1 M 0 6 = M 0 6 := pU_j (fun _ => by decide)
  have e7 : rt_o1 M 0 7 = M 0 7 := pU_j (fun _ => by decide)
  have e11 : rt_o1 M 0 11 = M 0 11 := pU_j (fun _ => by decide)
  refine ⟨⟨?_, e6⟩, ?_, ?_, kp_pU0 (by decide) (by decide)⟩
  · unfold TK
    rw [e6, e7]
    exact h
  · rw [e7]; exact Nat.le_refl _
  · rw [e11]; exact id
theorem rt_many_1 : ¬ 0 < rt_many (-1) := by decide
/-- o2 may mend the form: no tx, but the text stays -/
theorem rt_o2_tk {M : ka_P} (h : TK M) : TK (rt_o2 M) ∧ rt_o2 M 0 6 = M 0 6 ∧ rt_o2 M 0 7 = M 0 7 ∧ kp M (rt_o2 M) := by
  have h1 := tx_o1 h
  have e6 : rt_o2 M 0 6 = M 0 6 := rt_flag_6.trans h1.1.2
  have e7 : rt_o2 M 0 7 = M 0 7 := rt_flag_7.trans (pU_j (fun _ => by decide))
  refine ⟨?_, e6, e7, h1.2.2.2.tr (kp_pU0 (by decide) (by decide))⟩
  unfold TK
  rw [e6, e7]
  exact h
theorem rt_s_lt {M : ka_P} (h : 0 < rt_many (rt_s M)) : M 0 7 < M 0 6 := by
  have h1 : rt_o1 M 0 7 < rt_o1 M 0 6 := rt_here_lt (fun e => rt_many_1 (by
    have e2 : rt_s M = -1 := e
    rw [e2] at h
    exact h))
  have e6 : rt_o1 M 0 6 = M 0 6 := pU_j (fun _ => by decide)
  have e7 : rt_o1 M 0 7 = M 0 7 := pU_j (fun _ => by decide)
  rw [e6, e7] at h1
  exact h1
theorem tx_o3 {M : ka_P} (h : TK M) : tx (rt_o2 M) (rt_o3 M) ∧ (ka_t (rt_o2 M 0 11) = true → cn (rt_o3 M 0 7) = cn (M 0 7) + 1) := by
  obtain ⟨h1, h2, h3, _⟩ := rt_o2_tk h
  have c : ka_t (rt_o2 M 0 11) = true → rt_o2 M 0 7 < rt_o2 M 0 6 := fun e => by
    rw [h2, h3]
    unfold rt_o2 at e
    rw [rt_flag_11, decide_eq_true_eq] at e
    exact rt_s_lt e
  refine ⟨tx_step h1 c, fun e => ?_⟩
  have h4 := (tx_next h1 (c e)).2
  unfold rt_o3 rt_step
  rw [if_pos e]
  rw [h3] at h4
  exact h4
theorem tx_arg1 {M : ka_P} {k : Nat} (h : TK M) : tx M (rt_arg1 k M) := by
  unfold rt_arg1
  split
  · exact tx_sign h (by decide)
  · exact tx.rf h
theorem tx_p6 {M : ka_P} {k : Nat} {v : Int32} (h : TK M) : tx M (pU M 6 k v) := by
  have e0 : pU M 6 k v 0 = M 0 := pU_n (by decide)
  refine ⟨⟨?_, by rw [e0]⟩, by rw [e0]; exact Nat.le_refl _, by rw [e0]; exact id, by rw [e0], by rw [e0], pU_n (by decide), pU_n (by decide), pU_n (by decide)⟩
  unfold TK
  rw [e0]
  exact h
theorem tx_argAt {M : ka_P} {k : Nat} (h : TK M) : tx M (rt_argAt k M) := by
  have h1 := tx_arg1 (k := k) h
  have h2 := h1.tr (tx_number h1.1.1)
  unfold rt_argAt
  generalize rt_number (rt_arg1 k M) = x at h2
  exact h2.tr (tx_p6 h2.1.1)
theorem tx_argX {M : ka_P} (h : TK M) : ∀ i, tx M (rt_argX M i)
  | 0 => tx.rf h
  | i + 1 => by
    rw [rt_argX_s]
    have ih := tx_argX h i
    exact ih.tr (tx_argAt ih.1.1)
theorem tx_o4 {M : ka_P} (h : TK M) : tx (rt_o2 M) (rt_o4 M) := by
  have h3 := (tx_o3 h).1
  exact h3.tr (tx_argX h3.1.1 _)
theorem tx_o34 {M : ka_P} (h : TK M) : tx (rt_o3 M) (rt_o4 M) := tx_argX (tx_o3 h).1.1.1 _
theorem tx_o5 {M : ka_P} (h : TK M) : tx (rt_o4 M) (rt_o5 M) := tx_sign (tx_o4 h).1.1 (by decide)
theorem rt_o6_same {M : ka_P} {S : ka_F} : rt_o6 M S 0 6 = rt_o5 M 0 6 ∧ rt_o6 M S 0 7 = rt_o5 M 0 7 ∧ rt_o6 M S 0 11 = rt_o5 M 0 11 ∧ kp (rt_o5 M) (rt_o6 M S) :=
  ⟨pU_j (fun _ => by decide), pU_j (fun _ => by decide), pU_j (fun _ => by decide), kp_pU0 (by decide) (by decide)⟩
/-- what an order leaves, and a good one takes signs -/
theorem rt_one {M : ka_P} {S : ka_F} (h : TK M) : (TK (rt_o6 M S) ∧ rt_o6 M S 0 6 = M 0 6) ∧ kp M (rt_o6 M S) ∧ (ka_t (rt_o6 M S 0 11) = true → cn (M 0 7) + 1 ≤ cn (rt_o6 M S 0 7)) := by
  obtain ⟨h1, h2, h3, h4⟩ := rt_o2_tk h
  have a3 := tx_o3 h
  have a5 := (tx_o34 h).tr (tx_o5 h)
  have a := a3.1.tr a5
  obtain ⟨b6, b7, b11, bk⟩ := rt_o6_same (M := M) (S := S)
  refine ⟨⟨?_, ?_⟩, h4.tr (a.2.2.2.tr bk), fun e => ?_⟩
  · unfold TK
    rw [b6, b7]
    exact a.1.1
  · rw [b6, a.1.2, h2]
  · rw [b11] at e
    rw [b7]
    have := a3.2 (a.2.2.1 e)
    have := a5.2.1
    omega
/-- while it runs -/
def rt_inv (M : ka_P) (i : Nat) (x : rt_st) : Prop := (TK x.1 ∧ x.1 0 6 = M 0 6) ∧ MK 1999 x.2.1 ∧ (x.1 0 4 = M 0 4 ∧ x.1 2 = M 2 ∧ x.1 4 = M 4 ∧ x.1 5 = M 5) ∧ (x.2.2 = true → x.1 0 7 < x.1 0 6 → i ≤ cn (x.1 0 7))
theorem MK.c {M : ka_P} {S : ka_F} (hM : MK 1999 S) : MK 1999 (rt_c M S).2 := by
  unfold rt_c
  split
  · exact hM.called
  · exact hM
theorem rt_inv_s {M : ka_P} {i : Nat} {x : rt_st} (h : rt_inv M i x) : rt_inv M (i + 1) (rt_allAt x) := by
  obtain ⟨⟨h1, h2⟩, h3, ⟨k4, k2, kp4, k5⟩, h5⟩ := h
  have o := rt_one (S := x.2.1) h1
  have mc : MK 1999 (rt_c x.1 x.2.1).2 := MK.c h3
  unfold rt_allAt
  split
  · next c => exact ⟨⟨h1, h2⟩, h3, ⟨k4, k2, kp4, k5⟩, fun e => by rw [c] at e; cases e⟩
  · next c0 =>
    split
    · next c => exact ⟨⟨h1, h2⟩, h3, ⟨k4, k2, kp4, k5⟩, fun _ e => absurd e c⟩
    · next c =>
      have c' : x.1 0 7 < x.1 0 6 := by simpa using c
      have h6 := h5 (by simpa using c0) c'
      obtain ⟨⟨o1, o2⟩, ⟨p4, p9, p2, pp4, p5⟩, o4⟩ := o
      split
      · next g =>
        unfold rt_good at g
        rw [Bool.and_eq_true] at g
        have o5 := o4 g.1
        unfold rt_goes
        generalize (rt_c x.1 x.2.1).2 = T at mc ⊢
        generalize rt_o6 x.1 x.2.1 = N at o1 o2 p4 p9 p2 pp4 p5 o5 ⊢
        have e6 : sp_add N 0 9 1 0 6 = N 0 6 := pU_j (fun _ => by decide)
        have e7 : sp_add N 0 9 1 0 7 = N 0 7 := pU_j (fun _ => by decide)
        refine ⟨⟨?_, ?_⟩, mc, ⟨?_, ?_, ?_, ?_⟩, fun _ _ => ?_⟩
        · show TK (sp_add N 0 9 1)
          unfold TK
          rw [e6, e7]
          exact o1
        · exact e6.trans (o2.trans h2)
        · have e : sp_add N 0 9 1 0 4 = N 0 4 := pU_j (fun _ => by decide)
          exact e.trans (p4.trans k4)
        · have e : sp_add N 0 9 1 2 = N 2 := pU_n (by decide)
          exact e.trans (p2.trans k2)
        · have e : sp_add N 0 9 1 4 = N 4 := pU_n (by decide)
          exact e.trans (pp4.trans kp4)
        · have e : sp_add N 0 9 1 5 = N 5 := pU_n (by decide)
          exact e.trans (p5.trans k5)
        · show i + 1 ≤ cn (sp_add N 0 9 1 0 7)
          rw [e7]
          omega
      · unfold rt_ends
        generalize (rt_c x.1 x.2.1).2 = T at mc ⊢
        generalize rt_o6 x.1 x.2.1 = N at o1 o2 p4 p9 p2 pp4 p5 ⊢
        exact ⟨⟨o1, o2.trans h2⟩, mc, ⟨p4.trans k4, p2.trans k2, pp4.trans kp4, p5.trans k5⟩, fun e => by cases e⟩
theorem rt_all0_k {M : ka_P} (h : ub 60 (M 0 6)) : (TK (rt_all0 M) ∧ rt_all0 M 0 6 = M 0 6) ∧ (rt_all0 M 0 4 = M 0 4 ∧ rt_all0 M 2 = M 2 ∧ rt_all0 M 4 = M 4 ∧ rt_all0 M 5 = M 5) := by
  have e6 : rt_all0 M 0 6 = M 0 6 := (pU_j (fun _ => by decide)).trans (pU_j (fun _ => by decide))
  have e7 : rt_all0 M 0 7 = 0 := (pU_j (fun _ => by decide)).trans pU_e
  refine ⟨⟨?_, e6⟩, (pU_j (fun _ => by decide)).trans (pU_j (fun _ => by decide)), (pU_n (by decide)).trans (pU_n (by decide)), (pU_n (by decide)).trans (pU_n (by decide)), (pU_n (by decide)).trans (pU_n (by decide))⟩
  unfold TK
  rw [e6, e7]
  exact ⟨h, ub_nI (m := 0) (Nat.zero_le _) (by have := h.2; omega)⟩
theorem rt_allX_inv {M : ka_P} {S : ka_F} (h : ub 60 (M 0 6)) (hM : MK 1999 S) : ∀ i, rt_inv M i (rt_allX M S i)
  | 0 => ⟨(rt_all0_k h).1, hM, (rt_all0_k h).2, fun _ _ => Nat.zero_le _⟩
  | i + 1 => by
    rw [rt_allX_s]
    exact rt_inv_s (rt_allX_inv h hM i)
theorem rt_all_lt {M : ka_P} {S : ka_F} {i : Nat} (h : ub 60 (M 0 6)) (hM : MK 1999 S) (hv : (rt_allX M S i).2.2 = true) (c : (rt_allX M S i).1 0 7 < (rt_allX M S i).1 0 6) : i < 60 := by
  have h1 := rt_allX_inv h hM i
  have h2 := h1.2.2.2 hv c
  have h3 := h1.1.1.lt c
  have h4 := h1.1.1.1.2
  omega
theorem rt_goes_W {V : ka_W} {A : ka_P} {B : ka_F} : ka_ms V (pU (rt_o6 A B) 0 9 (rt_o6 A B 0 9 + 1)) (rt_c A B).2 = ka_ms V (rt_goes A B).1 (rt_goes A B).2.1 := by simp only [rt_goes, sp_add]
theorem rt_goes_t {A : ka_P} {B : ka_F} : (rt_goes A B).2.2 = true := by simp only [rt_goes]
theorem rt_ends_W {V : ka_W} {A : ka_P} {B : ka_F} : ka_ms V (rt_o6 A B) (rt_c A B).2 = ka_ms V (rt_ends A B).1 (rt_ends A B).2.1 := by simp only [rt_ends]
theorem rt_ends_V {A : ka_P} {B : ka_F} : (0 : Int32) = ka_b (rt_ends A B).2.2 := by simp only [rt_ends]; rfl
theorem rt_all_end {M : ka_P} {S : ka_F} {i : Nat} (hi : i < 60) (hv : (rt_allX M S i).2.2 = true) (c : (rt_allX M S i).1 0 7 < (rt_allX M S i).1 0 6) (hg : rt_good (rt_o6 (rt_allX M S i).1 (rt_allX M S i).2.1) = false) : rt_all M S = rt_ends (rt_allX M S i).1 (rt_allX M S i).2.1 := by
  have e : rt_allX M S (i + 1) = rt_ends (rt_allX M S i).1 (rt_allX M S i).2.1 := by
    rw [rt_allX_s]
    unfold rt_allAt
    rw [if_neg (by rw [hv]; decide), if_neg (not_not_intro c), if_neg (by rw [hg]; decide)]
  have h : rt_stop (rt_allX M S (i + 1)) := Or.inl (by rw [e]; rfl)
  have h2 : rt_all M S = rt_allX M S (i + 1) := rt_allX_stop (n := 60) h hi
  rw [h2, e]
theorem rt_all_go {M : ka_P} {S : ka_F} {i : Nat} (hv : (rt_allX M S i).2.2 = true) (c : (rt_allX M S i).1 0 7 < (rt_allX M S i).1 0 6) (hg : rt_good (rt_o6 (rt_allX M S i).1 (rt_allX M S i).2.1) = true) : rt_allX M S (i + 1) = rt_goes (rt_allX M S i).1 (rt_allX M S i).2.1 := by
  rw [rt_allX_s]
  unfold rt_allAt
  rw [if_neg (by rw [hv]; decide), if_neg (not_not_intro c), if_pos hg]
def rt_faultR (M : ka_P) (a : Int32) : Int32 := if a = 0 then M 0 8 else if a = 1 then (if ka_t (M 0 11) = true then 2 else 1) else if ka_t (M 0 11) = true then M 0 10 else M 0 7 - M 0 8
def rt_fault (M : ka_P) (S : ka_F) (a : Int32) : Int32 := if kw a 0 2 = false then -2000000001 else if (rt_all (rf_beg M S) S).2.2 = true then -2000000004 else rt_faultR (rt_all (rf_beg M S) S).1 a
def rt_faultW (V : ka_W) (M : ka_P) (S : ka_F) (a : Int32) : ka_W := if kw a 0 2 = false then ka_ms V M S else ka_ms V (rt_all (rf_beg M S) S).1 (cpF 269 S (rt_all (rf_beg M S) S).2.1)
def rt_playA (M : ka_P) (S : ka_F) : Int32 := if (rt_all (rf_beg M S) S).2.2 = true then (rt_all (rf_beg M S) S).1 0 9 else -2000000002
def rt_playW (V : ka_W) (M : ka_P) (S : ka_F) : ka_W := ka_ms V (rf_actM (rt_all (rf_beg M S) S).1 (rt_playA M S)) (rf_actS (rt_all (rf_beg M S) S).1 (rt_all (rf_beg M S) S).2.1 (rt_playA M S))
theorem rt_all_2 {M : ka_P} {S : ka_F} (h : ub 60 (M 0 6)) (hM : MK 1999 S) : (rt_all (rf_beg M S) S).1 2 = cpF 269 S (M 2) ∧ (rt_all (rf_beg M S) S).1 0 4 = M 0 4 := by
  have h1 : rt_inv (rf_beg M S) 60 (rt_all (rf_beg M S) S) := rt_allX_inv (M := rf_beg M S) (S := S) (by rw [rf_beg_n (by decide)]; exact h) hM 60
  generalize rt_all (rf_beg M S) S = x at h1 ⊢
  refine ⟨h1.2.2.1.2.1.trans rf_beg_2, h1.2.2.1.1.trans ?_⟩
  rw [rf_beg_n (by decide)]
theorem rt_many_le (s : Int32) : cn (rt_many s) ≤ 4 := by
  unfold rt_many
  repeat' split
  all_goals decide
