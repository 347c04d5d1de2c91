/-! texts on both sides -/
theorem rt_here_of {M N : ka_P} (h6 : N 0 6 = M 0 6) (h7 : N 0 7 = M 0 7) (h5 : N 5 = M 5) : rt_here N = rt_here M := by
  unfold rt_here
  rw [h6, h7, h5]
/-- the text and the place in it are the same -/
def RD (T M : ka_P) : Prop := T 0 2 = M 0 6 ∧ (∀ j, j < 60 → T 1 j = M 5 j) ∧ T 0 4 = M 0 7 ∧ TK M
theorem RD.here {T M : ka_P} (h : RD T M) : st_here T = rt_here M := by
  obtain ⟨h1, h2, h3, h4⟩ := h
  have h60 := h4.1.2
  have hk := h4.2
  unfold st_here st_signAt rt_here
  rw [h1, h3, if_neg hk.pos]
  by_cases c : M 0 7 < M 0 6
  · have h5 := h4.at60 c
    have e : M 0 7 < 60 := by
      rw [hk.1]
      exact nI_lt (a := cn (M 0 7)) (b := 60) h5 (by decide)
    rw [if_neg (not_not_intro e), if_neg (not_not_intro c), if_pos c]
    exact h2 _ h5
  · rw [if_neg c]
    split
    · rfl
    · rfl
theorem st_next_o {T : ka_P} {o : Nat} (h : o ≠ 0) : st_next T o = T o := pU_n h
theorem st_next_j {T : ka_P} {j : Nat} (h : j ≠ 4) : st_next T 0 j = T 0 j := by
  unfold st_next sp_add
  exact pU_j (fun _ => h)
theorem st_put_o {T : ka_P} {x n : Int32} {o : Nat} (h : o ≠ 2) : st_put T x n o = T o := ka_s2_n h
theorem sign_6 {N : ka_P} {s : Int32} : rt_sign N s 6 = N 6 := by
  unfold rt_sign rt_step rt_flag
  rw [pU_n (by decide), pU_n (by decide)]
theorem readSign_2 {T : ka_P} {s : Int32} : (st_readSign T s).2 2 = T 2 := by
  unfold st_readSign
  split
  · exact st_next_o (o := 2) (by decide)
  · rfl
theorem RD.next {T M : ka_P} (h : RD T M) (c : M 0 7 < M 0 6) : RD (st_next T) (sp_add M 0 7 1) := by
  obtain ⟨h1, h2, h3, h4⟩ := h
  have t := (tx_next h4 c).1
  refine ⟨?_, ?_, ?_, t.1.1⟩
  · rw [t.1.2, ← h1]
    exact st_next_j (by decide)
  · intro j hj
    rw [t.2.2.2.2.2.2.2, ← h2 j hj, st_next_o (by decide)]
  · unfold st_next sp_add
    rw [pU_e, pU_e, h3]
theorem RD.of {T M T' M' : ka_P} (h : RD T M) (t2 : T' 0 2 = T 0 2) (t1 : T' 1 = T 1) (t4 : T' 0 4 = T 0 4) (m6 : M' 0 6 = M 0 6) (m5 : M' 5 = M 5) (m7 : M' 0 7 = M 0 7) : RD T' M' := by
  obtain ⟨h1, h2, h3, h4⟩ := h
  refine ⟨by rw [t2, m6]; exact h1, fun j hj => by rw [t1, m5]; exact h2 j hj, by rw [t4, m7]; exact h3, ?_⟩
  unfold TK
  rw [m6, m7]
  exact h4
/-- what reading leaves of the class's text, of the reference's -/
def kT (T T' : ka_P) : Prop := (∀ j, j ≠ 4 → T' 0 j = T 0 j) ∧ T' 1 = T 1
def kM (M M' : ka_P) : Prop := M' 0 6 = M 0 6 ∧ M' 0 8 = M 0 8 ∧ M' 0 9 = M 0 9 ∧ M' 5 = M 5
theorem kT.rf {T : ka_P} : kT T T := ⟨fun _ _ => rfl, rfl⟩
theorem kT.tr {T U W : ka_P} (h : kT T U) (h2 : kT U W) : kT T W := ⟨fun j hj => (h2.1 j hj).trans (h.1 j hj), h2.2.trans h.2⟩
theorem kT.next {T : ka_P} : kT T (st_next T) := ⟨fun j hj => st_next_j hj, st_next_o (by decide)⟩
theorem kT.put {T : ka_P} {x n : Int32} : kT T (st_put T x n) := ⟨fun j _ => congrFun (st_put_o (by decide)) j, st_put_o (by decide)⟩
theorem kM.rf {M : ka_P} : kM M M := ⟨rfl, rfl, rfl, rfl⟩
theorem kM.tr {T U W : ka_P} (h : kM T U) (h2 : kM U W) : kM T W := ⟨h2.1.trans h.1, h2.2.1.trans h.2.1, h2.2.2.1.trans h.2.2.1, h2.2.2.2.trans h.2.2.2⟩
theorem kM.u {M : ka_P} {j : Nat} {v : Int32} (h6 : 6 ≠ j) (h8 : 8 ≠ j) (h9 : 9 ≠ j) : kM M (pU M 0 j v) := ⟨pU_j (fun _ => h6), pU_j (fun _ => h8), pU_j (fun _ => h9), pU_n (by decide)⟩
theorem kM.flag {M : ka_P} {b : Bool} : kM M (rt_flag M b) := kM.u (by decide) (by decide) (by decide)
theorem kM.step {M : ka_P} : kM M (rt_step M) := kM.u (by decide) (by decide) (by decide)
theorem kM.sign {M : ka_P} {s : Int32} : kM M (rt_sign M s) := kM.flag.tr kM.step
theorem kM.numAt {x : Int32 × ka_P} : kM x.2 (rt_numAt x).2 := by
  unfold rt_numAt
  split
  · exact kM.rf
  · split
    · exact kM.rf
    · exact kM.u (by decide) (by decide) (by decide)
theorem kM.number {M : ka_P} : kM M (rt_number M).2 := by
  have h : ∀ i, kM M (rt_numX M i).2 := by
    intro i
    induction i with
    | zero => exact kM.flag
    | succ i ih =>
      rw [rt_numX_s]
      exact ih.tr kM.numAt
  exact h 2
theorem flag_here {M : ka_P} {b : Bool} : rt_here (rt_flag M b) = rt_here M := rt_here_of rt_flag_6 rt_flag_7 (pU_n (by decide))
theorem step_0 {M : ka_P} (h : ka_t (M 0 11) = false) : rt_step M = M := by
  unfold rt_step
  rw [if_neg (by rw [h]; decide), Int32.add_zero]
  funext o j
  by_cases h1 : o = 0 ∧ j = 7
  · rw [h1.1, h1.2, pU_e]
  · exact pU_j (fun e => fun e2 => h1 ⟨e, e2⟩)
theorem step_1 {M : ka_P} (h : ka_t (M 0 11) = true) : rt_step M = sp_add M 0 7 1 := by
  unfold rt_step
  rw [if_pos h]
  rfl
/-- out of form: the place stays, and so does the fault -/
def deadM (M M' : ka_P) : Prop := ka_t (M' 0 11) = false ∧ M' 0 7 = M 0 7 ∧ kM M M'
theorem deadM.tr {A B C : ka_P} (h : deadM A B) (h2 : deadM B C) : deadM A C := ⟨h2.1, h2.2.1.trans h.2.1, h.2.2.tr h2.2.2⟩
theorem dead_flag {M : ka_P} : deadM M (rt_flag M false) := ⟨rt_flag_11, rt_flag_7, kM.flag⟩
theorem dead_sign {M : ka_P} {s : Int32} (h : (ka_t (M 0 11) && decide (rt_here M = s)) = false) : deadM M (rt_sign M s) := by
  unfold rt_sign
  rw [h, step_0 rt_flag_11]
  exact dead_flag
theorem dead_number {M : ka_P} (h : (ka_t (M 0 11) && kw (rt_here M) 48 57) = false) : deadM M (rt_number M).2 := by
  have e : rt_num0 M = rt_flag M false := by
    unfold rt_num0
    rw [h]
  have st : rt_numS (rt_numX M 0) := by
    rw [rt_numX_0]
    refine Or.inl ?_
    show ka_t (rt_num0 M 0 11) = false
    rw [e]
    exact rt_flag_11
  have e2 : rt_number M = rt_numX M 0 := rt_numX_stop (n := 2) st (by decide)
  rw [e2, rt_numX_0]
  show deadM M (rt_num0 M)
  rw [e]
  exact dead_flag
theorem dead_p6 {M : ka_P} {k : Nat} {v : Int32} (h : ka_t (M 0 11) = false) : deadM M (pU M 6 k v) := by
  have e : pU M 6 k v 0 = M 0 := pU_n (by decide)
  exact ⟨by rw [e]; exact h, by rw [e], by rw [e], by rw [e], by rw [e], pU_n (by decide)⟩
theorem dead_arg {M : ka_P} {k : Nat} (h : ka_t (M 0 11) = false) : deadM M (rt_argAt k M) := by
  have h1 : deadM M (rt_arg1 k M) := by
    unfold rt_arg1
    split
    · exact dead_sign (by rw [h]; rfl)
    · exact ⟨h, rfl, kM.rf⟩
  have h2 : deadM M (rt_number (rt_arg1 k M)).2 := h1.tr (dead_number (by rw [h1.1]; rfl))
  unfold rt_argAt
  exact h2.tr (dead_p6 h2.1)
/-- the class's reading (b, T') and the reference's M' agree, from T and M -/
def RB (T M : ka_P) (x : Bool × ka_P) (M' : ka_P) : Prop := RD x.2 M' ∧ ka_t (M' 0 11) = x.1 ∧ kT T x.2 ∧ kM M M'
theorem RB.dead {T M : ka_P} {x : Bool × ka_P} {M' M'' : ka_P} (h : RB T M x M') (hx : x.1 = false) (hd : deadM M' M'') : RB T M x M'' :=
  ⟨h.1.of rfl rfl rfl hd.2.2.1 hd.2.2.2.2.2 hd.2.1, by rw [hd.1, hx], h.2.2.1, h.2.2.2.tr hd.2.2⟩
theorem RB.sign {T M : ka_P} {x : Bool × ka_P} {M' : ka_P} {s : Int32} (h : RB T M x M') (hx : x.1 = true) (hs : ¬ s = -1) : RB T M (st_readSign x.2 s) (rt_sign M' s) := by
  obtain ⟨hr, hf, hT, hM⟩ := h
  rw [hx] at hf
  unfold st_readSign
  rw [hr.here]
  by_cases c : rt_here M' = s
  · have hl : M' 0 7 < M' 0 6 := rt_here_lt (fun e => hs (c.symm.trans e))
    rw [if_pos c]
    have e : rt_sign M' s = sp_add (rt_flag M' true) 0 7 1 := by
      unfold rt_sign
      rw [hf, decide_eq_true c]
      exact step_1 rt_flag_11
    have hr2 : RD x.2 (rt_flag M' true) := hr.of rfl rfl rfl rt_flag_6 (pU_n (by decide)) rt_flag_7
    refine ⟨?_, ?_, hT.tr kT.next, hM.tr kM.sign⟩
    · rw [e]
      exact hr2.next (by rw [rt_flag_7, rt_flag_6]; exact hl)
    · rw [e]
      show ka_t (sp_add (rt_flag M' true) 0 7 1 0 11) = true
      rw [show sp_add (rt_flag M' true) 0 7 1 0 11 = rt_flag M' true 0 11 from pU_j (fun _ => by decide)]
      exact rt_flag_11
  · rw [if_neg c]
    have hd := dead_sign (M := M') (s := s) (by rw [decide_eq_false c, Bool.and_false])
    exact ⟨hr.of rfl rfl rfl hd.2.2.1 hd.2.2.2.2.2 hd.2.1, hd.1, hT, hM.tr kM.sign⟩
/-- a number is read; so far k numbers agree -/
theorem RB.num {T M : ka_P} {x : Bool × ka_P} {M' : ka_P} {k : Nat} (h : RB T M x M') (hx : x.1 = true) (hk : k < 4) (hn : ∀ j, j < k → x.2 2 j = M' 6 j) : RB T M (st_readNumber x.2 (nI k)) (pU (rt_number M').2 6 k (rt_number M').1) ∧ ((st_readNumber x.2 (nI k)).1 = true → ∀ j, j < k + 1 → (st_readNumber x.2 (nI k)).2 2 j = pU (rt_number M').2 6 k (rt_number M').1 6 j) := by
  obtain ⟨hr, hf, hT, hM⟩ := h
  rw [hx] at hf
  have p6 : ∀ (N : ka_P) (v : Int32), pU N 6 k v 0 = N 0 := fun N v => pU_n (by decide)
  have p65 : ∀ (N : ka_P) (v : Int32), pU N 6 k v 5 = N 5 := fun N v => pU_n (by decide)
  have ck : cn (nI k) = k := cn_nI (by omega)
  unfold st_readNumber
  rw [hr.here]
  by_cases c1 : kw (rt_here M') 48 57 = false
  · rw [if_pos c1]
    have hd := dead_number (M := M') (by rw [c1, Bool.and_false])
    have hd2 := hd.tr (dead_p6 (k := k) (v := (rt_number M').1) hd.1)
    exact ⟨⟨hr.of rfl rfl rfl hd2.2.2.1 hd2.2.2.2.2.2 hd2.2.1, hd2.1, hT, hM.tr hd2.2.2⟩, fun e => by cases e⟩
  · have t1 : kw (rt_here M') 48 57 = true := by simpa using c1
    have hl : M' 0 7 < M' 0 6 := rt_here_dg t1
    rw [if_neg c1, if_neg (nI_pos (by omega)), if_neg (not_not_intro (show nI k < 4 from nI_lt (a := k) (b := 4) hk (by decide)))]
    have e0 : rt_num0 M' = rt_flag M' true := by
      unfold rt_num0
      rw [hf, t1]
      rfl
    have hr0 : RD x.2 (rt_flag M' true) := hr.of rfl rfl rfl rt_flag_6 (pU_n (by decide)) rt_flag_7
    have hl0 : rt_flag M' true 0 7 < rt_flag M' true 0 6 := by rw [rt_flag_7, rt_flag_6]; exact hl
    have hr1 := hr0.next hl0
    have f0 : ka_t (rt_flag M' true 0 11) = true := rt_flag_11
    have h0 : rt_here (rt_flag M' true) = rt_here M' := flag_here
    have r6 : ∀ j, rt_flag M' true 6 j = M' 6 j := fun j => congrFun (pU_n (by decide)) j
    have x1 : rt_numX M' 1 = (10 * 0 + rt_here M' - 48, sp_add (rt_flag M' true) 0 7 1) := by
      rw [rt_numX_s, rt_numX_0, e0]
      unfold rt_numAt
      dsimp only
      rw [if_neg (by rw [f0]; decide), h0, if_neg c1]
    have f1 : ka_t (sp_add (rt_flag M' true) 0 7 1 0 11) = true := by
      rw [show sp_add (rt_flag M' true) 0 7 1 0 11 = rt_flag M' true 0 11 from pU_j (fun _ => by decide)]
      exact f0
    have k1 : kM M' (sp_add (rt_flag M' true) 0 7 1) := kM.flag.tr (kM.u (by decide) (by decide) (by decide))
    have s6 : ∀ j, sp_add (rt_flag M' true) 0 7 1 6 j = M' 6 j := fun j => (congrFun (pU_n (by decide)) j).trans (r6 j)
    rw [hr1.here]
    generalize sp_add (rt_flag M' true) 0 7 1 = N1 at hr1 x1 f1 k1 s6 ⊢
    have hv : (10 : Int32) * 0 + rt_here M' - 48 = rt_here M' - 48 := by
      rw [Int32.mul_zero, Int32.zero_add]
    have xn : ∀ j, j < k → st_next x.2 2 j = M' 6 j := fun j hj => (congrFun (st_next_o (by decide)) j).trans (hn j hj)
    by_cases c2 : kw (rt_here N1) 48 57 = false
    · rw [if_pos c2]
      have e2 : rt_number M' = (rt_here M' - 48, N1) := by
        have st : rt_numS (rt_numX M' 1) := Or.inr (by rw [x1]; exact c2)
        have : rt_number M' = rt_numX M' 1 := rt_numX_stop (n := 2) st (by decide)
        rw [this, x1, hv]
      rw [e2]
      dsimp only
      refine ⟨⟨?_, ?_, (hT.tr kT.next).tr kT.put, ?_⟩, fun _ j hj => ?_⟩
      · show RD (st_put (st_next x.2) (nI k) (rt_here M' - 48)) (pU N1 6 k (rt_here M' - 48))
        refine hr1.of ?_ ?_ ?_ ?_ ?_ ?_
        · exact congrFun (st_put_o (o := 0) (by decide)) 2
        · exact st_put_o (o := 1) (by decide)
        · exact congrFun (st_put_o (o := 0) (by decide)) 4
        · rw [p6]
        · rw [p65]
        · rw [p6]
      · rw [p6]; exact f1
      · refine hM.tr (k1.tr ⟨by rw [p6], by rw [p6], by rw [p6], p65 _ _⟩)
      · unfold st_put
        rw [ka_s2_s, ck]
        by_cases cj : j = k
        · subst cj
          rw [pk_us, pU_e]
        · rw [pk_un cj, pU_j (fun _ => cj), s6]
          exact xn j (by omega)
    · have t2 : kw (rt_here N1) 48 57 = true := by simpa using c2
      have hl1 : N1 0 7 < N1 0 6 := rt_here_dg t2
      rw [if_neg c2]
      have hr2 := hr1.next hl1
      have x2 : rt_number M' = ((rt_here M' - 48) * 10 + rt_here N1 - 48, sp_add N1 0 7 1) := by
        have : rt_number M' = rt_numX M' 2 := rfl
        rw [this, rt_numX_s, x1]
        unfold rt_numAt
        dsimp only
        rw [if_neg (by rw [f1]; decide), if_neg c2, hv, Int32.mul_comm 10]
      have f2 : ka_t (sp_add N1 0 7 1 0 11) = true := by
        rw [show sp_add N1 0 7 1 0 11 = N1 0 11 from pU_j (fun _ => by decide)]
        exact f1
      have k2 : kM M' (sp_add N1 0 7 1) := k1.tr (kM.u (by decide) (by decide) (by decide))
      have s62 : ∀ j, sp_add N1 0 7 1 6 j = M' 6 j := fun j => (congrFun (pU_n (by decide)) j).trans (s6 j)
      have xn2 : ∀ j, j < k → st_next (st_next x.2) 2 j = M' 6 j := fun j hj => (congrFun (st_next_o (by decide)) j).trans (xn j hj)
      rw [x2]
      dsimp only
      generalize sp_add N1 0 7 1 = N2 at hr2 f2 k2 s62 ⊢
      refine ⟨⟨?_, ?_, ((hT.tr kT.next).tr kT.next).tr kT.put, ?_⟩, fun _ j hj => ?_⟩
      · show RD (st_put (st_next (st_next x.2)) (nI k) ((rt_here M' - 48) * 10 + rt_here N1 - 48)) (pU N2 6 k ((rt_here M' - 48) * 10 + rt_here N1 - 48))
        refine hr2.of ?_ ?_ ?_ ?_ ?_ ?_
        · exact congrFun (st_put_o (o := 0) (by decide)) 2
        · exact st_put_o (o := 1) (by decide)
        · exact congrFun (st_put_o (o := 0) (by decide)) 4
        · rw [p6]
        · rw [p65]
        · rw [p6]
      · rw [p6]; exact f2
      · refine hM.tr (k2.tr ⟨by rw [p6], by rw [p6], by rw [p6], p65 _ _⟩)
      · unfold st_put
        rw [ka_s2_s, ck]
        by_cases cj : j = k
        · subst cj
          rw [pk_us, pU_e]
        · rw [pk_un cj, pU_j (fun _ => cj), s62]
          exact xn2 j (by omega)
theorem many_eq (x : Int32) : st_numbersOf x = rt_many x := by
  unfold st_numbersOf rt_many
  by_cases e0 : x = 100
  · subst e0; rfl
  by_cases e1 : x = 108
  · subst e1; rfl
  by_cases e2 : x = 114
  · subst e2; rfl
  by_cases e3 : x = 116
  · subst e3; rfl
  by_cases e4 : x = 117
  · subst e4; rfl
  by_cases e5 : x = 119
  · subst e5; rfl
  rw [if_neg e0, if_neg e1, if_neg e2, if_neg e3, if_neg e4, if_neg e5, if_neg e3, if_neg e5, if_neg e1, if_neg e4, if_neg e2, if_neg e0]
/-- the numbers of an order -/
theorem RB.nums {T M : ka_P} {T1 M3 : ka_P} (h : RB T M (true, T1) M3) : ∀ k, k ≤ 4 → RB T M (st_numX T1 k) (rt_argX M3 k) ∧ ((st_numX T1 k).1 = true → ∀ j, j < k → (st_numX T1 k).2 2 j = rt_argX M3 k 6 j)
  | 0, _ => ⟨h, fun _ j hj => absurd hj (Nat.not_lt_zero _)⟩
  | k + 1, hk => by
    obtain ⟨ih, ihn⟩ := RB.nums h k (by omega)
    rw [st_numX_s, rt_argX_s]
    generalize st_numX T1 k = x at ih ihn ⊢
    generalize rt_argX M3 k = N at ih ihn ⊢
    unfold st_numAt
    by_cases c1 : x.1 = false
    · rw [if_pos c1]
      refine ⟨ih.dead c1 (dead_arg (by rw [ih.2.1]; exact c1)), fun e => ?_⟩
      rw [c1] at e
      cases e
    · have t1 : x.1 = true := by simpa using c1
      rw [if_neg c1]
      unfold rt_argAt rt_arg1
      by_cases c2 : 0 < nI k
      · rw [if_pos c2, if_pos c2]
        have hs := ih.sign (s := 44) t1 (by decide)
        have hn2 : (st_readSign x.2 44).1 = true → ∀ j, j < k → (st_readSign x.2 44).2 2 j = rt_sign N 44 6 j := fun _ j hj => by
          rw [readSign_2, sign_6]
          exact ihn t1 j hj
        generalize st_readSign x.2 44 = y at hs hn2 ⊢
        generalize rt_sign N 44 = N2 at hs hn2 ⊢
        by_cases c3 : y.1 = false
        · rw [if_pos c3]
          have hd := dead_number (M := N2) (by rw [hs.2.1, c3]; rfl)
          refine ⟨RB.dead (x := (false, y.2)) ⟨hs.1, hs.2.1.trans c3, hs.2.2.1, hs.2.2.2⟩ rfl (hd.tr (dead_p6 hd.1)), fun e => by cases e⟩
        · have t3 : y.1 = true := by simpa using c3
          rw [if_neg c3]
          exact hs.num t3 (by omega) (hn2 t3)
      · rw [if_neg c2, if_neg c2]
        exact ih.num t1 (by omega) (ihn t1)
/-- a whole order is read -/
theorem order_sim {T M : ka_P} (h : RD T M) : RD (st_readOrder T).2 (rt_o5 M) ∧ ka_t (rt_o5 M 0 11) = (st_readOrder T).1 ∧ ((∀ j, j ≠ 3 → j ≠ 4 → (st_readOrder T).2 0 j = T 0 j) ∧ (st_readOrder T).2 0 3 = rt_s M ∧ (st_readOrder T).2 1 = T 1) ∧ (rt_o5 M 0 8 = M 0 7 ∧ rt_o5 M 0 9 = M 0 9 ∧ rt_o5 M 0 6 = M 0 6 ∧ rt_o5 M 5 = M 5) ∧ ((st_readOrder T).1 = true → ∀ j, j < cn (rt_many (rt_s M)) → (st_readOrder T).2 2 j = rt_o5 M 6 j) := by
  have o6 : rt_o1 M 0 6 = M 0 6 := pU_j (fun _ => by decide)
  have o7 : rt_o1 M 0 7 = M 0 7 := pU_j (fun _ => by decide)
  have o8 : rt_o1 M 0 8 = M 0 7 := pU_e
  have o9 : rt_o1 M 0 9 = M 0 9 := pU_j (fun _ => by decide)
  have o5 : rt_o1 M 5 = M 5 := pU_n (by decide)
  have hs : rt_s M = rt_here M := rt_here_of o6 o7 o5
  have t3 : st_order0 T 0 3 = rt_s M := by
    unfold st_order0
    rw [pU_e, h.here, hs]
  have tj : ∀ j, j ≠ 3 → st_order0 T 0 j = T 0 j := fun j hj => pU_j (fun _ => hj)
  have t1 : st_order0 T 1 = T 1 := pU_n (by decide)
  have hr1 : RD (st_order0 T) (rt_o1 M) := h.of (tj 2 (by decide)) t1 (tj 4 (by decide)) o6 o5 o7
  have base : ∀ (x : Bool × ka_P) (N : ka_P), RB (st_order0 T) (rt_o1 M) x N → RD x.2 N ∧ ka_t (N 0 11) = x.1 ∧ ((∀ j, j ≠ 3 → j ≠ 4 → x.2 0 j = T 0 j) ∧ x.2 0 3 = rt_s M ∧ x.2 1 = T 1) ∧ (N 0 8 = M 0 7 ∧ N 0 9 = M 0 9 ∧ N 0 6 = M 0 6 ∧ N 5 = M 5) := by
    intro x N hb
    obtain ⟨a1, a2, a3, a4⟩ := hb
    exact ⟨a1, a2, ⟨fun j h3 h4 => (a3.1 j h4).trans (tj j h3), (a3.1 3 (by decide)).trans t3, a3.2.trans t1⟩, a4.2.1.trans o8, a4.2.2.1.trans o9, a4.1.trans o6, a4.2.2.2.trans o5⟩
  unfold st_readOrder
  rw [t3, many_eq]
  by_cases c1 : rt_many (rt_s M) = 0
  · rw [if_pos c1]
    have e2 : rt_o2 M = rt_flag (rt_o1 M) false := by
      unfold rt_o2
      rw [c1]
      rfl
    have d2 : deadM (rt_o1 M) (rt_o2 M) := by rw [e2]; exact dead_flag
    have e3 : rt_o3 M = rt_o2 M := step_0 d2.1
    have e4 : rt_o4 M = rt_o2 M := by
      unfold rt_o4
      rw [c1, e3]
      rfl
    have d5 : deadM (rt_o1 M) (rt_o5 M) := by
      unfold rt_o5
      rw [e4]
      exact d2.tr (dead_sign (by rw [d2.1]; rfl))
    obtain ⟨b1, b2, b3, b4⟩ := base (false, st_order0 T) (rt_o5 M) ⟨hr1.of rfl rfl rfl d5.2.2.1 d5.2.2.2.2.2 d5.2.1, d5.1, kT.rf, d5.2.2⟩
    exact ⟨b1, b2, b3, b4, fun e => by cases e⟩
  · rw [if_neg c1]
    have hm4 := rt_many_le (rt_s M)
    have hpos : 0 < rt_many (rt_s M) := by
      unfold rt_many at c1 ⊢
      repeat' split
      all_goals first | decide | skip
      all_goals simp_all
    have e2 : rt_o2 M = rt_flag (rt_o1 M) true := by
      unfold rt_o2
      rw [decide_eq_true hpos]
    have hl : M 0 7 < M 0 6 := rt_s_lt hpos
    have e3 : rt_o3 M = sp_add (rt_flag (rt_o1 M) true) 0 7 1 := by
      unfold rt_o3
      rw [e2]
      exact step_1 rt_flag_11
    have hb : RB (st_order0 T) (rt_o1 M) (true, st_next (st_order0 T)) (rt_o3 M) := by
      have hr2 : RD (st_order0 T) (rt_flag (rt_o1 M) true) := hr1.of rfl rfl rfl rt_flag_6 (pU_n (by decide)) rt_flag_7
      rw [e3]
      refine ⟨hr2.next (by rw [rt_flag_7, rt_flag_6, o7, o6]; exact hl), ?_, kT.next, kM.flag.tr (kM.u (by decide) (by decide) (by decide))⟩
      rw [show sp_add (rt_flag (rt_o1 M) true) 0 7 1 0 11 = rt_flag (rt_o1 M) true 0 11 from pU_j (fun _ => by decide)]
      exact rt_flag_11
    obtain ⟨n1, n2⟩ := hb.nums _ hm4
    have e4 : rt_argX (rt_o3 M) (cn (rt_many (rt_s M))) = rt_o4 M := rfl
    have e5 : rt_o5 M = rt_sign (rt_o4 M) 59 := rfl
    rw [e4] at n1 n2
    rw [e5]
    generalize rt_o4 M = N at n1 n2 ⊢
    generalize st_numX (st_next (st_order0 T)) (cn (rt_many (rt_s M))) = x at n1 n2 ⊢
    by_cases c2 : x.1 = false
    · rw [if_pos c2]
      have hd := dead_sign (M := N) (s := 59) (by rw [n1.2.1, c2]; rfl)
      obtain ⟨b1, b2, b3, b4⟩ := base x _ (n1.dead c2 hd)
      exact ⟨b1, b2, b3, b4, fun e => by rw [c2] at e; cases e⟩
    · have t2 : x.1 = true := by simpa using c2
      rw [if_neg c2]
      obtain ⟨b1, b2, b3, b4⟩ := base _ _ (n1.sign (s := 59) t2 (by decide))
      refine ⟨b1, b2, b3, b4, fun _ j hj => ?_⟩
      rw [readSign_2, sign_6]
      exact n2 t2 j hj
