/-! the orders of a text, the history, the face on both sides -/
theorem called_sim {c : Nat} {P : ka_P} {S : ka_F} {T M : ka_P} {l : Int32} (h : RS c 1999 P S) (hc : c < 39999) (hl : T 0 3 = l) (hp : ¬ rt_many l = 0) (hn : ∀ j, j < cn (rt_many l) → T 2 j = M 6 j) : simO (c + 1) 1999 (st_doOrder T P) (rt_called M S l) := by
  unfold st_doOrder rt_called
  rw [hl]
  by_cases e1 : l = 108
  · subst e1
    rw [if_pos rfl, if_pos rfl, hn 0 (by decide)]
    exact sim_load h
  by_cases e2 : l = 114
  · subst e2
    rw [if_neg e1, if_neg e1, if_pos rfl, if_pos rfl, hn 0 (by decide)]
    exact sim_repair h (by omega) (by decide)
  by_cases e3 : l = 116
  · subst e3
    rw [if_neg e1, if_neg e1, if_neg e2, if_neg e2, if_pos rfl, if_pos rfl, hn 0 (by decide), hn 1 (by decide), hn 2 (by decide), hn 3 (by decide)]
    exact sim_train h (by decide)
  by_cases e4 : l = 117
  · subst e4
    rw [if_neg e1, if_neg e1, if_neg e2, if_neg e2, if_neg e3, if_neg e3, if_pos rfl, if_pos rfl, hn 0 (by decide)]
    exact sim_unload h (by omega) (by decide)
  by_cases e5 : l = 119
  · subst e5
    rw [if_neg e1, if_neg e1, if_neg e2, if_neg e2, if_neg e3, if_neg e3, if_neg e4, if_neg e4, if_pos rfl, if_pos rfl, hn 0 (by decide)]
    exact sim_join h
  have e6 : l = 100 := by
    unfold rt_many at hp
    rw [if_neg e3, if_neg e5, if_neg e1, if_neg e4, if_neg e2] at hp
    split at hp
    · assumption
    · exact absurd rfl hp
  subst e6
  rw [if_neg e1, if_neg e1, if_neg e2, if_neg e2, if_neg e3, if_neg e3, if_neg e4, if_neg e4, if_neg e5, if_neg e5, hn 0 (by decide)]
  exact sim_pass h (by omega)
def TXT (T M : ka_P) : Prop := T 0 2 = M 0 6 ∧ (∀ j, j < 60 → T 1 j = M 5 j) ∧ ub 60 (M 0 6)
theorem TXT.of {T T' M M' : ka_P} (h : TXT T M) (t2 : T' 0 2 = T 0 2) (t1 : T' 1 = T 1) (m6 : M' 0 6 = M 0 6) (m5 : M' 5 = M 5) : TXT T' M' :=
  ⟨by rw [t2, m6]; exact h.1, fun j hj => by rw [t1, m5]; exact h.2.1 j hj, by rw [m6]; exact h.2.2⟩
def daT (c i : Nat) (x : ka_P × ka_P) (y : rt_st) : Prop := RD x.1 y.1 ∧ x.1 0 7 = 0 ∧ x.1 0 5 = y.1 0 9 ∧ (∃ n, n ≤ i ∧ y.1 0 9 = nI n) ∧ RS (c + i) 1999 x.2 y.2.1
def daF (x : ka_P × ka_P) (y : rt_st) : Prop := x.1 0 6 = y.1 0 8 ∧ x.1 0 7 = (if ka_t (y.1 0 11) = true then 2 else 1) ∧ x.1 0 8 = (if ka_t (y.1 0 11) = true then y.1 0 10 else y.1 0 7 - y.1 0 8)
def DA (c i : Nat) (x : ka_P × ka_P) (y : rt_st) : Prop := TXT x.1 y.1 ∧ ((y.2.2 = true ∧ daT c i x y) ∨ (y.2.2 = false ∧ daF x y))
theorem blame_j {T : ka_P} {a b d : Int32} {j : Nat} (h6 : j ≠ 6) (h7 : j ≠ 7) (h8 : j ≠ 8) : st_blame T a b d 0 j = T 0 j := by
  unfold st_blame
  rw [pU_j (fun _ => h8), pU_j (fun _ => h7), pU_j (fun _ => h6)]
theorem blame_1 {T : ka_P} {a b d : Int32} : st_blame T a b d 1 = T 1 := by
  unfold st_blame
  rw [pU_n (by decide), pU_n (by decide), pU_n (by decide)]
theorem blame_6 {T : ka_P} {a b d : Int32} : st_blame T a b d 0 6 = a := by
  unfold st_blame
  rw [pU_j (fun _ => by decide), pU_j (fun _ => by decide), pU_e]
theorem blame_7 {T : ka_P} {a b d : Int32} : st_blame T a b d 0 7 = b := by
  unfold st_blame
  rw [pU_j (fun _ => by decide), pU_e]
theorem blame_8 {T : ka_P} {a b d : Int32} : st_blame T a b d 0 8 = d := by
  unfold st_blame
  rw [pU_e]
theorem o6_j {M : ka_P} {S : ka_F} {j : Nat} (h : j ≠ 10) : rt_o6 M S 0 j = rt_o5 M 0 j := by
  unfold rt_o6
  exact pU_j (fun _ => h)
theorem o6_10 {M : ka_P} {S : ka_F} : rt_o6 M S 0 10 = (rt_c M S).1 := by
  unfold rt_o6
  exact pU_e
theorem o6_5 {M : ka_P} {S : ka_F} : rt_o6 M S 5 = rt_o5 M 5 := by
  unfold rt_o6
  exact pU_n (by decide)
theorem goes_1 {M : ka_P} {S : ka_F} : (rt_goes M S).1 = sp_add (rt_o6 M S) 0 9 1 := by unfold rt_goes; rfl
theorem goes_2 {M : ka_P} {S : ka_F} : (rt_goes M S).2.1 = (rt_c M S).2 := by unfold rt_goes; rfl
theorem ends_1 {M : ka_P} {S : ka_F} : (rt_ends M S).1 = rt_o6 M S := by unfold rt_ends; rfl
theorem ends_t {M : ka_P} {S : ka_F} : (rt_ends M S).2.2 = false := by unfold rt_ends; rfl
theorem DA.step {c i : Nat} {x : ka_P × ka_P} {y : rt_st} (h : DA c i x y) (hc : c + i < 39999) : DA c (i + 1) (st_allAt x) (rt_allAt y) := by
  obtain ⟨ht, h | h⟩ := h
  · obtain ⟨hr, hd, h7, h5, ⟨n, hn, h9⟩, hS⟩ := h
    unfold st_allAt rt_allAt
    rw [if_neg (show ¬ y.2.2 = false by rw [hr]; decide), hd.1, hd.2.2.1]
    by_cases c1 : y.1 0 7 < y.1 0 6
    · rw [if_neg (not_not_intro c1), if_neg (not_not_intro c1), if_neg (not_not_intro h7)]
      obtain ⟨q1, q2, ⟨q3, q4, q5⟩, ⟨q6, q7, q8, q9⟩, q10⟩ := order_sim hd
      have hT : st_readOrder x.1 = ((st_readOrder x.1).1, (st_readOrder x.1).2) := rfl
      have hcal : (st_readOrder x.1).1 = true → ¬ rt_many (rt_s y.1) = 0 → simO (c + i + 1) 1999 (st_doOrder (st_readOrder x.1).2 x.2) (rt_called (rt_o5 y.1) y.2.1 (rt_s y.1)) := fun hb hm => called_sim hS hc q4 hm (q10 hb)
      have hmany : (st_readOrder x.1).1 = true → ¬ rt_many (rt_s y.1) = 0 := fun hb e => by
        unfold st_readOrder at hb
        have e3 : st_order0 x.1 0 3 = rt_s y.1 := by
          have o : rt_s y.1 = rt_here y.1 := rt_here_of (pU_j (fun _ => by decide)) (pU_j (fun _ => by decide)) (pU_n (by decide))
          unfold st_order0
          rw [pU_e, hd.here, o]
        rw [e3, many_eq, if_pos e] at hb
        cases hb
      have hrc : rt_c y.1 y.2.1 = if ka_t (rt_o5 y.1 0 11) = true then rt_called (rt_o5 y.1) y.2.1 (rt_s y.1) else (0, y.2.1) := rfl
      rw [q2] at hrc
      have tx0 : TXT (st_readOrder x.1).2 (rt_o6 y.1 y.2.1) := ht.of (q3 2 (by decide) (by decide)) q5 ((o6_j (by decide)).trans q8) (o6_5.trans q9)
      have g7 : rt_o6 y.1 y.2.1 0 7 = rt_o5 y.1 0 7 := o6_j (by decide)
      have g8 : rt_o6 y.1 y.2.1 0 8 = y.1 0 7 := (o6_j (by decide)).trans q6
      have g9 : rt_o6 y.1 y.2.1 0 9 = y.1 0 9 := (o6_j (by decide)).trans q7
      have g11 : ka_t (rt_o6 y.1 y.2.1 0 11) = (st_readOrder x.1).1 := by rw [o6_j (by decide)]; exact q2
      have g10 : rt_o6 y.1 y.2.1 0 10 = (rt_c y.1 y.2.1).1 := o6_10
      have hgood : rt_good (rt_o6 y.1 y.2.1) = ((st_readOrder x.1).1 && decide (-2000000001 < (rt_c y.1 y.2.1).1)) := by
        unfold rt_good
        rw [g11, g10]
      have k4 : (st_readOrder x.1).2 0 4 = rt_o5 y.1 0 7 := q1.2.2.1
      have rd6 : RD (st_readOrder x.1).2 (rt_o6 y.1 y.2.1) := q1.of rfl rfl rfl (o6_j (by decide)) o6_5 (o6_j (by decide))
      have k5 := q3 5 (by decide) (by decide)
      have k7 := q3 7 (by decide) (by decide)
      rw [hgood]
      have eg := goes_1 (M := y.1) (S := y.2.1)
      have eg2 := goes_2 (M := y.1) (S := y.2.1)
      have eg3 := rt_goes_t (A := y.1) (B := y.2.1)
      have ee := ends_1 (M := y.1) (S := y.2.1)
      have ee3 := ends_t (M := y.1) (S := y.2.1)
      generalize rt_goes y.1 y.2.1 = G at eg eg2 eg3 ⊢
      generalize rt_ends y.1 y.2.1 = E at ee ee3 ⊢
      generalize rt_o6 y.1 y.2.1 = N at *
      generalize st_readOrder x.1 = R at *
      by_cases c2 : R.1 = false
      · rw [if_pos c2, c2, if_neg (show ¬ (false && decide (-2000000001 < (rt_c y.1 y.2.1).1)) = true by simp)]
        unfold st_fail
        refine ⟨?_, Or.inr ⟨ee3, ?_, ?_, ?_⟩⟩
        · rw [ee]
          show TXT (st_blame R.2 (x.1 0 4) 1 (R.2 0 4 - x.1 0 4)) N
          exact tx0.of (blame_j (j := 2) (by decide) (by decide) (by decide)) blame_1 rfl rfl
        · rw [ee, g8]
          exact (blame_6 (T := R.2) (a := x.1 0 4) (b := 1) (d := R.2 0 4 - x.1 0 4)).trans hd.2.2.1
        · rw [ee, g11, c2]
          exact blame_7 (T := R.2) (a := x.1 0 4) (b := 1) (d := R.2 0 4 - x.1 0 4)
        · rw [ee, g11, c2, g7, g8]
          exact (blame_8 (T := R.2) (a := x.1 0 4) (b := 1) (d := R.2 0 4 - x.1 0 4)).trans (by rw [k4, hd.2.2.1]; rfl)
      · have t2 : R.1 = true := by simpa using c2
        have sim := hcal t2 (hmany t2)
        rw [t2, if_pos rfl] at hrc
        rw [← hrc] at sim
        rw [if_neg c2, t2, Bool.true_and]
        obtain ⟨s1, s2, s3⟩ := sim
        generalize rt_c y.1 y.2.1 = Q at *
        generalize st_doOrder R.2 x.2 = W at *
        unfold st_done
        have a2 : ∀ T : ka_P, sp_add T 0 5 1 0 2 = T 0 2 := fun T => pU_j (fun _ => by decide)
        have a1 : ∀ T : ka_P, sp_add T 0 5 1 1 = T 1 := fun T => pU_n (by decide)
        have aj : ∀ (T : ka_P) (j : Nat), j ≠ 5 → sp_add T 0 5 1 0 j = T 0 j := fun T j hj => pU_j (fun _ => hj)
        rcases s2 with ⟨s4, s5⟩ | ⟨s4, s5⟩
        · have s6 : ¬ -2000000001 < Q.1 := by rw [← s1]; exact s5
          rw [if_pos s4, decide_eq_false s6, if_neg (by decide)]
          refine ⟨?_, Or.inr ⟨ee3, ?_, ?_, ?_⟩⟩
          · rw [ee]
            exact tx0.of ((a2 (st_blame R.2 (y.1 0 7) 2 W.1)).trans (blame_j (j := 2) (by decide) (by decide) (by decide))) ((a1 (st_blame R.2 (y.1 0 7) 2 W.1)).trans blame_1) rfl rfl
          · rw [ee, g8]
            exact (aj (st_blame R.2 (y.1 0 7) 2 W.1) 6 (by decide)).trans blame_6
          · rw [ee, g11, t2]
            exact (aj (st_blame R.2 (y.1 0 7) 2 W.1) 7 (by decide)).trans blame_7
          · rw [ee, g11, t2, if_pos rfl, g10, ← s1]
            exact (aj (st_blame R.2 (y.1 0 7) 2 W.1) 8 (by decide)).trans blame_8
        · have s6 : -2000000001 < Q.1 := by rw [← s1]; exact s5
          rw [if_neg (show ¬ sp_isErr W.1 = true by rw [s4]; decide), decide_eq_true s6, if_pos rfl]
          have b9 : sp_add N 0 9 1 0 9 = N 0 9 + 1 := pU_e
          have bj : ∀ j, j ≠ 9 → sp_add N 0 9 1 0 j = N 0 j := fun j hj => pU_j (fun _ => hj)
          have b5 : sp_add N 0 9 1 5 = N 5 := pU_n (by decide)
          refine ⟨?_, Or.inl ⟨eg3, ?_, ?_, ?_, ⟨n + 1, by omega, ?_⟩, ?_⟩⟩
          · rw [eg]
            exact tx0.of (a2 _) (a1 _) (bj 6 (by decide)) b5
          · rw [eg]
            exact rd6.of (a2 _) (a1 _) (aj _ 4 (by decide)) (bj 6 (by decide)) b5 (bj 7 (by decide))
          · exact (aj _ 7 (by decide)).trans (k7.trans h7)
          · rw [eg, b9, g9]
            show sp_add R.2 0 5 1 0 5 = _
            unfold sp_add
            rw [pU_e, k5, h5]
          · rw [eg, b9, g9, h9, nI_1]
          · rw [eg2]
            exact s3 s5
    · rw [if_pos c1, if_pos c1]
      exact ⟨ht, Or.inl ⟨hr, hd, h7, h5, ⟨n, by omega, h9⟩, hS.up (by omega) (Nat.le_refl _)⟩⟩
  · obtain ⟨hr, h6, h7, h8⟩ := h
    unfold st_allAt rt_allAt
    rw [if_pos hr]
    have hne : ¬ x.1 0 7 = 0 := by
      rw [h7]
      split <;> decide
    have e : (if ¬ x.1 0 4 < x.1 0 2 then x else if ¬ x.1 0 7 = 0 then x else if (st_readOrder x.1).1 = false then st_fail (st_readOrder x.1).2 x else st_done (st_readOrder x.1).2 (st_doOrder (st_readOrder x.1).2 x.2) (x.1 0 4)) = x := by
      split
      · rfl
      · rfl
    rw [e]
    exact ⟨ht, Or.inr ⟨hr, h6, h7, h8⟩⟩
theorem all_sim {c : Nat} {T M P : ka_P} {S : ka_F} (ht : TXT T M) (h : RS c 1999 P S) (hc : c < 39000) : DA c 60 (st_all T P) (rt_all M S) := by
  have key : ∀ i, i ≤ 60 → DA c i (st_allX T P i) (rt_allX M S i) := by
    intro i
    induction i with
    | zero =>
      intro _
      have t2 : st_all0 T 0 2 = T 0 2 := (pU_j (fun _ => by decide)).trans ((pU_j (fun _ => by decide)).trans (pU_j (fun _ => by decide)))
      have t1 : st_all0 T 1 = T 1 := (pU_n (by decide)).trans ((pU_n (by decide)).trans (pU_n (by decide)))
      have t4 : st_all0 T 0 4 = 0 := (pU_j (fun _ => by decide)).trans ((pU_j (fun _ => by decide)).trans pU_e)
      have t5 : st_all0 T 0 5 = 0 := (pU_j (fun _ => by decide)).trans pU_e
      have t7 : st_all0 T 0 7 = 0 := pU_e
      have k := rt_all0_k ht.2.2
      have m7 : rt_all0 M 0 7 = 0 := (pU_j (fun _ => by decide)).trans pU_e
      have m9 : rt_all0 M 0 9 = 0 := pU_e
      have tx := ht.of t2 t1 k.1.2 k.2.2.2.2
      rw [st_allX_0, rt_allX_0]
      exact ⟨tx, Or.inl ⟨rfl, ⟨tx.1, tx.2.1, t4.trans m7.symm, k.1.1⟩, t7, t5.trans m9.symm, ⟨0, Nat.le_refl _, m9⟩, h⟩⟩
    | succ i ih =>
      intro hi
      rw [st_allX_s, rt_allX_s]
      exact (ih (by omega)).step (by omega)
  exact key 60 (Nat.le_refl _)
