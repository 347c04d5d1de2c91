theorem itr_invN {σ : Type} {f : Nat → σ → σ} {s : σ} (n : Nat) (I : Nat → σ → Prop) (h0 : I 0 s) (hs : ∀ i x, i < n → I i x → I (i + 1) (f i x)) : ∀ m, m ≤ n → I m (itr f m s)
  | 0, _ => h0
  | m + 1, h => hs m _ h (itr_invN n I h0 hs m (by omega))
theorem kw_t {v lo hi : Int32} (h : kw v lo hi = true) : ¬ v < lo ∧ ¬ hi < v := by
  unfold kw at h
  simpa using h
theorem kw_f {v lo hi : Int32} (h : kw v lo hi = false) : v < lo ∨ hi < v := by
  unfold kw at h
  by_cases h1 : v < lo
  · exact Or.inl h1
  · refine Or.inr ?_
    simpa [h1] using h
theorem nlt_int {x y : Int32} (h : ¬ x < y) : y.toInt ≤ x.toInt := by
  have : ¬ x.toInt < y.toInt := fun z => h (Int32.lt_iff_toInt_lt.mpr z)
  omega
theorem lt_int {x y : Int32} (h : x < y) : x.toInt < y.toInt := Int32.lt_iff_toInt_lt.mp h
theorem sp_shift_0 {q : Nat → Int32} {j : Nat} : sp_shift q j 0 = q := by
  funext x
  unfold sp_shift
  rw [if_neg (by omega)]
theorem sp_shift_s {q : Nat → Int32} {j i : Nat} : upd (sp_shift q j i) (j + i) (sp_shift q j i (j + i + 1)) = sp_shift q j (i + 1) := by
  funext x
  unfold upd sp_shift
  by_cases h : x = j + i
  · subst h
    rw [if_pos rfl, if_neg (by omega), if_pos (by omega)]
  · rw [if_neg h]
    by_cases h1 : j ≤ x ∧ x < j + i
    · rw [if_pos h1, if_pos (by omega)]
    · rw [if_neg h1, if_neg (by omega)]
theorem sp_shifts_lt {P : ka_P} {j : Nat} : sp_shifts P j ≤ 19 - j := by
  unfold sp_shifts
  split <;> omega
theorem sp_shift_ok {P : ka_P} {i j : Nat} (hj : j < 20) (hle : i ≤ sp_shifts P j) : j + i < 2 ^ 31 := by
  have := sp_shifts_lt (P := P) (j := j)
  omega
theorem nI_p1 {n : Nat} (h : n + 1 < 2 ^ 31) : (nI n + 1).toInt = (n : Int) + 1 := by rw [nI_1, nI_toInt h]; omega
theorem sp_shift_20 {P : ka_P} {i j : Nat} (hj : j < 20) (hle : i ≤ sp_shifts P j) (c : nI (j + i) + 1 < 20) : j + i + 1 < 20 := by
  have h0 := sp_shift_ok hj hle
  have h2 := sp_shifts_lt (P := P) (j := j)
  have h1 := lt_int c
  rw [nI_p1 (by omega)] at h1
  have : (20 : Int32).toInt = 20 := by decide
  omega
theorem sp_shift_e2 {P : ka_P} {i j : Nat} (hj : j < 20) (hle : i ≤ sp_shifts P j) (c : ¬ nI (j + i) + 1 < 20) : i = sp_shifts P j := by
  have h2 := sp_shifts_lt (P := P) (j := j)
  have h1 := nlt_int c
  rw [nI_p1 (by omega)] at h1
  have : (20 : Int32).toInt = 20 := by decide
  omega
theorem sp_shift_e1 {P : ka_P} {i j : Nat} (hj : j < 20) (hle : i ≤ sp_shifts P j) (c : ¬ nI (j + i) + 1 < P 30 1) : i = sp_shifts P j := by
  have h2 := sp_shifts_lt (P := P) (j := j)
  have h1 := nlt_int c
  rw [nI_p1 (by omega)] at h1
  have h3 := cn_int (P 30 1)
  unfold sp_shifts at hle h2 ⊢
  split at hle
  · next h => rw [if_pos h]; omega
  · next h => rw [if_neg h]; omega
theorem sp_shift_lt {P : ka_P} {i j : Nat} (hj : j < 20) (hle : i ≤ sp_shifts P j) (c : nI (j + i) + 1 < P 30 1) (c2 : nI (j + i) + 1 < 20) : i < sp_shifts P j := by
  have h0 := sp_shift_20 hj hle c2
  have h1 := lt_int c
  rw [nI_p1 (by omega)] at h1
  have h3 := cn_int (P 30 1)
  unfold sp_shifts
  split <;> omega
theorem sp_atWork_fz {P Q : ka_P} (h : fz P Q) : sp_atWork Q = sp_atWork P := by
  have h1 : Q 30 1 = P 30 1 := h
  unfold sp_atWork
  rw [h1]
theorem sp_atWork_beginX {P : ka_P} {i : Nat} : sp_atWork (sp_beginX P i) = sp_atWork P := sp_atWork_fz fz_beginX
theorem sp_atWork_le (P : ka_P) : cn (sp_atWork P) ≤ 2 := by
  rw [cn_int]
  unfold sp_atWork
  split
  · next h =>
    have h1 := lt_int h
    have : (2 : Int32).toInt = 2 := by decide
    omega
  · decide
theorem sp_end_0 {P : ka_P} (hz : ¬ P 30 1 < 0) : nI (cn (sp_atWork P)) = sp_atWork P := by
  apply Int32.toInt_inj.mp
  have h2 := sp_atWork_le P
  rw [nI_toInt (by omega)]
  have h1 := nlt_int hz
  have h3 : (0 : Int32).toInt = 0 := by decide
  rw [cn_int]
  have h4 : 0 ≤ (sp_atWork P).toInt := by
    unfold sp_atWork
    split
    · omega
    · decide
  omega
theorem nI_m {n : Nat} (h : n < 2 ^ 31) : (nI n - 1).toInt = (n : Int) - 1 := by
  cases n with
  | zero => decide
  | succ n => rw [nI_pred, nI_toInt (by omega)]; omega
theorem sp_end_e {P : ka_P} {i : Nat} (hz : ¬ P 30 1 < 0) (hle : i ≤ cn (sp_atWork P)) (c : nI (cn (sp_atWork P) - i) - 1 < 0) : i = cn (sp_atWork P) := by
  have h2 := sp_atWork_le P
  have h1 := lt_int c
  rw [nI_m (by omega)] at h1
  have h3 : (0 : Int32).toInt = 0 := by decide
  omega
theorem sp_end_lt {P : ka_P} {i : Nat} (hz : ¬ P 30 1 < 0) (hle : i ≤ cn (sp_atWork P)) (c : ¬ nI (cn (sp_atWork P) - i) - 1 < 0) : i < cn (sp_atWork P) := by
  have h2 := sp_atWork_le P
  have h1 := nlt_int c
  rw [nI_m (by omega)] at h1
  have h3 : (0 : Int32).toInt = 0 := by decide
  omega
theorem sp_end_k {n i : Nat} (hi : i < n) : nI (n - i) - 1 = nI (n - 1 - i) := by
  rw [show n - i = (n - 1 - i) + 1 by omega, nI_pred]
theorem sp_end_s {n i : Nat} (hi : i < n) : nI (n - 1 - i) + (-1) = nI (n - (i + 1)) - 1 := by
  rw [show n - (i + 1) = n - 1 - i by omega, Int32.sub_eq_add_neg]
theorem sp_end_20 {P : ka_P} {i : Nat} (hz : ¬ P 30 1 < 0) (hi : i < cn (sp_atWork P)) : cn (sp_atWork P) - 1 - i < 20 := by
  have h2 := sp_atWork_le P
  omega
theorem sp_leave_z {P : ka_P} {j : Nat} : sp_leave P j 30 1 = P 30 1 - 1 := by
  unfold sp_leave sp_sub
  rw [pU_e, ka_s2_n (by decide)]
theorem sp_endAt_z {P : ka_P} {j k : Nat} (hk : k < 20) : sp_endAt P j k 30 1 = if P (8 + k) 6 = P 0 7 then P 30 1 - 1 else P 30 1 := by
  unfold sp_endAt
  split
  · have h : fz (sp_leave P j) (sp_add (sp_standFrom (pU (sp_leave P j) (8 + k) 4 0) k (pU (sp_leave P j) (8 + k) 4 0 0 7)) 0 8 1) := (((fz_w hk).tr (fz_w hk)).tr (fz_w hk)).tr (fz_pU (by decide))
    have h1 := h
    unfold fz at h1
    rw [h1, sp_leave_z]
  · rfl
theorem sp_ends_z {P : ka_P} (hz : ¬ P 30 1 < 0) : ¬ sp_ends P 30 1 < 0 := by
  have key := itr_invN (f := fun i Q => sp_endAt Q (cn (sp_atWork P) - 1 - i) (wgIx (sp_numberAt Q (nI (cn (sp_atWork P) - 1 - i))))) (s := P) (cn (sp_atWork P)) (fun i Q => ∃ z : Nat, z < 2 ^ 31 ∧ Q 30 1 = nI z ∧ cn (sp_atWork P) - i ≤ z) ?_ ?_ _ (Nat.le_refl _)
  · obtain ⟨z, h1, h2, h3⟩ := key
    show ¬ sp_endX P (cn (sp_atWork P)) 30 1 < 0
    unfold sp_endX
    rw [h2]
    exact nI_pos h1
  · obtain ⟨z, h1, h2⟩ := nI_of hz
    refine ⟨z, h1, h2, ?_⟩
    rw [cn_int]
    unfold sp_atWork
    split
    · rw [h2, nI_toInt h1]; omega
    · next h =>
      have h3 := nlt_int h
      rw [h2, nI_toInt h1] at h3
      have : (2 : Int32).toInt = 2 := by decide
      omega
  · rintro i Q hi ⟨z, h1, h2, h3⟩
    show ∃ z, _ ∧ sp_endAt Q _ _ 30 1 = _ ∧ _
    rw [sp_endAt_z (wgIx_lt _)]
    split
    · refine ⟨z - 1, by omega, ?_, by omega⟩
      rw [h2]
      obtain ⟨y, rfl⟩ : ∃ y, z = y + 1 := ⟨z - 1, by omega⟩
      rw [nI_pred, Nat.add_sub_cancel]
    · exact ⟨z, h1, h2, by omega⟩
theorem fz_next {P : ka_P} : fz P (sp_add P 0 7 1) := fz_pU (by decide)
theorem fz_growAll {P : ka_P} : fz P (sp_growAll P) := by unfold sp_growAll; exact fz_growX
theorem fz_arrive {P : ka_P} : fz P (sp_arrive P).1 := by unfold sp_arrive; exact fz_arriveX
theorem fz_begins {P : ka_P} : fz P (sp_begins P) := by unfold sp_begins; exact fz_beginX
theorem fz_payDay {P : ka_P} : fz P (sp_payDay P) := by unfold sp_payDay; exact fz_payX
theorem fz_neg {P Q : ka_P} (h : fz P Q) (hz : ¬ P 30 1 < 0) : ¬ Q 30 1 < 0 := by
  have h1 : Q 30 1 = P 30 1 := h
  rw [h1]
  exact hz
theorem sp_day_z {Q : ka_P} (hz : ¬ Q 30 1 < 0) : ¬ (sp_day1 Q).1 30 1 < 0 := by
  unfold sp_day1
  have h : fz Q (sp_growAll (sp_add Q 0 7 1)) := fz_next.tr fz_growAll
  generalize sp_growAll (sp_add Q 0 7 1) = U at h ⊢
  exact fz_neg (h.tr fz_arrive) hz
theorem sp_day_zz {Q : ka_P} (hz : ¬ Q 30 1 < 0) : ¬ sp_dayP Q 30 1 < 0 := by
  unfold sp_dayP sp_day2
  have h := sp_ends_z (sp_day_z hz)
  generalize sp_ends (sp_day1 Q).1 = U at h ⊢
  exact fz_neg (fz_begins.tr fz_payDay) h
theorem sp_days_z {P : ka_P} (hz : ¬ P 30 1 < 0) : ∀ i, ¬ (sp_days P i).1 30 1 < 0
  | 0 => hz
  | i + 1 => by
    rw [sp_days_s]
    have h := sp_days_z hz i
    generalize (sp_days P i).1 = Q at h ⊢
    have h2 := sp_day_zz h
    generalize sp_dayP Q = U at h2 ⊢
    exact h2
theorem sp_set_in {x : Int32} (c : kw x 0 6 = true) : vp_in x 7 := by
  obtain ⟨h1, h2⟩ := kw_t c
  have h3 := nlt_int h1
  have h4 := nlt_int h2
  have h5 : (0 : Int32).toInt = 0 := by decide
  have h6 : (6 : Int32).toInt = 6 := by decide
  exact vp_in_iff.mpr ⟨by omega, by omega⟩
theorem le_cn0 {i : Nat} {x : Int32} (hx : x < 5) (h0 : ¬ x < 0) (hi : i ≤ cn x + 1) (h : ¬ x < nI i) : i < cn x + 1 := by
  have h2 := lt_int hx
  have h5 : (5 : Int32).toInt = 5 := by decide
  have h3 : i < 2 ^ 31 := by rw [cn_int] at *; omega
  have h1 := nlt_int h
  rw [nI_toInt h3] at h1
  rw [cn_int] at *
  omega
theorem nle_cn0 {i : Nat} {x : Int32} (hx : x < 5) (h0 : ¬ x < 0) (hi : i ≤ cn x + 1) (h : x < nI i) : i = cn x + 1 := by
  have h2 := lt_int hx
  have h5 : (5 : Int32).toInt = 5 := by decide
  have h6 : (0 : Int32).toInt = 0 := by decide
  have h4 := nlt_int h0
  have h3 : i < 2 ^ 31 := by rw [cn_int] at *; omega
  have h1 := lt_int h
  rw [nI_toInt h3] at h1
  rw [cn_int] at *
  omega
theorem ka_b_eq {b : Bool} : (if b = true then (1 : Int32) else 0) = ka_b b := rfl
