/-! copies, the history, the text, the face: words for the contracts -/
theorem lt_nI {i n : Nat} (hn : n < 2 ^ 31) (hle : i ≤ n) (h : nI i < nI n) : i < n := (nI_ltI (by omega) hn).mp h
theorem nlt_nI {i n : Nat} (hn : n < 2 ^ 31) (hle : i ≤ n) (h : ¬ nI i < nI n) : i = n := by
  have : ¬ i < n := fun z => h ((nI_ltI (by omega) hn).mpr z)
  omega
def cpP (f g : Nat → Int32) : Nat → Int32 := fun j => if j < 6 then f j else g j
def cpW (f g : Nat → Int32) : Nat → Int32 := fun j => if j = 3 then ka_b (ka_t (f 3)) else if j < 9 then f j else g j
theorem cpP_eq {f g : Nat → Int32} : upd (upd (upd (upd (upd (upd g 0 (f 0)) 1 (f 1)) 2 (f 2)) 3 (f 3)) 4 (f 4)) 5 (f 5) = cpP f g := by
  funext j
  match j with
  | 0 | 1 | 2 | 3 | 4 | 5 => rfl
  | n + 6 =>
    unfold cpP
    rw [if_neg (by omega), pk_un (by omega), pk_un (by omega), pk_un (by omega), pk_un (by omega), pk_un (by omega), pk_un (by omega)]
theorem cpW_eq {f g : Nat → Int32} : upd (upd (upd (upd (upd (upd (upd (upd (upd g 0 (f 0)) 1 (f 1)) 2 (f 2)) 3 (ka_b (ka_t (f 3)))) 4 (f 4)) 5 (f 5)) 6 (f 6)) 7 (f 7)) 8 (f 8) = cpW f g := by
  funext j
  match j with
  | 0 | 1 | 2 | 3 | 4 | 5 | 6 | 7 | 8 => rfl
  | n + 9 =>
    unfold cpW
    rw [if_neg (by omega), if_neg (by omega), pk_un (by omega), pk_un (by omega), pk_un (by omega), pk_un (by omega), pk_un (by omega), pk_un (by omega), pk_un (by omega), pk_un (by omega), pk_un (by omega)]
def sp_cpPlX (F G : ka_P) (i : Nat) : ka_P := itr (fun k P => ka_s2 P (2 + k) (cpP (F (2 + k)) (P (2 + k)))) i G
theorem sp_cpPlX_0 {F G : ka_P} : sp_cpPlX F G 0 = G := rfl
theorem sp_cpPlX_s {F G : ka_P} {i : Nat} : sp_cpPlX F G (i + 1) = ka_s2 (sp_cpPlX F G i) (2 + i) (cpP (F (2 + i)) (sp_cpPlX F G i (2 + i))) := rfl
def sp_cpWgX (F G : ka_P) (i : Nat) : ka_P := itr (fun k P => ka_s2 P (8 + k) (cpW (F (8 + k)) (P (8 + k)))) i G
theorem sp_cpWgX_0 {F G : ka_P} : sp_cpWgX F G 0 = G := rfl
theorem sp_cpWgX_s {F G : ka_P} {i : Nat} : sp_cpWgX F G (i + 1) = ka_s2 (sp_cpWgX F G i) (8 + i) (cpW (F (8 + i)) (sp_cpWgX F G i (8 + i))) := rfl
def sp_cpShop (F P : ka_P) : ka_P := pU (ka_s2 P 31 (va_cpy (F 31) (P 31) 0 0 20)) 30 1 (F 30 1)
def sp_cp1 (F G : ka_P) : ka_P := sp_cpWgX F (sp_cpPlX F G 5) 20
def sp_cpLegs (F P : ka_P) : ka_P := ka_s2 P 28 (va_cpy (F 28) (P 28) 0 0 25)
def sp_cpSett (F P : ka_P) : ka_P := ka_s2 P 29 (va_cpy (F 29) (P 29) 0 0 7)
def sp_cp3 (F P : ka_P) : ka_P := pU (pU (pU (pU (pU (pU P 0 5 (F 0 5)) 0 6 (F 0 6)) 0 7 (F 0 7)) 0 8 (F 0 8)) 0 9 (F 0 9)) 0 10 (F 0 10)
def sp_copy (F G : ka_P) : ka_P := sp_cp3 F (sp_cpShop F (sp_cpSett F (sp_cpLegs F (sp_cp1 F G))))
section KD
variable {G : ka_G} {X : ka_X} {cc : ByteArray} {own : String} {nL d : Nat} {V : ka_W} {pc : Nat} {L st : List Value}
theorem ka_copyp {i0 i1 r0 o0 r1 o1 N0 N1 idx nn : Nat} {n : Int32} {P : ka_P} (hne : r0 ≠ r1) (hn : n.toNatClampNeg = nn) (hC : ka_C G X cc own nL d) (hi0 : ka_ix[i0]? = some (r0, o0)) (hi1 : ka_ix[i1]? = some (r1, o1)) (hE0 : ∀ f, ka_E G r0 o0 f = .inl (ka_ca G 0, N0, .inl f)) (hE1 : ∀ f, ka_E G r1 o1 f = .inl (ka_ca G 0, N1, .inl f)) (hq : Cond.methodLink own idx arraycopyName ∈ ka_T) (q1 : Cond.native arraycopyName ∈ ka_T) (q2 : Cond.static arraycopyName ∈ ka_T) (q3 : Cond.initialized "java/lang/System" ∈ ka_T) (h3 : ¬ n < 0) (h4 : nn ≤ N0) (h5 : nn ≤ N1) (hcat : (st.map fun v => v.category).sum ≤ 8) (hdp : 2 ≤ d) (hd : decode cc pc = .ok (.invokestatic idx, 3)) (kk : ka_I G X (ka_sp V r1 (ka_s2 P o1 (va_cpy (V r0 o0) (P o1) 0 0 nn))) (pc + 3) L st) : ka_I G X (ka_sp V r1 P) pc L (.int n :: .int 0 :: .ref (ka_ad G r1 o1) :: .int 0 :: .ref (ka_ad G r0 o0) :: st) := by
  subst hn
  have h0 : (0 : Int32).toNatClampNeg = 0 := by decide
  refine ka_copy hC hi0 hi1 (hE0 _) hE1 hq q1 q2 q3 (by decide) (by decide) h3 (by rw [h0]; omega) (by rw [h0]; omega) hcat hdp hd ?_
  rw [ka_st_sp, ka_sp_s, ka_sp_n hne, h0]
  exact kk
end KD
theorem x4_neg (x : Int32) : (x ^^^ 4) < 0 ↔ x < 0 := by
  have h1 : ∀ y : Int32, y < 0 ↔ y.toBitVec.msb = true := by
    intro y
    rw [Int32.lt_iff_toInt_lt, BitVec.msb_eq_toInt, decide_eq_true_eq]
    exact Iff.rfl
  rw [h1, h1, Int32.toBitVec_xor, BitVec.msb_xor]
  have h2 : (4 : Int32).toBitVec.msb = false := by decide
  rw [h2, Bool.xor_false]
theorem sp_fm_fmv (x : Int32) : sp_fm x 4 = fmv x 4 := by
  have hb := fmv_bounds (a := x) (m := 4) (by decide)
  have h4 : (4 : Int32).toInt = 4 := by decide
  unfold sp_fm fmv fmOf
  have hr : (x - x / 4 * 4).toInt = x.toInt.tmod 4 := rem_toInt x 4
  by_cases hx : x < 0
  · rw [if_neg (fun h => h ((x4_neg x).mpr hx))]
    have h5 : (x - x / 4 * 4).toInt ≤ 0 := by
      rw [hr]
      have := lt_int hx
      have h0 : (0 : Int32).toInt = 0 := by decide
      have h6 : x.toInt.tmod 4 = -((-x.toInt).tmod 4) := by rw [Int.neg_tmod, Int.neg_neg]
      have h7 := Int.tmod_nonneg (a := -x.toInt) 4 (by omega)
      omega
    by_cases h0 : x - x / 4 * 4 = 0
    · rw [if_pos h0, if_pos (by rw [h0]; decide)]
    · rw [if_neg h0, if_neg]
      intro h6
      apply h0
      apply Int32.toInt_inj.mp
      have h7 := Int32.le_iff_toInt_le.mp h6
      have h8 : (0 : Int32).toInt = 0 := by decide
      omega
  · rw [if_pos (fun h => hx ((x4_neg x).mp h)), if_pos]
    apply Int32.le_iff_toInt_le.mpr
    have h8 : (0 : Int32).toInt = 0 := by decide
    rw [hr, h8]
    have := nlt_int hx
    exact Int.tmod_nonneg _ (by omega)
theorem sp_fm_int (x : Int32) : 0 ≤ (sp_fm x 4).toInt ∧ (sp_fm x 4).toInt < 4 := by
  have hb := fmv_bounds (a := x) (m := 4) (by decide)
  rw [sp_fm_fmv]
  exact hb
theorem sp_fm_in (x : Int32) : vp_in (sp_fm x 4) 4 := vp_in_iff.mpr (sp_fm_int x)
theorem sp_fm_lt (x : Int32) : cn (sp_fm x 4) < 4 := by
  have h := sp_fm_int x
  rw [cn_int]
  omega
def sp_recA (V : ka_W) : ka_W := ka_st V 6 0 (upd (V 6 0) 1 (sp_fm (V 6 0 1 + 1) 4))
def sp_recS (V : ka_W) (x : Int32) : ka_W := ka_st V 6 0 (upd (V 6 0) 2 (V 6 0 2 + x))
def sp_recM (V : ka_W) : ka_W := ka_st V 6 0 (upd (V 6 0) 2 (V 6 0 2 - 1))
def sp_rec1 (V : ka_W) : ka_W := if V 6 0 2 < 4 then V else sp_recM (sp_recA V)
def sp_recQ (V : ka_W) : Nat := 2 + cn (sp_fm (V 6 0 1 + V 6 0 2) 4)
theorem sp_recQ_lt {V : ka_W} : sp_recQ V < 6 := by
  have := sp_fm_lt (V 6 0 1 + V 6 0 2)
  unfold sp_recQ
  omega
theorem sp_recQ_ne {V : ka_W} {r : Nat} (h : r < 2) : r ≠ sp_recQ V := by
  unfold sp_recQ
  omega
def sp_rec2 (V : ka_W) (r : Nat) : ka_W := ka_sp V (sp_recQ V) (sp_copy (V r) (V (sp_recQ V)))
def sp_record (V : ka_W) (r : Nat) : ka_W := sp_recS (sp_rec2 (sp_rec1 V) r) 1
def sp_take (V : ka_W) (r : Nat) : ka_W := if 0 < V 6 0 2 then ka_sp (sp_recM V) r (sp_copy (sp_recM V (sp_recQ (sp_recM V))) (sp_recM V r)) else V
/-- the text T: length 0 2, letter 0 3, at 0 4, orders 0 5, position 0 6, reason 0 7, cause 0 8, signs 1, numbers 2 -/
def st_signAt (T : ka_P) (x : Int32) : Int32 := if x < 0 then -1 else if ¬ x < 60 then -1 else if ¬ x < T 0 2 then -1 else T 1 (cn x)
def st_numbersOf (x : Int32) : Int32 := if x = 100 then 1 else if x = 108 then 1 else if x = 114 then 1 else if x = 116 then 4 else if x = 117 then 1 else if x = 119 then 1 else 0
def st_here (T : ka_P) : Int32 := st_signAt T (T 0 4)
def st_next (T : ka_P) : ka_P := sp_add T 0 4 1
def st_readSign (T : ka_P) (s : Int32) : Bool × ka_P := if st_here T = s then (true, st_next T) else (false, T)
def st_put (T : ka_P) (x n : Int32) : ka_P := ka_s2 T 2 (upd (T 2) (cn x) n)
def st_readNumber (T : ka_P) (x : Int32) : Bool × ka_P :=
  if kw (st_here T) 48 57 = false then (false, T) else if x < 0 then (false, T) else if ¬ x < 4 then (false, T)
  else if kw (st_here (st_next T)) 48 57 = false then (true, st_put (st_next T) x (st_here T - 48))
  else (true, st_put (st_next (st_next T)) x ((st_here T - 48) * 10 + st_here (st_next T) - 48))
def st_numAt (i : Nat) (x : Bool × ka_P) : Bool × ka_P :=
  if x.1 = false then x else if 0 < nI i then (if (st_readSign x.2 44).1 = false then (false, (st_readSign x.2 44).2) else st_readNumber (st_readSign x.2 44).2 (nI i)) else st_readNumber x.2 (nI i)
def st_numX (T : ka_P) (i : Nat) : Bool × ka_P := itr st_numAt i (true, T)
theorem st_numX_0 {T : ka_P} : st_numX T 0 = (true, T) := rfl
theorem st_numX_s {T : ka_P} {i : Nat} : st_numX T (i + 1) = st_numAt i (st_numX T i) := rfl
theorem st_numX_stop {T : ka_P} {i n : Nat} (h : (st_numX T i).1 = false) (hi : i ≤ n) : st_numX T n = st_numX T i :=
  itr_stop (fun x => x.1 = false) (fun i x hx => by unfold st_numAt; rw [if_pos hx]) h n hi
def st_order0 (T : ka_P) : ka_P := pU T 0 3 (st_here T)
def st_readOrder (T : ka_P) : Bool × ka_P :=
  if st_numbersOf (st_order0 T 0 3) = 0 then (false, st_order0 T)
  else if (st_numX (st_next (st_order0 T)) (cn (st_numbersOf (st_order0 T 0 3)))).1 = false then st_numX (st_next (st_order0 T)) (cn (st_numbersOf (st_order0 T 0 3)))
  else st_readSign (st_numX (st_next (st_order0 T)) (cn (st_numbersOf (st_order0 T 0 3)))).2 59
def st_append (T : ka_P) (x : Int32) : Int32 × ka_P :=
  if kw x 32 126 = false then (-2000000001, T) else if T 0 2 < 0 then (-2000000003, T) else if ¬ T 0 2 < 60 then (-2000000003, T)
  else (T 0 2 + 1, sp_add (ka_s2 T 1 (upd (T 1) (cn (T 0 2)) x)) 0 2 1)
def st_blame (T : ka_P) (a b c : Int32) : ka_P := pU (pU (pU T 0 6 a) 0 7 b) 0 8 c
def st_doOrder (T P : ka_P) : Int32 × ka_P :=
  if T 0 3 = 108 then sp_load P (T 2 0) else if T 0 3 = 114 then sp_repair P (T 2 0) else if T 0 3 = 116 then sp_train P (T 2 0) (T 2 1) (T 2 2) (T 2 3)
  else if T 0 3 = 117 then sp_unload P (T 2 0) else if T 0 3 = 119 then sp_addWagon P (T 2 0) else sp_pass P (T 2 0)
def sp_isErr (x : Int32) : Bool := kw x (-2000000004) (-2000000001)
def st_stop (T : ka_P) : Prop := ¬ T 0 4 < T 0 2 ∨ ¬ T 0 7 = 0
def st_fail (T : ka_P) (x : ka_P × ka_P) : ka_P × ka_P := (st_blame T (x.1 0 4) 1 (T 0 4 - x.1 0 4), x.2)
def st_done (T : ka_P) (a : Int32 × ka_P) (s : Int32) : ka_P × ka_P := (sp_add (if sp_isErr a.1 = true then st_blame T s 2 a.1 else T) 0 5 1, a.2)
def st_allAt (x : ka_P × ka_P) : ka_P × ka_P :=
  if ¬ x.1 0 4 < x.1 0 2 then x else if ¬ x.1 0 7 = 0 then x
  else if (st_readOrder x.1).1 = false then st_fail (st_readOrder x.1).2 x
  else st_done (st_readOrder x.1).2 (st_doOrder (st_readOrder x.1).2 x.2) (x.1 0 4)
def st_all0 (T : ka_P) : ka_P := pU (pU (pU T 0 4 0) 0 5 0) 0 7 0
def st_allX (T P : ka_P) (i : Nat) : ka_P × ka_P := itr (fun _ x => st_allAt x) i (st_all0 T, P)
theorem st_allX_0 {T P : ka_P} : st_allX T P 0 = (st_all0 T, P) := rfl
theorem st_allX_s {T P : ka_P} {i : Nat} : st_allX T P (i + 1) = st_allAt (st_allX T P i) := rfl
theorem st_allX_stop {T P : ka_P} {i n : Nat} (h : st_stop (st_allX T P i).1) (hi : i ≤ n) : st_allX T P n = st_allX T P i :=
  itr_stop (fun x => st_stop x.1) (fun i x hx => by
    show st_allAt x = x
    unfold st_allAt
    rcases hx with h | h
    · rw [if_pos h]
    · split
      · rfl
      · first | rfl | rw [if_pos h]) h n hi
def st_all (T P : ka_P) : ka_P × ka_P := st_allX T P 60
/-- mines below 5, the shop's size not below 0 -/
def gd (P : ka_P) : Prop := P 0 5 < 5 ∧ ¬ P 30 1 < 0
def f5 (P Q : ka_P) : Prop := Q 0 5 = P 0 5 ∧ Q 30 1 = P 30 1
theorem f5.rf {P : ka_P} : f5 P P := ⟨rfl, rfl⟩
theorem f5.tr {P Q U : ka_P} (h : f5 P Q) (h2 : f5 Q U) : f5 P U := ⟨h2.1.trans h.1, h2.2.trans h.2⟩
theorem f5_pU {P : ka_P} {o j : Nat} {v : Int32} (h : o = 0 → j ≠ 5) (h2 : o ≠ 30) : f5 P (pU P o j v) := ⟨pU_j (fun e => (h e.symm).symm), pU_n h2.symm ▸ rfl⟩
theorem f5_w {P : ka_P} {k j : Nat} {v : Int32} (hk : k < 20) : f5 P (pU P (8 + k) j v) := f5_pU (fun e => by omega) (by omega)
theorem f5_p {P : ka_P} {q j : Nat} {v : Int32} (hq : q < 5) : f5 P (pU P (2 + q) j v) := f5_pU (fun e => by omega) (by omega)
theorem f5_pa {P : ka_P} {q j : Nat} {v : Int32} (hq : q < 5) : f5 P (sp_add P (2 + q) j v) := f5_p hq
theorem f5_ps {P : ka_P} {q j : Nat} {v : Int32} (hq : q < 5) : f5 P (sp_sub P (2 + q) j v) := f5_p hq
theorem f5_wa {P : ka_P} {k j : Nat} {v : Int32} (hk : k < 20) : f5 P (sp_add P (8 + k) j v) := f5_w hk
theorem f5_0 {P : ka_P} {j : Nat} {v : Int32} (h : j ≠ 5) : f5 P (sp_add P 0 j v) := f5_pU (fun _ => h) (by decide)
theorem f5_stand {P : ka_P} {k : Nat} {x : Int32} (hk : k < 20) : f5 P (sp_standFrom P k x) := (f5_w hk).tr (f5_w hk)
theorem f5_pay {P : ka_P} {a b : Nat} {v : Int32} (ha : a < 5) (hb : b < 5) : f5 P (sp_pay P a b v) := (f5_p ha).tr (f5_p hb)
theorem gd.of {P Q : ka_P} (h : f5 P Q) (hg : gd P) : gd Q := by
  unfold gd at hg ⊢
  rw [h.1, h.2]
  exact hg
theorem gd.fx {P Q : ka_P} (h : fx P Q) (h2 : fz P Q) (hg : gd P) : gd Q := gd.of ⟨h.1, h2⟩ hg
theorem gd_addWagon {P : ka_P} {x : Int32} (hg : gd P) : gd (sp_addWagon P x).2 := by
  unfold sp_addWagon
  split
  · exact hg
  · split
    · exact hg
    · have h : f5 P (sp_joinAt P (P 0 6) x) := ((f5_0 (by decide)).tr (f5_w (wgIx_lt _))).tr (f5_w (wgIx_lt _))
      exact gd.of (h.tr (f5_stand (wgIx_lt _))) hg
theorem gd_load {P : ka_P} {x : Int32} (hg : gd P) : gd (sp_load P x).2 := by
  unfold sp_load
  split
  · exact hg
  · split
    · exact hg
    · have h : f5 P (sp_loadAt P (wgIx x) (plIx (P (8 + wgIx x) 1))) := (((f5_ps (plIx_lt _)).tr (f5_pa (plIx_lt _))).tr (f5_w (wgIx_lt _))).tr (f5_wa (wgIx_lt _))
      exact gd.of (h.tr (f5_stand (wgIx_lt _))) hg
theorem gd_unload {P : ka_P} {x : Int32} (hg : gd P) : gd (sp_unload P x).2 := by
  unfold sp_unload
  split
  · exact hg
  · split
    · exact hg
    · have h : f5 P (sp_unloadAt P (wgIx x)) := (f5_w (wgIx_lt _)).tr (f5_stand (wgIx_lt _))
      have h2 : f5 (sp_unloadAt P (wgIx x)) (sp_unload2 (sp_unloadAt P (wgIx x)) (wgIx x)) := (f5_pa (plIx_lt _)).tr (f5_pay (plIx_lt _) (plIx_lt _))
      exact gd.of (h.tr h2) hg
theorem gd_enter {P : ka_P} {x : Int32} (hg : gd P) : gd (sp_enter P x) := by
  unfold sp_enter
  split
  · exact hg
  · split
    · next h1 h2 =>
      refine ⟨?_, ?_⟩
      · show pU _ 30 1 _ 0 5 < 5
        rw [pU_n (by decide), ka_s2_n (by decide)]
        exact hg.1
      · show ¬ pU _ 30 1 _ 30 1 < 0
        rw [pU_e, ka_s2_n (by decide)]
        obtain ⟨j, hj, e⟩ := nI_of h1
        rw [e] at h2 ⊢
        have h3 := (nI_ltI (b := 20) hj (by decide)).mp h2
        rw [nI_1]
        exact nI_pos (by omega)
    · exact hg
theorem gd_begins {P : ka_P} (hg : gd P) : gd (sp_begins P) := gd.fx fx_begins fz_begins hg
theorem gd_repair {P : ka_P} {x : Int32} (hg : gd P) : gd (sp_repair P x).2 := by
  unfold sp_repair
  split
  · exact hg
  · split
    · exact hg
    · split
      · exact hg
      · have h : f5 P (sp_repairAt P (wgIx x)) := ((f5_pay (plIx_lt _) (plIx_lt _)).tr (f5_w (wgIx_lt _))).tr (f5_w (wgIx_lt _))
        have h2 := gd_enter (x := x) (gd.of h hg)
        generalize sp_enter (sp_repairAt P (wgIx x)) x = Q at h2 ⊢
        exact gd_begins h2
theorem fz_trainX {P : ka_P} {frm to kind many : Int32} {i : Nat} : fz P (sp_trainX P frm to kind many i).1 := by
  refine itr_inv (fun _ (Q : ka_P × Int32 × Int32 × Bool) => fz P Q.1) fz.rf (fun i x h => fz.tr h ?_) i
  unfold sp_trainAt
  split
  · exact fz.rf
  · split
    · split
      · exact ((((fz_w (wgIx_lt _)).tr (fz_w (wgIx_lt _))).tr (fz_w (wgIx_lt _))).tr (fz_w (wgIx_lt _)))
      · exact fz.rf
    · exact fz.rf
theorem gd_train {P : ka_P} {a b c e : Int32} (hg : gd P) : gd (sp_train P a b c e).2 := by
  have h1 : gd (sp_trainX P a b c e (cn (P 0 6))).1 := gd.fx fx_trainX fz_trainX hg
  unfold sp_train
  generalize sp_trainX P a b c e (cn (P 0 6)) = x at h1 ⊢
  split
  · exact hg
  · split
    · exact hg
    · split
      · exact hg
      · split
        · exact h1
        · show gd (if _ then _ else _)
          split
          · exact gd.of ((f5_0 (by decide)).tr (f5_0 (by decide))) h1
          · exact gd.of (f5_0 (by decide)) h1
theorem gd_pass {P : ka_P} {x : Int32} (hg : gd P) : gd (sp_pass P x).2 := by
  unfold sp_pass
  split
  · exact hg
  · split
    · exact hg
    · unfold sp_letDays
      refine ⟨?_, sp_days_z hg.2 _⟩
      show (sp_days P (cn x)).1 0 5 < 5
      rw [fx_days.1]
      exact hg.1
theorem gd_order {T P : ka_P} (hg : gd P) : gd (st_doOrder T P).2 := by
  unfold st_doOrder
  repeat' split
  · exact gd_load hg
  · exact gd_repair hg
  · exact gd_train hg
  · exact gd_unload hg
  · exact gd_addWagon hg
  · exact gd_pass hg
theorem gd_allAt {x : ka_P × ka_P} (hg : gd x.2) : gd (st_allAt x).2 := by
  unfold st_allAt
  split
  · exact hg
  · split
    · exact hg
    · split
      · exact hg
      · unfold st_done
        exact gd_order hg
theorem gd_allX {T P : ka_P} (hg : gd P) : ∀ i, gd (st_allX T P i).2
  | 0 => hg
  | i + 1 => by
    rw [st_allX_s]
    exact gd_allAt (gd_allX hg i)
theorem sp_copy_05 {F G : ka_P} : sp_copy F G 0 5 = F 0 5 := by
  unfold sp_copy sp_cp3
  rw [pU_j (by decide), pU_j (by decide), pU_j (by decide), pU_j (by decide), pU_j (by decide), pU_e]
theorem sp_copy_z {F G : ka_P} : sp_copy F G 30 1 = F 30 1 := by
  unfold sp_copy sp_cp3 sp_cpShop
  rw [pU_n (by decide), pU_n (by decide), pU_n (by decide), pU_n (by decide), pU_n (by decide), pU_n (by decide), pU_e]
theorem gd_copy {F G : ka_P} (h : gd F) : gd (sp_copy F G) := by
  unfold gd at h ⊢
  rw [sp_copy_05, sp_copy_z]
  exact h
/-- the face -/
def sp_settle (V : ka_W) (a : Int32) : ka_W := if sp_isErr a = true then V else ka_sp (sp_record V 0) 0 (sp_copy (sp_record V 0 1) (sp_record V 0 0))
def sp_try (V : ka_W) : ka_W := ka_sp V 1 (sp_copy (V 0) (V 1))
def sp_tr (V : ka_W) : ka_P := sp_copy (V 0) (V 1)
def sp_act (V : ka_W) (a : Int32 × ka_P) : ka_W := sp_settle (ka_sp V 1 a.2) a.1
theorem ka_t_ne {x : Int32} (h : ka_t x = true) : ¬ x = 0 := by
  intro e
  subst e
  exact absurd h (by decide)
theorem ka_t_eq {x : Int32} (h : ka_t x = false) : x = 0 := by
  unfold ka_t at h
  simpa using h
theorem st_numX_fail1 {T : ka_P} {i n : Nat} (hv : (st_numX T i).1 = true) (hi : i < n) (c44 : 0 < nI i) (c53 : (st_readSign (st_numX T i).2 44).1 = false) : st_numX T n = (false, (st_readSign (st_numX T i).2 44).2) := by
  have e : st_numX T (i + 1) = (false, (st_readSign (st_numX T i).2 44).2) := by
    rw [st_numX_s]
    unfold st_numAt
    rw [if_neg (by rw [hv]; decide), if_pos c44, if_pos c53]
  rw [st_numX_stop (i := i + 1) (by rw [e]) hi, e]
theorem st_numX_step1 {T : ka_P} {i : Nat} (hv : (st_numX T i).1 = true) (c44 : 0 < nI i) (c53 : (st_readSign (st_numX T i).2 44).1 = true) : st_numX T (i + 1) = st_readNumber (st_readSign (st_numX T i).2 44).2 (nI i) := by
  rw [st_numX_s]
  unfold st_numAt
  rw [if_neg (by rw [hv]; decide), if_pos c44, if_neg (by rw [c53]; decide)]
theorem st_numX_step2 {T : ka_P} {i : Nat} (hv : (st_numX T i).1 = true) (c44 : ¬ 0 < nI i) : st_numX T (i + 1) = st_readNumber (st_numX T i).2 (nI i) := by
  rw [st_numX_s]
  unfold st_numAt
  rw [if_neg (by rw [hv]; decide), if_neg c44]
theorem st_numX_end {T : ka_P} {i n : Nat} {y : Bool × ka_P} (e : st_numX T (i + 1) = y) (hy : y.1 = false) (hi : i < n) : st_numX T n = y := by
  rw [st_numX_stop (i := i + 1) (by rw [e]; exact hy) hi, e]
def sp_would (V : ka_W) (p dd : Int32) : Int32 × ka_W :=
  if sp_isPlace (V 0) p = false then (-2000000001, V) else if kw dd 0 99 = false then (-2000000001, V)
  else (sp_accountOf (sp_letDays (sp_tr V) dd).2 p, ka_sp V 1 (sp_letDays (sp_tr V) dd).2)
def sp_lacks (P : ka_P) (x : Int32) : Int32 := if sp_isMine P x = false then -2000000001 else sp_lackOf P x
def sp_daysOf (P : ka_P) (a b : Int32) : Int32 := if sp_isLeg P a b = false then -2000000001 else sp_legDays P a b
def sp_mn (x y : Int32) : Int32 := if y < x then y else x
def sp_best3 (P : ka_P) (to frm what : Int32) : Int32 :=
  if frm = -1 then -2000000004 else if what = 0 then frm else if what = 1 then to else sp_mn 8 (sp_mn (sp_lackOf P to) (sp_spareOf P frm))
def sp_best (P : ka_P) (what : Int32) : Int32 :=
  if kw what 0 2 = false then -2000000001 else if sp_neediest P = -1 then sp_best3 P (sp_neediest P) (-1) what else sp_best3 P (sp_neediest P) (sp_nearest P (sp_neediest P)) what
def sp_count (V : ka_W) (what : Int32) : Int32 := if what = 13 then V 6 0 2 else if what = 14 then V 7 0 2 else sp_tellNumber (V 0) what
def sp_undo (V : ka_W) : Int32 × ka_W := if V 6 0 2 = 0 then (-2000000002, V) else (sp_take V 0 6 0 2, sp_take V 0)
def sp_ran (V : ka_W) : ka_W := ka_sp (ka_sp V 1 (st_all (V 7) (sp_tr V)).2) 7 (st_all (V 7) (sp_tr V)).1
def sp_rt (V : ka_W) : ka_P := (st_all (V 7) (sp_tr V)).1
def sp_fault (V : ka_W) (what : Int32) : Int32 × ka_W :=
  if kw what 0 2 = false then (-2000000001, V) else if ka_t (sp_rt V 0 7) = false then (-2000000004, sp_ran V)
  else if what = 0 then (sp_rt V 0 6, sp_ran V) else if what = 1 then (sp_rt V 0 7, sp_ran V) else (sp_rt V 0 8, sp_ran V)
def sp_playA (V : ka_W) : Int32 := if ka_t (sp_rt V 0 7) = true then -2000000002 else sp_rt V 0 5
theorem sp_try_text {V : ka_W} {P : ka_P} : ka_sp V 1 P = ka_sp (ka_sp V 1 P) 7 (V 7) := by
  have h : (ka_sp V 1 P) 7 = V 7 := ka_sp_n (by decide)
  rw [← h, ka_sp_self]
