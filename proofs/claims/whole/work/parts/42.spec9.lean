/-! the share, on both sides: words, and rows for a float constant and the bits of a float -/
section KF
variable {G : ka_G} {X : ka_X} {cc : ByteArray} {own : String} {nL d : Nat} {V : ka_W} {pc : Nat} {L st : List Value}
theorem ka_ldcf {i : Nat} {v : UInt32} (hC : ka_C G X cc own nL d) (hq : Cond.constantFloat own i v ∈ ka_T) (hd : decode cc pc = .ok (.ldc i, 2)) (kk : ka_I G X V (pc + 2) L (.float v :: st)): ka_I G X V pc L (st) := by
  obtain ⟨p, e, R, s, m, args, below, meth, c, A0, k, n, Q⟩ := X
  intro H locs ls hP hS hL
  exact lv_ldcf hC.1 hC.2.1 hC.2.2.2.1 (hC.2.2.2.2.1 _ hq) hd (kk H locs ls hP hS hL)
theorem ka_f2ib {idx : Nat} {x : UInt32} (hC : ka_C G X cc own nL d) (hq : Cond.methodLink own idx ⟨"java/lang/Float", "floatToRawIntBits", "(F)I"⟩ ∈ ka_T) (q1 : Cond.native ⟨"java/lang/Float", "floatToRawIntBits", "(F)I"⟩ ∈ ka_T) (q2 : Cond.static ⟨"java/lang/Float", "floatToRawIntBits", "(F)I"⟩ ∈ ka_T) (q3 : Cond.initialized "java/lang/Float" ∈ ka_T) (hcat : (st.map fun v => v.category).sum ≤ 8) (hdp : 1 ≤ d) (hd : decode cc pc = .ok (.invokestatic idx, 3)) (kk : ka_I G X V (pc + 3) L (.int x.toInt32 :: st)) : ka_I G X V pc L (.float x :: st) := by
  obtain ⟨p, e, R, s, m, args, below, meth, c, A0, k, n, Q⟩ := X
  intro H locs ls hP hS hL
  have h6 := hC.2.2.2.2.2.2.2.2.2.2
  exact vn_f2i hC.1 hC.2.1 hL.1.1.symm hC.2.2.2.1 (hC.2.2.2.2.1 _ hq) (hC.2.2.2.2.1 _ q1) (hC.2.2.2.2.1 _ q2) (hC.2.2.2.2.1 _ q3) (Nat.le_trans hdp h6.1) (by omega) hd (kk H locs ls hP hS hL)
end KF
/-- the class: doubles until it is 1 or more -/
def sp_bsAt (x : UInt32 × Int32) : UInt32 × Int32 := if Op.cmpValue (FP.fcmp x.1 FP.fconst1) .g < 0 then (if 1 < x.2 then (FP.fmul x.1 FP.fconst2, x.2 + (-1)) else x) else x
def sp_bsX (x : UInt32) (i : Nat) : UInt32 × Int32 := itr (fun _ y => sp_bsAt y) i (x, 127)
theorem sp_bsX_0 {x : UInt32} : sp_bsX x 0 = (x, 127) := rfl
theorem sp_bsX_s {x : UInt32} {i : Nat} : sp_bsX x (i + 1) = sp_bsAt (sp_bsX x i) := rfl
def sp_bsStop (x : UInt32 × Int32) : Prop := ¬ Op.cmpValue (FP.fcmp x.1 FP.fconst1) .g < 0 ∨ ¬ 1 < x.2
theorem sp_bsX_stop {x : UInt32} {i n : Nat} (h : sp_bsStop (sp_bsX x i)) (hi : i ≤ n) : sp_bsX x n = sp_bsX x i :=
  itr_stop (fun y => sp_bsStop y) (fun _ y hy => by
    show sp_bsAt y = y
    unfold sp_bsAt
    rcases hy with h | h
    · rw [if_neg h]
    · rw [if_neg h]
      split <;> rfl) h n hi
theorem sp_bsX_go {x : UInt32} {i : Nat} (h1 : Op.cmpValue (FP.fcmp (sp_bsX x i).1 FP.fconst1) .g < 0) (h2 : 1 < (sp_bsX x i).2) : sp_bsX x (i + 1) = (FP.fmul (sp_bsX x i).1 FP.fconst2, (sp_bsX x i).2 + (-1)) := by
  rw [sp_bsX_s]
  unfold sp_bsAt
  rw [if_pos h1, if_pos h2]
def sp_bits (x : UInt32) : Int32 :=
  if 0 < Op.cmpValue (FP.fcmp x FP.fconst0) .l then ((sp_bsX x 126).2 <<< (23 &&& 31)) + (FP.f2i (FP.fmul (sp_bsX x 126).1 1258291200) - 8388608) else 0
/-- no NaN comes -/
def sp_bsOK (x : UInt32) : Prop := vf_n32 x ∧ (0 < Op.cmpValue (FP.fcmp x FP.fconst0) .l → (∀ i, i < 126 → vf_n32 (FP.fmul (sp_bsX x i).1 FP.fconst2)) ∧ vf_n32 (FP.fmul (sp_bsX x 126).1 1258291200))
def sp_bsE (i : Nat) : Int32 := 127 - nI i
theorem sp_bsE_s {i : Nat} : sp_bsE i + (-1) = sp_bsE (i + 1) := by
  unfold sp_bsE
  rw [← nI_1, sub_1, Int32.sub_eq_add_neg (127 - nI i) 1]
theorem sp_bsE_lt {i : Nat} (hi : i ≤ 126) (h : 1 < sp_bsE i) : i < 126 := by
  rcases Nat.lt_or_ge i 126 with h2 | h2
  · exact h2
  · obtain rfl : i = 126 := by omega
    exact absurd h (by decide)
def sp_share0 (P : ka_P) (a : Int32) : UInt32 := FP.fdiv (FP.i2f (sp_loadedOf P a)) (FP.i2f (sp_ownedBy P a))
def sp_share (P : ka_P) (a : Int32) : Int32 := if sp_isMine P a = false then -2000000001 else if sp_ownedBy P a = 0 then -2000000004 else sp_bits (sp_share0 P a)
/-- the reference -/
def rx_nan (x : UInt32) : Bool := !decide (Op.cmpValue (FP.fcmp x x) .l = 0)
def rx_bits (x : UInt32) : Int32 := if rx_nan x = true then 2143289344 else x.toInt32
def rf_allOAt (S : ka_F) (p : Int32) (i : Nat) (x : Int32) : Int32 := if wg S i 0 = p then x + 1 else x + 0
def rf_allOX (S : ka_F) (p : Int32) (i : Nat) : Int32 := itr (rf_allOAt S p) i 0
theorem rf_allOX_0 {S : ka_F} {p : Int32} : rf_allOX S p 0 = 0 := rfl
theorem rf_allOX_s {S : ka_F} {p : Int32} {i : Nat} : rf_allOX S p (i + 1) = rf_allOAt S p i (rf_allOX S p i) := rfl
def rf_fulOAt (S : ka_F) (p : Int32) (i : Nat) (x : Int32) : Int32 := if wg S i 0 = p then x + wg S i 2 else x + 0
def rf_fulOX (S : ka_F) (p : Int32) (i : Nat) : Int32 := itr (rf_fulOAt S p) i 0
theorem rf_fulOX_0 {S : ka_F} {p : Int32} : rf_fulOX S p 0 = 0 := rfl
theorem rf_fulOX_s {S : ka_F} {p : Int32} {i : Nat} : rf_fulOX S p (i + 1) = rf_fulOAt S p i (rf_fulOX S p i) := rfl
def rf_share0 (S : ka_F) (a : Int32) : UInt32 := FP.fdiv (FP.i2f (rf_fulOX S a (cn (S 1)))) (FP.i2f (rf_allOX S a (cn (S 1))))
def rf_share (S : ka_F) (a : Int32) : Int32 := if rf_isMine S a = false then -2000000001 else if rf_allOX S a (cn (S 1)) = 0 then -2000000004 else rx_bits (rf_share0 S a)
