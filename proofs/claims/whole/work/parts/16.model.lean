/-! the reference: its world (M: its other cells, S: its array s), rows over it -/
abbrev ka_F : Type := Nat → Int32
def ka_ms (V : ka_W) (M : ka_P) (S : ka_F) : ka_W := ka_sp V 9 (ka_s2 M 1 S)
theorem ka_s2_comm {P : ka_P} {a b : Nat} {f g : Nat → Int32} (h : a ≠ b) : ka_s2 (ka_s2 P a f) b g = ka_s2 (ka_s2 P b g) a f := by
  funext x
  simp only [ka_s2]
  split
  · next h1 => rw [if_neg (fun h2 => h (h2.symm.trans h1))]
  · rfl
theorem nI_mul (a b : Nat) : nI a * nI b = nI (a * b) := by
  unfold nI
  exact (Int32.ofNat_mul a b).symm
theorem ix_w {x y : Int32} (w k : Nat) (hx : x = nI w) (hy : y = nI k) : 69 + 10 * x + y = nI (69 + 10 * w + k) := by
  subst hx; subst hy
  show nI 69 + nI 10 * nI w + nI k = _
  rw [nI_mul, nI_add, nI_add]
theorem ix_p {x y : Int32} (p k : Nat) (hx : x = nI p) (hy : y = nI k) : 39 + 6 * x + y = nI (39 + 6 * p + k) := by
  subst hx; subst hy
  show nI 39 + nI 6 * nI p + nI k = _
  rw [nI_mul, nI_add, nI_add]
theorem ix_l {x y : Int32} (a b : Nat) (hx : x = nI a) (hy : y = nI b) : 14 + 5 * x + y = nI (14 + 5 * a + b) := by
  subst hx; subst hy
  show nI 14 + nI 5 * nI a + nI b = _
  rw [nI_mul, nI_add, nI_add]
def wg (S : ka_F) (w k : Nat) : Int32 := S (69 + 10 * w + k)
def pg (S : ka_F) (p k : Nat) : Int32 := S (39 + 6 * p + k)
def wU (S : ka_F) (w k : Nat) (v : Int32) : ka_F := upd S (69 + 10 * w + k) v
def qU (S : ka_F) (p k : Nat) (v : Int32) : ka_F := upd S (39 + 6 * p + k) v
def qA (S : ka_F) (p k : Nat) (v : Int32) : ka_F := qU S p k (pg S p k + v)
def sA (S : ka_F) (j : Nat) (v : Int32) : ka_F := upd S j (S j + v)
section KM
variable {G : ka_G} {X : ka_X} {cc : ByteArray} {own : String} {nL d : Nat} {V : ka_W} {M : ka_P} {S : ka_F} {pc : Nat} {L st : List Value}
theorem km_ld {x : Int32} (j : Nat) (hj : j < 269) (hx : x = nI j) (hC : ka_C G X cc own nL d) (hd : decode cc pc = .ok (.iaload, 1)) (kk : ka_I G X (ka_ms V M S) (pc + 1) L (.int (S j) :: st)) : ka_I G X (ka_ms V M S) pc L (.int x :: .ref (ka_ad G 9 1) :: st) :=
  kin_ms (P := ka_s2 M 1 S) j hj hx hC hd (by rw [ka_s2_s]; exact kk)
theorem km_st {x v : Int32} (j : Nat) (hj : j < 269) (hx : x = nI j) (hC : ka_C G X cc own nL d) (hd : decode cc pc = .ok (.iastore, 1)) (kk : ka_I G X (ka_ms V M (upd S j v)) (pc + 1) L st) : ka_I G X (ka_ms V M S) pc L (.int v :: .int x :: .ref (ka_ad G 9 1) :: st) :=
  ksn_ms (P := ka_s2 M 1 S) j hj hx hC hd (by rw [ka_s2_s2, ka_s2_s]; exact kk)
theorem kmi_mbegun {x : Int32} (j : Nat) (hj : j < 269) (hx : x = nI j) (hC : ka_C G X cc own nL d) (hd : decode cc pc = .ok (.iaload, 1)) (kk : ka_I G X (ka_ms V M S) (pc + 1) L (.int (M 2 j) :: st)) : ka_I G X (ka_ms V M S) pc L (.int x :: .ref (ka_ad G 9 2) :: st) :=
  kin_mbegun (P := ka_s2 M 1 S) j hj hx hC hd (by rw [ka_s2_n (by decide)]; exact kk)
theorem kms_mbegun {x v : Int32} (j : Nat) (hj : j < 269) (hx : x = nI j) (hC : ka_C G X cc own nL d) (hd : decode cc pc = .ok (.iastore, 1)) (kk : ka_I G X (ka_ms V (pU M 2 j v) S) (pc + 1) L st) : ka_I G X (ka_ms V M S) pc L (.int v :: .int x :: .ref (ka_ad G 9 2) :: st) :=
  ksn_mbegun (P := ka_s2 M 1 S) j hj hx hC hd (by rw [ka_s2_n (by decide), ka_s2_comm (by decide)]; exact kk)
theorem kmi_maside {x : Int32} (j : Nat) (hj : j < 269) (hx : x = nI j) (hC : ka_C G X cc own nL d) (hd : decode cc pc = .ok (.iaload, 1)) (kk : ka_I G X (ka_ms V M S) (pc + 1) L (.int (M 3 j) :: st)) : ka_I G X (ka_ms V M S) pc L (.int x :: .ref (ka_ad G 9 3) :: st) :=
  kin_maside (P := ka_s2 M 1 S) j hj hx hC hd (by rw [ka_s2_n (by decide)]; exact kk)
theorem kms_maside {x v : Int32} (j : Nat) (hj : j < 269) (hx : x = nI j) (hC : ka_C G X cc own nL d) (hd : decode cc pc = .ok (.iastore, 1)) (kk : ka_I G X (ka_ms V (pU M 3 j v) S) (pc + 1) L st) : ka_I G X (ka_ms V M S) pc L (.int v :: .int x :: .ref (ka_ad G 9 3) :: st) :=
  ksn_maside (P := ka_s2 M 1 S) j hj hx hC hd (by rw [ka_s2_n (by decide), ka_s2_comm (by decide)]; exact kk)
theorem kmi_mpast {x : Int32} (j : Nat) (hj : j < 1076) (hx : x = nI j) (hC : ka_C G X cc own nL d) (hd : decode cc pc = .ok (.iaload, 1)) (kk : ka_I G X (ka_ms V M S) (pc + 1) L (.int (M 4 j) :: st)) : ka_I G X (ka_ms V M S) pc L (.int x :: .ref (ka_ad G 9 4) :: st) :=
  kin_mpast (P := ka_s2 M 1 S) j hj hx hC hd (by rw [ka_s2_n (by decide)]; exact kk)
theorem kms_mpast {x v : Int32} (j : Nat) (hj : j < 1076) (hx : x = nI j) (hC : ka_C G X cc own nL d) (hd : decode cc pc = .ok (.iastore, 1)) (kk : ka_I G X (ka_ms V (pU M 4 j v) S) (pc + 1) L st) : ka_I G X (ka_ms V M S) pc L (.int v :: .int x :: .ref (ka_ad G 9 4) :: st) :=
  ksn_mpast (P := ka_s2 M 1 S) j hj hx hC hd (by rw [ka_s2_n (by decide), ka_s2_comm (by decide)]; exact kk)
theorem kmi_mtext {x : Int32} (j : Nat) (hj : j < 60) (hx : x = nI j) (hC : ka_C G X cc own nL d) (hd : decode cc pc = .ok (.iaload, 1)) (kk : ka_I G X (ka_ms V M S) (pc + 1) L (.int (M 5 j) :: st)) : ka_I G X (ka_ms V M S) pc L (.int x :: .ref (ka_ad G 9 5) :: st) :=
  kin_mtext (P := ka_s2 M 1 S) j hj hx hC hd (by rw [ka_s2_n (by decide)]; exact kk)
theorem kms_mtext {x v : Int32} (j : Nat) (hj : j < 60) (hx : x = nI j) (hC : ka_C G X cc own nL d) (hd : decode cc pc = .ok (.iastore, 1)) (kk : ka_I G X (ka_ms V (pU M 5 j v) S) (pc + 1) L st) : ka_I G X (ka_ms V M S) pc L (.int v :: .int x :: .ref (ka_ad G 9 5) :: st) :=
  ksn_mtext (P := ka_s2 M 1 S) j hj hx hC hd (by rw [ka_s2_n (by decide), ka_s2_comm (by decide)]; exact kk)
theorem kmi_mnums {x : Int32} (j : Nat) (hj : j < 4) (hx : x = nI j) (hC : ka_C G X cc own nL d) (hd : decode cc pc = .ok (.iaload, 1)) (kk : ka_I G X (ka_ms V M S) (pc + 1) L (.int (M 6 j) :: st)) : ka_I G X (ka_ms V M S) pc L (.int x :: .ref (ka_ad G 9 6) :: st) :=
  kin_mnums (P := ka_s2 M 1 S) j hj hx hC hd (by rw [ka_s2_n (by decide)]; exact kk)
theorem kms_mnums {x v : Int32} (j : Nat) (hj : j < 4) (hx : x = nI j) (hC : ka_C G X cc own nL d) (hd : decode cc pc = .ok (.iastore, 1)) (kk : ka_I G X (ka_ms V (pU M 6 j v) S) (pc + 1) L st) : ka_I G X (ka_ms V M S) pc L (.int v :: .int x :: .ref (ka_ad G 9 6) :: st) :=
  ksn_mnums (P := ka_s2 M 1 S) j hj hx hC hd (by rw [ka_s2_n (by decide), ka_s2_comm (by decide)]; exact kk)
theorem kmg_X7_32 (hC : ka_C G X cc RX7 nL d) (hd : decode cc pc = .ok (.getfield 32, 3)) (kk : ka_I G X (ka_ms V M S) (pc + 3) L (.int (M 0 4) :: st)) : ka_I G X (ka_ms V M S) pc L (.ref (ka_ad G 9 0) :: st) :=
  kgp_X7_32 (P := ka_s2 M 1 S) hC hd (by rw [ka_s2_n (by decide)]; exact kk)
theorem kmp_X7_32 {x : Int32} (hC : ka_C G X cc RX7 nL d) (hd : decode cc pc = .ok (.putfield 32, 3)) (kk : ka_I G X (ka_ms V (pU M 0 4 x) S) (pc + 3) L st) : ka_I G X (ka_ms V M S) pc L (.int x :: .ref (ka_ad G 9 0) :: st) :=
  kpp_X7_32 (P := ka_s2 M 1 S) hC hd (by rw [ka_s2_n (by decide), ka_s2_comm (by decide)]; exact kk)
theorem kmg_X7_172 (hC : ka_C G X cc RX7 nL d) (hd : decode cc pc = .ok (.getfield 172, 3)) (kk : ka_I G X (ka_ms V M S) (pc + 3) L (.int (M 0 6) :: st)) : ka_I G X (ka_ms V M S) pc L (.ref (ka_ad G 9 0) :: st) :=
  kgp_X7_172 (P := ka_s2 M 1 S) hC hd (by rw [ka_s2_n (by decide)]; exact kk)
theorem kmp_X7_172 {x : Int32} (hC : ka_C G X cc RX7 nL d) (hd : decode cc pc = .ok (.putfield 172, 3)) (kk : ka_I G X (ka_ms V (pU M 0 6 x) S) (pc + 3) L st) : ka_I G X (ka_ms V M S) pc L (.int x :: .ref (ka_ad G 9 0) :: st) :=
  kpp_X7_172 (P := ka_s2 M 1 S) hC hd (by rw [ka_s2_n (by decide), ka_s2_comm (by decide)]; exact kk)
theorem kmg_X7_175 (hC : ka_C G X cc RX7 nL d) (hd : decode cc pc = .ok (.getfield 175, 3)) (kk : ka_I G X (ka_ms V M S) (pc + 3) L (.int (M 0 7) :: st)) : ka_I G X (ka_ms V M S) pc L (.ref (ka_ad G 9 0) :: st) :=
  kgp_X7_175 (P := ka_s2 M 1 S) hC hd (by rw [ka_s2_n (by decide)]; exact kk)
theorem kmp_X7_175 {x : Int32} (hC : ka_C G X cc RX7 nL d) (hd : decode cc pc = .ok (.putfield 175, 3)) (kk : ka_I G X (ka_ms V (pU M 0 7 x) S) (pc + 3) L st) : ka_I G X (ka_ms V M S) pc L (.int x :: .ref (ka_ad G 9 0) :: st) :=
  kpp_X7_175 (P := ka_s2 M 1 S) hC hd (by rw [ka_s2_n (by decide), ka_s2_comm (by decide)]; exact kk)
theorem kmg_X7_192 (hC : ka_C G X cc RX7 nL d) (hd : decode cc pc = .ok (.getfield 192, 3)) (kk : ka_I G X (ka_ms V M S) (pc + 3) L (.int (M 0 8) :: st)) : ka_I G X (ka_ms V M S) pc L (.ref (ka_ad G 9 0) :: st) :=
  kgp_X7_192 (P := ka_s2 M 1 S) hC hd (by rw [ka_s2_n (by decide)]; exact kk)
theorem kmp_X7_192 {x : Int32} (hC : ka_C G X cc RX7 nL d) (hd : decode cc pc = .ok (.putfield 192, 3)) (kk : ka_I G X (ka_ms V (pU M 0 8 x) S) (pc + 3) L st) : ka_I G X (ka_ms V M S) pc L (.int x :: .ref (ka_ad G 9 0) :: st) :=
  kpp_X7_192 (P := ka_s2 M 1 S) hC hd (by rw [ka_s2_n (by decide), ka_s2_comm (by decide)]; exact kk)
theorem kmg_X7_189 (hC : ka_C G X cc RX7 nL d) (hd : decode cc pc = .ok (.getfield 189, 3)) (kk : ka_I G X (ka_ms V M S) (pc + 3) L (.int (M 0 9) :: st)) : ka_I G X (ka_ms V M S) pc L (.ref (ka_ad G 9 0) :: st) :=
  kgp_X7_189 (P := ka_s2 M 1 S) hC hd (by rw [ka_s2_n (by decide)]; exact kk)
theorem kmp_X7_189 {x : Int32} (hC : ka_C G X cc RX7 nL d) (hd : decode cc pc = .ok (.putfield 189, 3)) (kk : ka_I G X (ka_ms V (pU M 0 9 x) S) (pc + 3) L st) : ka_I G X (ka_ms V M S) pc L (.int x :: .ref (ka_ad G 9 0) :: st) :=
  kpp_X7_189 (P := ka_s2 M 1 S) hC hd (by rw [ka_s2_n (by decide), ka_s2_comm (by decide)]; exact kk)
theorem kmg_X7_207 (hC : ka_C G X cc RX7 nL d) (hd : decode cc pc = .ok (.getfield 207, 3)) (kk : ka_I G X (ka_ms V M S) (pc + 3) L (.int (M 0 10) :: st)) : ka_I G X (ka_ms V M S) pc L (.ref (ka_ad G 9 0) :: st) :=
  kgp_X7_207 (P := ka_s2 M 1 S) hC hd (by rw [ka_s2_n (by decide)]; exact kk)
theorem kmp_X7_207 {x : Int32} (hC : ka_C G X cc RX7 nL d) (hd : decode cc pc = .ok (.putfield 207, 3)) (kk : ka_I G X (ka_ms V (pU M 0 10 x) S) (pc + 3) L st) : ka_I G X (ka_ms V M S) pc L (.int x :: .ref (ka_ad G 9 0) :: st) :=
  kpp_X7_207 (P := ka_s2 M 1 S) hC hd (by rw [ka_s2_n (by decide), ka_s2_comm (by decide)]; exact kk)
theorem kmg_X7_181 (hC : ka_C G X cc RX7 nL d) (hd : decode cc pc = .ok (.getfield 181, 3)) (kk : ka_I G X (ka_ms V M S) (pc + 3) L (.int (ka_b (ka_t (M 0 11))) :: st)) : ka_I G X (ka_ms V M S) pc L (.ref (ka_ad G 9 0) :: st) :=
  kgp_X7_181 (P := ka_s2 M 1 S) hC hd (by rw [ka_s2_n (by decide)]; exact kk)
theorem kmp_X7_181 {b : Bool} {x : Int32} (hb : x = ka_b b) (hC : ka_C G X cc RX7 nL d) (hd : decode cc pc = .ok (.putfield 181, 3)) (kk : ka_I G X (ka_ms V (pU M 0 11 (ka_b b)) S) (pc + 3) L st) : ka_I G X (ka_ms V M S) pc L (.int x :: .ref (ka_ad G 9 0) :: st) :=
  kpp_X7_181 (P := ka_s2 M 1 S) hb hC hd (by rw [ka_s2_n (by decide), ka_s2_comm (by decide)]; exact kk)
end KM
theorem wU_s {S : ka_F} {w k : Nat} {v : Int32} : wg (wU S w k v) w k = v := pk_us
theorem wU_n {S : ka_F} {w k w' k' : Nat} {v : Int32} (hk : k < 10) (hk' : k' < 10) (h : w' = w → k' ≠ k) : wg (wU S w k v) w' k' = wg S w' k' := by
  unfold wg wU
  exact pk_un (fun e => by
    have h1 : w' = w := by omega
    have := h h1
    omega)
theorem wU_p {S : ka_F} {w k p j : Nat} {v : Int32} (hp : p < 5) (hj : j < 6) : pg (wU S w k v) p j = pg S p j := by
  unfold pg wU
  exact pk_un (by omega)
theorem wU_j {S : ka_F} {w k j : Nat} {v : Int32} (hj : j < 69) : wU S w k v j = S j := by
  unfold wU
  exact pk_un (by omega)
theorem qU_w {S : ka_F} {p k w j : Nat} {v : Int32} (hp : p < 5) (hk : k < 6) : wg (qU S p k v) w j = wg S w j := by
  unfold wg qU
  exact pk_un (by omega)
theorem qU_s {S : ka_F} {p k : Nat} {v : Int32} : pg (qU S p k v) p k = v := pk_us
theorem qU_n {S : ka_F} {p k p' k' : Nat} {v : Int32} (hk : k < 6) (hk' : k' < 6) (h : p' = p → k' ≠ k) : pg (qU S p k v) p' k' = pg S p' k' := by
  unfold pg qU
  exact pk_un (fun e => by
    have h1 : p' = p := by omega
    have := h h1
    omega)
theorem qU_j {S : ka_F} {p k j : Nat} {v : Int32} (hj : j < 39) : qU S p k v j = S j := by
  unfold qU
  exact pk_un (by omega)
theorem sA_w {S : ka_F} {j w k : Nat} {v : Int32} (hj : j < 39) : wg (sA S j v) w k = wg S w k := by
  unfold wg sA
  exact pk_un (by omega)
theorem sA_p {S : ka_F} {j p k : Nat} {v : Int32} (hj : j < 39) : pg (sA S j v) p k = pg S p k := by
  unfold pg sA
  exact pk_un (by omega)
theorem sA_n {S : ka_F} {j j' : Nat} {v : Int32} (h : j' ≠ j) : sA S j v j' = S j' := pk_un h
theorem sA_s {S : ka_F} {j : Nat} {v : Int32} : sA S j v j = S j + v := pk_us
/-- x is a number up to n -/
def ub (n : Nat) (x : Int32) : Prop := x = nI (cn x) ∧ cn x ≤ n
theorem cn_nI {n : Nat} (h : n < 2 ^ 31) : cn (nI n) = n := nI_clamp h
theorem ub_nI {n m : Nat} (h : m ≤ n) (hn : n < 2 ^ 31) : ub n (nI m) := by
  have h1 : cn (nI m) = m := cn_nI (by omega)
  exact ⟨by rw [h1], by omega⟩
theorem ub.up {n m : Nat} {x : Int32} (h : ub n x) (hm : n ≤ m) : ub m x := ⟨h.1, by have := h.2; omega⟩
theorem ub.pos {n : Nat} {x : Int32} (h : ub n x) : ¬ x < 0 := by rw [h.1]; exact nI_pos (cn_lt x)
theorem ub.int {n : Nat} {x : Int32} (h : ub n x) : x.toInt = (cn x : Int) := by
  have := nI_toInt (cn_lt x)
  rw [← h.1] at this
  exact this
/-- mines, wagons, day, repair days, owners and places of the wagons are in their ranges -/
def MK (D : Nat) (S : ka_F) : Prop := ub 4 (S 0) ∧ ub 20 (S 1) ∧ ub D (S 2) ∧ ub 30 (S 13) ∧ ∀ w, w < 20 → ub 4 (wg S w 0) ∧ ub 4 (wg S w 1)
theorem MK.m {D : Nat} {S : ka_F} (h : MK D S) : cn (S 0) ≤ 4 := h.1.2
theorem MK.n {D : Nat} {S : ka_F} (h : MK D S) : cn (S 1) ≤ 20 := h.2.1.2
theorem MK.o {D : Nat} {S : ka_F} (h : MK D S) {w : Nat} (hw : w < 20) : wg S w 0 = nI (cn (wg S w 0)) := (h.2.2.2.2 w hw).1.1
theorem MK.o5 {D : Nat} {S : ka_F} (h : MK D S) {w : Nat} (hw : w < 20) : cn (wg S w 0) < 5 := Nat.lt_succ_of_le (h.2.2.2.2 w hw).1.2
theorem MK.a {D : Nat} {S : ka_F} (h : MK D S) {w : Nat} (hw : w < 20) : wg S w 1 = nI (cn (wg S w 1)) := (h.2.2.2.2 w hw).2.1
theorem MK.a5 {D : Nat} {S : ka_F} (h : MK D S) {w : Nat} (hw : w < 20) : cn (wg S w 1) < 5 := Nat.lt_succ_of_le (h.2.2.2.2 w hw).2.2
theorem MK.up {D E : Nat} {S : ka_F} (h : MK D S) (hE : D ≤ E) : MK E S := ⟨h.1, h.2.1, h.2.2.1.up hE, h.2.2.2⟩
/-- what a day leaves: all ahead of the places but the counters, the wagons' owners and places -/
def rx (S T : ka_F) : Prop := (∀ j, j < 39 → j ≠ 3 → j ≠ 4 → j ≠ 5 → j ≠ 6 → T j = S j) ∧ ∀ w, w < 20 → wg T w 0 = wg S w 0 ∧ wg T w 1 = wg S w 1
theorem rx.rf {S : ka_F} : rx S S := ⟨fun _ _ _ _ _ _ => rfl, fun _ _ => ⟨rfl, rfl⟩⟩
theorem rx.tr {S T U : ka_F} (h : rx S T) (h2 : rx T U) : rx S U := ⟨fun j a b c d e => (h2.1 j a b c d e).trans (h.1 j a b c d e), fun w hw => ⟨(h2.2 w hw).1.trans (h.2 w hw).1, (h2.2 w hw).2.trans (h.2 w hw).2⟩⟩
theorem rx.wU {S T : ka_F} {w k : Nat} {v : Int32} (h : rx S T) (hk : 2 ≤ k) (hk2 : k < 10) : rx S (wU T w k v) := h.tr ⟨fun j hj _ _ _ _ => wU_j (by omega), fun w' _ => ⟨wU_n hk2 (by omega) (fun _ => by omega), wU_n hk2 (by omega) (fun _ => by omega)⟩⟩
theorem rx.qU {S T : ka_F} {p k : Nat} {v : Int32} (h : rx S T) (hp : p < 5) (hk : k < 6) : rx S (qU T p k v) := h.tr ⟨fun j hj _ _ _ _ => qU_j (by omega), fun w' _ => ⟨qU_w hp hk, qU_w hp hk⟩⟩
theorem rx.qA {S T : ka_F} {p k : Nat} {v : Int32} (h : rx S T) (hp : p < 5) (hk : k < 6) : rx S (qA T p k v) := h.qU hp hk
theorem rx.sA {S T : ka_F} {j : Nat} {v : Int32} (h : rx S T) (hj : 3 ≤ j) (hj2 : j < 7) : rx S (sA T j v) := h.tr ⟨fun i hi _ _ _ _ => sA_n (by omega), fun w' _ => ⟨sA_w (by omega), sA_w (by omega)⟩⟩
theorem rx.s0 {S T : ka_F} (h : rx S T) : T 0 = S 0 := h.1 0 (by decide) (by decide) (by decide) (by decide) (by decide)
theorem rx.s1 {S T : ka_F} (h : rx S T) : T 1 = S 1 := h.1 1 (by decide) (by decide) (by decide) (by decide) (by decide)
theorem rx.s2 {S T : ka_F} (h : rx S T) : T 2 = S 2 := h.1 2 (by decide) (by decide) (by decide) (by decide) (by decide)
theorem rx.hi {S T : ka_F} (h : rx S T) {j : Nat} (h1 : 7 ≤ j) (h2 : j < 39) : T j = S j := h.1 j h2 (by omega) (by omega) (by omega) (by omega)
theorem MK.of {D : Nat} {S T : ka_F} (h : rx S T) (hM : MK D S) : MK D T := by
  obtain ⟨h0, h1, h2, h3, h4⟩ := hM
  refine ⟨?_, ?_, ?_, ?_, fun w hw => ?_⟩
  · rw [h.s0]; exact h0
  · rw [h.s1]; exact h1
  · rw [h.s2]; exact h2
  · rw [h.hi (by decide) (by decide)]; exact h3
  · rw [(h.2 w hw).1, (h.2 w hw).2]; exact h4 w hw
/-- what the reference's methods do -/
def rf_isPlace (S : ka_F) (x : Int32) : Bool := kw x 0 (S 0)
def rf_isMine (S : ka_F) (x : Int32) : Bool := kw x 1 (S 0)
def rf_isWagon (S : ka_F) (x : Int32) : Bool := kw x 0 (S 1 - 1)
def rf_stands (S : ka_F) (w : Nat) (p : Int32) : Bool := decide (wg S w 3 = 0) && decide (wg S w 1 = p)
def rf_isDue (S : ka_F) (w : Nat) : Bool := !decide (wg S w 4 < S 10)
def rf_why2 (S : ka_F) (w : Nat) : Int32 := if wg S w 1 = 0 then 4 else if rf_isDue S w = true then 5 else if pg S (cn (wg S w 1)) 0 < 30 then 6 else 0
def rf_whyNot (S : ka_F) (w : Nat) : Int32 := if wg S w 3 = 0 then (if wg S w 2 = 1 then 3 else rf_why2 S w) else wg S w 3
def rf_pays (S : ka_F) (a b : Nat) (v : Int32) : ka_F := qA (qA S a 2 (-v)) b 2 v
def rf_inRepAt (S : ka_F) (b : Bool) (i : Nat) (x : Int32) : Int32 := if wg S i 3 = 2 then (if b = true then x + 1 else if wg S i 6 < 0 then x + 0 else x + 1) else x + 0
def rf_inRepX (S : ka_F) (b : Bool) (i : Nat) : Int32 := itr (rf_inRepAt S b) i 0
theorem rf_inRepX_0 {S : ka_F} {b : Bool} : rf_inRepX S b 0 = 0 := rfl
theorem rf_inRepX_s {S : ka_F} {b : Bool} {i : Nat} : rf_inRepX S b (i + 1) = rf_inRepAt S b i (rf_inRepX S b i) := rfl
def rf_inRep (S : ka_F) (b : Bool) : Int32 := rf_inRepX S b (cn (S 1))
def rf_firstAt (S : ka_F) (i : Nat) (x : Int32) : Int32 := if wg S i 3 = 2 then (if wg S i 6 < 0 then (if x < 0 then nI i else if wg S i 9 < wg S (cn x) 9 then nI i else x) else x) else x
def rf_firstX (S : ka_F) (i : Nat) : Int32 := itr (rf_firstAt S) i (-1)
theorem rf_firstX_0 {S : ka_F} : rf_firstX S 0 = -1 := rfl
theorem rf_firstX_s {S : ka_F} {i : Nat} : rf_firstX S (i + 1) = rf_firstAt S i (rf_firstX S i) := rfl
def rf_first (S : ka_F) : Int32 := rf_firstX S (cn (S 1))
/-- what is found is a wagon that waits -/
def rf_fd (S : ka_F) (i : Nat) (x : Int32) : Prop := x = -1 ∨ (x = nI (cn x) ∧ cn x < i ∧ wg S (cn x) 3 = 2 ∧ wg S (cn x) 6 < 0)
theorem rf_firstX_fd {S : ka_F} : ∀ i, i ≤ 20 → rf_fd S i (rf_firstX S i)
  | 0, _ => Or.inl rfl
  | i + 1, h => by
    rw [rf_firstX_s]
    have ih := rf_firstX_fd (S := S) i (by omega)
    have up : rf_fd S (i + 1) (rf_firstX S i) := by
      rcases ih with h1 | h1
      · exact Or.inl h1
      · exact Or.inr ⟨h1.1, Nat.lt_succ_of_lt h1.2.1, h1.2.2⟩
    have hn : cn (nI i) = i := cn_nI (by omega)
    unfold rf_firstAt
    generalize rf_firstX S i = x at up
    split
    · next c1 =>
      split
      · next c2 =>
        have new : rf_fd S (i + 1) (nI i) := Or.inr ⟨by rw [hn], by rw [hn]; omega, by rw [hn]; exact c1, by rw [hn]; exact c2⟩
        split
        · exact new
        · split
          · exact new
          · exact up
      · exact up
    · exact up
theorem rf_fd_lt {S : ka_F} {i : Nat} {x : Int32} (hi : i ≤ 20) (h : rf_fd S i x) (h0 : ¬ x < 0) : x = nI (cn x) ∧ cn x < 20 := by
  rcases h with h1 | h1
  · rw [h1] at h0
    exact absurd (by decide) h0
  · exact ⟨h1.1, Nat.lt_of_lt_of_le h1.2.1 hi⟩
def rf_put (S : ka_F) : ka_F := wU S (cn (rf_first S)) 6 (S 2 + S 13)
def rf_stop (S : ka_F) : Prop := rf_first S < 0 ∨ ¬ rf_inRep S false < 2
def rf_fillAt (S : ka_F) : ka_F := if rf_first S < 0 then S else if rf_inRep S false < 2 then rf_put S else S
def rf_fillX (S : ka_F) (i : Nat) : ka_F := itr (fun _ T => rf_fillAt T) i S
theorem rf_fillX_0 {S : ka_F} : rf_fillX S 0 = S := rfl
theorem rf_fillX_s {S : ka_F} {i : Nat} : rf_fillX S (i + 1) = rf_fillAt (rf_fillX S i) := rfl
def rf_fill (S : ka_F) : ka_F := rf_fillX S 3
theorem rf_fillAt_stop {S : ka_F} (h : rf_stop S) : rf_fillAt S = S := by
  unfold rf_fillAt
  rcases h with h | h
  · rw [if_pos h]
  · split
    · rfl
    · first | rfl | rw [if_neg h]
theorem rf_fillX_stop {S : ka_F} {i n : Nat} (h : rf_stop (rf_fillX S i)) (hi : i ≤ n) : rf_fillX S n = rf_fillX S i :=
  itr_stop (fun x => rf_stop x) (fun _ x hx => rf_fillAt_stop hx) h n hi
theorem rx_put {S : ka_F} : rx S (rf_put S) := rx.wU rx.rf (by decide) (by decide)
theorem rx_fillAt {S : ka_F} : rx S (rf_fillAt S) := by
  unfold rf_fillAt
  split
  · exact rx.rf
  · split
    · exact rx_put
    · exact rx.rf
theorem rx_fillX {S : ka_F} {i : Nat} : rx S (rf_fillX S i) := itr_inv (fun _ T => rx S T) rx.rf (fun _ _ h => h.tr rx_fillAt) i
theorem rx_fill {S : ka_F} : rx S (rf_fill S) := by unfold rf_fill; exact rx_fillX
/-- counting -/
def cntN (p : Nat → Bool) : Nat → Nat
  | 0 => 0
  | n + 1 => cntN p n + if p n = true then 1 else 0
theorem cntN_le {p : Nat → Bool} : ∀ n, cntN p n ≤ n
  | 0 => Nat.le_refl _
  | n + 1 => by
    have := cntN_le (p := p) n
    unfold cntN
    split <;> omega
theorem cntN_eq {p q : Nat → Bool} : ∀ n, (∀ i, i < n → p i = q i) → cntN p n = cntN q n
  | 0, _ => rfl
  | n + 1, h => by
    unfold cntN
    rw [cntN_eq n (fun i hi => h i (by omega)), h n (by omega)]
theorem cntN_one {p q : Nat → Bool} {f : Nat} (hp : p f = false) (hq : q f = true) (he : ∀ i, i ≠ f → q i = p i) : ∀ n, f < n → cntN q n = cntN p n + 1
  | 0, h => absurd h (Nat.not_lt_zero _)
  | n + 1, h => by
    unfold cntN
    by_cases h1 : f = n
    · subst h1
      rw [hp, hq, cntN_eq (p := q) (q := p) f (fun i hi => he i (by omega))]
      simp
    · rw [cntN_one hp hq he n (by omega), he n (fun e => h1 e.symm)]
      omega
def rf_rep (S : ka_F) (b : Bool) (i : Nat) : Bool := decide (wg S i 3 = 2) && (b || !decide (wg S i 6 < 0))
theorem rf_inRepX_n {S : ka_F} {b : Bool} : ∀ i, rf_inRepX S b i = nI (cntN (rf_rep S b) i)
  | 0 => rfl
  | i + 1 => by
    rw [rf_inRepX_s, rf_inRepX_n i]
    unfold rf_inRepAt
    show _ = nI (cntN (rf_rep S b) i + if rf_rep S b i = true then 1 else 0)
    unfold rf_rep
    generalize cntN (fun i => decide (wg S i 3 = 2) && (b || !decide (wg S i 6 < 0))) i = c
    by_cases c1 : wg S i 3 = 2
    · rw [if_pos c1]
      cases b
      · by_cases c2 : wg S i 6 < 0
        · simp [c1, c2]
        · simp [c1, c2, nI_1]
      · simp [c1, nI_1]
    · rw [if_neg c1]
      simp [c1]
theorem rf_first_fd {S : ka_F} (hn : cn (S 1) ≤ 20) : rf_fd S (cn (S 1)) (rf_first S) := rf_firstX_fd _ hn
theorem rf_put_cnt {S : ka_F} (hn : cn (S 1) ≤ 20) (hv : ¬ S 2 + S 13 < 0) (hf : ¬ rf_first S < 0) : cntN (rf_rep (rf_put S) false) (cn (S 1)) = cntN (rf_rep S false) (cn (S 1)) + 1 := by
  rcases rf_first_fd hn with h | ⟨h1, h2, h3, h4⟩
  · rw [h] at hf
    exact absurd (by decide) hf
  · refine cntN_one (f := cn (rf_first S)) ?_ ?_ ?_ _ h2
    · unfold rf_rep
      simp [h4]
    · unfold rf_rep rf_put
      rw [wU_s, wU_n (by decide) (by decide) (fun _ => by decide)]
      simp [h3, hv]
    · intro i hi
      unfold rf_rep rf_put
      rw [wU_n (by decide) (by decide) (fun e => absurd e hi), wU_n (by decide) (by decide) (fun e => absurd e hi)]
theorem rf_fill_key {S : ka_F} (hn : cn (S 1) ≤ 20) (hv : ¬ S 2 + S 13 < 0) : ∀ i, rf_stop (rf_fillX S i) ∨ i ≤ cntN (rf_rep (rf_fillX S i) false) (cn (S 1))
  | 0 => Or.inr (Nat.zero_le _)
  | i + 1 => by
    have ih := rf_fill_key hn hv i
    have hx : rx S (rf_fillX S i) := rx_fillX
    rw [rf_fillX_s]
    generalize rf_fillX S i = T at ih hx
    by_cases h1 : rf_stop T
    · rw [rf_fillAt_stop h1]
      exact Or.inl h1
    · rcases ih with h2 | h2
      · exact absurd h2 h1
      · right
        have c1 : ¬ rf_first T < 0 := fun h => h1 (Or.inl h)
        have c2 : rf_inRep T false < 2 := by
          by_cases c : rf_inRep T false < 2
          · exact c
          · exact absurd (Or.inr c) h1
        unfold rf_fillAt
        rw [if_neg c1, if_pos c2]
        have h3 := rf_put_cnt (S := T) (by rw [hx.s1]; exact hn) (by rw [hx.s2, hx.hi (by decide) (by decide)]; exact hv) c1
        rw [hx.s1] at h3
        omega
theorem rf_fill_end {S : ka_F} (hn : cn (S 1) ≤ 20) (hv : ¬ S 2 + S 13 < 0) : rf_stop (rf_fill S) := by
  rcases rf_fill_key hn hv 3 with h | h
  · exact h
  · refine Or.inr ?_
    have hx : rx S (rf_fill S) := rx_fill
    unfold rf_inRep
    rw [hx.s1, rf_inRepX_n]
    have h2 := cntN_le (p := rf_rep (rf_fill S) false) (cn (S 1))
    have h3 : 3 ≤ cntN (rf_rep (rf_fill S) false) (cn (S 1)) := h
    exact nI_nlt (a := cntN (rf_rep (rf_fill S) false) (cn (S 1))) (b := 2) (by omega) (by omega)
theorem MK.v {D : Nat} {S : ka_F} (h : MK D S) (hD : D < 10000) : ¬ S 2 + S 13 < 0 := by
  obtain ⟨_, _, h2, h3, _⟩ := h
  rw [h2.1, h3.1, nI_add]
  have := h2.2
  have := h3.2
  exact nI_pos (by omega)
def rf_arr1 (S : ka_F) (i : Nat) : ka_F := wU (wU (wU S i 3 0) i 4 (wg (wU S i 3 0) i 4 + wg (wU S i 3 0) i 8)) i 5 (-1)
def rf_arrAt (i : Nat) (x : ka_F × Int32) : ka_F × Int32 := if wg x.1 i 3 = 1 then (if wg x.1 i 6 = x.1 2 then (rf_arr1 x.1 i, x.2 + 1) else x) else x
def rf_arrX (S : ka_F) (i : Nat) : ka_F × Int32 := itr rf_arrAt i (S, 0)
theorem rf_arrX_0 {S : ka_F} : rf_arrX S 0 = (S, 0) := rfl
theorem rf_arrX_s {S : ka_F} {i : Nat} : rf_arrX S (i + 1) = rf_arrAt i (rf_arrX S i) := rfl
def rf_arr (S : ka_F) : ka_F × Int32 := rf_arrX S (cn (S 1))
theorem rx_arr1 {S : ka_F} {i : Nat} : rx S (rf_arr1 S i) := ((rx.rf.wU (by decide) (by decide)).wU (by decide) (by decide)).wU (by decide) (by decide)
theorem rx_arrAt {i : Nat} {x : ka_F × Int32} : rx x.1 (rf_arrAt i x).1 := by
  unfold rf_arrAt
  split
  · split
    · exact rx_arr1
    · exact rx.rf
  · exact rx.rf
theorem rx_arrX {S : ka_F} {i : Nat} : rx S (rf_arrX S i).1 := itr_inv (fun _ (x : ka_F × Int32) => rx S x.1) rx.rf (fun _ _ h => h.tr rx_arrAt) i
theorem rx_arr {S : ka_F} : rx S (rf_arr S).1 := by unfold rf_arr; exact rx_arrX
def rf_rep1 (S : ka_F) (i : Nat) : ka_F := sA (wU (wU (wU S i 3 0) i 4 0) i 5 (-1)) 3 1
def rf_repAt (i : Nat) (S : ka_F) : ka_F := if wg S i 3 = 2 then (if wg S i 6 = S 2 then rf_rep1 S i else S) else S
def rf_repX (S : ka_F) (i : Nat) : ka_F := itr rf_repAt i S
theorem rf_repX_0 {S : ka_F} : rf_repX S 0 = S := rfl
theorem rf_repX_s {S : ka_F} {i : Nat} : rf_repX S (i + 1) = rf_repAt i (rf_repX S i) := rfl
def rf_reps0 (S : ka_F) : ka_F := rf_repX S (cn (S 1))
def rf_reps (S : ka_F) : ka_F := rf_fill (rf_reps0 S)
theorem rx_repAt {S : ka_F} {i : Nat} : rx S (rf_repAt i S) := by
  unfold rf_repAt
  split
  · split
    · exact (((rx.rf.wU (by decide) (by decide)).wU (by decide) (by decide)).wU (by decide) (by decide)).sA (by decide) (by decide)
    · exact rx.rf
  · exact rx.rf
theorem rx_repX {S : ka_F} {i : Nat} : rx S (rf_repX S i) := itr_inv (fun _ T => rx S T) rx.rf (fun _ _ h => h.tr rx_repAt) i
theorem rx_reps0 {S : ka_F} : rx S (rf_reps0 S) := by unfold rf_reps0; exact rx_repX
theorem rx_reps {S : ka_F} : rx S (rf_reps S) := by unfold rf_reps; exact rx_reps0.tr rx_fill
def rf_dem (S : ka_F) (o : Nat) : ka_F := qA (qA (rf_pays S o 0 (S 8)) o 3 (S 8)) 0 3 (S 8)
def rf_hire (S : ka_F) (p o : Nat) : ka_F := qA (qA (rf_pays S p o (S 9)) p 4 (-(S 9))) o 4 (S 9)
def rf_chg1 (S : ka_F) (w : Nat) : ka_F := if wg S w 1 = 0 then (if wg S w 2 = 1 then (if S 7 < wg S w 5 then rf_dem S (cn (wg S w 0)) else S) else S) else S
def rf_chg2 (T : ka_F) (p o : Int32) : ka_F := if 0 < p then (if p = o then T else rf_hire T (cn p) (cn o)) else T
def rf_chg (S : ka_F) (w : Nat) : ka_F := rf_chg2 (rf_chg1 S w) (wg S w 1) (wg S w 0)
theorem rx_pays {S : ka_F} {a b : Nat} {v : Int32} (ha : a < 5) (hb : b < 5) : rx S (rf_pays S a b v) := (rx.rf.qA ha (by decide)).qA hb (by decide)
theorem rx_dem {S : ka_F} {o : Nat} (ho : o < 5) : rx S (rf_dem S o) := ((rx_pays ho (by decide)).qA ho (by decide)).qA (by decide) (by decide)
theorem rx_hire {S : ka_F} {p o : Nat} (hp : p < 5) (ho : o < 5) : rx S (rf_hire S p o) := ((rx_pays hp ho).qA hp (by decide)).qA ho (by decide)
theorem rx_chg1 {S : ka_F} {w : Nat} (ho : cn (wg S w 0) < 5) : rx S (rf_chg1 S w) := by
  unfold rf_chg1
  split
  · split
    · split
      · exact rx_dem ho
      · exact rx.rf
    · exact rx.rf
  · exact rx.rf
theorem rx_chg {S : ka_F} {w : Nat} (ho : cn (wg S w 0) < 5) (hp : cn (wg S w 1) < 5) : rx S (rf_chg S w) := by
  unfold rf_chg
  have h := rx_chg1 ho
  generalize rf_chg1 S w = T at h ⊢
  unfold rf_chg2
  split
  · split
    · exact h
    · exact h.tr (rx_hire hp ho)
  · exact h
def rf_cap (x : Int32) : Int32 := if 999 < x then 999 else x
def rf_grAt (i : Nat) (S : ka_F) : ka_F := qU S (i + 1) 0 (rf_cap (pg S (i + 1) 0 + pg S (i + 1) 1))
def rf_grX (S : ka_F) (i : Nat) : ka_F := itr rf_grAt i S
theorem rf_grX_0 {S : ka_F} : rf_grX S 0 = S := rfl
theorem rf_grX_s {S : ka_F} {i : Nat} : rf_grX S (i + 1) = rf_grAt i (rf_grX S i) := rfl
theorem rx_grX {S : ka_F} : ∀ {i : Nat}, i ≤ 4 → rx S (rf_grX S i)
  | 0, _ => rx.rf
  | i + 1, h => (rx_grX (i := i) (by omega)).qU (by omega) (by decide)
def rf_day1 (S : ka_F) : ka_F := rf_grX (sA S 2 1) (cn (S 0))
def rf_day2 (S : ka_F) : ka_F × Int32 := rf_arr (rf_day1 S)
def rf_day3 (S : ka_F) : ka_F := rf_reps (rf_day2 S).1
def rf_stAt (i : Nat) (S : ka_F) : ka_F := if wg S i 3 = 0 then rf_chg (wU S i 5 (wg S i 5 + 1)) i else S
def rf_stX (S : ka_F) (i : Nat) : ka_F := itr rf_stAt i S
theorem rf_stX_0 {S : ka_F} : rf_stX S 0 = S := rfl
theorem rf_stX_s {S : ka_F} {i : Nat} : rf_stX S (i + 1) = rf_stAt i (rf_stX S i) := rfl
def rf_day (S : ka_F) : ka_F := rf_stX (rf_day3 S) (cn (S 1))
theorem MK.next {D : Nat} {S : ka_F} (h : MK D S) (hD : D < 10000) : MK (D + 1) (sA S 2 1) := by
  obtain ⟨h0, h1, h2, h3, h4⟩ := h
  refine ⟨?_, ?_, ?_, ?_, fun w hw => ?_⟩
  · rw [sA_n (by decide)]; exact h0
  · rw [sA_n (by decide)]; exact h1
  · have := h2.2
    rw [sA_s, h2.1, nI_1]
    exact ub_nI (by omega) (by omega)
  · rw [sA_n (by decide)]; exact h3
  · rw [sA_w (by decide), sA_w (by decide)]; exact h4 w hw
theorem rx_stAt {D : Nat} {S : ka_F} {i : Nat} (hM : MK D S) (hi : i < 20) : rx S (rf_stAt i S) := by
  unfold rf_stAt
  split
  · have h : rx S (wU S i 5 (wg S i 5 + 1)) := rx.rf.wU (by decide) (by decide)
    have h2 := MK.of h hM
    exact h.tr (rx_chg (h2.o5 hi) (h2.a5 hi))
  · exact rx.rf
theorem rx_stX {D : Nat} {S : ka_F} (hM : MK D S) : ∀ {i : Nat}, i ≤ 20 → rx S (rf_stX S i)
  | 0, _ => rx.rf
  | i + 1, h => by
    have ih := rx_stX hM (i := i) (by omega)
    rw [rf_stX_s]
    exact ih.tr (rx_stAt (MK.of ih hM) (by omega))
theorem rx_day1 {D : Nat} {S : ka_F} (hM : MK D S) : rx (sA S 2 1) (rf_day1 S) := rx_grX hM.m
theorem rx_day2 {D : Nat} {S : ka_F} (hM : MK D S) : rx (sA S 2 1) (rf_day2 S).1 := by
  have h := rx_day1 hM
  unfold rf_day2
  generalize rf_day1 S = T at h ⊢
  exact h.tr rx_arr
theorem rx_day3 {D : Nat} {S : ka_F} (hM : MK D S) : rx (sA S 2 1) (rf_day3 S) := by
  have h := rx_day2 hM
  unfold rf_day3
  generalize (rf_day2 S).1 = T at h ⊢
  exact h.tr rx_reps
theorem rx_day {D : Nat} {S : ka_F} (hM : MK D S) (hD : D < 10000) : rx (sA S 2 1) (rf_day S) := by
  have h := rx_day3 hM
  unfold rf_day
  generalize rf_day3 S = T at h ⊢
  exact h.tr (rx_stX (MK.of h (hM.next hD)) hM.n)
theorem MK.day {D : Nat} {S : ka_F} (hM : MK D S) (hD : D < 10000) : MK (D + 1) (rf_day S) := MK.of (rx_day hM hD) (hM.next hD)
def rf_days (S : ka_F) (i : Nat) : ka_F × Int32 := itr (fun _ x => (rf_day x.1, x.2 + (rf_day2 x.1).2)) i (S, 0)
theorem rf_days_0 {S : ka_F} : rf_days S 0 = (S, 0) := rfl
theorem rf_days_s {S : ka_F} {i : Nat} : rf_days S (i + 1) = (rf_day (rf_days S i).1, (rf_days S i).2 + (rf_day2 (rf_days S i).1).2) := rfl
theorem MK.days {D : Nat} {S : ka_F} (hM : MK D S) : ∀ i, D + i ≤ 10000 → MK (D + i) (rf_days S i).1
  | 0, _ => hM
  | i + 1, h => by
    rw [rf_days_s]
    have ih := MK.days hM i (by omega)
    generalize (rf_days S i).1 = T at ih ⊢
    exact ih.day (by omega)
theorem rf_fill_lt {S : ka_F} {i : Nat} (h : rf_stop (rf_fill S)) (hle : i ≤ 3) (c1 : ¬ rf_first (rf_fillX S i) < 0) (c2 : rf_inRep (rf_fillX S i) false < 2) : i < 3 := by
  rcases Nat.lt_or_ge i 3 with h1 | h1
  · exact h1
  · have e : i = 3 := by omega
    subst e
    rcases h with h | h
    · exact absurd h c1
    · exact absurd c2 h
theorem MK.m5 {D : Nat} {S : ka_F} (h : MK D S) : S 0 < 5 := by
  rw [h.1.1]
  have := h.1.2
  exact nI_lt (a := cn (S 0)) (b := 5) (by omega) (by decide)
theorem rf_kw_nat {x n : Int32} {N : Nat} (hn : ub N n) (h : kw x 0 n = true) : ∃ k, k ≤ cn n ∧ k ≤ N ∧ x = nI k := by
  obtain ⟨h1, h2⟩ := kw_t h
  obtain ⟨k, hk, rfl⟩ := nI_of h1
  have h3 := nlt_int h2
  rw [nI_toInt hk, hn.int] at h3
  exact ⟨k, by omega, by have := hn.2; omega, rfl⟩
theorem rf_isPlace_of {D : Nat} {S : ka_F} {x : Int32} (hM : MK D S) (h : rf_isPlace S x = true) : ∃ p, p < 5 ∧ x = nI p := by
  obtain ⟨k, _, hk, e⟩ := rf_kw_nat hM.1 h
  exact ⟨k, by omega, e⟩
theorem rf_isMine_of {D : Nat} {S : ka_F} {x : Int32} (hM : MK D S) (h : rf_isMine S x = true) : ∃ p, p < 5 ∧ x = nI p := by
  obtain ⟨h1, h2⟩ := kw_t h
  refine rf_isPlace_of hM ?_
  unfold rf_isPlace kw
  have h3 : ¬ x < 0 := fun h => h1 (by
    have := lt_int h
    refine Int32.lt_iff_toInt_lt.mpr ?_
    have e0 : (0 : Int32).toInt = 0 := by decide
    have e1 : (1 : Int32).toInt = 1 := by decide
    omega)
  simp [h3, h2]
theorem rf_isWagon_of {D : Nat} {S : ka_F} {x : Int32} (hM : MK D S) (h : rf_isWagon S x = true) : ∃ w, w < cn (S 1) ∧ w < 20 ∧ x = nI w := by
  obtain ⟨h1, h2⟩ := kw_t h
  obtain ⟨k, hk, rfl⟩ := nI_of h1
  have h3 := nlt_int h2
  have h4 := hM.2.1
  rw [h4.1] at h3
  have := h4.2
  rw [nI_m (by omega), nI_toInt hk] at h3
  exact ⟨k, by omega, by omega, rfl⟩
theorem MK.w20 {D : Nat} {S : ka_F} (h : MK D S) (c : ¬ S 1 = 20) : cn (S 1) < 20 := by
  have h1 := h.2.1.1
  have h2 := h.2.1.2
  rcases Nat.lt_or_ge (cn (S 1)) 20 with h3 | h3
  · exact h3
  · exact absurd (h1.trans (by rw [show cn (S 1) = 20 by omega]; rfl)) c
def rf_zero (S : ka_F) (n i : Nat) : ka_F := itr (fun k T => wU T n k 0) i S
theorem rf_zero_0 {S : ka_F} {n : Nat} : rf_zero S n 0 = S := rfl
theorem rf_zero_s {S : ka_F} {n i : Nat} : rf_zero S n (i + 1) = wU (rf_zero S n i) n i 0 := rfl
def rf_join (S : ka_F) (x : Int32) : ka_F := wU (wU (wU (rf_zero (sA S 1 1) (cn (S 1)) 10) (cn (S 1)) 0 x) (cn (S 1)) 1 x) (cn (S 1)) 6 (-1)
def rf_joins (S : ka_F) (x : Int32) : Int32 × ka_F := if rf_isMine S x = false then (-2000000001, S) else if S 1 = 20 then (-2000000003, S) else (S 1, rf_join S x)
def rf_load1 (S : ka_F) (w p : Nat) : ka_F := wU (wU (qA (qA S p 0 (-30)) p 5 30) w 2 1) w 5 0
def rf_load (S : ka_F) (w p : Nat) : ka_F := wU (rf_load1 S w p) w 7 (wg (rf_load1 S w p) w 7 + 1)
def rf_loads (S : ka_F) (x : Int32) : Int32 × ka_F := if rf_isWagon S x = false then (-2000000001, S) else if 0 < rf_whyNot S (cn x) then (-2000000002, S) else (pg (rf_load S (cn x) (cn (wg S (cn x) 1))) (cn (wg S (cn x) 1)) 0, rf_load S (cn x) (cn (wg S (cn x) 1)))
def rf_unl (S : ka_F) (w : Nat) : ka_F := wU (wU (qA (rf_pays S 0 (cn (wg S w 0)) (30 * S 11)) 0 5 30) w 2 0) w 5 0
def rf_unloads (S : ka_F) (x : Int32) : Int32 × ka_F := if rf_isWagon S x = false then (-2000000001, S) else if wg S (cn x) 2 = 0 then (-2000000002, S) else if rf_stands S (cn x) 0 = false then (-2000000002, S) else (pg (rf_unl S (cn x)) (cn (wg (rf_unl S (cn x)) (cn x) 0)) 2, rf_unl S (cn x))
def rf_snd1 (S : ka_F) (w : Nat) : ka_F := wU (wU (rf_pays S (cn (wg S w 0)) 0 (S 12)) w 3 2) w 6 (-1)
def rf_snd (S : ka_F) (w : Nat) : ka_F := sA (wU (rf_snd1 S w) w 9 (rf_snd1 S w 6)) 6 1
def rf_sends (S : ka_F) (x : Int32) : Int32 × ka_F := if rf_isWagon S x = false then (-2000000001, S) else if wg S (cn x) 2 = 1 then (-2000000002, S) else if rf_stands S (cn x) 0 = false then (-2000000002, S) else (rf_inRep S true, rf_fill (rf_snd S (cn x)))
theorem rx_unl {S : ka_F} {w : Nat} (ho : cn (wg S w 0) < 5) : rx S (rf_unl S w) := (((rx_pays (by decide) ho).qA (by decide) (by decide)).wU (by decide) (by decide)).wU (by decide) (by decide)
theorem rx_snd1 {S : ka_F} {w : Nat} (ho : cn (wg S w 0) < 5) : rx S (rf_snd1 S w) := ((rx_pays ho (by decide)).wU (by decide) (by decide)).wU (by decide) (by decide)
theorem rx_snd {S : ka_F} {w : Nat} (ho : cn (wg S w 0) < 5) : rx S (rf_snd S w) := ((rx_snd1 ho).wU (by decide) (by decide)).sA (by decide) (by decide)
def rf_go1 (T : ka_F) (i : Nat) (to : Int32) : ka_F := wU (wU T i 3 1) i 1 to
def rf_go (T : ka_F) (i : Nat) (to leg : Int32) : ka_F := wU (wU (rf_go1 T i to) i 6 (rf_go1 T i to 2 + leg)) i 8 leg
def rf_tr1 (to leg : Int32) (i : Nat) (x : ka_F × Int32 × Int32 × Int32) : ka_F × Int32 × Int32 × Int32 := (rf_go x.1 i to leg, x.2.1 ||| (1 <<< (nI i &&& 31)), x.2.2.1 + 1, x.2.2.2 + wg x.1 i 2)
def rf_trainAt (frm to kind many leg : Int32) (i : Nat) (x : ka_F × Int32 × Int32 × Int32) : ka_F × Int32 × Int32 × Int32 :=
  if ¬ x.2.2.1 < many then x else if rf_stands x.1 i frm = true then (if kind = 2 then rf_tr1 to leg i x else if wg x.1 i 2 = kind then rf_tr1 to leg i x else x) else x
def rf_leg (S : ka_F) (a b : Int32) : Int32 := S (14 + 5 * cn a + cn b)
def rf_trainX (S : ka_F) (frm to kind many : Int32) (i : Nat) : ka_F × Int32 × Int32 × Int32 := itr (rf_trainAt frm to kind many (rf_leg S frm to)) i (S, 0, 0, 0)
theorem rf_trainX_0 {S : ka_F} {frm to kind many : Int32} : rf_trainX S frm to kind many 0 = (S, 0, 0, 0) := rfl
theorem rf_trainX_s {S : ka_F} {frm to kind many : Int32} {i : Nat} : rf_trainX S frm to kind many (i + 1) = rf_trainAt frm to kind many (rf_leg S frm to) i (rf_trainX S frm to kind many i) := rfl
theorem rf_trainX_stop {S : ka_F} {frm to kind many : Int32} {i n : Nat} (h : ¬ (rf_trainX S frm to kind many i).2.2.1 < many) (hi : i ≤ n) : rf_trainX S frm to kind many i = rf_trainX S frm to kind many n :=
  (itr_stop (fun x => ¬ x.2.2.1 < many) (fun i x hx => by unfold rf_trainAt; rw [if_pos hx]) h n hi).symm
theorem rf_trainAt_j {frm to kind many leg : Int32} {i j : Nat} {x : ka_F × Int32 × Int32 × Int32} (hj : j < 69) : (rf_trainAt frm to kind many leg i x).1 j = x.1 j := by
  have h : (rf_tr1 to leg i x).1 j = x.1 j := by
    show rf_go x.1 i to leg j = x.1 j
    unfold rf_go rf_go1
    rw [wU_j hj, wU_j hj, wU_j hj, wU_j hj]
  unfold rf_trainAt
  split
  · rfl
  · split
    · split
      · exact h
      · split
        · exact h
        · rfl
    · rfl
theorem rf_trainX_j {S : ka_F} {frm to kind many : Int32} {i j : Nat} (hj : j < 69) : (rf_trainX S frm to kind many i).1 j = S j :=
  itr_inv (fun _ (x : ka_F × Int32 × Int32 × Int32) => x.1 j = S j) rfl (fun _ _ h => (rf_trainAt_j hj).trans h) i
def rf_trains (S : ka_F) (a b kind many : Int32) : Int32 × ka_F :=
  if rf_isPlace S a = false then (-2000000001, S) else if rf_isPlace S b = false then (-2000000001, S) else if a = b then (-2000000001, S)
  else if kw kind 0 2 = false then (-2000000001, S) else if kw many 1 8 = false then (-2000000001, S)
  else if (rf_trainX S a b kind many (cn (S 1))).2.2.1 = 0 then (-2000000002, (rf_trainX S a b kind many (cn (S 1))).1)
  else ((rf_trainX S a b kind many (cn (S 1))).2.1, if (rf_trainX S a b kind many (cn (S 1))).2.2.2 = 0 then sA (sA (rf_trainX S a b kind many (cn (S 1))).1 4 1) 5 1 else sA (sA (rf_trainX S a b kind many (cn (S 1))).1 4 1) 5 0)
def rf_passes (S : ka_F) (x : Int32) : Int32 × ka_F := if kw x 1 99 = false then (-2000000001, S) else if 1999 < S 2 + x then (-2000000003, S) else ((rf_days S (cn x)).2, (rf_days S (cn x)).1)
theorem kw_cn {x : Int32} {lo : Int32} {n : Nat} (hlo : ¬ lo < 0) (hn : n < 2 ^ 31) (h : kw x lo (nI n) = true) : cn x ≤ n := by
  obtain ⟨h1, h2⟩ := kw_t h
  have h3 := nlt_int h1
  have h4 := nlt_int h2
  have h5 := nlt_int hlo
  have e0 : (0 : Int32).toInt = 0 := by decide
  rw [nI_toInt hn] at h4
  rw [cn_int]
  omega
theorem rf_trainX_go {S : ka_F} {frm to kind many : Int32} {i : Nat} (h1 : (rf_trainX S frm to kind many i).2.2.1 < many) (h2 : rf_stands (rf_trainX S frm to kind many i).1 i frm = true) (h3 : kind = 2 ∨ wg (rf_trainX S frm to kind many i).1 i 2 = kind) : rf_trainX S frm to kind many (i + 1) = rf_tr1 to (rf_leg S frm to) i (rf_trainX S frm to kind many i) := by
  rw [rf_trainX_s]
  unfold rf_trainAt
  rw [if_neg (not_not_intro h1), if_pos h2]
  rcases h3 with h3 | h3
  · rw [if_pos h3]
  · split
    · rfl
    · first | rfl | rw [if_pos h3]
