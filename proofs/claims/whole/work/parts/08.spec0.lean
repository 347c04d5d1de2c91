/-! what the class' methods do, over a pool's numbers P (offset, slot): words for the contracts -/
theorem ka_cat1 {As : List Value} (h : (As.all fun v => v.category == 1) = true) : ∀ v ∈ As, v.category = 1 := fun v hv => by simpa using List.all_eq_true.mp h v hv
theorem ka_pn_X0 : plainName RX0 = true := by decide +kernel
theorem ka_pn_X1 : plainName RX1 = true := by decide +kernel
theorem ka_pn_X2 : plainName RX2 = true := by decide +kernel
theorem ka_pn_X3 : plainName RX3 = true := by decide +kernel
theorem ka_pn_X4 : plainName RX4 = true := by decide +kernel
theorem ka_pn_X5 : plainName RX5 = true := by decide +kernel
theorem ka_pn_X6 : plainName RX6 = true := by decide +kernel
theorem ka_pn_X7 : plainName RX7 = true := by decide +kernel
theorem ka_entryF {G : ka_G} {y : MethodName} {bytes : ByteArray} {maxL : Nat} {ret : Option FieldType} {d : Nat} {As : List Value} {V : ka_W} {v : Option Value} {V' : ka_W} (hG : ka_AD G) (hy : plainFor y = true) (hc : ∀ v ∈ As, v.category = 1) (hl : As.length ≤ maxL)
    (body : ∀ X : ka_X, ka_C G X bytes y.cls maxL d → ka_R G X ret v V' → ka_I G X V 0 As []) : ka_M G y bytes maxL ret d As V v V' := by
  refine va_MetF (cc := bytes) (maxL := maxL) (ret := ret) hy rfl ?_
  intro p e s m args below meth c s₁ B hml hv
  obtain ⟨rfl, hP, hK, hN, hZ⟩ := hv
  have hts := atoms_spec (ws := ka_ws y bytes maxL ret) B.pre
  have b := body (p, e, (headSpec (ka_ws y bytes maxL ret) (ka_rm d)).room, s, m, As.toArray, below, meth, c, ka_A G, 0, 0, MQ below (fun _ st oc t => oc = .returned v ∧ ka_Pre G V' t ∧ va_F (ka_A G) st t) As.toArray s 0 0 (ka_A G)) ⟨B.exec, B.bytes, hml, findClass_of_methodNamed B.named, fun w hw => hts w (List.mem_cons_of_mem _ hw), hK, hN, hZ, hG, fun _ h => h, ⟨Nat.le_refl _, Nat.le_refl _, Nat.le_refl _, Nat.le_refl _⟩⟩ ⟨B.returns, B.notSynchronized, rfl, rfl⟩
  rw [lg_entry_eq]
  refine b s.heap [] _ hP va_S.rf ⟨?_, hc⟩
  have h1 := lv_entry As (n := maxL) (by rw [ka_lg hc]; exact hl)
  rw [ka_lx_args hc] at h1
  rw [hml]
  exact h1
theorem ka_I.back {G : ka_G} {X : ka_X} {V V' : ka_W} {pc : Nat} {L L' st : List Value} (n : Nat) (hV : V = V') (hL : L.take n = L') (k : ka_I G X V' pc L' st) : ka_I G X V pc L st := by
  subst hV
  exact ka_I.drop n hL k
abbrev ka_P : Type := Nat → Nat → Int32
def itr {σ : Type} (f : Nat → σ → σ) : Nat → σ → σ
  | 0, s => s
  | n + 1, s => f n (itr f n s)
theorem itr_0 {σ : Type} {f : Nat → σ → σ} {s : σ} : itr f 0 s = s := rfl
theorem itr_s {σ : Type} {f : Nat → σ → σ} {n : Nat} {s : σ} : itr f (n + 1) s = f n (itr f n s) := rfl
theorem itr_inv {σ : Type} {f : Nat → σ → σ} {s : σ} (I : Nat → σ → Prop) (h0 : I 0 s) (hs : ∀ i x, I i x → I (i + 1) (f i x)) : ∀ n, I n (itr f n s)
  | 0 => h0
  | n + 1 => hs n _ (itr_inv I h0 hs n)
theorem itr_stop {σ : Type} {f : Nat → σ → σ} {s : σ} (stop : σ → Prop) (hs : ∀ i x, stop x → f i x = x) {i : Nat} (h : stop (itr f i s)) : ∀ n, i ≤ n → itr f n s = itr f i s := by
  intro n
  induction n with
  | zero => intro h1; rw [show i = 0 by omega]
  | succ n ih =>
    intro h1
    rcases Nat.lt_or_ge n i with h2 | h2
    · rw [show i = n + 1 by omega]
    · rw [itr_s, ih h2, hs n _ h]
def cn (x : Int32) : Nat := x.toNatClampNeg
theorem cn_lt (x : Int32) : cn x < 2 ^ 31 := by
  have h := Int32.toInt_lt x
  show x.toInt.toNat < _
  omega
theorem cn_int (x : Int32) : cn x = x.toInt.toNat := rfl
theorem lt_cn {i : Nat} {x : Int32} (hi : i ≤ cn x) (h : nI i < x) : i < cn x := by
  have h1 := Int32.lt_iff_toInt_lt.mp h
  rw [nI_toInt (Nat.lt_of_le_of_lt hi (cn_lt x))] at h1
  rw [cn_int] at *
  omega
theorem nlt_cn {i : Nat} {x : Int32} (hi : i ≤ cn x) (h : ¬ nI i < x) : i = cn x := by
  have h1 : ¬ (nI i).toInt < x.toInt := fun z => h (Int32.lt_iff_toInt_lt.mpr z)
  rw [nI_toInt (Nat.lt_of_le_of_lt hi (cn_lt x))] at h1
  rw [cn_int] at *
  omega
theorem cn_cap {x m : Int32} {n : Nat} (hm : m = nI n) (hn : n < 2 ^ 31) (h : x < m) : cn x < n ∨ cn x = 0 := by
  subst hm
  have h1 := Int32.lt_iff_toInt_lt.mp h
  rw [nI_toInt hn] at h1
  rw [cn_int]
  omega
theorem le_cn {i n : Nat} {x m : Int32} (hm : m = nI n) (hn : n < 2 ^ 31) (hx : x < m) (hi : i ≤ cn x) (h : ¬ x < nI (i + 1)) : i < cn x := by
  subst hm
  have h0 := cn_lt x
  have h1 : ¬ x.toInt < (nI (i + 1)).toInt := fun z => h (Int32.lt_iff_toInt_lt.mpr z)
  have h2 := Int32.lt_iff_toInt_lt.mp hx
  rw [nI_toInt hn] at h2
  have h3 : i + 1 < 2 ^ 31 := by rw [cn_int] at *; omega
  rw [nI_toInt h3] at h1
  rw [cn_int] at *
  omega
theorem nle_cn {i n : Nat} {x m : Int32} (hm : m = nI n) (hn : n < 2 ^ 31) (hx : x < m) (hi : i ≤ cn x) (h : x < nI (i + 1)) : i = cn x := by
  subst hm
  have h0 := cn_lt x
  have h1 := Int32.lt_iff_toInt_lt.mp h
  have h2 := Int32.lt_iff_toInt_lt.mp hx
  rw [nI_toInt hn] at h2
  have h3 : i + 1 < 2 ^ 31 := by rw [cn_int] at *; omega
  rw [nI_toInt h3] at h1
  rw [cn_int] at *
  omega
theorem ka_vpin (n : Nat) {m x : Int32} (hm : m = nI n) (hn : n < 2 ^ 31) (h1 : ¬ x < 0) (h2 : x < m) : vp_in x n := by
  subst hm
  refine vp_in_iff.mpr ⟨?_, ?_⟩
  · have := fun z => h1 (Int32.lt_iff_toInt_lt.mpr z)
    simp at this
    exact this
  · have := Int32.lt_iff_toInt_lt.mp h2
    rw [nI_toInt hn] at this
    exact this
def kw (v lo hi : Int32) : Bool := !decide (v < lo) && !decide (hi < v)
def plIx (x : Int32) : Nat := if x < 0 then 0 else if x < 5 then cn x else 0
def wgIx (x : Int32) : Nat := if x < 0 then 0 else if x < 20 then cn x else 0
theorem plIx_lt (x : Int32) : plIx x < 5 := by
  unfold plIx
  split
  · decide
  · split
    · next h => rcases cn_cap (n := 5) rfl (by decide) h with h1 | h1 <;> omega
    · decide
theorem wgIx_lt (x : Int32) : wgIx x < 20 := by
  unfold wgIx
  split
  · decide
  · split
    · next h => rcases cn_cap (n := 20) rfl (by decide) h with h1 | h1 <;> omega
    · decide
def pU (P : ka_P) (o j : Nat) (v : Int32) : ka_P := ka_s2 P o (upd (P o) j v)
def sp_isPlace (P : ka_P) (x : Int32) : Bool := kw x 0 (P 0 5)
def sp_isMine (P : ka_P) (x : Int32) : Bool := kw x 1 (P 0 5)
def sp_isLeg (P : ka_P) (a b : Int32) : Bool := sp_isPlace P a && sp_isPlace P b && !decide (a = b)
def sp_isWagon (P : ka_P) (x : Int32) : Bool := kw x 0 (P 0 6 - 1)
def sp_setting (P : ka_P) (x : Int32) : Int32 := if x < 0 then 0 else if x < 7 then P 29 (cn x) else 0
def sp_legDays (P : ka_P) (a b : Int32) : Int32 := if a * 5 + b < 0 then 2 else if a * 5 + b < 25 then P 28 (cn (a * 5 + b)) else 2
def sp_keepLeg (P : ka_P) (a b v : Int32) : ka_P := if a * 5 + b < 0 then P else if a * 5 + b < 25 then ka_s2 P 28 (upd (P 28) (cn (a * 5 + b)) v) else P
def sp_accountOf (P : ka_P) (x : Int32) : Int32 := P (2 + plIx x) 2
def sp_isDue (P : ka_P) (k : Nat) : Bool := !decide (P (8 + k) 4 < sp_setting P 3)
def sp_standFrom (P : ka_P) (k : Nat) (day : Int32) : ka_P := pU (pU P (8 + k) 2 0) (8 + k) 5 day
def sp_leaveFor (P : ka_P) (k : Nat) (to day days : Int32) : ka_P := pU (pU (pU (pU P (8 + k) 2 1) (8 + k) 1 to) (8 + k) 7 days) (8 + k) 6 (day + days)
def sp_standsAt (P : ka_P) (k : Nat) (p : Int32) : Bool := decide (P (8 + k) 2 = 0) && decide (P (8 + k) 1 = p)
def sp_goesTo (P : ka_P) (k : Nat) (p : Int32) : Bool := decide (P (8 + k) 2 = 1) && decide (P (8 + k) 1 = p)
def sp_isHired (P : ka_P) (k : Nat) : Bool := decide (P (8 + k) 2 = 0) && (!decide (P (8 + k) 1 = 0) && !decide (P (8 + k) 1 = P (8 + k) 0))
def sp_full (P : ka_P) (k : Nat) : Bool := ka_t (P (8 + k) 3)
def sp_isLoadedAtPort (P : ka_P) (k : Nat) : Bool := sp_full P k && (decide (P (8 + k) 2 = 0) && decide (P (8 + k) 1 = 0))
def sp_isOfKind (P : ka_P) (k : Nat) (kind : Int32) : Bool := decide (kind = 2) || (sp_full P k == decide (kind = 1))
def sp_grow (P : ka_P) (q : Nat) : ka_P := pU P (2 + q) 1 (if 999 < P (2 + q) 1 + P (2 + q) 0 then 999 else P (2 + q) 1 + P (2 + q) 0)
def sp_pay (P : ka_P) (a b : Nat) (v : Int32) : ka_P := pU (pU P (2 + a) 2 (P (2 + a) 2 - v)) (2 + b) 2 (pU P (2 + a) 2 (P (2 + a) 2 - v) (2 + b) 2 + v)
def sp_add (P : ka_P) (o j : Nat) (v : Int32) : ka_P := pU P o j (P o j + v)
def sp_sub (P : ka_P) (o j : Nat) (v : Int32) : ka_P := pU P o j (P o j - v)
def sp_payHire (P : ka_P) (a b : Nat) (v : Int32) : ka_P := sp_add (sp_add (sp_sub (sp_sub P (2 + a) 2 v) (2 + a) 4 v) (2 + b) 2 v) (2 + b) 4 v
def sp_payDem (P : ka_P) (a b : Nat) (v : Int32) : ka_P := sp_add (sp_add (sp_add (sp_sub P (2 + a) 2 v) (2 + a) 3 v) (2 + b) 2 v) (2 + b) 3 v
def sp_loadsOfHeap (P : ka_P) (q : Nat) : Int32 := P (2 + q) 1 / 30
def sp_atWork (P : ka_P) : Int32 := if P 30 1 < 2 then P 30 1 else 2
def sp_numberAt (P : ka_P) (x : Int32) : Int32 := if x < 0 then 0 else if x < 20 then P 31 (cn x) else 0
def sp_enter (P : ka_P) (v : Int32) : ka_P := if P 30 1 < 0 then P else if P 30 1 < 20 then sp_add (ka_s2 P 31 (upd (P 31) (cn (P 30 1)) v)) 30 1 1 else P
def sp_shift (q : Nat → Int32) (j i : Nat) : Nat → Int32 := fun x => if j ≤ x ∧ x < j + i then q (x + 1) else q x
def sp_shifts (P : ka_P) (j : Nat) : Nat := if cn (P 30 1) < 20 then cn (P 30 1) - 1 - j else 19 - j
def sp_leave (P : ka_P) (j : Nat) : ka_P := sp_sub (ka_s2 P 31 (sp_shift (P 31) j (sp_shifts P j))) 30 1 1
def sp_addMine (P : ka_P) (rate : Int32) : Int32 × ka_P :=
  if kw rate 0 90 = false then (-2000000001, P) else if ¬ P 0 5 < 4 then (-2000000003, P)
  else (pU (sp_add P 0 5 1) (2 + plIx (sp_add P 0 5 1 0 5)) 0 rate 0 5, pU (sp_add P 0 5 1) (2 + plIx (sp_add P 0 5 1 0 5)) 0 rate)
def sp_changeLeg (P : ka_P) (a b v : Int32) : Int32 × ka_P :=
  if sp_isLeg P a b = false then (-2000000001, P) else if kw v 1 9 = false then (-2000000001, P)
  else (sp_legDays P a b, sp_keepLeg (sp_keepLeg P a b v) b a v)
def sp_joinAt (P : ka_P) (n m : Int32) : ka_P := pU (pU (sp_add P 0 6 1) (8 + wgIx n) 0 m) (8 + wgIx n) 1 m
def sp_addWagon (P : ka_P) (m : Int32) : Int32 × ka_P :=
  if sp_isMine P m = false then (-2000000001, P) else if ¬ P 0 6 < 20 then (-2000000003, P)
  else (P 0 6, sp_standFrom (sp_joinAt P (P 0 6) m) (wgIx (P 0 6)) (sp_joinAt P (P 0 6) m 0 7))
def sp_whyNot (P : ka_P) (k : Nat) : Int32 :=
  if P (8 + k) 2 = 1 then 1 else if P (8 + k) 2 = 2 then 2 else if sp_full P k = true then 3 else if P (8 + k) 1 = 0 then 4 else if sp_isDue P k = true then 5 else if P (2 + plIx (P (8 + k) 1)) 1 < 30 then 6 else 0
def sp_loadAt (P : ka_P) (k q : Nat) : ka_P := sp_add (pU (sp_add (sp_sub P (2 + q) 1 30) (2 + q) 5 30) (8 + k) 3 (ka_b true)) (8 + k) 8 1
def sp_load (P : ka_P) (n : Int32) : Int32 × ka_P :=
  if sp_isWagon P n = false then (-2000000001, P) else if ¬ sp_whyNot P (wgIx n) = 0 then (-2000000002, P)
  else (sp_standFrom (sp_loadAt P (wgIx n) (plIx (P (8 + wgIx n) 1))) (wgIx n) (sp_loadAt P (wgIx n) (plIx (P (8 + wgIx n) 1)) 0 7) (2 + plIx (P (8 + wgIx n) 1)) 1,
    sp_standFrom (sp_loadAt P (wgIx n) (plIx (P (8 + wgIx n) 1))) (wgIx n) (sp_loadAt P (wgIx n) (plIx (P (8 + wgIx n) 1)) 0 7))
def sp_unloadAt (P : ka_P) (k : Nat) : ka_P := sp_standFrom (pU P (8 + k) 3 (ka_b false)) k (pU P (8 + k) 3 (ka_b false) 0 7)
def sp_unload2 (P : ka_P) (k : Nat) : ka_P := sp_pay (sp_add P (2 + plIx 0) 5 30) (plIx 0) (plIx (P (8 + k) 0)) (30 * sp_setting (sp_add P (2 + plIx 0) 5 30) 4)
def sp_unload (P : ka_P) (n : Int32) : Int32 × ka_P :=
  if sp_isWagon P n = false then (-2000000001, P) else if sp_isLoadedAtPort P (wgIx n) = false then (-2000000002, P)
  else (sp_unload2 (sp_unloadAt P (wgIx n)) (wgIx n) (2 + plIx (sp_unloadAt P (wgIx n) (8 + wgIx n) 0)) 2, sp_unload2 (sp_unloadAt P (wgIx n)) (wgIx n))
def sp_beginAt (P : ka_P) (k : Nat) : ka_P := if P (8 + k) 6 = -1 then pU P (8 + k) 6 (P 0 7 + sp_setting P 6) else P
def sp_beginX (P : ka_P) (i : Nat) : ka_P := itr (fun i Q => sp_beginAt Q (wgIx (sp_numberAt Q (nI i)))) i P
theorem sp_beginX_0 {P : ka_P} : sp_beginX P 0 = P := rfl
theorem sp_beginX_s {P : ka_P} {i : Nat} : sp_beginX P (i + 1) = sp_beginAt (sp_beginX P i) (wgIx (sp_numberAt (sp_beginX P i) (nI i))) := rfl
def sp_begins (P : ka_P) : ka_P := sp_beginX P (cn (sp_atWork P))
def sp_repairAt (P : ka_P) (k : Nat) : ka_P := pU (pU (sp_pay P (plIx (P (8 + k) 0)) (plIx 0) (sp_setting P 5)) (8 + k) 2 2) (8 + k) 6 (-1)
def sp_repair (P : ka_P) (n : Int32) : Int32 × ka_P :=
  if sp_isWagon P n = false then (-2000000001, P) else if sp_full P (wgIx n) = true then (-2000000002, P) else if sp_standsAt P (wgIx n) 0 = false then (-2000000002, P)
  else (sp_pay P (plIx (P (8 + wgIx n) 0)) (plIx 0) (sp_setting P 5) 30 1, sp_begins (sp_enter (sp_repairAt P (wgIx n)) n))
/-- the trains' loop: the pool, the set, how many, all empty -/
def sp_trainAt (frm to kind many leg : Int32) (i : Nat) (x : ka_P × Int32 × Int32 × Bool) : ka_P × Int32 × Int32 × Bool :=
  if ¬ x.2.2.1 < many then x else
  if sp_standsAt x.1 (wgIx (nI i)) frm = true then
    if sp_isOfKind x.1 (wgIx (nI i)) kind = true then
      (sp_leaveFor x.1 (wgIx (nI i)) to (x.1 0 7) leg, x.2.1 ||| (1 <<< (nI i &&& 31)), x.2.2.1 + 1, x.2.2.2 && !sp_full (sp_leaveFor x.1 (wgIx (nI i)) to (x.1 0 7) leg) (wgIx (nI i)))
    else x
  else x
def sp_trainX (P : ka_P) (frm to kind many : Int32) (i : Nat) : ka_P × Int32 × Int32 × Bool := itr (sp_trainAt frm to kind many (sp_legDays P frm to)) i (P, 0, 0, true)
theorem sp_trainX_0 {P : ka_P} {frm to kind many : Int32} : sp_trainX P frm to kind many 0 = (P, 0, 0, true) := rfl
theorem sp_trainX_s {P : ka_P} {frm to kind many : Int32} {i : Nat} : sp_trainX P frm to kind many (i + 1) = sp_trainAt frm to kind many (sp_legDays P frm to) i (sp_trainX P frm to kind many i) := rfl
def sp_train (P : ka_P) (frm to kind many : Int32) : Int32 × ka_P :=
  if sp_isLeg P frm to = false then (-2000000001, P) else if kw kind 0 2 = false then (-2000000001, P) else if kw many 1 8 = false then (-2000000001, P)
  else if (sp_trainX P frm to kind many (cn (P 0 6))).2.2.1 = 0 then (-2000000002, (sp_trainX P frm to kind many (cn (P 0 6))).1)
  else ((sp_trainX P frm to kind many (cn (P 0 6))).2.1,
    if (sp_trainX P frm to kind many (cn (P 0 6))).2.2.2 = true then sp_add (sp_add (sp_trainX P frm to kind many (cn (P 0 6))).1 0 9 1) 0 10 1 else sp_add (sp_trainX P frm to kind many (cn (P 0 6))).1 0 9 1)
def sp_growX (P : ka_P) (i : Nat) : ka_P := itr (fun i Q => sp_grow Q (plIx (nI (i + 1)))) i P
theorem sp_growX_0 {P : ka_P} : sp_growX P 0 = P := rfl
theorem sp_growX_s {P : ka_P} {i : Nat} : sp_growX P (i + 1) = sp_grow (sp_growX P i) (plIx (nI (i + 1))) := rfl
def sp_growAll (P : ka_P) : ka_P := sp_growX P (cn (P 0 5))
def sp_arriveAt (i : Nat) (x : ka_P × Int32) : ka_P × Int32 :=
  if ¬ x.1 (8 + wgIx (nI i)) 2 = 1 then x else if ¬ x.1 (8 + wgIx (nI i)) 6 = x.1 0 7 then x
  else (sp_standFrom (sp_add x.1 (8 + wgIx (nI i)) 4 (x.1 (8 + wgIx (nI i)) 7)) (wgIx (nI i)) (sp_add x.1 (8 + wgIx (nI i)) 4 (x.1 (8 + wgIx (nI i)) 7) 0 7), x.2 + 1)
def sp_arriveX (P : ka_P) (i : Nat) : ka_P × Int32 := itr sp_arriveAt i (P, 0)
theorem sp_arriveX_0 {P : ka_P} : sp_arriveX P 0 = (P, 0) := rfl
theorem sp_arriveX_s {P : ka_P} {i : Nat} : sp_arriveX P (i + 1) = sp_arriveAt i (sp_arriveX P i) := rfl
def sp_arrive (P : ka_P) : ka_P × Int32 := sp_arriveX P (cn (P 0 6))
def sp_endAt (P : ka_P) (j : Nat) (k : Nat) : ka_P :=
  if P (8 + k) 6 = P 0 7 then sp_add (sp_standFrom (pU (sp_leave P j) (8 + k) 4 0) k (pU (sp_leave P j) (8 + k) 4 0 0 7)) 0 8 1 else P
def sp_endX (P : ka_P) (i : Nat) : ka_P := itr (fun i Q => sp_endAt Q (cn (sp_atWork P) - 1 - i) (wgIx (sp_numberAt Q (nI (cn (sp_atWork P) - 1 - i))))) i P
theorem sp_endX_0 {P : ka_P} : sp_endX P 0 = P := rfl
theorem sp_endX_s {P : ka_P} {i : Nat} : sp_endX P (i + 1) = sp_endAt (sp_endX P i) (cn (sp_atWork P) - 1 - i) (wgIx (sp_numberAt (sp_endX P i) (nI (cn (sp_atWork P) - 1 - i)))) := rfl
def sp_ends (P : ka_P) : ka_P := sp_endX P (cn (sp_atWork P))
def sp_payAt (hire dem free : Int32) (i : Nat) (P : ka_P) : ka_P :=
  (fun Q => if sp_isLoadedAtPort Q (wgIx (nI i)) = true then if free < Q 0 7 - Q (8 + wgIx (nI i)) 5 then sp_payDem Q (plIx (P (8 + wgIx (nI i)) 0)) (plIx 0) dem else Q else Q)
    (if sp_isHired P (wgIx (nI i)) = true then sp_payHire P (plIx (P (8 + wgIx (nI i)) 1)) (plIx (P (8 + wgIx (nI i)) 0)) hire else P)
def sp_payX (P : ka_P) (i : Nat) : ka_P := itr (sp_payAt (sp_setting P 2) (sp_setting P 1) (sp_setting P 0)) i P
theorem sp_payX_0 {P : ka_P} : sp_payX P 0 = P := rfl
theorem sp_payX_s {P : ka_P} {i : Nat} : sp_payX P (i + 1) = sp_payAt (sp_setting P 2) (sp_setting P 1) (sp_setting P 0) i (sp_payX P i) := rfl
def sp_payDay (P : ka_P) : ka_P := sp_payX P (cn (P 0 6))
def sp_day1 (P : ka_P) : ka_P × Int32 := sp_arrive (sp_growAll (sp_add P 0 7 1))
def sp_day2 (P : ka_P) : ka_P := sp_begins (sp_ends (sp_day1 P).1)
def sp_dayP (P : ka_P) : ka_P := sp_payDay (sp_day2 P)
def sp_days (P : ka_P) (i : Nat) : ka_P × Int32 := itr (fun _ x => (sp_dayP x.1, x.2 + (sp_day1 x.1).2)) i (P, 0)
theorem sp_days_0 {P : ka_P} : sp_days P 0 = (P, 0) := rfl
theorem sp_days_s {P : ka_P} {i : Nat} : sp_days P (i + 1) = (sp_dayP (sp_days P i).1, (sp_days P i).2 + (sp_day1 (sp_days P i).1).2) := rfl
def sp_letDays (P : ka_P) (days : Int32) : Int32 × ka_P := ((sp_days P (cn days)).2, (sp_days P (cn days)).1)
def sp_pass (P : ka_P) (days : Int32) : Int32 × ka_P := if kw days 1 99 = false then (-2000000001, P) else if 1999 < P 0 7 + days then (-2000000003, P) else sp_letDays P days
def sp_set (P : ka_P) (what v : Int32) : Int32 × ka_P :=
  if kw what 0 6 = false then (-2000000001, P) else if kw v (ka_low (cn what)) (ka_high (cn what)) = false then (-2000000001, P)
  else (P 29 (cn what), ka_s2 P 29 (upd (P 29) (cn what) v))
def sp_us (x y : Int32) : Int32 := (x.toUInt32 >>> (y.toUInt32 &&& Int32.toUInt32 31)).toInt32
section KC
variable {G : ka_G} {X : ka_X} {cc : ByteArray} {own : String} {nL d : Nat} {V : ka_W} {pc : Nat} {L st : List Value}
theorem ka_istore_s10 {x : Int32} {b : Value} {T : List Value} {a0 a1 a2 a3 a4 a5 a6 a7 a8 a9 : Value} (hC : ka_C G X cc own nL d) (hd : decode cc pc = .ok (.istore 10, 2)) (hn : 10 < nL) (kk : ka_I G X V (pc + 2) (a0 :: a1 :: a2 :: a3 :: a4 :: a5 :: a6 :: a7 :: a8 :: a9 :: .int x :: T) st) : ka_I G X V pc (a0 :: a1 :: a2 :: a3 :: a4 :: a5 :: a6 :: a7 :: a8 :: a9 :: b :: T) (.int x :: st) := ka_istore_s (L := a0 :: a1 :: a2 :: a3 :: a4 :: a5 :: a6 :: a7 :: a8 :: a9 :: b :: T) (k := 10) hC hd (by show 10 < _; simp only [List.length_cons]; omega) hn kk
theorem ka_istore_p10 {x : Int32} {a0 a1 a2 a3 a4 a5 a6 a7 a8 a9 : Value} (hC : ka_C G X cc own nL d) (hd : decode cc pc = .ok (.istore 10, 2)) (hn : 10 < nL) (kk : ka_I G X V (pc + 2) [a0, a1, a2, a3, a4, a5, a6, a7, a8, a9, .int x] st) : ka_I G X V pc [a0, a1, a2, a3, a4, a5, a6, a7, a8, a9] (.int x :: st) := ka_istore_p (L := [a0, a1, a2, a3, a4, a5, a6, a7, a8, a9]) (k := 10) hC hd rfl hn kk
theorem ka_astore_s10 {x : Nat} {b : Value} {T : List Value} {a0 a1 a2 a3 a4 a5 a6 a7 a8 a9 : Value} (hC : ka_C G X cc own nL d) (hd : decode cc pc = .ok (.astore 10, 2)) (hn : 10 < nL) (kk : ka_I G X V (pc + 2) (a0 :: a1 :: a2 :: a3 :: a4 :: a5 :: a6 :: a7 :: a8 :: a9 :: .ref x :: T) st) : ka_I G X V pc (a0 :: a1 :: a2 :: a3 :: a4 :: a5 :: a6 :: a7 :: a8 :: a9 :: b :: T) (.ref x :: st) := ka_astore_s (L := a0 :: a1 :: a2 :: a3 :: a4 :: a5 :: a6 :: a7 :: a8 :: a9 :: b :: T) (k := 10) hC hd (by show 10 < _; simp only [List.length_cons]; omega) hn kk
theorem ka_astore_p10 {x : Nat} {a0 a1 a2 a3 a4 a5 a6 a7 a8 a9 : Value} (hC : ka_C G X cc own nL d) (hd : decode cc pc = .ok (.astore 10, 2)) (hn : 10 < nL) (kk : ka_I G X V (pc + 2) [a0, a1, a2, a3, a4, a5, a6, a7, a8, a9, .ref x] st) : ka_I G X V pc [a0, a1, a2, a3, a4, a5, a6, a7, a8, a9] (.ref x :: st) := ka_astore_p (L := [a0, a1, a2, a3, a4, a5, a6, a7, a8, a9]) (k := 10) hC hd rfl hn kk
theorem ka_istore_s11 {x : Int32} {b : Value} {T : List Value} {a0 a1 a2 a3 a4 a5 a6 a7 a8 a9 a10 : Value} (hC : ka_C G X cc own nL d) (hd : decode cc pc = .ok (.istore 11, 2)) (hn : 11 < nL) (kk : ka_I G X V (pc + 2) (a0 :: a1 :: a2 :: a3 :: a4 :: a5 :: a6 :: a7 :: a8 :: a9 :: a10 :: .int x :: T) st) : ka_I G X V pc (a0 :: a1 :: a2 :: a3 :: a4 :: a5 :: a6 :: a7 :: a8 :: a9 :: a10 :: b :: T) (.int x :: st) := ka_istore_s (L := a0 :: a1 :: a2 :: a3 :: a4 :: a5 :: a6 :: a7 :: a8 :: a9 :: a10 :: b :: T) (k := 11) hC hd (by show 11 < _; simp only [List.length_cons]; omega) hn kk
theorem ka_istore_p11 {x : Int32} {a0 a1 a2 a3 a4 a5 a6 a7 a8 a9 a10 : Value} (hC : ka_C G X cc own nL d) (hd : decode cc pc = .ok (.istore 11, 2)) (hn : 11 < nL) (kk : ka_I G X V (pc + 2) [a0, a1, a2, a3, a4, a5, a6, a7, a8, a9, a10, .int x] st) : ka_I G X V pc [a0, a1, a2, a3, a4, a5, a6, a7, a8, a9, a10] (.int x :: st) := ka_istore_p (L := [a0, a1, a2, a3, a4, a5, a6, a7, a8, a9, a10]) (k := 11) hC hd rfl hn kk
theorem ka_astore_s11 {x : Nat} {b : Value} {T : List Value} {a0 a1 a2 a3 a4 a5 a6 a7 a8 a9 a10 : Value} (hC : ka_C G X cc own nL d) (hd : decode cc pc = .ok (.astore 11, 2)) (hn : 11 < nL) (kk : ka_I G X V (pc + 2) (a0 :: a1 :: a2 :: a3 :: a4 :: a5 :: a6 :: a7 :: a8 :: a9 :: a10 :: .ref x :: T) st) : ka_I G X V pc (a0 :: a1 :: a2 :: a3 :: a4 :: a5 :: a6 :: a7 :: a8 :: a9 :: a10 :: b :: T) (.ref x :: st) := ka_astore_s (L := a0 :: a1 :: a2 :: a3 :: a4 :: a5 :: a6 :: a7 :: a8 :: a9 :: a10 :: b :: T) (k := 11) hC hd (by show 11 < _; simp only [List.length_cons]; omega) hn kk
theorem ka_astore_p11 {x : Nat} {a0 a1 a2 a3 a4 a5 a6 a7 a8 a9 a10 : Value} (hC : ka_C G X cc own nL d) (hd : decode cc pc = .ok (.astore 11, 2)) (hn : 11 < nL) (kk : ka_I G X V (pc + 2) [a0, a1, a2, a3, a4, a5, a6, a7, a8, a9, a10, .ref x] st) : ka_I G X V pc [a0, a1, a2, a3, a4, a5, a6, a7, a8, a9, a10] (.ref x :: st) := ka_astore_p (L := [a0, a1, a2, a3, a4, a5, a6, a7, a8, a9, a10]) (k := 11) hC hd rfl hn kk
theorem ka_iushr {x y : Int32} (hC : ka_C G X cc own nL d) (hd : decode cc pc = .ok (.iushr, 1)) (kk : ka_I G X V (pc + 1) L (.int (sp_us x y) :: st)) : ka_I G X V pc L (.int y :: .int x :: st) := by
  obtain ⟨p, e, R, s, m, args, below, meth, c, A0, k, n, Q⟩ := X
  intro H locs ls hP hS hL
  exact lv_iushr hC.1 hC.2.1 hd rfl (kk H locs ls hP hS hL)
theorem ka_irem {x y : Int32} (hC : ka_C G X cc own nL d) (hd : decode cc pc = .ok (.irem, 1)) (hne : ¬ y = 0) (kk : ka_I G X V (pc + 1) L (.int (x - x / y * y) :: st)) : ka_I G X V pc L (.int y :: .int x :: st) := by
  obtain ⟨p, e, R, s, m, args, below, meth, c, A0, k, n, Q⟩ := X
  intro H locs ls hP hS hL
  exact lv_irem hC.1 hC.2.1 hd hne (kk H locs ls hP hS hL)
end KC
