/-! the world of the claim: places (region, offset), the judgement ka_I over it, one row an instruction -/
abbrev ka_G : Type := Launch × va_G × (Nat → ClassId) × (Nat → Nat → Nat)
def ka_ad (G : ka_G) (r o : Nat) : Nat := G.2.2.2 r o
def ka_ca (G : ka_G) (k : Nat) : ClassId := G.2.2.1 k
abbrev ka_W : Type := Nat → Nat → Nat → Int32
def ka_b (b : Bool) : Int32 := if b then 1 else 0
def ka_t (x : Int32) : Bool := !decide (x = 0)
theorem ka_t_b {b : Bool} : ka_t (ka_b b) = b := by cases b <;> rfl
theorem ka_b0 {b : Bool} (h : ka_b b = 0) : b = false := by
  cases b
  · rfl
  · exact absurd h (by decide)
theorem ka_b1 {b : Bool} (h : ¬ ka_b b = 0) : b = true := by
  cases b
  · exact absurd rfl h
  · rfl
def ka_E (G : ka_G) (r o : Nat) (f : Nat → Int32) : va_E :=
  if r < 6 then
    if o = 0 then .inr (3, [.ref (ka_ad G r 1), .ref (ka_ad G r 7), .ref (ka_ad G r 28), .ref (ka_ad G r 29), .ref (ka_ad G r 30), .int (f 5), .int (f 6), .int (f 7), .int (f 8), .int (f 9), .int (f 10)])
    else if o = 1 then .inl (ka_ca G 1, 5, .inr (.inr (.inr (.inr (fun k => some (ka_ad G r (2 + k)))))))
    else if o < 7 then .inr (2, [.int (f 0), .int (f 1), .int (f 2), .int (f 3), .int (f 4), .int (f 5)])
    else if o = 7 then .inl (ka_ca G 2, 20, .inr (.inr (.inr (.inr (fun k => some (ka_ad G r (8 + k)))))))
    else if o < 28 then .inr (5, [.int (f 0), .int (f 1), .int (f 2), .int (ka_b (ka_t (f 3))), .int (f 4), .int (f 5), .int (f 6), .int (f 7), .int (f 8)])
    else if o = 28 then .inl (ka_ca G 0, 25, .inl f)
    else if o = 29 then .inl (ka_ca G 0, 7, .inl f)
    else if o = 30 then .inr (4, [.ref (ka_ad G r 31), .int (f 1)])
    else .inl (ka_ca G 0, 20, .inl f)
  else if r = 6 then
    if o = 0 then .inr (0, [.ref (ka_ad G 6 1), .int (f 1), .int (f 2)])
    else .inl (ka_ca G 3, 4, .inr (.inr (.inr (.inr (fun k => some (ka_ad G (2 + k) 0))))))
  else if r = 7 then
    if o = 0 then .inr (1, [.ref (ka_ad G 7 1), .ref (ka_ad G 7 2), .int (f 2), .int (f 3), .int (f 4), .int (f 5), .int (f 6), .int (f 7), .int (f 8)])
    else if o = 1 then .inl (ka_ca G 0, 60, .inl f)
    else .inl (ka_ca G 0, 4, .inl f)
  else if r = 8 then .inr (6, [.ref (ka_ad G 0 0), .ref (ka_ad G 1 0), .ref (ka_ad G 6 0), .ref (ka_ad G 7 0)])
  else
    if o = 0 then .inr (7, [.ref (ka_ad G 9 1), .ref (ka_ad G 9 2), .ref (ka_ad G 9 3), .ref (ka_ad G 9 4), .int (f 4), .ref (ka_ad G 9 5), .int (f 6), .int (f 7), .int (f 8), .int (f 9), .int (f 10), .int (ka_b (ka_t (f 11))), .ref (ka_ad G 9 6)])
    else if o < 4 then .inl (ka_ca G 0, 269, .inl f)
    else if o = 4 then .inl (ka_ca G 0, 1076, .inl f)
    else if o = 5 then .inl (ka_ca G 0, 60, .inl f)
    else .inl (ka_ca G 0, 4, .inl f)
def ka_ix : List (Nat × Nat) := (List.range 6).flatMap (fun r => (List.range 32).map (fun o => (r, o))) ++ [(6, 0), (6, 1), (7, 0), (7, 1), (7, 2), (8, 0), (9, 0), (9, 1), (9, 2), (9, 3), (9, 4), (9, 5), (9, 6)]
set_option maxRecDepth 100000 in
theorem ka_ixp : ∀ r, r < 6 → ∀ o, o < 32 → ka_ix[32 * r + o]? = some (r, o) := by decide +kernel
theorem ka_ix_60 : ka_ix[192]? = some (6, 0) := by decide +kernel
theorem ka_ix_61 : ka_ix[193]? = some (6, 1) := by decide +kernel
theorem ka_ix_70 : ka_ix[194]? = some (7, 0) := by decide +kernel
theorem ka_ix_71 : ka_ix[195]? = some (7, 1) := by decide +kernel
theorem ka_ix_72 : ka_ix[196]? = some (7, 2) := by decide +kernel
theorem ka_ix_80 : ka_ix[197]? = some (8, 0) := by decide +kernel
theorem ka_ix_90 : ka_ix[198]? = some (9, 0) := by decide +kernel
theorem ka_ix_91 : ka_ix[199]? = some (9, 1) := by decide +kernel
theorem ka_ix_92 : ka_ix[200]? = some (9, 2) := by decide +kernel
theorem ka_ix_93 : ka_ix[201]? = some (9, 3) := by decide +kernel
theorem ka_ix_94 : ka_ix[202]? = some (9, 4) := by decide +kernel
theorem ka_ix_95 : ka_ix[203]? = some (9, 5) := by decide +kernel
theorem ka_ix_96 : ka_ix[204]? = some (9, 6) := by decide +kernel
set_option maxRecDepth 100000 in
theorem ka_ix_nd : ka_ix.Nodup := by decide +kernel
theorem ka_ix_inj {i j : Nat} {q : Nat × Nat} (h : ka_ix[i]? = some q) (h2 : ka_ix[j]? = some q) : i = j := by
  obtain ⟨hi, ei⟩ := List.getElem?_eq_some_iff.mp h
  obtain ⟨hj, ej⟩ := List.getElem?_eq_some_iff.mp h2
  exact (List.getElem_inj ka_ix_nd).mp (ei.trans ej.symm)
def ka_wl (G : ka_G) (V : ka_W) : va_W := ka_ix.map (fun q => (ka_ad G q.1 q.2, ka_E G q.1 q.2 (V q.1 q.2)))
def ka_sp (V : ka_W) (r : Nat) (P : Nat → Nat → Int32) : ka_W := fun r' => if r' = r then P else V r'
def ka_s2 (P : Nat → Nat → Int32) (o : Nat) (f : Nat → Int32) : Nat → Nat → Int32 := fun o' => if o' = o then f else P o'
def ka_st (V : ka_W) (r o : Nat) (f : Nat → Int32) : ka_W := ka_sp V r (ka_s2 (V r) o f)
theorem ka_sp_s {V : ka_W} {r : Nat} {P : Nat → Nat → Int32} : ka_sp V r P r = P := if_pos rfl
theorem ka_sp_n {V : ka_W} {r r' : Nat} {P : Nat → Nat → Int32} (h : r' ≠ r) : ka_sp V r P r' = V r' := if_neg h
theorem ka_s2_s {P : Nat → Nat → Int32} {o : Nat} {f : Nat → Int32} : ka_s2 P o f o = f := if_pos rfl
theorem ka_s2_n {P : Nat → Nat → Int32} {o o' : Nat} {f : Nat → Int32} (h : o' ≠ o) : ka_s2 P o f o' = P o' := if_neg h
theorem ka_sp_sp {V : ka_W} {r : Nat} {P P' : Nat → Nat → Int32} : ka_sp (ka_sp V r P) r P' = ka_sp V r P' := by
  funext r'
  simp only [ka_sp]
  split <;> rfl
theorem ka_sp_self {V : ka_W} {r : Nat} : ka_sp V r (V r) = V := by
  funext r'
  simp only [ka_sp]
  split
  · next h => rw [h]
  · rfl
theorem ka_sp_comm {V : ka_W} {r r' : Nat} {P P' : Nat → Nat → Int32} (h : r ≠ r') : ka_sp (ka_sp V r P) r' P' = ka_sp (ka_sp V r' P') r P := by
  funext x
  simp only [ka_sp]
  split
  · next h1 => rw [if_neg (fun h2 => h (h2.symm.trans h1))]
  · rfl
theorem ka_s2_s2 {P : Nat → Nat → Int32} {o : Nat} {f f' : Nat → Int32} : ka_s2 (ka_s2 P o f) o f' = ka_s2 P o f' := by
  funext r'
  simp only [ka_s2]
  split <;> rfl
theorem ka_s2_self {P : Nat → Nat → Int32} {o : Nat} : ka_s2 P o (P o) = P := by
  funext r'
  simp only [ka_s2]
  split
  · next h => rw [h]
  · rfl
theorem ka_st_sp {V : ka_W} {r o : Nat} {P : Nat → Nat → Int32} {f : Nat → Int32} : ka_st (ka_sp V r P) r o f = ka_sp V r (ka_s2 P o f) := by
  unfold ka_st
  rw [ka_sp_s, ka_sp_sp]
theorem ka_st_s {V : ka_W} {r o : Nat} {f : Nat → Int32} : ka_st V r o f r o = f := by
  unfold ka_st
  rw [ka_sp_s, ka_s2_s]
theorem ka_wl_at {G : ka_G} {V : ka_W} {i r o : Nat} (h : ka_ix[i]? = some (r, o)) : (ka_wl G V)[i]? = some (ka_ad G r o, ka_E G r o (V r o)) := by
  simp [ka_wl, List.getElem?_map, h]
theorem ka_wl_set {G : ka_G} {V : ka_W} {i r o : Nat} {f : Nat → Int32} (h : ka_ix[i]? = some (r, o)) : (ka_wl G V).set i (ka_ad G r o, ka_E G r o f) = ka_wl G (ka_st V r o f) := by
  apply List.ext_getElem?
  intro j
  by_cases hj : j = i
  · subst hj
    have hl : j < (ka_wl G V).length := (List.getElem?_eq_some_iff.mp (ka_wl_at (G := G) (V := V) h)).1
    rw [List.getElem?_set_self hl, ka_wl_at h, ka_st_s]
  · rw [List.getElem?_set_ne (Ne.symm hj)]
    cases hq : ka_ix[j]? with
    | none => simp [ka_wl, List.getElem?_map, hq]
    | some q =>
      obtain ⟨r', o'⟩ := q
      rw [ka_wl_at hq, ka_wl_at hq]
      have hne : ¬ (r' = r ∧ o' = o) := fun h3 => hj (ka_ix_inj hq (by rw [h3.1, h3.2]; exact h))
      have e : ka_st V r o f r' o' = V r' o' := by
        unfold ka_st ka_sp ka_s2
        by_cases h1 : r' = r
        · rw [if_pos h1]
          have h2 : ¬ o' = o := fun h2 => hne ⟨h1, h2⟩
          rw [if_neg h2, h1]
        · rw [if_neg h1]
      rw [e]
def ka_AD (G : ka_G) : Prop := ∀ (i j : Nat) (p q : Nat × Nat), ka_ix[i]? = some p → ka_ix[j]? = some q → ka_ad G p.1 p.2 = ka_ad G q.1 q.2 → i = j
def ka_A (G : ka_G) : Nat → Prop := fun q => ∃ (i : Nat) (p : Nat × Nat), ka_ix[i]? = some p ∧ q = ka_ad G p.1 p.2
theorem ka_wl_of {G : ka_G} {V : ka_W} {k : Nat} {q : Nat × va_E} (h : (ka_wl G V)[k]? = some q) : ∃ p : Nat × Nat, ka_ix[k]? = some p ∧ q = (ka_ad G p.1 p.2, ka_E G p.1 p.2 (V p.1 p.2)) := by
  simp only [ka_wl, List.getElem?_map] at h
  cases hq : ka_ix[k]? with
  | none => rw [hq] at h; cases h
  | some p => rw [hq] at h; exact ⟨p, rfl, (Option.some.inj h).symm⟩
theorem ka_wlD {G : ka_G} {V : ka_W} {A : Nat → Prop} (h : ka_AD G) (hA : ∀ q, ka_A G q → A q) : va_D A (ka_wl G V) := by
  refine ⟨fun i j p q hi hj e => ?_, fun k q hk => ?_⟩
  · obtain ⟨p', h1, rfl⟩ := ka_wl_of hi
    obtain ⟨q', h2, rfl⟩ := ka_wl_of hj
    exact h i j p' q' h1 h2 e
  · obtain ⟨p', h1, rfl⟩ := ka_wl_of hk
    exact hA _ ⟨k, p', h1, rfl⟩
def ka_ty (G : ka_G) : List (ClassId × FieldType) := [(ka_ca G 0, .int), (ka_ca G 1, .object RX2), (ka_ca G 2, .object RX5), (ka_ca G 3, .object RX3)]
def ka_nF : List (String × Nat × String × String × String × String) := [("CoalWagons$Pool", 101, "CoalWagons$Place", "rate", "I", "CoalWagons"), ("CoalWagons$Pool", 141, "CoalWagons$Place", "heap", "I", "CoalWagons"), ("CoalWagons$Pool", 89, "CoalWagons$Place", "account", "I", "CoalWagons"), ("CoalWagons$Pool", 249, "CoalWagons$Place", "demurrage", "I", "CoalWagons"), ("CoalWagons$Pool", 252, "CoalWagons$Place", "hire", "I", "CoalWagons"), ("CoalWagons$Pool", 144, "CoalWagons$Place", "tonnes", "I", "CoalWagons"), ("CoalWagons$Pool", 123, "CoalWagons$Wagon", "owner", "I", "CoalWagons"), ("CoalWagons$Pool", 126, "CoalWagons$Wagon", "place", "I", "CoalWagons"), ("CoalWagons$Pool", 154, "CoalWagons$Wagon", "state", "I", "CoalWagons"), ("CoalWagons$Pool", 147, "CoalWagons$Wagon", "loaded", "Z", "CoalWagons"), ("CoalWagons$Pool", 92, "CoalWagons$Wagon", "wear", "I", "CoalWagons"), ("CoalWagons$Pool", 233, "CoalWagons$Wagon", "since", "I", "CoalWagons"), ("CoalWagons$Pool", 176, "CoalWagons$Wagon", "until", "I", "CoalWagons"), ("CoalWagons$Pool", 215, "CoalWagons$Wagon", "journey", "I", "CoalWagons"), ("CoalWagons$Pool", 151, "CoalWagons$Wagon", "loads", "I", "CoalWagons"), ("CoalWagons$Pool", 32, "CoalWagons", "FIRST_SETTING", "[I", "CoalWagons"), ("CoalWagons$Pool", 194, "CoalWagons", "LOWEST_SETTING", "[I", "CoalWagons"), ("CoalWagons$Pool", 197, "CoalWagons", "HIGHEST_SETTING", "[I", "CoalWagons")]
def ka_nM : List (String × Nat × MethodName × String) := [("CoalWagons$Pool", 17, ⟨"CoalWagons$Place", "<init>", "()V"⟩, "CoalWagons"), ("CoalWagons$Pool", 24, ⟨"CoalWagons$Wagon", "<init>", "()V"⟩, "CoalWagons"), ("CoalWagons$Pool", 77, ⟨"CoalWagons", "within", "(III)Z"⟩, "CoalWagons"), ("CoalWagons$OrderText", 34, ⟨"CoalWagons", "within", "(III)Z"⟩, "CoalWagons"), ("CoalWagons$OrderText", 58, ⟨"CoalWagons", "isError", "(I)Z"⟩, "CoalWagons")]
def ka_NW (U : State) : Prop := (∀ q ∈ ka_nF, va_Nw (.fieldLinkNest q.1 q.2.1 q.2.2.1 q.2.2.2.1 q.2.2.2.2.1 q.2.2.2.2.2) U) ∧ (∀ q ∈ ka_nM, va_Nw (.methodLinkNest q.1 q.2.1 q.2.2.1 q.2.2.2) U)
theorem ka_NW.warm {s U : State} (hW : s.WarmedH U.vm) (h : ka_NW s) : ka_NW U := ⟨fun q hq => va_Nw.warmF hW (h.1 q hq), fun q hq => va_Nw.warmM hW (h.2 q hq)⟩
theorem ka_NW.same {s U : State} (hW : s.vm = U.vm) (h : ka_NW s) : ka_NW U := ⟨fun q hq => va_Nw.same rfl hW (h.1 q hq), fun q hq => va_Nw.same rfl hW (h.2 q hq)⟩
def ka_low : Nat → Int32 := fun j => if j = 3 then 1 else if j = 6 then 1 else 0
def ka_high : Nat → Int32 := fun j => if j = 0 then 30 else if j = 6 then 30 else 99
def ka_SZ (A : Nat → Prop) (U : State) (H : Heap) : Prop := ∃ tL tH : Nat, va_Z RX6 "LOWEST_SETTING" "[I" (.ref tL) A U H ∧ va_T .int tL 7 (fun j => .int (ka_low j)) A U H ∧ va_Z RX6 "HIGHEST_SETTING" "[I" (.ref tH) A U H ∧ va_T .int tH 7 (fun j => .int (ka_high j)) A U H
theorem ka_SZ.moved {A : Nat → Prop} {u U : State} {H : Heap} (hvm : u.vm.Alike U.vm) (h : ka_SZ A u H) : ka_SZ A U H := by
  obtain ⟨tL, tH, h1, h2, h3, h4⟩ := h
  exact ⟨tL, tH, h1.moved hvm, h2.moved hvm, h3.moved hvm, h4.moved hvm⟩
theorem ka_SZ.kept {A : Nat → Prop} {U : State} {H H1 : Heap} (h : ka_SZ A U H) (hq : ∀ a : Nat, a < H.size → ¬ A a → H1[a]? = H[a]?) : ka_SZ A U H1 := by
  obtain ⟨tL, tH, h1, h2, h3, h4⟩ := h
  exact ⟨tL, tH, h1.kept hq, h2.kept hq, h3.kept hq, h4.kept hq⟩
theorem ka_SZ.narrow {A B : Nat → Prop} {U : State} {H : Heap} (h : ka_SZ A U H) (hAB : ∀ q, B q → A q) : ka_SZ B U H := by
  obtain ⟨tL, tH, h1, h2, h3, h4⟩ := h
  exact ⟨tL, tH, h1.narrow hAB, h2.narrow hAB, h3.narrow hAB, h4.narrow hAB⟩
def ka_Pre (G : ka_G) (V : ka_W) (U : State) : Prop := va_P G.2.1 vwCl (ka_wl G V) U.heap ∧ va_K G.2.1 vwCl (ka_ty G) U ∧ ka_NW U ∧ ka_SZ (ka_A G) U U.heap
def ka_ws (y : MethodName) (bytes : ByteArray) (maxL : Nat) (ret : Option FieldType) : List Cond := .code y bytes maxL ret :: ka_T
def ka_rm (d : Nat) : Room := { frames := d, cells := 0, slots := 0, locals := 32 * d }
/-- THE CONTRACT: called with As over the world V, the method y returns v, the world is then V'; no other old cell changes, none is made -/
def ka_M (G : ka_G) (y : MethodName) (bytes : ByteArray) (maxL : Nat) (ret : Option FieldType) (d : Nat) (As : List Value) (V : ka_W) (v : Option Value) (V' : ka_W) : Prop :=
  Met G.1 y (ka_ws y bytes maxL ret) (ka_rm d) (fun a U => a = As.toArray ∧ ka_Pre G V U) (fun _ st oc t => oc = .returned v ∧ ka_Pre G V' t ∧ va_F (ka_A G) st t) 0 0 (ka_A G)
abbrev ka_X : Type := Program × Env × Room × State × MethodId × Array Value × List Frame × Method × Code × (Nat → Prop) × Nat × Nat × (State → Prop)
def ka_lx : Nat → List Value → List (Nat × Value)
  | _, [] => []
  | i, v :: vs => (i, v) :: ka_lx (i + 1) vs
def ka_L (ls : Array Slot) (nL : Nat) (L : List Value) : Prop := lv_has ls nL (ka_lx 0 L) ∧ ∀ v ∈ L, v.category = 1
def ka_I (G : ka_G) (X : ka_X) (V : ka_W) (pc : Nat) (L st : List Value) : Prop := match X with
  | (p, e, R, s, m, args, below, meth, c, A0, k, n, Q) => ∀ (H : Heap) (locs : List Loc) (ls : Array Slot), va_P G.2.1 vwCl (ka_wl G V) H → va_S A0 s.heap H locs → ka_L ls c.maxLocals L → W p G.1 e R s m args below meth c H locs k n Q (F0 m pc ls st)
def ka_C (G : ka_G) (X : ka_X) (cc : ByteArray) (own : String) (nL d : Nat) : Prop := match X with
  | (p, _, R, s, m, args, _, _, c, A0, k, n, _) => p.tables.exec = Jvm.exec ∧ c.code = cc ∧ c.maxLocals = nL ∧ s.vm.findClass own = some m.cls ∧ (∀ w ∈ ka_T, w.before args s = true) ∧ va_K G.2.1 vwCl (ka_ty G) s ∧ ka_NW s ∧ ka_SZ A0 s s.heap ∧ ka_AD G ∧ (∀ q, ka_A G q → A0 q) ∧ (d ≤ R.frames ∧ 32 * d ≤ R.locals ∧ k ≤ R.cells ∧ n ≤ R.slots)
def ka_R (G : ka_G) (X : ka_X) (ret : Option FieldType) (v : Option Value) (V' : ka_W) : Prop := match X with
  | (_, _, _, s, _, args, below, meth, _, A0, k, n, Q) => meth.sig.returnType = ret ∧ meth.locks = false ∧ A0 = ka_A G ∧ Q = MQ below (fun _ st oc t => oc = .returned v ∧ ka_Pre G V' t ∧ va_F (ka_A G) st t) args s k n (ka_A G)
theorem ka_lx_mem {q : Nat × Value} : ∀ {L : List Value} {a : Nat}, q ∈ ka_lx a L ↔ ∃ j : Nat, L[j]? = some q.2 ∧ q.1 = a + j
  | [], a => by simp [ka_lx]
  | v :: L, a => by
    rw [ka_lx, List.mem_cons, ka_lx_mem (L := L) (a := a + 1)]
    constructor
    · rintro (rfl | ⟨j, h1, h2⟩)
      · exact ⟨0, rfl, rfl⟩
      · exact ⟨j + 1, by simpa using h1, by omega⟩
    · rintro ⟨j, h1, h2⟩
      cases j with
      | zero =>
        refine Or.inl ?_
        obtain ⟨q1, q2⟩ := q
        simp at h1 h2
        rw [h1, h2]
      | succ j => exact Or.inr ⟨j, by simpa using h1, by omega⟩
theorem ka_lx_args : ∀ {L : List Value} {a : Nat}, (∀ v ∈ L, v.category = 1) → lv_args a L = ka_lx a L
  | [], _, _ => rfl
  | v :: L, a, h => by
    have h1 : v.category = 1 := h v List.mem_cons_self
    rw [lv_args, ka_lx, if_neg (by rw [h1]; decide), ka_lx_args (fun w hw => h w (List.mem_cons_of_mem _ hw))]
theorem ka_lg : ∀ {L : List Value}, (∀ v ∈ L, v.category = 1) → (lg_sl L).length = L.length
  | [], _ => rfl
  | v :: L, h => by
    have h1 : v.category = 1 := h v List.mem_cons_self
    have h2 := ka_lg (L := L) (fun w hw => h w (List.mem_cons_of_mem _ hw))
    unfold lg_sl at h2 ⊢
    rw [List.flatMap_cons, if_neg (by rw [h1]; decide), List.length_append, h2, List.length_cons]
    simp
    omega
theorem ka_L_at {ls : Array Slot} {nL i : Nat} {L : List Value} {v : Value} (h : ka_L ls nL L) (hi : L[i]? = some v) : ls[i]? = some (.val v) := h.1.2.2 (i, v) (ka_lx_mem.mpr ⟨i, hi, by simp⟩)
theorem ka_L_new {ls ls' : Array Slot} {nL i : Nat} {L L' : List Value} {v : Value} (h : ka_L ls nL L) (hc : v.category = 1) (hL : ∀ (j : Nat) (w : Value), L'[j]? = some w → (j = i ∧ w = v) ∨ (j ≠ i ∧ L[j]? = some w)) (h' : lv_has ls' nL ((i, v) :: (ka_lx 0 L).filter (fun q => !(q.1 == i) && !(q.1 + 1 == i && q.2.category == 2)))) : ka_L ls' nL L' := by
  have hcat : ∀ w ∈ L', w.category = 1 := by
    intro w hw
    obtain ⟨j, hj⟩ := List.getElem?_of_mem hw
    rcases hL j w hj with ⟨-, rfl⟩ | ⟨-, h1⟩
    · exact hc
    · exact h.2 w (List.mem_of_getElem? h1)
  refine ⟨⟨h'.1, h'.2.1, fun q hq => ?_⟩, hcat⟩
  obtain ⟨j, hj, e⟩ := ka_lx_mem.mp hq
  have e1 : q.1 = j := by omega
  refine h'.2.2 q ?_
  rcases hL j q.2 hj with ⟨h1, h2⟩ | ⟨h1, h2⟩
  · refine List.mem_cons.mpr (Or.inl ?_)
    obtain ⟨q1, q2⟩ := q
    simp at e1 h2 ⊢
    exact ⟨by omega, h2⟩
  · refine List.mem_cons_of_mem _ (List.mem_filter.mpr ⟨ka_lx_mem.mpr ⟨j, h2, by omega⟩, ?_⟩)
    have h3 : q.2.category = 1 := h.2 _ (List.mem_of_getElem? h2)
    have h4 : ¬ q.1 = i := by omega
    simp [h3, h4]
theorem ka_set_at {L : List Value} {i : Nat} {v : Value} : ∀ (j : Nat) (w : Value), (L.set i v)[j]? = some w → (j = i ∧ w = v) ∨ (j ≠ i ∧ L[j]? = some w) := by
  intro j w h
  by_cases hj : j = i
  · subst hj
    have hl : j < L.length := by have := (List.getElem?_eq_some_iff.mp h).1; simpa using this
    rw [List.getElem?_set_self hl] at h
    exact Or.inl ⟨rfl, (Option.some.inj h).symm⟩
  · rw [List.getElem?_set_ne (Ne.symm hj)] at h
    exact Or.inr ⟨hj, h⟩
theorem ka_push_at {L : List Value} {v : Value} : ∀ (j : Nat) (w : Value), (L ++ [v])[j]? = some w → (j = L.length ∧ w = v) ∨ (j ≠ L.length ∧ L[j]? = some w) := by
  intro j w h
  by_cases hj : j < L.length
  · rw [List.getElem?_append_left hj] at h
    exact Or.inr ⟨by omega, h⟩
  · rw [List.getElem?_append_right (by omega)] at h
    have h1 := (List.getElem?_eq_some_iff.mp h).1
    simp at h1
    have h2 : j = L.length := by omega
    subst h2
    simp at h
    exact Or.inl ⟨rfl, h.symm⟩
theorem ka_entry {G : ka_G} {y : MethodName} {bytes : ByteArray} {maxL : Nat} {ret : Option FieldType} {d : Nat} {As : List Value} {V : ka_W} {v : Option Value} {V' : ka_W} (hG : ka_AD G) (hy : plainName y.cls = true) (hc : ∀ v ∈ As, v.category = 1) (hl : As.length ≤ maxL)
    (body : ∀ X : ka_X, ka_C G X bytes y.cls maxL d → ka_R G X ret v V' → ka_I G X V 0 As []) : ka_M G y bytes maxL ret d As V v V' := by
  refine Met.ofW (cc := bytes) (maxL := maxL) (ret := ret) hy rfl ?_
  intro p e s m args below meth c s₁ B hml hv
  obtain ⟨rfl, hP, hK, hN, hZ⟩ := hv
  have hts := atoms_spec (ws := ka_ws y bytes maxL ret) B.pre
  have b := body (p, e, (headSpec (ka_ws y bytes maxL ret) (ka_rm d)).room, s, m, As.toArray, below, meth, c, ka_A G, 0, 0, MQ below (fun _ st oc t => oc = .returned v ∧ ka_Pre G V' t ∧ va_F (ka_A G) st t) As.toArray s 0 0 (ka_A G)) ⟨B.exec, B.bytes, hml, findClass_of_methodNamed B.named, fun w hw => hts w (List.mem_cons_of_mem _ hw), hK, hN, hZ, hG, fun _ h => h, ⟨Nat.le_refl _, Nat.le_refl _, Nat.le_refl _, Nat.le_refl _⟩⟩ ⟨B.returns, B.notSynchronized, rfl, rfl⟩
  rw [lg_entry_eq]
  refine b s.heap [] _ hP va_S.rf ⟨?_, hc⟩
  have h1 := lv_entry As (n := maxL) (by rw [ka_lg hc]; exact hl)
  rw [ka_lx_args hc] at h1
  rw [hml]
  exact h1
section KA
variable {G : ka_G} {X : ka_X} {cc : ByteArray} {own : String} {nL d : Nat} {V : ka_W} {pc : Nat} {L st : List Value}
theorem ka_I.eqW {V' : ka_W} (h : V = V') (k : ka_I G X V' pc L st) : ka_I G X V pc L st := h ▸ k
theorem ka_I.to {V' : ka_W} {L' : List Value} (hW : V = V') (hL : L = L') (k : ka_I G X V' pc L' st) : ka_I G X V pc L st := by
  subst hW; subst hL; exact k
theorem ka_I.drop {L' : List Value} (n : Nat) (hL : L.take n = L') (k : ka_I G X V pc L' st) : ka_I G X V pc L st := by
  obtain ⟨p, e, R, s, m, args, below, meth, c, A0, k', n', Q⟩ := X
  intro H locs ls hP hS hl
  refine k H locs ls hP hS ?_
  subst hL
  refine ⟨⟨hl.1.1, hl.1.2.1, fun q hq => ?_⟩, fun v hv => hl.2 v (List.mem_of_mem_take hv)⟩
  obtain ⟨j, h1, h2⟩ := ka_lx_mem.mp hq
  refine hl.1.2.2 q (ka_lx_mem.mpr ⟨j, ?_, h2⟩)
  rw [List.getElem?_take] at h1
  split at h1
  · exact h1
  · cases h1
theorem ka_iconst {i : Int} {v : Int32} (hC : ka_C G X cc own nL d) (hd : decode cc pc = .ok (.iconst i, 1)) (hv : Int32.ofInt i = v) (kk : ka_I G X V (pc + 1) L (.int v :: st)): ka_I G X V pc L (st) := by
  obtain ⟨p, e, R, s, m, args, below, meth, c, A0, k, n, Q⟩ := X
  intro H locs ls hP hS hL
  exact lv_iconst hC.1 hC.2.1 hd hv (kk H locs ls hP hS hL)
theorem ka_bipush {i : Int} {v : Int32} (hC : ka_C G X cc own nL d) (hd : decode cc pc = .ok (.bipush i, 2)) (hv : (Int8.ofInt i).toInt32 = v) (kk : ka_I G X V (pc + 2) L (.int v :: st)): ka_I G X V pc L (st) := by
  obtain ⟨p, e, R, s, m, args, below, meth, c, A0, k, n, Q⟩ := X
  intro H locs ls hP hS hL
  exact lv_bipush hC.1 hC.2.1 hd hv (kk H locs ls hP hS hL)
theorem ka_sipush {i : Int} {v : Int32} (hC : ka_C G X cc own nL d) (hd : decode cc pc = .ok (.sipush i, 3)) (hv : (Int16.ofInt i).toInt32 = v) (kk : ka_I G X V (pc + 3) L (.int v :: st)): ka_I G X V pc L (st) := by
  obtain ⟨p, e, R, s, m, args, below, meth, c, A0, k, n, Q⟩ := X
  intro H locs ls hP hS hL
  exact lv_sipush hC.1 hC.2.1 hd hv (kk H locs ls hP hS hL)
theorem ka_ldc {i : Nat} {v : Int32} (hC : ka_C G X cc own nL d) (hq : Cond.constant own i v ∈ ka_T) (hd : decode cc pc = .ok (.ldc i, 2)) (kk : ka_I G X V (pc + 2) L (.int v :: st)): ka_I G X V pc L (st) := by
  obtain ⟨p, e, R, s, m, args, below, meth, c, A0, k, n, Q⟩ := X
  intro H locs ls hP hS hL
  exact lv_ldc hC.1 hC.2.1 hC.2.2.2.1 (hC.2.2.2.2.1 _ hq) hd (kk H locs ls hP hS hL)
theorem ka_ldcw {i : Nat} {v : Int32} (hC : ka_C G X cc own nL d) (hq : Cond.constant own i v ∈ ka_T) (hd : decode cc pc = .ok (.ldc_w i, 3)) (kk : ka_I G X V (pc + 3) L (.int v :: st)): ka_I G X V pc L (st) := by
  obtain ⟨p, e, R, s, m, args, below, meth, c, A0, k, n, Q⟩ := X
  intro H locs ls hP hS hL
  exact lv_ldcw hC.1 hC.2.1 hC.2.2.2.1 (hC.2.2.2.2.1 _ hq) hd (kk H locs ls hP hS hL)
theorem ka_iload_n {k : Fin 4} {x : Int32} (hC : ka_C G X cc own nL d) (hd : decode cc pc = .ok (.iload_n k, 1)) (hl : L[(k : Nat)]? = some (.int x)) (kk : ka_I G X V (pc + 1) L (.int x :: st)): ka_I G X V pc L (st) := by
  obtain ⟨p, e, R, s, m, args, below, meth, c, A0, k, n, Q⟩ := X
  intro H locs ls hP hS hL
  exact lv_iload_n hC.1 hC.2.1 hd rfl (ka_L_at hL hl) (kk H locs ls hP hS hL)
theorem ka_iload {k : Nat} {x : Int32} (hC : ka_C G X cc own nL d) (hd : decode cc pc = .ok (.iload k, 2)) (hl : L[k]? = some (.int x)) (kk : ka_I G X V (pc + 2) L (.int x :: st)): ka_I G X V pc L (st) := by
  obtain ⟨p, e, R, s, m, args, below, meth, c, A0, k, n, Q⟩ := X
  intro H locs ls hP hS hL
  exact lv_iload hC.1 hC.2.1 hd (ka_L_at hL hl) (kk H locs ls hP hS hL)
theorem ka_istore_n_s {k : Fin 4} {x : Int32} (hC : ka_C G X cc own nL d) (hd : decode cc pc = .ok (.istore_n k, 1)) (hi : (k : Nat) < L.length) (hn : (k : Nat) < nL) (kk : ka_I G X V (pc + 1) (L.set (k : Nat) (.int x)) (st)): ka_I G X V pc L (.int x :: st) := by
  obtain ⟨p, e, R, s, m, args, below, meth, c, A0, k, n, Q⟩ := X
  intro H locs ls hP hS hL
  exact lv_istore_n hC.1 hC.2.1 hd rfl (nL := c.maxLocals) hL.1 (by rw [hC.2.2.1]; exact hn) rfl (fun ls' h' => kk H locs ls' hP hS (ka_L_new hL rfl ka_set_at h'))
theorem ka_istore_n_p {k : Fin 4} {x : Int32} (hC : ka_C G X cc own nL d) (hd : decode cc pc = .ok (.istore_n k, 1)) (hi : (k : Nat) = L.length) (hn : (k : Nat) < nL) (kk : ka_I G X V (pc + 1) (L ++ [.int x]) (st)): ka_I G X V pc L (.int x :: st) := by
  obtain ⟨p, e, R, s, m, args, below, meth, c, A0, k, n, Q⟩ := X
  intro H locs ls hP hS hL
  exact lv_istore_n hC.1 hC.2.1 hd rfl (nL := c.maxLocals) hL.1 (by rw [hC.2.2.1]; exact hn) rfl (fun ls' h' => kk H locs ls' hP hS (ka_L_new hL rfl (hi ▸ ka_push_at) h'))
theorem ka_istore_s {k : Nat} {x : Int32} (hC : ka_C G X cc own nL d) (hd : decode cc pc = .ok (.istore k, 2)) (hi : k < L.length) (hn : k < nL) (kk : ka_I G X V (pc + 2) (L.set k (.int x)) (st)): ka_I G X V pc L (.int x :: st) := by
  obtain ⟨p, e, R, s, m, args, below, meth, c, A0, k, n, Q⟩ := X
  intro H locs ls hP hS hL
  exact lv_istore hC.1 hC.2.1 hd (nL := c.maxLocals) hL.1 (by rw [hC.2.2.1]; exact hn) rfl (fun ls' h' => kk H locs ls' hP hS (ka_L_new hL rfl ka_set_at h'))
theorem ka_istore_p {k : Nat} {x : Int32} (hC : ka_C G X cc own nL d) (hd : decode cc pc = .ok (.istore k, 2)) (hi : k = L.length) (hn : k < nL) (kk : ka_I G X V (pc + 2) (L ++ [.int x]) (st)): ka_I G X V pc L (.int x :: st) := by
  obtain ⟨p, e, R, s, m, args, below, meth, c, A0, k, n, Q⟩ := X
  intro H locs ls hP hS hL
  exact lv_istore hC.1 hC.2.1 hd (nL := c.maxLocals) hL.1 (by rw [hC.2.2.1]; exact hn) rfl (fun ls' h' => kk H locs ls' hP hS (ka_L_new hL rfl (hi ▸ ka_push_at) h'))
theorem ka_aload_n {k : Fin 4} {x : Nat} (hC : ka_C G X cc own nL d) (hd : decode cc pc = .ok (.aload_n k, 1)) (hl : L[(k : Nat)]? = some (.ref x)) (kk : ka_I G X V (pc + 1) L (.ref x :: st)): ka_I G X V pc L (st) := by
  obtain ⟨p, e, R, s, m, args, below, meth, c, A0, k, n, Q⟩ := X
  intro H locs ls hP hS hL
  exact lv_aload_n hC.1 hC.2.1 hd rfl (ka_L_at hL hl) (kk H locs ls hP hS hL)
theorem ka_aload {k : Nat} {x : Nat} (hC : ka_C G X cc own nL d) (hd : decode cc pc = .ok (.aload k, 2)) (hl : L[k]? = some (.ref x)) (kk : ka_I G X V (pc + 2) L (.ref x :: st)): ka_I G X V pc L (st) := by
  obtain ⟨p, e, R, s, m, args, below, meth, c, A0, k, n, Q⟩ := X
  intro H locs ls hP hS hL
  exact lv_aload hC.1 hC.2.1 hd (ka_L_at hL hl) (kk H locs ls hP hS hL)
theorem ka_astore_n_s {k : Fin 4} {x : Nat} (hC : ka_C G X cc own nL d) (hd : decode cc pc = .ok (.astore_n k, 1)) (hi : (k : Nat) < L.length) (hn : (k : Nat) < nL) (kk : ka_I G X V (pc + 1) (L.set (k : Nat) (.ref x)) (st)): ka_I G X V pc L (.ref x :: st) := by
  obtain ⟨p, e, R, s, m, args, below, meth, c, A0, k, n, Q⟩ := X
  intro H locs ls hP hS hL
  exact lv_astore_n hC.1 hC.2.1 hd rfl (nL := c.maxLocals) hL.1 (by rw [hC.2.2.1]; exact hn) rfl (fun ls' h' => kk H locs ls' hP hS (ka_L_new hL rfl ka_set_at h'))
theorem ka_astore_n_p {k : Fin 4} {x : Nat} (hC : ka_C G X cc own nL d) (hd : decode cc pc = .ok (.astore_n k, 1)) (hi : (k : Nat) = L.length) (hn : (k : Nat) < nL) (kk : ka_I G X V (pc + 1) (L ++ [.ref x]) (st)): ka_I G X V pc L (.ref x :: st) := by
  obtain ⟨p, e, R, s, m, args, below, meth, c, A0, k, n, Q⟩ := X
  intro H locs ls hP hS hL
  exact lv_astore_n hC.1 hC.2.1 hd rfl (nL := c.maxLocals) hL.1 (by rw [hC.2.2.1]; exact hn) rfl (fun ls' h' => kk H locs ls' hP hS (ka_L_new hL rfl (hi ▸ ka_push_at) h'))
theorem ka_astore_s {k : Nat} {x : Nat} (hC : ka_C G X cc own nL d) (hd : decode cc pc = .ok (.astore k, 2)) (hi : k < L.length) (hn : k < nL) (kk : ka_I G X V (pc + 2) (L.set k (.ref x)) (st)): ka_I G X V pc L (.ref x :: st) := by
  obtain ⟨p, e, R, s, m, args, below, meth, c, A0, k, n, Q⟩ := X
  intro H locs ls hP hS hL
  exact lv_astore hC.1 hC.2.1 hd (nL := c.maxLocals) hL.1 (by rw [hC.2.2.1]; exact hn) rfl (fun ls' h' => kk H locs ls' hP hS (ka_L_new hL rfl ka_set_at h'))
theorem ka_astore_p {k : Nat} {x : Nat} (hC : ka_C G X cc own nL d) (hd : decode cc pc = .ok (.astore k, 2)) (hi : k = L.length) (hn : k < nL) (kk : ka_I G X V (pc + 2) (L ++ [.ref x]) (st)): ka_I G X V pc L (.ref x :: st) := by
  obtain ⟨p, e, R, s, m, args, below, meth, c, A0, k, n, Q⟩ := X
  intro H locs ls hP hS hL
  exact lv_astore hC.1 hC.2.1 hd (nL := c.maxLocals) hL.1 (by rw [hC.2.2.1]; exact hn) rfl (fun ls' h' => kk H locs ls' hP hS (ka_L_new hL rfl (hi ▸ ka_push_at) h'))
theorem ka_fload_n {k : Fin 4} {x : UInt32} (hC : ka_C G X cc own nL d) (hd : decode cc pc = .ok (.fload_n k, 1)) (hl : L[(k : Nat)]? = some (.float x)) (kk : ka_I G X V (pc + 1) L (.float x :: st)): ka_I G X V pc L (st) := by
  obtain ⟨p, e, R, s, m, args, below, meth, c, A0, k, n, Q⟩ := X
  intro H locs ls hP hS hL
  exact lv_fload_n hC.1 hC.2.1 hd rfl (ka_L_at hL hl) (kk H locs ls hP hS hL)
theorem ka_fload {k : Nat} {x : UInt32} (hC : ka_C G X cc own nL d) (hd : decode cc pc = .ok (.fload k, 2)) (hl : L[k]? = some (.float x)) (kk : ka_I G X V (pc + 2) L (.float x :: st)): ka_I G X V pc L (st) := by
  obtain ⟨p, e, R, s, m, args, below, meth, c, A0, k, n, Q⟩ := X
  intro H locs ls hP hS hL
  exact lv_fload hC.1 hC.2.1 hd (ka_L_at hL hl) (kk H locs ls hP hS hL)
theorem ka_fstore_n_s {k : Fin 4} {x : UInt32} (hC : ka_C G X cc own nL d) (hd : decode cc pc = .ok (.fstore_n k, 1)) (hi : (k : Nat) < L.length) (hn : (k : Nat) < nL) (kk : ka_I G X V (pc + 1) (L.set (k : Nat) (.float x)) (st)): ka_I G X V pc L (.float x :: st) := by
  obtain ⟨p, e, R, s, m, args, below, meth, c, A0, k, n, Q⟩ := X
  intro H locs ls hP hS hL
  exact lv_fstore_n hC.1 hC.2.1 hd rfl (nL := c.maxLocals) hL.1 (by rw [hC.2.2.1]; exact hn) rfl (fun ls' h' => kk H locs ls' hP hS (ka_L_new hL rfl ka_set_at h'))
theorem ka_fstore_n_p {k : Fin 4} {x : UInt32} (hC : ka_C G X cc own nL d) (hd : decode cc pc = .ok (.fstore_n k, 1)) (hi : (k : Nat) = L.length) (hn : (k : Nat) < nL) (kk : ka_I G X V (pc + 1) (L ++ [.float x]) (st)): ka_I G X V pc L (.float x :: st) := by
  obtain ⟨p, e, R, s, m, args, below, meth, c, A0, k, n, Q⟩ := X
  intro H locs ls hP hS hL
  exact lv_fstore_n hC.1 hC.2.1 hd rfl (nL := c.maxLocals) hL.1 (by rw [hC.2.2.1]; exact hn) rfl (fun ls' h' => kk H locs ls' hP hS (ka_L_new hL rfl (hi ▸ ka_push_at) h'))
theorem ka_fstore_s {k : Nat} {x : UInt32} (hC : ka_C G X cc own nL d) (hd : decode cc pc = .ok (.fstore k, 2)) (hi : k < L.length) (hn : k < nL) (kk : ka_I G X V (pc + 2) (L.set k (.float x)) (st)): ka_I G X V pc L (.float x :: st) := by
  obtain ⟨p, e, R, s, m, args, below, meth, c, A0, k, n, Q⟩ := X
  intro H locs ls hP hS hL
  exact lv_fstore hC.1 hC.2.1 hd (nL := c.maxLocals) hL.1 (by rw [hC.2.2.1]; exact hn) rfl (fun ls' h' => kk H locs ls' hP hS (ka_L_new hL rfl ka_set_at h'))
theorem ka_fstore_p {k : Nat} {x : UInt32} (hC : ka_C G X cc own nL d) (hd : decode cc pc = .ok (.fstore k, 2)) (hi : k = L.length) (hn : k < nL) (kk : ka_I G X V (pc + 2) (L ++ [.float x]) (st)): ka_I G X V pc L (.float x :: st) := by
  obtain ⟨p, e, R, s, m, args, below, meth, c, A0, k, n, Q⟩ := X
  intro H locs ls hP hS hL
  exact lv_fstore hC.1 hC.2.1 hd (nL := c.maxLocals) hL.1 (by rw [hC.2.2.1]; exact hn) rfl (fun ls' h' => kk H locs ls' hP hS (ka_L_new hL rfl (hi ▸ ka_push_at) h'))
theorem ka_iinc0 {p : Program} {l : Launch} {e : Env} {R : Room} {s : State} {m : MethodId} {args : Array Value} {below : List Frame} {meth : Method} {c : Code} {H : Heap} {locs : List Loc} {cells slots : Nat} {Q : State → Prop} {ls : Array Slot} {rest : List Value} (hexec : p.tables.exec = Jvm.exec) (hb : c.code = cc) {i nL : Nat} {n : Int} {x v : Int32} {lv : List (Nat × Value)} (hdg : decode cc pc = .ok (.iinc i n, 3)) (hg : ls[i]? = some (.val (.int x))) (hv : x + Int32.ofInt n = v) (h : lv_has ls nL lv) (hn : i < nL)
    (kk : ∀ ls' : Array Slot, lv_has ls' nL ((i, Value.int v) :: lv.filter (fun q => !(q.1 == i) && !(q.1 + 1 == i && q.2.category == 2))) → W p l e R s m args below meth c H locs cells slots Q (F0 m (pc + 3) ls' rest)) : W p l e R s m args below meth c H locs cells slots Q (F0 m pc ls rest) := by
  subst hv
  obtain ⟨ls', e', h'⟩ := lv_store1 (v := .int (x + Int32.ofInt n)) h hn rfl
  intro T hT X
  obtain ⟨t, a, b⟩ := kk ls' h' T hT X
  refine ⟨t, ?_, b⟩
  jvm_step X.here [X.here.top, ↓top_set X.here.top, hexec, hb, hdg, hg, e']
  exact a
theorem ka_iinc {k : Nat} {i : Int} {v x : Int32} (hC : ka_C G X cc own nL d) (hd : decode cc pc = .ok (.iinc k i, 3)) (hl : L[k]? = some (.int x)) (hv : Int32.ofInt i = v) (hn : k < nL) (kk : ka_I G X V (pc + 3) (L.set k (.int (x + v))) (st)): ka_I G X V pc L (st) := by
  obtain ⟨p, e, R, s, m, args, below, meth, c, A0, k, n, Q⟩ := X
  intro H locs ls hP hS hL
  exact ka_iinc0 hC.1 hC.2.1 hd (ka_L_at hL hl) (by rw [hv]) hL.1 (by rw [hC.2.2.1]; exact hn) (fun ls' h' => kk H locs ls' hP hS (ka_L_new hL rfl ka_set_at h'))
theorem ka_istore_n_s0 {x : Int32} {b : Value} {T : List Value} (hC : ka_C G X cc own nL d) (hd : decode cc pc = .ok (.istore_n 0, 1)) (hn : 0 < nL) (kk : ka_I G X V (pc + 1) (.int x :: T) st) : ka_I G X V pc (b :: T) (.int x :: st) := ka_istore_n_s (L := b :: T) (k := 0) hC hd (by show 0 < _; simp only [List.length_cons]; omega) hn kk
theorem ka_istore_n_p0 {x : Int32} (hC : ka_C G X cc own nL d) (hd : decode cc pc = .ok (.istore_n 0, 1)) (hn : 0 < nL) (kk : ka_I G X V (pc + 1) [.int x] st) : ka_I G X V pc [] (.int x :: st) := ka_istore_n_p (L := []) (k := 0) hC hd rfl hn kk
theorem ka_astore_n_s0 {x : Nat} {b : Value} {T : List Value} (hC : ka_C G X cc own nL d) (hd : decode cc pc = .ok (.astore_n 0, 1)) (hn : 0 < nL) (kk : ka_I G X V (pc + 1) (.ref x :: T) st) : ka_I G X V pc (b :: T) (.ref x :: st) := ka_astore_n_s (L := b :: T) (k := 0) hC hd (by show 0 < _; simp only [List.length_cons]; omega) hn kk
theorem ka_astore_n_p0 {x : Nat} (hC : ka_C G X cc own nL d) (hd : decode cc pc = .ok (.astore_n 0, 1)) (hn : 0 < nL) (kk : ka_I G X V (pc + 1) [.ref x] st) : ka_I G X V pc [] (.ref x :: st) := ka_astore_n_p (L := []) (k := 0) hC hd rfl hn kk
theorem ka_fstore_n_s0 {x : UInt32} {b : Value} {T : List Value} (hC : ka_C G X cc own nL d) (hd : decode cc pc = .ok (.fstore_n 0, 1)) (hn : 0 < nL) (kk : ka_I G X V (pc + 1) (.float x :: T) st) : ka_I G X V pc (b :: T) (.float x :: st) := ka_fstore_n_s (L := b :: T) (k := 0) hC hd (by show 0 < _; simp only [List.length_cons]; omega) hn kk
theorem ka_fstore_n_p0 {x : UInt32} (hC : ka_C G X cc own nL d) (hd : decode cc pc = .ok (.fstore_n 0, 1)) (hn : 0 < nL) (kk : ka_I G X V (pc + 1) [.float x] st) : ka_I G X V pc [] (.float x :: st) := ka_fstore_n_p (L := []) (k := 0) hC hd rfl hn kk
theorem ka_iinc_0 {i : Int} {v x : Int32} {T : List Value} (hC : ka_C G X cc own nL d) (hd : decode cc pc = .ok (.iinc 0 i, 3)) (hv : Int32.ofInt i = v) (hn : 0 < nL) (kk : ka_I G X V (pc + 3) (.int (x + v) :: T) st) : ka_I G X V pc (.int x :: T) st := ka_iinc (L := .int x :: T) (k := 0) hC hd rfl hv hn kk
theorem ka_istore_n_s1 {x : Int32} {b : Value} {T : List Value} {a0 : Value} (hC : ka_C G X cc own nL d) (hd : decode cc pc = .ok (.istore_n 1, 1)) (hn : 1 < nL) (kk : ka_I G X V (pc + 1) (a0 :: .int x :: T) st) : ka_I G X V pc (a0 :: b :: T) (.int x :: st) := ka_istore_n_s (L := a0 :: b :: T) (k := 1) hC hd (by show 1 < _; simp only [List.length_cons]; omega) hn kk
theorem ka_istore_n_p1 {x : Int32} {a0 : Value} (hC : ka_C G X cc own nL d) (hd : decode cc pc = .ok (.istore_n 1, 1)) (hn : 1 < nL) (kk : ka_I G X V (pc + 1) [a0, .int x] st) : ka_I G X V pc [a0] (.int x :: st) := ka_istore_n_p (L := [a0]) (k := 1) hC hd rfl hn kk
theorem ka_astore_n_s1 {x : Nat} {b : Value} {T : List Value} {a0 : Value} (hC : ka_C G X cc own nL d) (hd : decode cc pc = .ok (.astore_n 1, 1)) (hn : 1 < nL) (kk : ka_I G X V (pc + 1) (a0 :: .ref x :: T) st) : ka_I G X V pc (a0 :: b :: T) (.ref x :: st) := ka_astore_n_s (L := a0 :: b :: T) (k := 1) hC hd (by show 1 < _; simp only [List.length_cons]; omega) hn kk
theorem ka_astore_n_p1 {x : Nat} {a0 : Value} (hC : ka_C G X cc own nL d) (hd : decode cc pc = .ok (.astore_n 1, 1)) (hn : 1 < nL) (kk : ka_I G X V (pc + 1) [a0, .ref x] st) : ka_I G X V pc [a0] (.ref x :: st) := ka_astore_n_p (L := [a0]) (k := 1) hC hd rfl hn kk
theorem ka_fstore_n_s1 {x : UInt32} {b : Value} {T : List Value} {a0 : Value} (hC : ka_C G X cc own nL d) (hd : decode cc pc = .ok (.fstore_n 1, 1)) (hn : 1 < nL) (kk : ka_I G X V (pc + 1) (a0 :: .float x :: T) st) : ka_I G X V pc (a0 :: b :: T) (.float x :: st) := ka_fstore_n_s (L := a0 :: b :: T) (k := 1) hC hd (by show 1 < _; simp only [List.length_cons]; omega) hn kk
theorem ka_fstore_n_p1 {x : UInt32} {a0 : Value} (hC : ka_C G X cc own nL d) (hd : decode cc pc = .ok (.fstore_n 1, 1)) (hn : 1 < nL) (kk : ka_I G X V (pc + 1) [a0, .float x] st) : ka_I G X V pc [a0] (.float x :: st) := ka_fstore_n_p (L := [a0]) (k := 1) hC hd rfl hn kk
theorem ka_iinc_1 {i : Int} {v x : Int32} {T : List Value} {a0 : Value} (hC : ka_C G X cc own nL d) (hd : decode cc pc = .ok (.iinc 1 i, 3)) (hv : Int32.ofInt i = v) (hn : 1 < nL) (kk : ka_I G X V (pc + 3) (a0 :: .int (x + v) :: T) st) : ka_I G X V pc (a0 :: .int x :: T) st := ka_iinc (L := a0 :: .int x :: T) (k := 1) hC hd rfl hv hn kk
theorem ka_istore_n_s2 {x : Int32} {b : Value} {T : List Value} {a0 a1 : Value} (hC : ka_C G X cc own nL d) (hd : decode cc pc = .ok (.istore_n 2, 1)) (hn : 2 < nL) (kk : ka_I G X V (pc + 1) (a0 :: a1 :: .int x :: T) st) : ka_I G X V pc (a0 :: a1 :: b :: T) (.int x :: st) := ka_istore_n_s (L := a0 :: a1 :: b :: T) (k := 2) hC hd (by show 2 < _; simp only [List.length_cons]; omega) hn kk
theorem ka_istore_n_p2 {x : Int32} {a0 a1 : Value} (hC : ka_C G X cc own nL d) (hd : decode cc pc = .ok (.istore_n 2, 1)) (hn : 2 < nL) (kk : ka_I G X V (pc + 1) [a0, a1, .int x] st) : ka_I G X V pc [a0, a1] (.int x :: st) := ka_istore_n_p (L := [a0, a1]) (k := 2) hC hd rfl hn kk
theorem ka_astore_n_s2 {x : Nat} {b : Value} {T : List Value} {a0 a1 : Value} (hC : ka_C G X cc own nL d) (hd : decode cc pc = .ok (.astore_n 2, 1)) (hn : 2 < nL) (kk : ka_I G X V (pc + 1) (a0 :: a1 :: .ref x :: T) st) : ka_I G X V pc (a0 :: a1 :: b :: T) (.ref x :: st) := ka_astore_n_s (L := a0 :: a1 :: b :: T) (k := 2) hC hd (by show 2 < _; simp only [List.length_cons]; omega) hn kk
theorem ka_astore_n_p2 {x : Nat} {a0 a1 : Value} (hC : ka_C G X cc own nL d) (hd : decode cc pc = .ok (.astore_n 2, 1)) (hn : 2 < nL) (kk : ka_I G X V (pc + 1) [a0, a1, .ref x] st) : ka_I G X V pc [a0, a1] (.ref x :: st) := ka_astore_n_p (L := [a0, a1]) (k := 2) hC hd rfl hn kk
theorem ka_fstore_n_s2 {x : UInt32} {b : Value} {T : List Value} {a0 a1 : Value} (hC : ka_C G X cc own nL d) (hd : decode cc pc = .ok (.fstore_n 2, 1)) (hn : 2 < nL) (kk : ka_I G X V (pc + 1) (a0 :: a1 :: .float x :: T) st) : ka_I G X V pc (a0 :: a1 :: b :: T) (.float x :: st) := ka_fstore_n_s (L := a0 :: a1 :: b :: T) (k := 2) hC hd (by show 2 < _; simp only [List.length_cons]; omega) hn kk
theorem ka_fstore_n_p2 {x : UInt32} {a0 a1 : Value} (hC : ka_C G X cc own nL d) (hd : decode cc pc = .ok (.fstore_n 2, 1)) (hn : 2 < nL) (kk : ka_I G X V (pc + 1) [a0, a1, .float x] st) : ka_I G X V pc [a0, a1] (.float x :: st) := ka_fstore_n_p (L := [a0, a1]) (k := 2) hC hd rfl hn kk
theorem ka_iinc_2 {i : Int} {v x : Int32} {T : List Value} {a0 a1 : Value} (hC : ka_C G X cc own nL d) (hd : decode cc pc = .ok (.iinc 2 i, 3)) (hv : Int32.ofInt i = v) (hn : 2 < nL) (kk : ka_I G X V (pc + 3) (a0 :: a1 :: .int (x + v) :: T) st) : ka_I G X V pc (a0 :: a1 :: .int x :: T) st := ka_iinc (L := a0 :: a1 :: .int x :: T) (k := 2) hC hd rfl hv hn kk
theorem ka_istore_n_s3 {x : Int32} {b : Value} {T : List Value} {a0 a1 a2 : Value} (hC : ka_C G X cc own nL d) (hd : decode cc pc = .ok (.istore_n 3, 1)) (hn : 3 < nL) (kk : ka_I G X V (pc + 1) (a0 :: a1 :: a2 :: .int x :: T) st) : ka_I G X V pc (a0 :: a1 :: a2 :: b :: T) (.int x :: st) := ka_istore_n_s (L := a0 :: a1 :: a2 :: b :: T) (k := 3) hC hd (by show 3 < _; simp only [List.length_cons]; omega) hn kk
theorem ka_istore_n_p3 {x : Int32} {a0 a1 a2 : Value} (hC : ka_C G X cc own nL d) (hd : decode cc pc = .ok (.istore_n 3, 1)) (hn : 3 < nL) (kk : ka_I G X V (pc + 1) [a0, a1, a2, .int x] st) : ka_I G X V pc [a0, a1, a2] (.int x :: st) := ka_istore_n_p (L := [a0, a1, a2]) (k := 3) hC hd rfl hn kk
theorem ka_astore_n_s3 {x : Nat} {b : Value} {T : List Value} {a0 a1 a2 : Value} (hC : ka_C G X cc own nL d) (hd : decode cc pc = .ok (.astore_n 3, 1)) (hn : 3 < nL) (kk : ka_I G X V (pc + 1) (a0 :: a1 :: a2 :: .ref x :: T) st) : ka_I G X V pc (a0 :: a1 :: a2 :: b :: T) (.ref x :: st) := ka_astore_n_s (L := a0 :: a1 :: a2 :: b :: T) (k := 3) hC hd (by show 3 < _; simp only [List.length_cons]; omega) hn kk
theorem ka_astore_n_p3 {x : Nat} {a0 a1 a2 : Value} (hC : ka_C G X cc own nL d) (hd : decode cc pc = .ok (.astore_n 3, 1)) (hn : 3 < nL) (kk : ka_I G X V (pc + 1) [a0, a1, a2, .ref x] st) : ka_I G X V pc [a0, a1, a2] (.ref x :: st) := ka_astore_n_p (L := [a0, a1, a2]) (k := 3) hC hd rfl hn kk
theorem ka_fstore_n_s3 {x : UInt32} {b : Value} {T : List Value} {a0 a1 a2 : Value} (hC : ka_C G X cc own nL d) (hd : decode cc pc = .ok (.fstore_n 3, 1)) (hn : 3 < nL) (kk : ka_I G X V (pc + 1) (a0 :: a1 :: a2 :: .float x :: T) st) : ka_I G X V pc (a0 :: a1 :: a2 :: b :: T) (.float x :: st) := ka_fstore_n_s (L := a0 :: a1 :: a2 :: b :: T) (k := 3) hC hd (by show 3 < _; simp only [List.length_cons]; omega) hn kk
theorem ka_fstore_n_p3 {x : UInt32} {a0 a1 a2 : Value} (hC : ka_C G X cc own nL d) (hd : decode cc pc = .ok (.fstore_n 3, 1)) (hn : 3 < nL) (kk : ka_I G X V (pc + 1) [a0, a1, a2, .float x] st) : ka_I G X V pc [a0, a1, a2] (.float x :: st) := ka_fstore_n_p (L := [a0, a1, a2]) (k := 3) hC hd rfl hn kk
theorem ka_iinc_3 {i : Int} {v x : Int32} {T : List Value} {a0 a1 a2 : Value} (hC : ka_C G X cc own nL d) (hd : decode cc pc = .ok (.iinc 3 i, 3)) (hv : Int32.ofInt i = v) (hn : 3 < nL) (kk : ka_I G X V (pc + 3) (a0 :: a1 :: a2 :: .int (x + v) :: T) st) : ka_I G X V pc (a0 :: a1 :: a2 :: .int x :: T) st := ka_iinc (L := a0 :: a1 :: a2 :: .int x :: T) (k := 3) hC hd rfl hv hn kk
theorem ka_istore_s4 {x : Int32} {b : Value} {T : List Value} {a0 a1 a2 a3 : Value} (hC : ka_C G X cc own nL d) (hd : decode cc pc = .ok (.istore 4, 2)) (hn : 4 < nL) (kk : ka_I G X V (pc + 2) (a0 :: a1 :: a2 :: a3 :: .int x :: T) st) : ka_I G X V pc (a0 :: a1 :: a2 :: a3 :: b :: T) (.int x :: st) := ka_istore_s (L := a0 :: a1 :: a2 :: a3 :: b :: T) (k := 4) hC hd (by show 4 < _; simp only [List.length_cons]; omega) hn kk
theorem ka_istore_p4 {x : Int32} {a0 a1 a2 a3 : Value} (hC : ka_C G X cc own nL d) (hd : decode cc pc = .ok (.istore 4, 2)) (hn : 4 < nL) (kk : ka_I G X V (pc + 2) [a0, a1, a2, a3, .int x] st) : ka_I G X V pc [a0, a1, a2, a3] (.int x :: st) := ka_istore_p (L := [a0, a1, a2, a3]) (k := 4) hC hd rfl hn kk
theorem ka_astore_s4 {x : Nat} {b : Value} {T : List Value} {a0 a1 a2 a3 : Value} (hC : ka_C G X cc own nL d) (hd : decode cc pc = .ok (.astore 4, 2)) (hn : 4 < nL) (kk : ka_I G X V (pc + 2) (a0 :: a1 :: a2 :: a3 :: .ref x :: T) st) : ka_I G X V pc (a0 :: a1 :: a2 :: a3 :: b :: T) (.ref x :: st) := ka_astore_s (L := a0 :: a1 :: a2 :: a3 :: b :: T) (k := 4) hC hd (by show 4 < _; simp only [List.length_cons]; omega) hn kk
theorem ka_astore_p4 {x : Nat} {a0 a1 a2 a3 : Value} (hC : ka_C G X cc own nL d) (hd : decode cc pc = .ok (.astore 4, 2)) (hn : 4 < nL) (kk : ka_I G X V (pc + 2) [a0, a1, a2, a3, .ref x] st) : ka_I G X V pc [a0, a1, a2, a3] (.ref x :: st) := ka_astore_p (L := [a0, a1, a2, a3]) (k := 4) hC hd rfl hn kk
theorem ka_fstore_s4 {x : UInt32} {b : Value} {T : List Value} {a0 a1 a2 a3 : Value} (hC : ka_C G X cc own nL d) (hd : decode cc pc = .ok (.fstore 4, 2)) (hn : 4 < nL) (kk : ka_I G X V (pc + 2) (a0 :: a1 :: a2 :: a3 :: .float x :: T) st) : ka_I G X V pc (a0 :: a1 :: a2 :: a3 :: b :: T) (.float x :: st) := ka_fstore_s (L := a0 :: a1 :: a2 :: a3 :: b :: T) (k := 4) hC hd (by show 4 < _; simp only [List.length_cons]; omega) hn kk
theorem ka_fstore_p4 {x : UInt32} {a0 a1 a2 a3 : Value} (hC : ka_C G X cc own nL d) (hd : decode cc pc = .ok (.fstore 4, 2)) (hn : 4 < nL) (kk : ka_I G X V (pc + 2) [a0, a1, a2, a3, .float x] st) : ka_I G X V pc [a0, a1, a2, a3] (.float x :: st) := ka_fstore_p (L := [a0, a1, a2, a3]) (k := 4) hC hd rfl hn kk
theorem ka_iinc_4 {i : Int} {v x : Int32} {T : List Value} {a0 a1 a2 a3 : Value} (hC : ka_C G X cc own nL d) (hd : decode cc pc = .ok (.iinc 4 i, 3)) (hv : Int32.ofInt i = v) (hn : 4 < nL) (kk : ka_I G X V (pc + 3) (a0 :: a1 :: a2 :: a3 :: .int (x + v) :: T) st) : ka_I G X V pc (a0 :: a1 :: a2 :: a3 :: .int x :: T) st := ka_iinc (L := a0 :: a1 :: a2 :: a3 :: .int x :: T) (k := 4) hC hd rfl hv hn kk
theorem ka_istore_s5 {x : Int32} {b : Value} {T : List Value} {a0 a1 a2 a3 a4 : Value} (hC : ka_C G X cc own nL d) (hd : decode cc pc = .ok (.istore 5, 2)) (hn : 5 < nL) (kk : ka_I G X V (pc + 2) (a0 :: a1 :: a2 :: a3 :: a4 :: .int x :: T) st) : ka_I G X V pc (a0 :: a1 :: a2 :: a3 :: a4 :: b :: T) (.int x :: st) := ka_istore_s (L := a0 :: a1 :: a2 :: a3 :: a4 :: b :: T) (k := 5) hC hd (by show 5 < _; simp only [List.length_cons]; omega) hn kk
theorem ka_istore_p5 {x : Int32} {a0 a1 a2 a3 a4 : Value} (hC : ka_C G X cc own nL d) (hd : decode cc pc = .ok (.istore 5, 2)) (hn : 5 < nL) (kk : ka_I G X V (pc + 2) [a0, a1, a2, a3, a4, .int x] st) : ka_I G X V pc [a0, a1, a2, a3, a4] (.int x :: st) := ka_istore_p (L := [a0, a1, a2, a3, a4]) (k := 5) hC hd rfl hn kk
theorem ka_astore_s5 {x : Nat} {b : Value} {T : List Value} {a0 a1 a2 a3 a4 : Value} (hC : ka_C G X cc own nL d) (hd : decode cc pc = .ok (.astore 5, 2)) (hn : 5 < nL) (kk : ka_I G X V (pc + 2) (a0 :: a1 :: a2 :: a3 :: a4 :: .ref x :: T) st) : ka_I G X V pc (a0 :: a1 :: a2 :: a3 :: a4 :: b :: T) (.ref x :: st) := ka_astore_s (L := a0 :: a1 :: a2 :: a3 :: a4 :: b :: T) (k := 5) hC hd (by show 5 < _; simp only [List.length_cons]; omega) hn kk
theorem ka_astore_p5 {x : Nat} {a0 a1 a2 a3 a4 : Value} (hC : ka_C G X cc own nL d) (hd : decode cc pc = .ok (.astore 5, 2)) (hn : 5 < nL) (kk : ka_I G X V (pc + 2) [a0, a1, a2, a3, a4, .ref x] st) : ka_I G X V pc [a0, a1, a2, a3, a4] (.ref x :: st) := ka_astore_p (L := [a0, a1, a2, a3, a4]) (k := 5) hC hd rfl hn kk
theorem ka_fstore_s5 {x : UInt32} {b : Value} {T : List Value} {a0 a1 a2 a3 a4 : Value} (hC : ka_C G X cc own nL d) (hd : decode cc pc = .ok (.fstore 5, 2)) (hn : 5 < nL) (kk : ka_I G X V (pc + 2) (a0 :: a1 :: a2 :: a3 :: a4 :: .float x :: T) st) : ka_I G X V pc (a0 :: a1 :: a2 :: a3 :: a4 :: b :: T) (.float x :: st) := ka_fstore_s (L := a0 :: a1 :: a2 :: a3 :: a4 :: b :: T) (k := 5) hC hd (by show 5 < _; simp only [List.length_cons]; omega) hn kk
theorem ka_fstore_p5 {x : UInt32} {a0 a1 a2 a3 a4 : Value} (hC : ka_C G X cc own nL d) (hd : decode cc pc = .ok (.fstore 5, 2)) (hn : 5 < nL) (kk : ka_I G X V (pc + 2) [a0, a1, a2, a3, a4, .float x] st) : ka_I G X V pc [a0, a1, a2, a3, a4] (.float x :: st) := ka_fstore_p (L := [a0, a1, a2, a3, a4]) (k := 5) hC hd rfl hn kk
theorem ka_iinc_5 {i : Int} {v x : Int32} {T : List Value} {a0 a1 a2 a3 a4 : Value} (hC : ka_C G X cc own nL d) (hd : decode cc pc = .ok (.iinc 5 i, 3)) (hv : Int32.ofInt i = v) (hn : 5 < nL) (kk : ka_I G X V (pc + 3) (a0 :: a1 :: a2 :: a3 :: a4 :: .int (x + v) :: T) st) : ka_I G X V pc (a0 :: a1 :: a2 :: a3 :: a4 :: .int x :: T) st := ka_iinc (L := a0 :: a1 :: a2 :: a3 :: a4 :: .int x :: T) (k := 5) hC hd rfl hv hn kk
theorem ka_istore_s6 {x : Int32} {b : Value} {T : List Value} {a0 a1 a2 a3 a4 a5 : Value} (hC : ka_C G X cc own nL d) (hd : decode cc pc = .ok (.istore 6, 2)) (hn : 6 < nL) (kk : ka_I G X V (pc + 2) (a0 :: a1 :: a2 :: a3 :: a4 :: a5 :: .int x :: T) st) : ka_I G X V pc (a0 :: a1 :: a2 :: a3 :: a4 :: a5 :: b :: T) (.int x :: st) := ka_istore_s (L := a0 :: a1 :: a2 :: a3 :: a4 :: a5 :: b :: T) (k := 6) hC hd (by show 6 < _; simp only [List.length_cons]; omega) hn kk
theorem ka_istore_p6 {x : Int32} {a0 a1 a2 a3 a4 a5 : Value} (hC : ka_C G X cc own nL d) (hd : decode cc pc = .ok (.istore 6, 2)) (hn : 6 < nL) (kk : ka_I G X V (pc + 2) [a0, a1, a2, a3, a4, a5, .int x] st) : ka_I G X V pc [a0, a1, a2, a3, a4, a5] (.int x :: st) := ka_istore_p (L := [a0, a1, a2, a3, a4, a5]) (k := 6) hC hd rfl hn kk
theorem ka_astore_s6 {x : Nat} {b : Value} {T : List Value} {a0 a1 a2 a3 a4 a5 : Value} (hC : ka_C G X cc own nL d) (hd : decode cc pc = .ok (.astore 6, 2)) (hn : 6 < nL) (kk : ka_I G X V (pc + 2) (a0 :: a1 :: a2 :: a3 :: a4 :: a5 :: .ref x :: T) st) : ka_I G X V pc (a0 :: a1 :: a2 :: a3 :: a4 :: a5 :: b :: T) (.ref x :: st) := ka_astore_s (L := a0 :: a1 :: a2 :: a3 :: a4 :: a5 :: b :: T) (k := 6) hC hd (by show 6 < _; simp only [List.length_cons]; omega) hn kk
theorem ka_astore_p6 {x : Nat} {a0 a1 a2 a3 a4 a5 : Value} (hC : ka_C G X cc own nL d) (hd : decode cc pc = .ok (.astore 6, 2)) (hn : 6 < nL) (kk : ka_I G X V (pc + 2) [a0, a1, a2, a3, a4, a5, .ref x] st) : ka_I G X V pc [a0, a1, a2, a3, a4, a5] (.ref x :: st) := ka_astore_p (L := [a0, a1, a2, a3, a4, a5]) (k := 6) hC hd rfl hn kk
theorem ka_fstore_s6 {x : UInt32} {b : Value} {T : List Value} {a0 a1 a2 a3 a4 a5 : Value} (hC : ka_C G X cc own nL d) (hd : decode cc pc = .ok (.fstore 6, 2)) (hn : 6 < nL) (kk : ka_I G X V (pc + 2) (a0 :: a1 :: a2 :: a3 :: a4 :: a5 :: .float x :: T) st) : ka_I G X V pc (a0 :: a1 :: a2 :: a3 :: a4 :: a5 :: b :: T) (.float x :: st) := ka_fstore_s (L := a0 :: a1 :: a2 :: a3 :: a4 :: a5 :: b :: T) (k := 6) hC hd (by show 6 < _; simp only [List.length_cons]; omega) hn kk
theorem ka_fstore_p6 {x : UInt32} {a0 a1 a2 a3 a4 a5 : Value} (hC : ka_C G X cc own nL d) (hd : decode cc pc = .ok (.fstore 6, 2)) (hn : 6 < nL) (kk : ka_I G X V (pc + 2) [a0, a1, a2, a3, a4, a5, .float x] st) : ka_I G X V pc [a0, a1, a2, a3, a4, a5] (.float x :: st) := ka_fstore_p (L := [a0, a1, a2, a3, a4, a5]) (k := 6) hC hd rfl hn kk
theorem ka_iinc_6 {i : Int} {v x : Int32} {T : List Value} {a0 a1 a2 a3 a4 a5 : Value} (hC : ka_C G X cc own nL d) (hd : decode cc pc = .ok (.iinc 6 i, 3)) (hv : Int32.ofInt i = v) (hn : 6 < nL) (kk : ka_I G X V (pc + 3) (a0 :: a1 :: a2 :: a3 :: a4 :: a5 :: .int (x + v) :: T) st) : ka_I G X V pc (a0 :: a1 :: a2 :: a3 :: a4 :: a5 :: .int x :: T) st := ka_iinc (L := a0 :: a1 :: a2 :: a3 :: a4 :: a5 :: .int x :: T) (k := 6) hC hd rfl hv hn kk
theorem ka_istore_s7 {x : Int32} {b : Value} {T : List Value} {a0 a1 a2 a3 a4 a5 a6 : Value} (hC : ka_C G X cc own nL d) (hd : decode cc pc = .ok (.istore 7, 2)) (hn : 7 < nL) (kk : ka_I G X V (pc + 2) (a0 :: a1 :: a2 :: a3 :: a4 :: a5 :: a6 :: .int x :: T) st) : ka_I G X V pc (a0 :: a1 :: a2 :: a3 :: a4 :: a5 :: a6 :: b :: T) (.int x :: st) := ka_istore_s (L := a0 :: a1 :: a2 :: a3 :: a4 :: a5 :: a6 :: b :: T) (k := 7) hC hd (by show 7 < _; simp only [List.length_cons]; omega) hn kk
theorem ka_istore_p7 {x : Int32} {a0 a1 a2 a3 a4 a5 a6 : Value} (hC : ka_C G X cc own nL d) (hd : decode cc pc = .ok (.istore 7, 2)) (hn : 7 < nL) (kk : ka_I G X V (pc + 2) [a0, a1, a2, a3, a4, a5, a6, .int x] st) : ka_I G X V pc [a0, a1, a2, a3, a4, a5, a6] (.int x :: st) := ka_istore_p (L := [a0, a1, a2, a3, a4, a5, a6]) (k := 7) hC hd rfl hn kk
theorem ka_astore_s7 {x : Nat} {b : Value} {T : List Value} {a0 a1 a2 a3 a4 a5 a6 : Value} (hC : ka_C G X cc own nL d) (hd : decode cc pc = .ok (.astore 7, 2)) (hn : 7 < nL) (kk : ka_I G X V (pc + 2) (a0 :: a1 :: a2 :: a3 :: a4 :: a5 :: a6 :: .ref x :: T) st) : ka_I G X V pc (a0 :: a1 :: a2 :: a3 :: a4 :: a5 :: a6 :: b :: T) (.ref x :: st) := ka_astore_s (L := a0 :: a1 :: a2 :: a3 :: a4 :: a5 :: a6 :: b :: T) (k := 7) hC hd (by show 7 < _; simp only [List.length_cons]; omega) hn kk
theorem ka_astore_p7 {x : Nat} {a0 a1 a2 a3 a4 a5 a6 : Value} (hC : ka_C G X cc own nL d) (hd : decode cc pc = .ok (.astore 7, 2)) (hn : 7 < nL) (kk : ka_I G X V (pc + 2) [a0, a1, a2, a3, a4, a5, a6, .ref x] st) : ka_I G X V pc [a0, a1, a2, a3, a4, a5, a6] (.ref x :: st) := ka_astore_p (L := [a0, a1, a2, a3, a4, a5, a6]) (k := 7) hC hd rfl hn kk
theorem ka_fstore_s7 {x : UInt32} {b : Value} {T : List Value} {a0 a1 a2 a3 a4 a5 a6 : Value} (hC : ka_C G X cc own nL d) (hd : decode cc pc = .ok (.fstore 7, 2)) (hn : 7 < nL) (kk : ka_I G X V (pc + 2) (a0 :: a1 :: a2 :: a3 :: a4 :: a5 :: a6 :: .float x :: T) st) : ka_I G X V pc (a0 :: a1 :: a2 :: a3 :: a4 :: a5 :: a6 :: b :: T) (.float x :: st) := ka_fstore_s (L := a0 :: a1 :: a2 :: a3 :: a4 :: a5 :: a6 :: b :: T) (k := 7) hC hd (by show 7 < _; simp only [List.length_cons]; omega) hn kk
theorem ka_fstore_p7 {x : UInt32} {a0 a1 a2 a3 a4 a5 a6 : Value} (hC : ka_C G X cc own nL d) (hd : decode cc pc = .ok (.fstore 7, 2)) (hn : 7 < nL) (kk : ka_I G X V (pc + 2) [a0, a1, a2, a3, a4, a5, a6, .float x] st) : ka_I G X V pc [a0, a1, a2, a3, a4, a5, a6] (.float x :: st) := ka_fstore_p (L := [a0, a1, a2, a3, a4, a5, a6]) (k := 7) hC hd rfl hn kk
theorem ka_iinc_7 {i : Int} {v x : Int32} {T : List Value} {a0 a1 a2 a3 a4 a5 a6 : Value} (hC : ka_C G X cc own nL d) (hd : decode cc pc = .ok (.iinc 7 i, 3)) (hv : Int32.ofInt i = v) (hn : 7 < nL) (kk : ka_I G X V (pc + 3) (a0 :: a1 :: a2 :: a3 :: a4 :: a5 :: a6 :: .int (x + v) :: T) st) : ka_I G X V pc (a0 :: a1 :: a2 :: a3 :: a4 :: a5 :: a6 :: .int x :: T) st := ka_iinc (L := a0 :: a1 :: a2 :: a3 :: a4 :: a5 :: a6 :: .int x :: T) (k := 7) hC hd rfl hv hn kk
theorem ka_istore_s8 {x : Int32} {b : Value} {T : List Value} {a0 a1 a2 a3 a4 a5 a6 a7 : Value} (hC : ka_C G X cc own nL d) (hd : decode cc pc = .ok (.istore 8, 2)) (hn : 8 < nL) (kk : ka_I G X V (pc + 2) (a0 :: a1 :: a2 :: a3 :: a4 :: a5 :: a6 :: a7 :: .int x :: T) st) : ka_I G X V pc (a0 :: a1 :: a2 :: a3 :: a4 :: a5 :: a6 :: a7 :: b :: T) (.int x :: st) := ka_istore_s (L := a0 :: a1 :: a2 :: a3 :: a4 :: a5 :: a6 :: a7 :: b :: T) (k := 8) hC hd (by show 8 < _; simp only [List.length_cons]; omega) hn kk
theorem ka_istore_p8 {x : Int32} {a0 a1 a2 a3 a4 a5 a6 a7 : Value} (hC : ka_C G X cc own nL d) (hd : decode cc pc = .ok (.istore 8, 2)) (hn : 8 < nL) (kk : ka_I G X V (pc + 2) [a0, a1, a2, a3, a4, a5, a6, a7, .int x] st) : ka_I G X V pc [a0, a1, a2, a3, a4, a5, a6, a7] (.int x :: st) := ka_istore_p (L := [a0, a1, a2, a3, a4, a5, a6, a7]) (k := 8) hC hd rfl hn kk
theorem ka_astore_s8 {x : Nat} {b : Value} {T : List Value} {a0 a1 a2 a3 a4 a5 a6 a7 : Value} (hC : ka_C G X cc own nL d) (hd : decode cc pc = .ok (.astore 8, 2)) (hn : 8 < nL) (kk : ka_I G X V (pc + 2) (a0 :: a1 :: a2 :: a3 :: a4 :: a5 :: a6 :: a7 :: .ref x :: T) st) : ka_I G X V pc (a0 :: a1 :: a2 :: a3 :: a4 :: a5 :: a6 :: a7 :: b :: T) (.ref x :: st) := ka_astore_s (L := a0 :: a1 :: a2 :: a3 :: a4 :: a5 :: a6 :: a7 :: b :: T) (k := 8) hC hd (by show 8 < _; simp only [List.length_cons]; omega) hn kk
theorem ka_astore_p8 {x : Nat} {a0 a1 a2 a3 a4 a5 a6 a7 : Value} (hC : ka_C G X cc own nL d) (hd : decode cc pc = .ok (.astore 8, 2)) (hn : 8 < nL) (kk : ka_I G X V (pc + 2) [a0, a1, a2, a3, a4, a5, a6, a7, .ref x] st) : ka_I G X V pc [a0, a1, a2, a3, a4, a5, a6, a7] (.ref x :: st) := ka_astore_p (L := [a0, a1, a2, a3, a4, a5, a6, a7]) (k := 8) hC hd rfl hn kk
theorem ka_fstore_s8 {x : UInt32} {b : Value} {T : List Value} {a0 a1 a2 a3 a4 a5 a6 a7 : Value} (hC : ka_C G X cc own nL d) (hd : decode cc pc = .ok (.fstore 8, 2)) (hn : 8 < nL) (kk : ka_I G X V (pc + 2) (a0 :: a1 :: a2 :: a3 :: a4 :: a5 :: a6 :: a7 :: .float x :: T) st) : ka_I G X V pc (a0 :: a1 :: a2 :: a3 :: a4 :: a5 :: a6 :: a7 :: b :: T) (.float x :: st) := ka_fstore_s (L := a0 :: a1 :: a2 :: a3 :: a4 :: a5 :: a6 :: a7 :: b :: T) (k := 8) hC hd (by show 8 < _; simp only [List.length_cons]; omega) hn kk
theorem ka_fstore_p8 {x : UInt32} {a0 a1 a2 a3 a4 a5 a6 a7 : Value} (hC : ka_C G X cc own nL d) (hd : decode cc pc = .ok (.fstore 8, 2)) (hn : 8 < nL) (kk : ka_I G X V (pc + 2) [a0, a1, a2, a3, a4, a5, a6, a7, .float x] st) : ka_I G X V pc [a0, a1, a2, a3, a4, a5, a6, a7] (.float x :: st) := ka_fstore_p (L := [a0, a1, a2, a3, a4, a5, a6, a7]) (k := 8) hC hd rfl hn kk
theorem ka_iinc_8 {i : Int} {v x : Int32} {T : List Value} {a0 a1 a2 a3 a4 a5 a6 a7 : Value} (hC : ka_C G X cc own nL d) (hd : decode cc pc = .ok (.iinc 8 i, 3)) (hv : Int32.ofInt i = v) (hn : 8 < nL) (kk : ka_I G X V (pc + 3) (a0 :: a1 :: a2 :: a3 :: a4 :: a5 :: a6 :: a7 :: .int (x + v) :: T) st) : ka_I G X V pc (a0 :: a1 :: a2 :: a3 :: a4 :: a5 :: a6 :: a7 :: .int x :: T) st := ka_iinc (L := a0 :: a1 :: a2 :: a3 :: a4 :: a5 :: a6 :: a7 :: .int x :: T) (k := 8) hC hd rfl hv hn kk
theorem ka_istore_s9 {x : Int32} {b : Value} {T : List Value} {a0 a1 a2 a3 a4 a5 a6 a7 a8 : Value} (hC : ka_C G X cc own nL d) (hd : decode cc pc = .ok (.istore 9, 2)) (hn : 9 < nL) (kk : ka_I G X V (pc + 2) (a0 :: a1 :: a2 :: a3 :: a4 :: a5 :: a6 :: a7 :: a8 :: .int x :: T) st) : ka_I G X V pc (a0 :: a1 :: a2 :: a3 :: a4 :: a5 :: a6 :: a7 :: a8 :: b :: T) (.int x :: st) := ka_istore_s (L := a0 :: a1 :: a2 :: a3 :: a4 :: a5 :: a6 :: a7 :: a8 :: b :: T) (k := 9) hC hd (by show 9 < _; simp only [List.length_cons]; omega) hn kk
theorem ka_istore_p9 {x : Int32} {a0 a1 a2 a3 a4 a5 a6 a7 a8 : Value} (hC : ka_C G X cc own nL d) (hd : decode cc pc = .ok (.istore 9, 2)) (hn : 9 < nL) (kk : ka_I G X V (pc + 2) [a0, a1, a2, a3, a4, a5, a6, a7, a8, .int x] st) : ka_I G X V pc [a0, a1, a2, a3, a4, a5, a6, a7, a8] (.int x :: st) := ka_istore_p (L := [a0, a1, a2, a3, a4, a5, a6, a7, a8]) (k := 9) hC hd rfl hn kk
theorem ka_astore_s9 {x : Nat} {b : Value} {T : List Value} {a0 a1 a2 a3 a4 a5 a6 a7 a8 : Value} (hC : ka_C G X cc own nL d) (hd : decode cc pc = .ok (.astore 9, 2)) (hn : 9 < nL) (kk : ka_I G X V (pc + 2) (a0 :: a1 :: a2 :: a3 :: a4 :: a5 :: a6 :: a7 :: a8 :: .ref x :: T) st) : ka_I G X V pc (a0 :: a1 :: a2 :: a3 :: a4 :: a5 :: a6 :: a7 :: a8 :: b :: T) (.ref x :: st) := ka_astore_s (L := a0 :: a1 :: a2 :: a3 :: a4 :: a5 :: a6 :: a7 :: a8 :: b :: T) (k := 9) hC hd (by show 9 < _; simp only [List.length_cons]; omega) hn kk
theorem ka_astore_p9 {x : Nat} {a0 a1 a2 a3 a4 a5 a6 a7 a8 : Value} (hC : ka_C G X cc own nL d) (hd : decode cc pc = .ok (.astore 9, 2)) (hn : 9 < nL) (kk : ka_I G X V (pc + 2) [a0, a1, a2, a3, a4, a5, a6, a7, a8, .ref x] st) : ka_I G X V pc [a0, a1, a2, a3, a4, a5, a6, a7, a8] (.ref x :: st) := ka_astore_p (L := [a0, a1, a2, a3, a4, a5, a6, a7, a8]) (k := 9) hC hd rfl hn kk
theorem ka_fstore_s9 {x : UInt32} {b : Value} {T : List Value} {a0 a1 a2 a3 a4 a5 a6 a7 a8 : Value} (hC : ka_C G X cc own nL d) (hd : decode cc pc = .ok (.fstore 9, 2)) (hn : 9 < nL) (kk : ka_I G X V (pc + 2) (a0 :: a1 :: a2 :: a3 :: a4 :: a5 :: a6 :: a7 :: a8 :: .float x :: T) st) : ka_I G X V pc (a0 :: a1 :: a2 :: a3 :: a4 :: a5 :: a6 :: a7 :: a8 :: b :: T) (.float x :: st) := ka_fstore_s (L := a0 :: a1 :: a2 :: a3 :: a4 :: a5 :: a6 :: a7 :: a8 :: b :: T) (k := 9) hC hd (by show 9 < _; simp only [List.length_cons]; omega) hn kk
theorem ka_fstore_p9 {x : UInt32} {a0 a1 a2 a3 a4 a5 a6 a7 a8 : Value} (hC : ka_C G X cc own nL d) (hd : decode cc pc = .ok (.fstore 9, 2)) (hn : 9 < nL) (kk : ka_I G X V (pc + 2) [a0, a1, a2, a3, a4, a5, a6, a7, a8, .float x] st) : ka_I G X V pc [a0, a1, a2, a3, a4, a5, a6, a7, a8] (.float x :: st) := ka_fstore_p (L := [a0, a1, a2, a3, a4, a5, a6, a7, a8]) (k := 9) hC hd rfl hn kk
theorem ka_iinc_9 {i : Int} {v x : Int32} {T : List Value} {a0 a1 a2 a3 a4 a5 a6 a7 a8 : Value} (hC : ka_C G X cc own nL d) (hd : decode cc pc = .ok (.iinc 9 i, 3)) (hv : Int32.ofInt i = v) (hn : 9 < nL) (kk : ka_I G X V (pc + 3) (a0 :: a1 :: a2 :: a3 :: a4 :: a5 :: a6 :: a7 :: a8 :: .int (x + v) :: T) st) : ka_I G X V pc (a0 :: a1 :: a2 :: a3 :: a4 :: a5 :: a6 :: a7 :: a8 :: .int x :: T) st := ka_iinc (L := a0 :: a1 :: a2 :: a3 :: a4 :: a5 :: a6 :: a7 :: a8 :: .int x :: T) (k := 9) hC hd rfl hv hn kk
theorem ka_iadd {x y : Int32} (hC : ka_C G X cc own nL d) (hd : decode cc pc = .ok (.iadd, 1)) (kk : ka_I G X V (pc + 1) L (.int (x + y) :: st)): ka_I G X V pc L (.int y :: .int x :: st) := by
  obtain ⟨p, e, R, s, m, args, below, meth, c, A0, k, n, Q⟩ := X
  intro H locs ls hP hS hL
  exact lv_iadd hC.1 hC.2.1 hd (kk H locs ls hP hS hL)
theorem ka_isub {x y : Int32} (hC : ka_C G X cc own nL d) (hd : decode cc pc = .ok (.isub, 1)) (kk : ka_I G X V (pc + 1) L (.int (x - y) :: st)): ka_I G X V pc L (.int y :: .int x :: st) := by
  obtain ⟨p, e, R, s, m, args, below, meth, c, A0, k, n, Q⟩ := X
  intro H locs ls hP hS hL
  exact lv_isub hC.1 hC.2.1 hd (kk H locs ls hP hS hL)
theorem ka_imul {x y : Int32} (hC : ka_C G X cc own nL d) (hd : decode cc pc = .ok (.imul, 1)) (kk : ka_I G X V (pc + 1) L (.int (x * y) :: st)): ka_I G X V pc L (.int y :: .int x :: st) := by
  obtain ⟨p, e, R, s, m, args, below, meth, c, A0, k, n, Q⟩ := X
  intro H locs ls hP hS hL
  exact lv_imul hC.1 hC.2.1 hd (kk H locs ls hP hS hL)
theorem ka_iand {x y : Int32} (hC : ka_C G X cc own nL d) (hd : decode cc pc = .ok (.iand, 1)) (kk : ka_I G X V (pc + 1) L (.int (x &&& y) :: st)): ka_I G X V pc L (.int y :: .int x :: st) := by
  obtain ⟨p, e, R, s, m, args, below, meth, c, A0, k, n, Q⟩ := X
  intro H locs ls hP hS hL
  exact lv_iand hC.1 hC.2.1 hd (kk H locs ls hP hS hL)
theorem ka_ior {x y : Int32} (hC : ka_C G X cc own nL d) (hd : decode cc pc = .ok (.ior, 1)) (kk : ka_I G X V (pc + 1) L (.int (x ||| y) :: st)): ka_I G X V pc L (.int y :: .int x :: st) := by
  obtain ⟨p, e, R, s, m, args, below, meth, c, A0, k, n, Q⟩ := X
  intro H locs ls hP hS hL
  exact lv_ior hC.1 hC.2.1 hd (kk H locs ls hP hS hL)
theorem ka_ixor {x y : Int32} (hC : ka_C G X cc own nL d) (hd : decode cc pc = .ok (.ixor, 1)) (kk : ka_I G X V (pc + 1) L (.int (x ^^^ y) :: st)): ka_I G X V pc L (.int y :: .int x :: st) := by
  obtain ⟨p, e, R, s, m, args, below, meth, c, A0, k, n, Q⟩ := X
  intro H locs ls hP hS hL
  exact lv_ixor hC.1 hC.2.1 hd (kk H locs ls hP hS hL)
theorem ka_ishl {x y : Int32} (hC : ka_C G X cc own nL d) (hd : decode cc pc = .ok (.ishl, 1)) (kk : ka_I G X V (pc + 1) L (.int (x <<< (y &&& 31)) :: st)): ka_I G X V pc L (.int y :: .int x :: st) := by
  obtain ⟨p, e, R, s, m, args, below, meth, c, A0, k, n, Q⟩ := X
  intro H locs ls hP hS hL
  exact lv_ishl hC.1 hC.2.1 hd (kk H locs ls hP hS hL)
theorem ka_idiv {x y : Int32} (hC : ka_C G X cc own nL d) (hd : decode cc pc = .ok (.idiv, 1)) (hne : ¬ y = 0) (kk : ka_I G X V (pc + 1) L (.int (x / y) :: st)): ka_I G X V pc L (.int y :: .int x :: st) := by
  obtain ⟨p, e, R, s, m, args, below, meth, c, A0, k, n, Q⟩ := X
  intro H locs ls hP hS hL
  exact lv_idiv hC.1 hC.2.1 hd hne (kk H locs ls hP hS hL)
theorem ka_ineg {x : Int32} (hC : ka_C G X cc own nL d) (hd : decode cc pc = .ok (.ineg, 1)) (kk : ka_I G X V (pc + 1) L (.int (-x) :: st)): ka_I G X V pc L (.int x :: st) := by
  obtain ⟨p, e, R, s, m, args, below, meth, c, A0, k, n, Q⟩ := X
  intro H locs ls hP hS hL
  exact lv_ineg hC.1 hC.2.1 hd (kk H locs ls hP hS hL)
theorem ka_dup {v : Value} (hC : ka_C G X cc own nL d) (hd : decode cc pc = .ok (.dup, 1)) (hv : v.category = 1) (kk : ka_I G X V (pc + 1) L (v :: v :: st)): ka_I G X V pc L (v :: st) := by
  obtain ⟨p, e, R, s, m, args, below, meth, c, A0, k, n, Q⟩ := X
  intro H locs ls hP hS hL
  exact lv_dup hC.1 hC.2.1 hd hv (kk H locs ls hP hS hL)
theorem ka_pop {v : Value} (hC : ka_C G X cc own nL d) (hd : decode cc pc = .ok (.pop, 1)) (hv : v.category = 1) (kk : ka_I G X V (pc + 1) L (st)): ka_I G X V pc L (v :: st) := by
  obtain ⟨p, e, R, s, m, args, below, meth, c, A0, k, n, Q⟩ := X
  intro H locs ls hP hS hL
  exact lv_pop hC.1 hC.2.1 hd hv (kk H locs ls hP hS hL)
theorem ka_dup2 {v u : Value} (hC : ka_C G X cc own nL d) (hd : decode cc pc = .ok (.dup2, 1)) (hv : v.category = 1) (hu : u.category = 1) (kk : ka_I G X V (pc + 1) L (v :: u :: v :: u :: st)): ka_I G X V pc L (v :: u :: st) := by
  obtain ⟨p, e, R, s, m, args, below, meth, c, A0, k, n, Q⟩ := X
  intro H locs ls hP hS hL
  exact lv_dup2_11 hC.1 hC.2.1 hd hv hu (kk H locs ls hP hS hL)
theorem ka_goto {off : Int} {tgt : Nat} (hC : ka_C G X cc own nL d) (hd : decode cc pc = .ok (.goto off, 3)) (ht : (pc : Int) + off = (tgt : Int)) (kk : ka_I G X V tgt L (st)): ka_I G X V pc L (st) := by
  obtain ⟨p, e, R, s, m, args, below, meth, c, A0, k, n, Q⟩ := X
  intro H locs ls hP hS hL
  exact lv_goto hC.1 hC.2.1 hd ht (kk H locs ls hP hS hL)
theorem ka_icmp_eq {x y : Int32} {off : Int} {tgt : Nat} (hC : ka_C G X cc own nL d) (hd : decode cc pc = .ok (.if_icmp .eq off, 3)) (ht : (pc : Int) + off = (tgt : Int)) (kt : x = y → ka_I G X V tgt L (st)) (kf : ¬ x = y → ka_I G X V (pc + 3) L (st)) : ka_I G X V pc L (.int y :: .int x :: st) := by
  obtain ⟨p, e, R, s, m, args, below, meth, c, A0, k, n, Q⟩ := X
  intro H locs ls hP hS hL
  exact lv_icmp_eq hC.1 hC.2.1 hd ht (fun h => kt h H locs ls hP hS hL) (fun h => kf h H locs ls hP hS hL)
theorem ka_icmp_ne {x y : Int32} {off : Int} {tgt : Nat} (hC : ka_C G X cc own nL d) (hd : decode cc pc = .ok (.if_icmp .ne off, 3)) (ht : (pc : Int) + off = (tgt : Int)) (kt : ¬ x = y → ka_I G X V tgt L (st)) (kf : x = y → ka_I G X V (pc + 3) L (st)) : ka_I G X V pc L (.int y :: .int x :: st) := by
  obtain ⟨p, e, R, s, m, args, below, meth, c, A0, k, n, Q⟩ := X
  intro H locs ls hP hS hL
  exact lv_icmp_ne hC.1 hC.2.1 hd ht (fun h => kt h H locs ls hP hS hL) (fun h => kf h H locs ls hP hS hL)
theorem ka_icmp_lt {x y : Int32} {off : Int} {tgt : Nat} (hC : ka_C G X cc own nL d) (hd : decode cc pc = .ok (.if_icmp .lt off, 3)) (ht : (pc : Int) + off = (tgt : Int)) (kt : x < y → ka_I G X V tgt L (st)) (kf : ¬ x < y → ka_I G X V (pc + 3) L (st)) : ka_I G X V pc L (.int y :: .int x :: st) := by
  obtain ⟨p, e, R, s, m, args, below, meth, c, A0, k, n, Q⟩ := X
  intro H locs ls hP hS hL
  exact lv_icmp_lt hC.1 hC.2.1 hd ht (fun h => kt h H locs ls hP hS hL) (fun h => kf h H locs ls hP hS hL)
theorem ka_icmp_ge {x y : Int32} {off : Int} {tgt : Nat} (hC : ka_C G X cc own nL d) (hd : decode cc pc = .ok (.if_icmp .ge off, 3)) (ht : (pc : Int) + off = (tgt : Int)) (kt : ¬ x < y → ka_I G X V tgt L (st)) (kf : x < y → ka_I G X V (pc + 3) L (st)) : ka_I G X V pc L (.int y :: .int x :: st) := by
  obtain ⟨p, e, R, s, m, args, below, meth, c, A0, k, n, Q⟩ := X
  intro H locs ls hP hS hL
  exact lv_icmp_ge hC.1 hC.2.1 hd ht (fun h => kt (Int32.not_lt.mpr h) H locs ls hP hS hL) (fun h => kf (Int32.not_le.mp h) H locs ls hP hS hL)
theorem ka_icmp_gt {x y : Int32} {off : Int} {tgt : Nat} (hC : ka_C G X cc own nL d) (hd : decode cc pc = .ok (.if_icmp .gt off, 3)) (ht : (pc : Int) + off = (tgt : Int)) (kt : y < x → ka_I G X V tgt L (st)) (kf : ¬ y < x → ka_I G X V (pc + 3) L (st)) : ka_I G X V pc L (.int y :: .int x :: st) := by
  obtain ⟨p, e, R, s, m, args, below, meth, c, A0, k, n, Q⟩ := X
  intro H locs ls hP hS hL
  exact lv_icmp_gt hC.1 hC.2.1 hd ht (fun h => kt h H locs ls hP hS hL) (fun h => kf h H locs ls hP hS hL)
theorem ka_icmp_le {x y : Int32} {off : Int} {tgt : Nat} (hC : ka_C G X cc own nL d) (hd : decode cc pc = .ok (.if_icmp .le off, 3)) (ht : (pc : Int) + off = (tgt : Int)) (kt : ¬ y < x → ka_I G X V tgt L (st)) (kf : y < x → ka_I G X V (pc + 3) L (st)) : ka_I G X V pc L (.int y :: .int x :: st) := by
  obtain ⟨p, e, R, s, m, args, below, meth, c, A0, k, n, Q⟩ := X
  intro H locs ls hP hS hL
  exact lv_icmp_le hC.1 hC.2.1 hd ht (fun h => kt (Int32.not_lt.mpr h) H locs ls hP hS hL) (fun h => kf (Int32.not_le.mp h) H locs ls hP hS hL)
theorem ka_if_eq {x : Int32} {off : Int} {tgt : Nat} (hC : ka_C G X cc own nL d) (hd : decode cc pc = .ok (.ifCond .eq off, 3)) (ht : (pc : Int) + off = (tgt : Int)) (kt : x = 0 → ka_I G X V tgt L (st)) (kf : ¬ x = 0 → ka_I G X V (pc + 3) L (st)) : ka_I G X V pc L (.int x :: st) := by
  obtain ⟨p, e, R, s, m, args, below, meth, c, A0, k, n, Q⟩ := X
  intro H locs ls hP hS hL
  exact lv_if_eq hC.1 hC.2.1 hd ht (fun h => kt h H locs ls hP hS hL) (fun h => kf h H locs ls hP hS hL)
theorem ka_if_ne {x : Int32} {off : Int} {tgt : Nat} (hC : ka_C G X cc own nL d) (hd : decode cc pc = .ok (.ifCond .ne off, 3)) (ht : (pc : Int) + off = (tgt : Int)) (kt : ¬ x = 0 → ka_I G X V tgt L (st)) (kf : x = 0 → ka_I G X V (pc + 3) L (st)) : ka_I G X V pc L (.int x :: st) := by
  obtain ⟨p, e, R, s, m, args, below, meth, c, A0, k, n, Q⟩ := X
  intro H locs ls hP hS hL
  exact lv_if_ne hC.1 hC.2.1 hd ht (fun h => kt h H locs ls hP hS hL) (fun h => kf h H locs ls hP hS hL)
theorem ka_if_lt {x : Int32} {off : Int} {tgt : Nat} (hC : ka_C G X cc own nL d) (hd : decode cc pc = .ok (.ifCond .lt off, 3)) (ht : (pc : Int) + off = (tgt : Int)) (kt : x < 0 → ka_I G X V tgt L (st)) (kf : ¬ x < 0 → ka_I G X V (pc + 3) L (st)) : ka_I G X V pc L (.int x :: st) := by
  obtain ⟨p, e, R, s, m, args, below, meth, c, A0, k, n, Q⟩ := X
  intro H locs ls hP hS hL
  exact lv_if_lt hC.1 hC.2.1 hd ht (fun h => kt h H locs ls hP hS hL) (fun h => kf h H locs ls hP hS hL)
theorem ka_if_ge {x : Int32} {off : Int} {tgt : Nat} (hC : ka_C G X cc own nL d) (hd : decode cc pc = .ok (.ifCond .ge off, 3)) (ht : (pc : Int) + off = (tgt : Int)) (kt : ¬ x < 0 → ka_I G X V tgt L (st)) (kf : x < 0 → ka_I G X V (pc + 3) L (st)) : ka_I G X V pc L (.int x :: st) := by
  obtain ⟨p, e, R, s, m, args, below, meth, c, A0, k, n, Q⟩ := X
  intro H locs ls hP hS hL
  exact lv_if_ge hC.1 hC.2.1 hd ht (fun h => kt (Int32.not_lt.mpr h) H locs ls hP hS hL) (fun h => kf (Int32.not_le.mp h) H locs ls hP hS hL)
theorem ka_if_gt {x : Int32} {off : Int} {tgt : Nat} (hC : ka_C G X cc own nL d) (hd : decode cc pc = .ok (.ifCond .gt off, 3)) (ht : (pc : Int) + off = (tgt : Int)) (kt : 0 < x → ka_I G X V tgt L (st)) (kf : ¬ 0 < x → ka_I G X V (pc + 3) L (st)) : ka_I G X V pc L (.int x :: st) := by
  obtain ⟨p, e, R, s, m, args, below, meth, c, A0, k, n, Q⟩ := X
  intro H locs ls hP hS hL
  exact lv_if_gt hC.1 hC.2.1 hd ht (fun h => kt h H locs ls hP hS hL) (fun h => kf h H locs ls hP hS hL)
theorem ka_if_le {x : Int32} {off : Int} {tgt : Nat} (hC : ka_C G X cc own nL d) (hd : decode cc pc = .ok (.ifCond .le off, 3)) (ht : (pc : Int) + off = (tgt : Int)) (kt : ¬ 0 < x → ka_I G X V tgt L (st)) (kf : 0 < x → ka_I G X V (pc + 3) L (st)) : ka_I G X V pc L (.int x :: st) := by
  obtain ⟨p, e, R, s, m, args, below, meth, c, A0, k, n, Q⟩ := X
  intro H locs ls hP hS hL
  exact lv_if_le hC.1 hC.2.1 hd ht (fun h => kt (Int32.not_lt.mpr h) H locs ls hP hS hL) (fun h => kf (Int32.not_le.mp h) H locs ls hP hS hL)
theorem ka_if_eq_b {b : Bool} {off : Int} {tgt : Nat} (hC : ka_C G X cc own nL d) (hd : decode cc pc = .ok (.ifCond .eq off, 3)) (ht : (pc : Int) + off = (tgt : Int)) (kt : b = false → ka_I G X V tgt L (st)) (kf : b = true → ka_I G X V (pc + 3) L (st)) : ka_I G X V pc L (.int (ka_b b) :: st) := ka_if_eq hC hd ht (fun h => kt (ka_b0 h)) (fun h => kf (ka_b1 h))
theorem ka_if_ne_b {b : Bool} {off : Int} {tgt : Nat} (hC : ka_C G X cc own nL d) (hd : decode cc pc = .ok (.ifCond .ne off, 3)) (ht : (pc : Int) + off = (tgt : Int)) (kt : b = true → ka_I G X V tgt L (st)) (kf : b = false → ka_I G X V (pc + 3) L (st)) : ka_I G X V pc L (.int (ka_b b) :: st) := ka_if_ne hC hd ht (fun h => kt (ka_b1 h)) (fun h => kf (ka_b0 h))
theorem ka_tsOut {dflt lo hi : Int} {offs : Array Int} {len tgt : Nat} {x : Int32} (hC : ka_C G X cc own nL d) (hd : decode cc pc = .ok (.tableswitch dflt lo hi offs, len)) (h : x.toInt < lo ∨ hi < x.toInt) (ht : (pc : Int) + dflt = (tgt : Int)) (kk : ka_I G X V tgt L (st)): ka_I G X V pc L (.int x :: st) := by
  obtain ⟨p, e, R, s, m, args, below, meth, c, A0, k, n, Q⟩ := X
  intro H locs ls hP hS hL
  exact lv_tableOut hC.1 hC.2.1 hd h ht (kk H locs ls hP hS hL)
theorem ka_tsIn {dflt lo hi : Int} {offs : Array Int} {len tgt : Nat} {x : Int32} {off : Int} (hC : ka_C G X cc own nL d) (hd : decode cc pc = .ok (.tableswitch dflt lo hi offs, len)) (h1 : ¬ x.toInt < lo) (h2 : ¬ hi < x.toInt) (ho : offs[(x.toInt - lo).toNat]? = some off) (ht : (pc : Int) + off = (tgt : Int)) (kk : ka_I G X V tgt L (st)): ka_I G X V pc L (.int x :: st) := by
  obtain ⟨p, e, R, s, m, args, below, meth, c, A0, k, n, Q⟩ := X
  intro H locs ls hP hS hL
  exact lv_tableIn hC.1 hC.2.1 hd h1 h2 ho ht (kk H locs ls hP hS hL)
theorem ka_ls {dflt : Int} {ps : Array (Int × Int)} {len tgt : Nat} {x : Int32} {off : Int} (hC : ka_C G X cc own nL d) (hd : decode cc pc = .ok (.lookupswitch dflt ps, len)) (hp : (ps.toList.zip (ps.toList.drop 1)).all (fun (a, next) => a.1 < next.1) = true) (ho : Op.lookupswitch.offset ps.toList dflt x.toInt = off) (ht : (pc : Int) + off = (tgt : Int)) (kk : ka_I G X V tgt L (st)): ka_I G X V pc L (.int x :: st) := by
  obtain ⟨p, e, R, s, m, args, below, meth, c, A0, k, n, Q⟩ := X
  intro H locs ls hP hS hL
  exact lv_lookup hC.1 hC.2.1 hd hp ho ht (kk H locs ls hP hS hL)
theorem ka_i2f {x : Int32} (hC : ka_C G X cc own nL d) (hd : decode cc pc = .ok (.i2f, 1)) (kk : ka_I G X V (pc + 1) L (.float (FP.i2f x) :: st)): ka_I G X V pc L (.int x :: st) := by
  obtain ⟨p, e, R, s, m, args, below, meth, c, A0, k, n, Q⟩ := X
  intro H locs ls hP hS hL
  exact lv_i2f hC.1 hC.2.1 hd (kk H locs ls hP hS hL)
theorem ka_f2i {x : UInt32} (hC : ka_C G X cc own nL d) (hd : decode cc pc = .ok (.f2i, 1)) (kk : ka_I G X V (pc + 1) L (.int (FP.f2i x) :: st)): ka_I G X V pc L (.float x :: st) := by
  obtain ⟨p, e, R, s, m, args, below, meth, c, A0, k, n, Q⟩ := X
  intro H locs ls hP hS hL
  exact lv_f2i hC.1 hC.2.1 hd (kk H locs ls hP hS hL)
theorem ka_fconst0 (hC : ka_C G X cc own nL d) (hd : decode cc pc = .ok (.fconst 0, 1)) (kk : ka_I G X V (pc + 1) L (.float FP.fconst0 :: st)): ka_I G X V pc L (st) := by
  obtain ⟨p, e, R, s, m, args, below, meth, c, A0, k, n, Q⟩ := X
  intro H locs ls hP hS hL
  exact lv_fconst0 hC.1 hC.2.1 hd (kk H locs ls hP hS hL)
theorem ka_fconst1 (hC : ka_C G X cc own nL d) (hd : decode cc pc = .ok (.fconst 1, 1)) (kk : ka_I G X V (pc + 1) L (.float FP.fconst1 :: st)): ka_I G X V pc L (st) := by
  obtain ⟨p, e, R, s, m, args, below, meth, c, A0, k, n, Q⟩ := X
  intro H locs ls hP hS hL
  exact lv_fconst1 hC.1 hC.2.1 hd (kk H locs ls hP hS hL)
theorem ka_fconst2 (hC : ka_C G X cc own nL d) (hd : decode cc pc = .ok (.fconst 2, 1)) (kk : ka_I G X V (pc + 1) L (.float FP.fconst2 :: st)): ka_I G X V pc L (st) := by
  obtain ⟨p, e, R, s, m, args, below, meth, c, A0, k, n, Q⟩ := X
  intro H locs ls hP hS hL
  exact lv_fconst2 hC.1 hC.2.1 hd (kk H locs ls hP hS hL)
theorem ka_fdiv {x y : UInt32} (hC : ka_C G X cc own nL d) (hd : decode cc pc = .ok (.fdiv, 1)) (hne : vf_n32 (FP.fdiv x y)) (kk : ka_I G X V (pc + 1) L (.float (FP.fdiv x y) :: st)): ka_I G X V pc L (.float y :: .float x :: st) := by
  obtain ⟨p, e, R, s, m, args, below, meth, c, A0, k, n, Q⟩ := X
  intro H locs ls hP hS hL
  exact lv_fdiv hC.1 hC.2.1 hd hne (kk H locs ls hP hS hL)
theorem ka_fmul {x y : UInt32} (hC : ka_C G X cc own nL d) (hd : decode cc pc = .ok (.fmul, 1)) (hne : vf_n32 (FP.fmul x y)) (kk : ka_I G X V (pc + 1) L (.float (FP.fmul x y) :: st)): ka_I G X V pc L (.float y :: .float x :: st) := by
  obtain ⟨p, e, R, s, m, args, below, meth, c, A0, k, n, Q⟩ := X
  intro H locs ls hP hS hL
  exact lv_fmul hC.1 hC.2.1 hd hne (kk H locs ls hP hS hL)
theorem ka_fcmp {x y : UInt32} {op : CmpOp} (hC : ka_C G X cc own nL d) (hd : decode cc pc = .ok (.fcmp op, 1)) (kk : ka_I G X V (pc + 1) L (.int (Op.cmpValue (FP.fcmp x y) op) :: st)): ka_I G X V pc L (.float y :: .float x :: st) := by
  obtain ⟨p, e, R, s, m, args, below, meth, c, A0, k, n, Q⟩ := X
  intro H locs ls hP hS hL
  exact lv_fcmp hC.1 hC.2.1 hd (kk H locs ls hP hS hL)
theorem ka_zret {x : Int32} {rt : FieldType} {v : Option Value} {V' : ka_W} (hC : ka_C G X cc own nL d) (hR : ka_R G X (some rt) v V') (hn : narrow rt (.int x) = .int x) (hd : decode cc pc = .ok (.ireturn, 1)) (hv : some (.int x) = v) (hW : V = V') : ka_I G X V pc L [.int x] := by
  obtain ⟨p, e, R, s, m, args, below, meth, c, A0, k, n, Q⟩ := X
  intro H locs ls hP hS hL
  obtain ⟨r1, r2, rfl, rfl⟩ := hR
  subst hv
  subst hW
  exact W.zret hC.1 hC.2.1 r1 hn (fun t ht hW => ⟨rfl, ⟨by rw [ht]; exact hP, va_K.moved hW.alike hC.2.2.2.2.2.1, ka_NW.warm hW hC.2.2.2.2.2.2.1, ((hC.2.2.2.2.2.2.2.1.kept (fun a h1 h2 => by rw [ht]; exact hS.2.1 a h1 h2))).moved hW.alike⟩, hS.F ht⟩) hS.2.2 hd r2
theorem ka_iret {x : Int32} {v : Option Value} {V' : ka_W} (hC : ka_C G X cc own nL d) (hR : ka_R G X (some .int) v V') (hd : decode cc pc = .ok (.ireturn, 1)) (hv : some (.int x) = v) (hW : V = V') : ka_I G X V pc L [.int x] := ka_zret hC hR rfl hd hv hW
theorem ka_bret {b : Bool} {v : Option Value} {V' : ka_W} {x : Int32} (hC : ka_C G X cc own nL d) (hR : ka_R G X (some .boolean) v V') (hd : decode cc pc = .ok (.ireturn, 1)) (hb : x = ka_b b) (hv : some (.int (ka_b b)) = v) (hW : V = V') : ka_I G X V pc L [.int x] := by
  subst hb
  exact ka_zret hC hR (by cases b <;> rfl) hd hv hW
theorem ka_vret {v : Option Value} {V' : ka_W} (hC : ka_C G X cc own nL d) (hR : ka_R G X none v V') (hd : decode cc pc = .ok (.return_, 1)) (hv : none = v) (hW : V = V') : ka_I G X V pc L [] := by
  obtain ⟨p, e, R, s, m, args, below, meth, c, A0, k, n, Q⟩ := X
  intro H locs ls hP hS hL
  obtain ⟨r1, r2, rfl, rfl⟩ := hR
  subst hv
  subst hW
  exact W.vret hC.1 hC.2.1 r1 (fun t ht hW => ⟨rfl, ⟨by rw [ht]; exact hP, va_K.moved hW.alike hC.2.2.2.2.2.1, ka_NW.warm hW hC.2.2.2.2.2.2.1, ((hC.2.2.2.2.2.2.2.1.kept (fun a h1 h2 => by rw [ht]; exact hS.2.1 a h1 h2))).moved hW.alike⟩, hS.F ht⟩) hS.2.2 hd r2
theorem ka_aret {a : Nat} {C : String} {v : Option Value} {V' : ka_W} (hC : ka_C G X cc own nL d) (hR : ka_R G X (some (.object C)) v V') (hd : decode cc pc = .ok (.areturn, 1)) (hv : some (.ref a) = v) (hW : V = V') : ka_I G X V pc L [.ref a] := by
  obtain ⟨p, e, R, s, m, args, below, meth, c, A0, k, n, Q⟩ := X
  intro H locs ls hP hS hL
  obtain ⟨r1, r2, rfl, rfl⟩ := hR
  subst hv
  subst hW
  exact W.aret hC.1 hC.2.1 r1 (Or.inl ⟨C, rfl⟩) (Or.inr ⟨a, rfl⟩) (fun t ht hW => ⟨rfl, ⟨by rw [ht]; exact hP, va_K.moved hW.alike hC.2.2.2.2.2.1, ka_NW.warm hW hC.2.2.2.2.2.2.1, ((hC.2.2.2.2.2.2.2.1.kept (fun a h1 h2 => by rw [ht]; exact hS.2.1 a h1 h2))).moved hW.alike⟩, hS.F ht⟩) hS.2.2 hd r2
end KA
