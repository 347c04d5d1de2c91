/-! THE CLAIM OUT OF ONE WALK OF THE LAW'S BODY. Your part is whole_start (and what it stands on); all else here is the same for every law, but numbers. -/
def R_law : String := "CoalWagonsLaw"
def lw_P (b : Addr) (xs : List Int32) (args : Array Value) (s : State) : Prop := args = #[.ref b] ∧ s.IntsAt b xs ∧ xs.length ≤ 2560 ∧ (Jvm.Cond.and given_1 narrow_1).before args s = true
/-- what a walk over the start with the record d0 says of its end, said of the start itself -/
theorem lw_closed {s t : State} {o : Outcome} {d0 : Drawn} {L : List Loc} {k n : Nat} (hd0 : s.drawn.sameBut d0 lw_cs) (hv : ∃ v, o = .returned v) (hW : (s.setDrawn d0).WarmedH t.vm) (hs : (s.setDrawn d0).sameButNew ({ t with vm := s.vm } : State) L k n) : State.butDraws s t lw_cs (fun t1 => Framed s o t1 L k n) := by
  have h2 : t.drawn = d0 := congrArg State.drawn hs.1
  refine ⟨⟨hv, hW, State.sameButNew.setDrawn hs s.drawn⟩, ?_, by decide⟩
  rw [h2]
  exact hd0
def lw_Q (_ : Array Value) (s : State) (o : Outcome) (t : State) : Prop := o = .returned (some (.int 1)) ∧ State.butDraws s t lw_cs (fun t1 => Framed s o t1 [] 600000 7302250)
def lw_Z (below : List Frame) (a : Array Value) (s : State) : State → Prop := fun t => ∃ o, t.status = .running ∧ Ended t below o ∧ lw_Q a s o t
/-- the law's own end, with 1 on the stack, nothing written that was there before, its room as the claim has it; d0: the record of draws at this point (at the entry s.drawn: begin with 'refine W.base ?_' and 'have hd0 := Drawn.sameBut.refl s.drawn lw_cs') -/
theorem lw_ret {p : Program} {l : Launch} {e : Env} {s : State} {m : MethodId} {below : List Frame} {meth : Method} {c : Code} {b : Nat} {d0 : Drawn} (hd0 : s.drawn.sameBut d0 lw_cs) (hx : p.tables.exec = Jvm.exec) (hb : c.code = code) (hr : meth.sig.returnType = ret) (hlocks : meth.locks = false) {pc : Nat} {H : Heap} {ls : Array Slot} (hdg : decode code pc = .ok (.ireturn, 1)) : W p l e room_1 (s.setDrawn d0) m #[Value.ref b] below meth c H [] 600000 7302250 (lw_Z below #[Value.ref b] s) (F0 m pc ls [.int 1]) := by
  intro T hT X
  obtain ⟨fs, hret, hrun, hended, hW, hframe⟩ := X.leave (v := some (.int 1)) (hlocks := hlocks) (fun h => by rw [hr] at h; cases h)
  have hmeth' : T.vm.method? m = some meth := X.method'
  refine ⟨T.setFrames fs, ?_, .returned (some (.int 1)), hrun, hended, rfl, lw_closed hd0 ⟨_, rfl⟩ hW hframe⟩
  jvm_step X.here [X.here.top, hx, hb, hdg, hmeth', hr, ret, narrow_b1]
  (try refine ⟨rfl, ?_⟩); (try refine ⟨rfl, ?_⟩)
  first | (intro acts; rw [hret _ acts rfl rfl rfl]) | rw [hret _ _ rfl rfl rfl]
  exact Steps.refl _
/-- what holds at the law's entry: the machine, the code, the tables' words (any of lw_tbl by 'hts w (by decide +kernel)'), the script of L ints xs at the cell b, what the Statement gives of the start (any of its parts by flat_of_before) -/
def lw_At (p : Program) (s : State) (m : MethodId) (meth : Method) (c : Code) (b L : Nat) (xs : Nat → Int32) : Prop :=
  p.tables.exec = Jvm.exec ∧ c.code = code ∧ meth.sig.returnType = ret ∧ c.maxLocals = 4 ∧ s.vm.findClass R_law = some m.cls ∧ (∀ w ∈ lw_tbl, w.before #[Value.ref b] s = true) ∧ va_X b L xs s s.heap ∧ b < s.heap.size ∧ meth.locks = false ∧ (Jvm.Cond.and given_1 narrow_1).before #[Value.ref b] s = true
/-! the law's entry: what is known of the start -/
theorem ks_T {args : Array Value} {s : State} (hts : ∀ w ∈ lw_tbl, w.before args s = true) : ∀ w ∈ ka_T, w.before args s = true := fun w hw => hts w (List.mem_filter.mp hw).1
theorem ks_NW {args : Array Value} {s : State} (hts : ∀ w ∈ lw_tbl, w.before args s = true) : ka_NW s := by
  refine ⟨?_, ?_⟩
  · unfold ka_nF
    exact (List.forall_mem_cons.mpr ⟨va_Nw.of rfl (hts _ (List.mem_of_getElem? (i := 108) (by decide +kernel))), (List.forall_mem_cons.mpr ⟨va_Nw.of rfl (hts _ (List.mem_of_getElem? (i := 110) (by decide +kernel))), (List.forall_mem_cons.mpr ⟨va_Nw.of rfl (hts _ (List.mem_of_getElem? (i := 112) (by decide +kernel))), (List.forall_mem_cons.mpr ⟨va_Nw.of rfl (hts _ (List.mem_of_getElem? (i := 114) (by decide +kernel))), (List.forall_mem_cons.mpr ⟨va_Nw.of rfl (hts _ (List.mem_of_getElem? (i := 116) (by decide +kernel))), (List.forall_mem_cons.mpr ⟨va_Nw.of rfl (hts _ (List.mem_of_getElem? (i := 118) (by decide +kernel))), (List.forall_mem_cons.mpr ⟨va_Nw.of rfl (hts _ (List.mem_of_getElem? (i := 140) (by decide +kernel))), (List.forall_mem_cons.mpr ⟨va_Nw.of rfl (hts _ (List.mem_of_getElem? (i := 142) (by decide +kernel))), (List.forall_mem_cons.mpr ⟨va_Nw.of rfl (hts _ (List.mem_of_getElem? (i := 144) (by decide +kernel))), (List.forall_mem_cons.mpr ⟨va_Nw.of rfl (hts _ (List.mem_of_getElem? (i := 146) (by decide +kernel))), (List.forall_mem_cons.mpr ⟨va_Nw.of rfl (hts _ (List.mem_of_getElem? (i := 148) (by decide +kernel))), (List.forall_mem_cons.mpr ⟨va_Nw.of rfl (hts _ (List.mem_of_getElem? (i := 150) (by decide +kernel))), (List.forall_mem_cons.mpr ⟨va_Nw.of rfl (hts _ (List.mem_of_getElem? (i := 152) (by decide +kernel))), (List.forall_mem_cons.mpr ⟨va_Nw.of rfl (hts _ (List.mem_of_getElem? (i := 154) (by decide +kernel))), (List.forall_mem_cons.mpr ⟨va_Nw.of rfl (hts _ (List.mem_of_getElem? (i := 156) (by decide +kernel))), (List.forall_mem_cons.mpr ⟨va_Nw.of rfl (hts _ (List.mem_of_getElem? (i := 176) (by decide +kernel))), (List.forall_mem_cons.mpr ⟨va_Nw.of rfl (hts _ (List.mem_of_getElem? (i := 540) (by decide +kernel))), (List.forall_mem_cons.mpr ⟨va_Nw.of rfl (hts _ (List.mem_of_getElem? (i := 542) (by decide +kernel))), (fun _ h => absurd h List.not_mem_nil)⟩)⟩)⟩)⟩)⟩)⟩)⟩)⟩)⟩)⟩)⟩)⟩)⟩)⟩)⟩)⟩)⟩)⟩)
  · unfold ka_nM
    exact (List.forall_mem_cons.mpr ⟨va_Nw.of rfl (hts _ (List.mem_of_getElem? (i := 103) (by decide +kernel))), (List.forall_mem_cons.mpr ⟨va_Nw.of rfl (hts _ (List.mem_of_getElem? (i := 135) (by decide +kernel))), (List.forall_mem_cons.mpr ⟨va_Nw.of rfl (hts _ (List.mem_of_getElem? (i := 320) (by decide +kernel))), (List.forall_mem_cons.mpr ⟨va_Nw.of rfl (hts _ (List.mem_of_getElem? (i := 711) (by decide +kernel))), (List.forall_mem_cons.mpr ⟨va_Nw.of rfl (hts _ (List.mem_of_getElem? (i := 770) (by decide +kernel))), (fun _ h => absurd h List.not_mem_nil)⟩)⟩)⟩)⟩)⟩)
theorem ks_O {args : Array Value} {s : State} (hts : ∀ w ∈ lw_tbl, w.before args s = true) : kb_O s := ⟨va_AO.of (hts _ ka_q_ao_X2), va_AO.of (hts _ ka_q_ao_X5), va_AO.of (hts _ ka_q_ao_X3)⟩
theorem ks_ao {s : State} {C : String} (h : va_AO C s) : ∃ c : ClassId, ArrOfT s c (.object C) ∧ va_RA s c (.object C) := by
  obtain ⟨comp, c, k, h1, h2, h3, h4, h5⟩ := Cond.arrayOver_spec h
  exact ⟨c, fun N z => ⟨fun k h => (by cases h), k, h3, comp, h4⟩, k, comp, h3, h4, h1, h5⟩
theorem ks_ac {args : Array Value} {s : State} (h : (Cond.arrayClass .int).before args s = true) : ∃ c : ClassId, ArrOfT s c .int ∧ va_RA s c .int := by
  obtain ⟨c, k, comp, h1, h2, h3⟩ := Cond.arrayClass_spec h
  exact ⟨c, fun N z => ⟨fun k h => (by cases h), k, h2, comp, h3⟩, h1⟩
theorem ks_K {args : Array Value} {s : State} (hts : ∀ w ∈ lw_tbl, w.before args s = true) : ∃ (D : va_G) (ca : Nat → ClassId), va_K D vwCl [(ca 0, .int), (ca 1, .object RX2), (ca 2, .object RX5), (ca 3, .object RX3)] s := by
  have hT := ks_T hts
  obtain ⟨c0, i0, k0⟩ := u_known (C := RX0) (T := TX0) (N := 3) (n := 3) hT ka_in0 (hT _ ka_q_it_X0)
  obtain ⟨c1, i1, k1⟩ := u_known (C := RX1) (T := TX1) (N := 9) (n := 9) hT ka_in1 (hT _ ka_q_it_X1)
  obtain ⟨c2, i2, k2⟩ := u_known (C := RX2) (T := TX2) (N := 6) (n := 6) hT ka_in2 (hT _ ka_q_it_X2)
  obtain ⟨c3, i3, k3⟩ := u_known (C := RX3) (T := TX3) (N := 11) (n := 11) hT ka_in3 (hT _ ka_q_it_X3)
  obtain ⟨c4, i4, k4⟩ := u_known (C := RX4) (T := TX4) (N := 2) (n := 2) hT ka_in4 (hT _ ka_q_it_X4)
  obtain ⟨c5, i5, k5⟩ := u_known (C := RX5) (T := TX5) (N := 9) (n := 9) hT ka_in5 (hT _ ka_q_it_X5)
  obtain ⟨c6, i6, k6⟩ := u_known (C := RX6) (T := TX6) (N := 4) (n := 4) hT ka_in6 (hT _ ka_q_it_X6)
  obtain ⟨c7, i7, k7⟩ := u_known (C := RX7) (T := TX7) (N := 13) (n := 13) hT ka_in7 (hT _ ka_q_it_X7)
  obtain ⟨a0, g0⟩ := ks_ac (hT _ ka_q_ac_int)
  obtain ⟨hO2, hO5, hO3⟩ := ks_O hts
  obtain ⟨a1, g1⟩ := ks_ao hO2
  obtain ⟨a2, g2⟩ := ks_ao hO5
  obtain ⟨a3, g3⟩ := ks_ao hO3
  refine ⟨(fun k => match k with | 0 => c0 | 1 => c1 | 2 => c2 | 3 => c3 | 4 => c4 | 5 => c5 | 6 => c6 | _ => c7, fun k => match k with | 0 => i0 | 1 => i1 | 2 => i2 | 3 => i3 | 4 => i4 | 5 => i5 | 6 => i6 | _ => i7), fun k => match k with | 0 => a0 | 1 => a1 | 2 => a2 | _ => a3, ?_, ?_⟩
  · intro k q hq
    match k, hq with
    | 0, hq => cases hq; exact k0
    | 1, hq => cases hq; exact k1
    | 2, hq => cases hq; exact k2
    | 3, hq => cases hq; exact k3
    | 4, hq => cases hq; exact k4
    | 5, hq => cases hq; exact k5
    | 6, hq => cases hq; exact k6
    | 7, hq => cases hq; exact k7
    | k + 8, hq => simp [vwCl] at hq
  · intro k q hq
    match k, hq with
    | 0, hq => cases hq; exact g0
    | 1, hq => cases hq; exact g1
    | 2, hq => cases hq; exact g2
    | 3, hq => cases hq; exact g3
    | k + 4, hq => simp at hq
theorem ks_first {b : Nat} {A : Nat → Prop} {s : State} (hts : ∀ w ∈ lw_tbl, w.before #[Value.ref b] s = true) (hgv : (Jvm.Cond.and given_1 narrow_1).before #[Value.ref b] s = true) (hA : ∀ a : Nat, a < s.heap.size → ¬ A a) : ∃ t : Nat, va_Z RX6 "FIRST_SETTING" "[I" (.ref t) A s s.heap ∧ va_T .int t 7 (fun j => .int (kb_first j)) A s s.heap := by
  have hs := flat_of_before _ hgv
  obtain ⟨t, ht, hT⟩ := va_Tof (tm := .static "CoalWagons" "FIRST_SETTING" "[I") (ty := .int) (N := 7) (f := fun j => .int (kb_first j)) (A := A) (by decide) (hs (.arrayOf (.static "CoalWagons" "FIRST_SETTING" "[I") .int) (by decide +kernel)) (va_eqt (hs (.eq (.length (.static "CoalWagons" "FIRST_SETTING" "[I")) (.int 7)) (by decide +kernel))) (fun j hj => by
    rcases (show j = 0 ∨ j = 1 ∨ j = 2 ∨ j = 3 ∨ j = 4 ∨ j = 5 ∨ j = 6 by omega) with rfl | rfl | rfl | rfl | rfl | rfl | rfl
    · exact va_eqt (hs (.eq (.elem (.static "CoalWagons" "FIRST_SETTING" "[I") (.int 0)) (.int 3)) (by decide +kernel))
    · exact va_eqt (hs (.eq (.elem (.static "CoalWagons" "FIRST_SETTING" "[I") (.int 1)) (.int 10)) (by decide +kernel))
    · exact va_eqt (hs (.eq (.elem (.static "CoalWagons" "FIRST_SETTING" "[I") (.int 2)) (.int 4)) (by decide +kernel))
    · exact va_eqt (hs (.eq (.elem (.static "CoalWagons" "FIRST_SETTING" "[I") (.int 3)) (.int 20)) (by decide +kernel))
    · exact va_eqt (hs (.eq (.elem (.static "CoalWagons" "FIRST_SETTING" "[I") (.int 4)) (.int 2)) (by decide +kernel))
    · exact va_eqt (hs (.eq (.elem (.static "CoalWagons" "FIRST_SETTING" "[I") (.int 5)) (.int 25)) (by decide +kernel))
    · exact va_eqt (hs (.eq (.elem (.static "CoalWagons" "FIRST_SETTING" "[I") (.int 6)) (.int 3)) (by decide +kernel))) hA
  exact ⟨t, va_Zref (hts _ ka_q_ls_X6_FIRST_SETTING) (ks_T hts _ ka_q_in_X6) ht hA, hT⟩
theorem ks_low {b : Nat} {A : Nat → Prop} {s : State} (hts : ∀ w ∈ lw_tbl, w.before #[Value.ref b] s = true) (hgv : (Jvm.Cond.and given_1 narrow_1).before #[Value.ref b] s = true) (hA : ∀ a : Nat, a < s.heap.size → ¬ A a) : ∃ t : Nat, va_Z RX6 "LOWEST_SETTING" "[I" (.ref t) A s s.heap ∧ va_T .int t 7 (fun j => .int (ka_low j)) A s s.heap := by
  have hs := flat_of_before _ hgv
  obtain ⟨t, ht, hT⟩ := va_Tof (tm := .static "CoalWagons" "LOWEST_SETTING" "[I") (ty := .int) (N := 7) (f := fun j => .int (ka_low j)) (A := A) (by decide) (hs (.arrayOf (.static "CoalWagons" "LOWEST_SETTING" "[I") .int) (by decide +kernel)) (va_eqt (hs (.eq (.length (.static "CoalWagons" "LOWEST_SETTING" "[I")) (.int 7)) (by decide +kernel))) (fun j hj => by
    rcases (show j = 0 ∨ j = 1 ∨ j = 2 ∨ j = 3 ∨ j = 4 ∨ j = 5 ∨ j = 6 by omega) with rfl | rfl | rfl | rfl | rfl | rfl | rfl
    · exact va_eqt (hs (.eq (.elem (.static "CoalWagons" "LOWEST_SETTING" "[I") (.int 0)) (.int 0)) (by decide +kernel))
    · exact va_eqt (hs (.eq (.elem (.static "CoalWagons" "LOWEST_SETTING" "[I") (.int 1)) (.int 0)) (by decide +kernel))
    · exact va_eqt (hs (.eq (.elem (.static "CoalWagons" "LOWEST_SETTING" "[I") (.int 2)) (.int 0)) (by decide +kernel))
    · exact va_eqt (hs (.eq (.elem (.static "CoalWagons" "LOWEST_SETTING" "[I") (.int 3)) (.int 1)) (by decide +kernel))
    · exact va_eqt (hs (.eq (.elem (.static "CoalWagons" "LOWEST_SETTING" "[I") (.int 4)) (.int 0)) (by decide +kernel))
    · exact va_eqt (hs (.eq (.elem (.static "CoalWagons" "LOWEST_SETTING" "[I") (.int 5)) (.int 0)) (by decide +kernel))
    · exact va_eqt (hs (.eq (.elem (.static "CoalWagons" "LOWEST_SETTING" "[I") (.int 6)) (.int 1)) (by decide +kernel))) hA
  exact ⟨t, va_Zref (hts _ ka_q_ls_X6_LOWEST_SETTING) (ks_T hts _ ka_q_in_X6) ht hA, hT⟩
theorem ks_high {b : Nat} {A : Nat → Prop} {s : State} (hts : ∀ w ∈ lw_tbl, w.before #[Value.ref b] s = true) (hgv : (Jvm.Cond.and given_1 narrow_1).before #[Value.ref b] s = true) (hA : ∀ a : Nat, a < s.heap.size → ¬ A a) : ∃ t : Nat, va_Z RX6 "HIGHEST_SETTING" "[I" (.ref t) A s s.heap ∧ va_T .int t 7 (fun j => .int (ka_high j)) A s s.heap := by
  have hs := flat_of_before _ hgv
  obtain ⟨t, ht, hT⟩ := va_Tof (tm := .static "CoalWagons" "HIGHEST_SETTING" "[I") (ty := .int) (N := 7) (f := fun j => .int (ka_high j)) (A := A) (by decide) (hs (.arrayOf (.static "CoalWagons" "HIGHEST_SETTING" "[I") .int) (by decide +kernel)) (va_eqt (hs (.eq (.length (.static "CoalWagons" "HIGHEST_SETTING" "[I")) (.int 7)) (by decide +kernel))) (fun j hj => by
    rcases (show j = 0 ∨ j = 1 ∨ j = 2 ∨ j = 3 ∨ j = 4 ∨ j = 5 ∨ j = 6 by omega) with rfl | rfl | rfl | rfl | rfl | rfl | rfl
    · exact va_eqt (hs (.eq (.elem (.static "CoalWagons" "HIGHEST_SETTING" "[I") (.int 0)) (.int 30)) (by decide +kernel))
    · exact va_eqt (hs (.eq (.elem (.static "CoalWagons" "HIGHEST_SETTING" "[I") (.int 1)) (.int 99)) (by decide +kernel))
    · exact va_eqt (hs (.eq (.elem (.static "CoalWagons" "HIGHEST_SETTING" "[I") (.int 2)) (.int 99)) (by decide +kernel))
    · exact va_eqt (hs (.eq (.elem (.static "CoalWagons" "HIGHEST_SETTING" "[I") (.int 3)) (.int 99)) (by decide +kernel))
    · exact va_eqt (hs (.eq (.elem (.static "CoalWagons" "HIGHEST_SETTING" "[I") (.int 4)) (.int 99)) (by decide +kernel))
    · exact va_eqt (hs (.eq (.elem (.static "CoalWagons" "HIGHEST_SETTING" "[I") (.int 5)) (.int 99)) (by decide +kernel))
    · exact va_eqt (hs (.eq (.elem (.static "CoalWagons" "HIGHEST_SETTING" "[I") (.int 6)) (.int 30)) (by decide +kernel))) hA
  exact ⟨t, va_Zref (hts _ ka_q_ls_X6_HIGHEST_SETTING) (ks_T hts _ ka_q_in_X6) ht hA, hT⟩
/-! addresses: the cell (r, o) is the kx r o -th from the law's first on -/
def kx (r o : Nat) : Nat := if r < 2 then 1 + 32 * r + o else if r < 6 then 67 + 32 * (r - 2) + o else if r = 6 then 65 + o else if r = 7 then 195 + o else if r = 8 then 0 else 198 + o
abbrev ks_G (l : Launch) (D : va_G) (ca : Nat → ClassId) (a0 : Nat) : ka_G := (l, D, ca, fun r o => a0 + kx r o)
set_option maxRecDepth 100000 in
theorem kx_nd : (ka_ix.map (fun q => kx q.1 q.2)).Nodup := by decide +kernel
theorem ks_AD {l : Launch} {D : va_G} {ca : Nat → ClassId} {a0 : Nat} : ka_AD (ks_G l D ca a0) := by
  intro i j p q hi hj h
  have h2 : kx p.1 p.2 = kx q.1 q.2 := Nat.add_left_cancel h
  have e1 : (ka_ix.map (fun q => kx q.1 q.2))[i]? = some (kx p.1 p.2) := by rw [List.getElem?_map, hi]; rfl
  have e2 : (ka_ix.map (fun q => kx q.1 q.2))[j]? = some (kx p.1 p.2) := by rw [List.getElem?_map, hj, h2]; rfl
  obtain ⟨b1, f1⟩ := List.getElem?_eq_some_iff.mp e1
  obtain ⟨b2, f2⟩ := List.getElem?_eq_some_iff.mp e2
  exact (List.getElem_inj kx_nd).mp (f1.trans f2.symm)
/-- the numbers at first -/
def ks_V : ka_W := fun r o => if r < 6 then (if o = 28 then kb_cs 25 (fun _ => 2) else if o = 29 then kb_cs 7 kb_first else fun _ => 0) else if r = 9 then (if o = 1 then kmS 25 else fun _ => 0) else fun _ => 0
theorem ks_q {D : va_G} {a : Nat} {c : ClassId} {N : Nat} {f g : Nat → Option Nat} {H : Heap} (h : va_at D vwCl (a, .inl (c, N, .inr (.inr (.inr (.inr f))))) H) (hf : ∀ j, j < N → f j = g j) : va_at D vwCl (a, .inl (c, N, .inr (.inr (.inr (.inr g))))) H := by
  show H[a]? = some (vp_cell _ _)
  have h : H[a]? = some (vp_cell _ _) := h
  rw [h, vp_cell_q, vp_cell_q]
  have e : (fun j : Fin N => va_rf (f j.val)) = (fun j : Fin N => va_rf (g j.val)) := funext fun j => by rw [hf j.val j.isLt]
  show some ({ cls := c, slots := Array.ofFn (n := N) (fun j : Fin N => va_rf (f j.val)), vm := .none } : Cell) = some _
  rw [e]
  rfl
theorem kx_p {r o : Nat} (hr : r < 6) (ho : o < 32) : kx r o = kx r 0 + o := by
  unfold kx
  split
  · omega
  · omega
/-- a pool's block -/
theorem ks_pool {l : Launch} {D : va_G} {ca : Nat → ClassId} {a0 r : Nat} (hr : r < 6) {H : Heap} (h : ∀ o, o < 32 → va_at D vwCl (a0 + kx r 0 + o, kpF (ks_G l D ca a0) (a0 + kx r 0) o) H) : ∀ o, o < 32 → va_at D vwCl (ka_ad (ks_G l D ca a0) r o, ka_E (ks_G l D ca a0) r o (ks_V r o)) H := by
  intro o ho
  have had : ∀ q, q < 32 → ka_ad (ks_G l D ca a0) r q = a0 + kx r 0 + q := fun q hq => by
    show a0 + kx r q = _
    rw [kx_p hr hq]
    omega
  have h1 := h o ho
  rw [had o ho]
  have hV : ∀ q, q ≠ 28 → q ≠ 29 → ks_V r q = fun _ => 0 := fun q h1 h2 => by
    unfold ks_V
    rw [if_pos hr, if_neg h1, if_neg h2]
  by_cases c0 : o = 0
  · subst c0
    rw [ka_E_pool hr, had 1 (by decide), had 7 (by decide), had 28 (by decide), had 29 (by decide), had 30 (by decide), hV 0 (by decide) (by decide)]
    exact h1
  by_cases c1 : o = 1
  · subst c1
    rw [ka_E_places hr]
    refine ks_q (f := kb_rf (a0 + kx r 0) 2 5) h1 (fun j hj => ?_)
    unfold kb_rf
    rw [if_pos hj, had (2 + j) (by omega)]
  by_cases c7 : o < 7
  · obtain ⟨k, rfl⟩ : ∃ k, o = 2 + k := ⟨o - 2, by omega⟩
    rw [ka_E_place hr (by omega), hV _ (by omega) (by omega)]
    have e : kpF (ks_G l D ca a0) (a0 + kx r 0) (2 + k) = kb_pl := by
      unfold kpF
      rw [if_neg (by omega), kpE_pl (by omega)]
    rw [e] at h1
    exact h1
  by_cases c8 : o = 7
  · subst c8
    rw [ka_E_wagons hr]
    refine ks_q (f := kb_rf (a0 + kx r 0) 8 20) h1 (fun j hj => ?_)
    unfold kb_rf
    rw [if_pos hj, had (8 + j) (by omega)]
  by_cases c28 : o < 28
  · obtain ⟨k, rfl⟩ : ∃ k, o = 8 + k := ⟨o - 8, by omega⟩
    rw [ka_E_wagon hr (by omega), hV _ (by omega) (by omega)]
    have e : kpF (ks_G l D ca a0) (a0 + kx r 0) (8 + k) = kb_wg := by
      unfold kpF
      rw [if_neg (by omega), kpE_wg (by omega)]
    rw [e] at h1
    exact h1
  by_cases d28 : o = 28
  · subst d28
    rw [ka_E_legs hr]
    have e : ks_V r 28 = kb_cs 25 (fun _ => 2) := by
      unfold ks_V
      rw [if_pos hr, if_pos rfl]
    rw [e]
    exact h1
  by_cases d29 : o = 29
  · subst d29
    rw [ka_E_sett hr]
    have e : ks_V r 29 = kb_cs 7 kb_first := by
      unfold ks_V
      rw [if_pos hr, if_neg (by decide), if_pos rfl]
    rw [e]
    exact h1
  by_cases d30 : o = 30
  · subst d30
    rw [ka_E_shop hr, had 31 (by decide), hV 30 (by decide) (by decide)]
    exact h1
  obtain rfl : o = 31 := by omega
  rw [ka_E_queue hr, hV 31 (by decide) (by decide)]
  exact h1
abbrev ks_cf (a0 : Nat) : List Value := [.ref (a0 + 1), .ref (a0 + 33), .ref (a0 + 65), .ref (a0 + 195)]
/-- all cells at the end of the constructors -/
def ks_E (G : ka_G) (a0 : Nat) : Nat → va_E := kb_j (kcE G a0 (ks_cf a0)) 198 (kmE G (kb_mfs (a0 + 198)) (kmS 25))
theorem ks_Ec {G : ka_G} {a0 i : Nat} (h : i < 198) : ks_E G a0 i = kcE G a0 (ks_cf a0) i := kb_j_lt h
theorem ks_Em {G : ka_G} {a0 i : Nat} : ks_E G a0 (198 + i) = kmE G (kb_mfs (a0 + 198)) (kmS 25) i := by
  unfold ks_E
  rw [kb_j_ge (by omega), show 198 + i - 198 = i by omega]
theorem ks_pool0 {G : ka_G} {a0 r o : Nat} (hr : r < 6) (ho : o < 32) : ks_E G a0 (kx r 0 + o) = kpF G (a0 + kx r 0) o := by
  have hk : kx r 0 = if r < 2 then 1 + 32 * r else 67 + 32 * (r - 2) := by
    unfold kx
    split
    · rfl
    · rfl
  rw [ks_Ec (by rw [hk]; split <;> omega)]
  by_cases c : r < 2
  · rw [hk, if_pos c]
    unfold kcE
    rcases (show r = 0 ∨ r = 1 by omega) with rfl | rfl
    · rw [if_neg (by omega), if_pos (by omega), show 1 + 32 * 0 + o - 1 = o by omega]
    · rw [if_neg (by omega), if_neg (by omega), if_pos (by omega), show 1 + 32 * 1 + o - 33 = o by omega]
  · rw [hk, if_neg c]
    unfold kcE
    rw [if_neg (by omega), if_neg (by omega), if_neg (by omega), if_pos (by omega)]
    unfold khE
    rw [if_neg (by omega), if_neg (by omega), show (67 + 32 * (r - 2) + o - 65 - 2) / 32 = r - 2 by omega, show (67 + 32 * (r - 2) + o - 65 - 2) % 32 = o by omega, show a0 + 65 + (2 + 32 * (r - 2)) = a0 + (67 + 32 * (r - 2)) by omega]
/-- the block is the world -/
theorem ks_world {l : Launch} {D : va_G} {ca : Nat → ClassId} {a0 : Nat} {H : Heap} (h : kb_H (ks_G l D ca a0) a0 205 (ks_E (ks_G l D ca a0) a0) H) : va_P D vwCl (ka_wl (ks_G l D ca a0) ks_V) H := by
  have hc : ∀ i, i < 198 → va_at D vwCl (a0 + i, kcE (ks_G l D ca a0) a0 (ks_cf a0) i) H := fun i hi => by
    rw [← ks_Ec (G := ks_G l D ca a0) hi]
    exact h.2 i (by omega)
  have hm : ∀ i, i < 7 → va_at D vwCl (a0 + (198 + i), kmE (ks_G l D ca a0) (kb_mfs (a0 + 198)) (kmS 25) i) H := fun i hi => by
    rw [← ks_Em (G := ks_G l D ca a0) (a0 := a0)]
    exact h.2 _ (by omega)
  intro k q hk
  obtain ⟨p, hp, rfl⟩ := ka_wl_of hk
  have hmem := List.mem_of_getElem? hp
  unfold ka_ix at hmem
  rcases List.mem_append.mp hmem with hm1 | hm1
  · obtain ⟨r, hr, hm2⟩ := List.mem_flatMap.mp hm1
    obtain ⟨o, ho, rfl⟩ := List.mem_map.mp hm2
    have hr := List.mem_range.mp hr
    have ho := List.mem_range.mp ho
    refine ks_pool hr (fun o ho => ?_) o ho
    have h3 := h.2 (kx r 0 + o) (by
      unfold kx
      split
      · omega
      · omega)
    rw [ks_pool0 hr ho, show a0 + (kx r 0 + o) = a0 + kx r 0 + o by omega] at h3
    exact h3
  · simp only [List.mem_cons, List.not_mem_nil, or_false] at hm1
    rcases hm1 with rfl | rfl | rfl | rfl | rfl | rfl | rfl | rfl | rfl | rfl | rfl | rfl | rfl
    · exact hc 65 (by decide)
    · refine ks_q (f := kb_rg (a0 + 65) 2 4) (hc 66 (by decide)) (fun j hj => ?_)
      unfold kb_rg
      rw [if_pos hj]
      show some (a0 + 65 + (2 + 32 * j)) = some (a0 + kx (2 + j) 0)
      have e : kx (2 + j) 0 = 67 + 32 * j := by
        unfold kx
        rw [if_neg (by omega), if_pos (by omega)]
        omega
      rw [e]
      congr 1
      omega
    · exact hc 195 (by decide)
    · exact hc 196 (by decide)
    · exact hc 197 (by decide)
    · exact hc 0 (by decide)
    · exact hm 0 (by decide)
    · exact hm 1 (by decide)
    · exact hm 2 (by decide)
    · exact hm 3 (by decide)
    · exact hm 4 (by decide)
    · exact hm 5 (by decide)
    · exact hm 6 (by decide)
/-- both sides stand alike at first -/
theorem ks_top : TOP 0 ks_V (ks_V 9) (kmS 25) := by
  have s0 : ∀ j, (7 ≤ j ∧ j < 39 → False) → kmS 25 j = 0 := fun j h => by
    unfold kmS
    rw [if_neg (fun z => h ⟨z.1, by omega⟩), if_neg (fun z => h ⟨by omega, by omega⟩)]
  have v0 : ∀ o, o ≠ 28 → o ≠ 29 → ks_V 0 o = fun _ => 0 := fun o h1 h2 => by
    unfold ks_V
    rw [if_pos (by decide), if_neg h1, if_neg h2]
  have w0 : ∀ w k, wg (kmS 25) w k = 0 := fun w k => s0 _ (by omega)
  have p0 : ∀ p k, pg (kmS 25) p k = 0 := fun p k => s0 _ (by omega)
  have n1 : cn (kmS 25 1) = 0 := by rw [s0 1 (by omega)]; rfl
  have u0 : ∀ n, ub n 0 := fun n => ⟨rfl, Nat.zero_le _⟩
  refine ⟨⟨⟨⟨?_, ?_, ?_, ?_, ?_, ?_, ?_, ?_⟩, fun p hp => ?_, fun w hw => ⟨fun hn => ?_, fun _ => ?_⟩⟩, ⟨?_, ?_, ?_, ?_, fun w hw => ?_⟩, ⟨⟨?_, ?_⟩, ?_, ?_, ?_⟩, [], [], Or.inr rfl, ?_⟩, ?_, ?_⟩
  · rw [s0 0 (by omega)]; rfl
  · rw [s0 1 (by omega)]; rfl
  · rw [s0 2 (by omega)]; rfl
  · rw [s0 3 (by omega)]; rfl
  · rw [s0 4 (by omega)]; rfl
  · rw [s0 5 (by omega)]; rfl
  · decide
  · decide
  · have e : ∀ k, k < 6 → prp (kmS 25) p k = 0 := fun k hk => (pr_k hk).trans (p0 p k)
    rw [v0 (2 + p) (by omega) (by omega)]
    exact ⟨(e 1 (by decide)).symm, (e 0 (by decide)).symm, (e 2 (by decide)).symm, (e 3 (by decide)).symm, (e 4 (by decide)).symm, (e 5 (by decide)).symm⟩
  · rw [n1] at hn
    exact absurd hn (Nat.not_lt_zero _)
  · rw [v0 (8 + w) (by omega) (by omega)]
    exact ⟨by decide, rfl, rfl⟩
  · rw [s0 0 (by omega)]; exact u0 _
  · rw [s0 1 (by omega)]; exact u0 _
  · rw [s0 2 (by omega)]; exact u0 _
  · exact ⟨by decide, by decide⟩
  · rw [w0, w0]
    exact ⟨u0 _, u0 _⟩
  · have g : ∀ j, j < 7 → ub 99 (kmS 25 (7 + j)) := by
      unfold ub
      decide
    exact g
  · have g : ∀ j, j < 25 → ub 9 (kmS 25 (14 + j)) := by
      unfold ub
      decide
    exact g
  · rw [s0 6 (by omega)]; exact u0 _
  · exact p0 0 0
  · intro p hp
    rw [p0]
    exact (u0 _).ab
  · refine ⟨⟨rfl, fun i w h => by simp at h⟩, fun w => ⟨fun h => by simp at h, fun h => ?_⟩, List.Pairwise.nil, fun w h => by simp at h, fun w h => by simp at h, fun w h => by simp at h, Nat.zero_le _⟩
    rw [n1] at h
    exact absurd h.1 (Nat.not_lt_zero _)
  · exact ⟨0, 0, ⟨by decide, by decide⟩, ⟨rfl, rfl, rfl⟩, fun t ht => absurd ht (Nat.not_lt_zero _)⟩
  · exact ⟨rfl, fun j _ => rfl, u0 _⟩
theorem ks_9 : ks_V 9 = ka_s2 (ks_V 9) 1 (kmS 25) := by
  funext o
  by_cases c : o = 1
  · subst c
    rw [ka_s2_s]
    rfl
  · rw [ka_s2_n c]
