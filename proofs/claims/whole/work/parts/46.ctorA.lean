/-! constructors: the world is a block of cells from b on, n of them, cell b + i with the contents E i -/
abbrev kb_X : Type := Program × Env × Room × State × MethodId × Array Value × List Frame × Method × Code × (State → Prop)
def kb_u (E : Nat → va_E) (n : Nat) (e : va_E) : Nat → va_E := fun i => if i = n then e else E i
def kb_j (E : Nat → va_E) (n : Nat) (E' : Nat → va_E) : Nat → va_E := fun i => if i < n then E i else E' (i - n)
theorem kb_u_s {E : Nat → va_E} {n : Nat} {e : va_E} : kb_u E n e n = e := if_pos rfl
theorem kb_u_n {E : Nat → va_E} {n i : Nat} {e : va_E} (h : i ≠ n) : kb_u E n e i = E i := if_neg h
def kb_H (G : ka_G) (b n : Nat) (E : Nat → va_E) (H : Heap) : Prop := H.size = b + n ∧ ∀ i, i < n → va_at G.2.1 vwCl (b + i, E i) H
def kb_first : Nat → Int32 := fun j => if j = 0 then 3 else if j = 1 then 10 else if j = 2 then 4 else if j = 3 then 20 else if j = 4 then 2 else if j = 5 then 25 else 3
def kb_F (b : Nat) (U : State) (H : Heap) : Prop := ∃ t : Nat, va_Z RX6 "FIRST_SETTING" "[I" (.ref t) (fun q => b ≤ q) U H ∧ va_T .int t 7 (fun j => .int (kb_first j)) (fun q => b ≤ q) U H
theorem kb_F.moved {b : Nat} {u U : State} {H : Heap} (hvm : u.vm.Alike U.vm) (h : kb_F b u H) : kb_F b U H := by
  obtain ⟨t, h1, h2⟩ := h
  exact ⟨t, h1.moved hvm, h2.moved hvm⟩
theorem kb_F.kept {b : Nat} {U : State} {H H1 : Heap} (h : kb_F b U H) (hq : ∀ a : Nat, a < H.size → ¬ b ≤ a → H1[a]? = H[a]?) : kb_F b U H1 := by
  obtain ⟨t, h1, h2⟩ := h
  exact ⟨t, h1.kept hq, h2.kept hq⟩
theorem kb_F.narrow {b b' : Nat} {U : State} {H : Heap} (h : kb_F b U H) (hb : b ≤ b') : kb_F b' U H := by
  obtain ⟨t, h1, h2⟩ := h
  exact ⟨t, h1.narrow (fun q hq => Nat.le_trans hb hq), h2.narrow (fun q hq => Nat.le_trans hb hq)⟩
def kb_O (U : State) : Prop := va_AO RX2 U ∧ va_AO RX5 U ∧ va_AO RX3 U
theorem kb_O.moved {u U : State} (hvm : u.vm.Alike U.vm) (h : kb_O u) : kb_O U := ⟨h.1.moved hvm, h.2.1.moved hvm, h.2.2.moved hvm⟩
def kb_Pre (G : ka_G) (h : Nat) (e0 : va_E) (U : State) : Prop := kb_H G h 1 (fun _ => e0) U.heap ∧ va_K G.2.1 vwCl (ka_ty G) U ∧ ka_NW U ∧ kb_F h U U.heap ∧ kb_O U
def kb_rm (d kc sc : Nat) : Room := { frames := d, cells := kc, slots := sc, locals := 32 * d }
/-- a constructor's contract: the object is the newest cell, e0 in it; behind it a block of 1 + kc cells from there on -/
def kb_M (G : ka_G) (y : MethodName) (bytes : ByteArray) (maxL d kc sc : Nat) (e0 : va_E) (E' : Nat → Nat → va_E) : Prop :=
  ∀ h : Nat, Met G.1 y (ka_ws y bytes maxL none) (kb_rm d kc sc) (fun a U => a = [Value.ref h].toArray ∧ kb_Pre G h e0 U) (fun _ st oc t => oc = .returned none ∧ kb_H G h (1 + kc) (E' h) t.heap ∧ ∀ q, q < h → t.heap[q]? = st.heap[q]?) kc sc (fun q => h ≤ q)
def kb_I (G : ka_G) (X : kb_X) (b n : Nat) (E : Nat → va_E) (k sl pc : Nat) (L st : List Value) : Prop := match X with
  | (p, e, R, s, m, args, below, meth, c, Q) => ∀ (H : Heap) (locs : List Loc) (ls : Array Slot), kb_H G b n E H → va_S (fun q => b ≤ q) s.heap H locs → ka_L ls c.maxLocals L → W p G.1 e R s m args below meth c H locs k sl Q (F0 m pc ls st)
def kb_C (G : ka_G) (X : kb_X) (b : Nat) (cc : ByteArray) (own : String) (nL d kc sc : Nat) : Prop := match X with
  | (p, _, R, s, m, args, _, _, c, _) => p.tables.exec = Jvm.exec ∧ c.code = cc ∧ c.maxLocals = nL ∧ s.vm.findClass own = some m.cls ∧ (∀ w ∈ ka_T, w.before args s = true) ∧ va_K G.2.1 vwCl (ka_ty G) s ∧ ka_NW s ∧ kb_F b s s.heap ∧ kb_O s ∧ b ≤ s.heap.size ∧ (d ≤ R.frames ∧ 32 * d ≤ R.locals ∧ kc ≤ R.cells ∧ sc ≤ R.slots)
def kb_N (X : kb_X) : Prop := match X with
  | (_, _, _, _, _, _, _, meth, _, _) => meth.name = "<init>"
def kb_R (G : ka_G) (X : kb_X) (b kc sc : Nat) (E' : Nat → va_E) : Prop := match X with
  | (_, _, _, s, _, args, below, meth, _, Q) => meth.sig.returnType = none ∧ meth.locks = false ∧ Q = MQ below (fun _ st oc t => oc = .returned none ∧ kb_H G b (1 + kc) E' t.heap ∧ ∀ q, q < b → t.heap[q]? = st.heap[q]?) args s kc sc (fun q => b ≤ q)
theorem kb_entry {G : ka_G} {y : MethodName} {bytes : ByteArray} {maxL d kc sc : Nat} {e0 : va_E} {E' : Nat → Nat → va_E} (hy : plainName y.cls = true) (hn : y.name = "<init>") (hl : 1 ≤ maxL)
    (body : ∀ (X : kb_X) (h : Nat), kb_C G X h bytes y.cls maxL d kc sc → kb_N X → kb_R G X h kc sc (E' h) → kb_I G X h 1 (fun _ => e0) 0 0 0 [.ref h] []) : kb_M G y bytes maxL d kc sc e0 E' := by
  intro h
  refine Met.ofW (cc := bytes) (maxL := maxL) (ret := none) hy rfl ?_
  intro p e s m args below meth c s₁ B hml hv
  obtain ⟨rfl, hP, hK, hN, hF, hO⟩ := hv
  have hts := atoms_spec (ws := ka_ws y bytes maxL none) B.pre
  have hin : meth.name = "<init>" := ((name_of_methodNamed B.named B.method).1).trans hn
  have b := body (p, e, (headSpec (ka_ws y bytes maxL none) (kb_rm d kc sc)).room, s, m, [Value.ref h].toArray, below, meth, c, MQ below (fun _ st oc t => oc = .returned none ∧ kb_H G h (1 + kc) (E' h) t.heap ∧ ∀ q, q < h → t.heap[q]? = st.heap[q]?) [Value.ref h].toArray s kc sc (fun q => h ≤ q)) h ⟨B.exec, B.bytes, hml, findClass_of_methodNamed B.named, fun w hw => hts w (List.mem_cons_of_mem _ hw), hK, hN, hF, hO, by rw [hP.1]; omega, ⟨Nat.le_refl _, Nat.le_refl _, Nat.le_refl _, Nat.le_refl _⟩⟩ hin ⟨B.returns, B.notSynchronized, rfl⟩
  have hc : ∀ v ∈ [Value.ref h], v.category = 1 := ka_cat1 rfl
  rw [lg_entry_eq]
  refine b s.heap [] _ hP va_S.rf ⟨?_, hc⟩
  have h1 := lv_entry [Value.ref h] (n := maxL) (by rw [ka_lg hc]; exact hl)
  rw [ka_lx_args hc] at h1
  rw [hml]
  exact h1
section KB
variable {G : ka_G} {X : kb_X} {cc : ByteArray} {own : String} {nL d kc sc b n : Nat} {E : Nat → va_E} {k sl pc : Nat} {L st : List Value}
theorem kb_I.to {n' k' sl' : Nat} {E' : Nat → va_E} {L' : List Value} (hn : n = n') (hk : k ≤ k') (hs : sl ≤ sl') (hL : L = L') (hE : ∀ i, i < n → E i = E' i) (kk : kb_I G X b n' E' k' sl' pc L' st) : kb_I G X b n E k sl pc L st := by
  obtain ⟨p, e, R, s, m, args, below, meth, c, Q⟩ := X
  intro H locs ls hP hS hl
  subst hn; subst hL
  exact W.widen hk hs (kk H locs ls ⟨hP.1, fun i hi => by rw [← hE i hi]; exact hP.2 i hi⟩ hS hl)
theorem kb_iconst {i : Int} {v : Int32} (hC : kb_C G X b cc own nL d kc sc) (hd : decode cc pc = .ok (.iconst i, 1)) (hv : Int32.ofInt i = v) (kk : kb_I G X b n E k sl (pc + 1) L (.int v :: st)) : kb_I G X b n E k sl pc L st := by
  obtain ⟨p, e, R, s, m, args, below, meth, c, Q⟩ := X
  intro H locs ls hP hS hL
  exact lv_iconst hC.1 hC.2.1 hd hv (kk H locs ls hP hS hL)
theorem kb_bipush {i : Int} {v : Int32} (hC : kb_C G X b cc own nL d kc sc) (hd : decode cc pc = .ok (.bipush i, 2)) (hv : (Int8.ofInt i).toInt32 = v) (kk : kb_I G X b n E k sl (pc + 2) L (.int v :: st)) : kb_I G X b n E k sl pc L st := by
  obtain ⟨p, e, R, s, m, args, below, meth, c, Q⟩ := X
  intro H locs ls hP hS hL
  exact lv_bipush hC.1 hC.2.1 hd hv (kk H locs ls hP hS hL)
theorem kb_sipush {i : Int} {v : Int32} (hC : kb_C G X b cc own nL d kc sc) (hd : decode cc pc = .ok (.sipush i, 3)) (hv : (Int16.ofInt i).toInt32 = v) (kk : kb_I G X b n E k sl (pc + 3) L (.int v :: st)) : kb_I G X b n E k sl pc L st := by
  obtain ⟨p, e, R, s, m, args, below, meth, c, Q⟩ := X
  intro H locs ls hP hS hL
  exact lv_sipush hC.1 hC.2.1 hd hv (kk H locs ls hP hS hL)
theorem kb_iload_n {i : Fin 4} {x : Int32} (hC : kb_C G X b cc own nL d kc sc) (hd : decode cc pc = .ok (.iload_n i, 1)) (hl : L[(i : Nat)]? = some (.int x)) (kk : kb_I G X b n E k sl (pc + 1) L (.int x :: st)) : kb_I G X b n E k sl pc L st := by
  obtain ⟨p, e, R, s, m, args, below, meth, c, Q⟩ := X
  intro H locs ls hP hS hL
  exact lv_iload_n hC.1 hC.2.1 hd rfl (ka_L_at hL hl) (kk H locs ls hP hS hL)
theorem kb_aload_n {i : Fin 4} {x : Nat} (hC : kb_C G X b cc own nL d kc sc) (hd : decode cc pc = .ok (.aload_n i, 1)) (hl : L[(i : Nat)]? = some (.ref x)) (kk : kb_I G X b n E k sl (pc + 1) L (.ref x :: st)) : kb_I G X b n E k sl pc L st := by
  obtain ⟨p, e, R, s, m, args, below, meth, c, Q⟩ := X
  intro H locs ls hP hS hL
  exact lv_aload_n hC.1 hC.2.1 hd rfl (ka_L_at hL hl) (kk H locs ls hP hS hL)
theorem kb_istore_n_s {i : Fin 4} {x : Int32} (hC : kb_C G X b cc own nL d kc sc) (hd : decode cc pc = .ok (.istore_n i, 1)) (hi : (i : Nat) < L.length) (hn : (i : Nat) < nL) (kk : kb_I G X b n E k sl (pc + 1) (L.set (i : Nat) (.int x)) st) : kb_I G X b n E k sl pc L (.int x :: st) := by
  obtain ⟨p, e, R, s, m, args, below, meth, c, Q⟩ := X
  intro H locs ls hP hS hL
  exact lv_istore_n hC.1 hC.2.1 hd rfl (nL := c.maxLocals) hL.1 (by rw [hC.2.2.1]; exact hn) rfl (fun ls' h' => kk H locs ls' hP hS (ka_L_new hL rfl ka_set_at h'))
theorem kb_istore_n_p {i : Fin 4} {x : Int32} (hC : kb_C G X b cc own nL d kc sc) (hd : decode cc pc = .ok (.istore_n i, 1)) (hi : (i : Nat) = L.length) (hn : (i : Nat) < nL) (kk : kb_I G X b n E k sl (pc + 1) (L ++ [.int x]) st) : kb_I G X b n E k sl pc L (.int x :: st) := by
  obtain ⟨p, e, R, s, m, args, below, meth, c, Q⟩ := X
  intro H locs ls hP hS hL
  exact lv_istore_n hC.1 hC.2.1 hd rfl (nL := c.maxLocals) hL.1 (by rw [hC.2.2.1]; exact hn) rfl (fun ls' h' => kk H locs ls' hP hS (ka_L_new hL rfl (hi ▸ ka_push_at) h'))
theorem kb_astore_n_p {i : Fin 4} {x : Nat} (hC : kb_C G X b cc own nL d kc sc) (hd : decode cc pc = .ok (.astore_n i, 1)) (hi : (i : Nat) = L.length) (hn : (i : Nat) < nL) (kk : kb_I G X b n E k sl (pc + 1) (L ++ [.ref x]) st) : kb_I G X b n E k sl pc L (.ref x :: st) := by
  obtain ⟨p, e, R, s, m, args, below, meth, c, Q⟩ := X
  intro H locs ls hP hS hL
  exact lv_astore_n hC.1 hC.2.1 hd rfl (nL := c.maxLocals) hL.1 (by rw [hC.2.2.1]; exact hn) rfl (fun ls' h' => kk H locs ls' hP hS (ka_L_new hL rfl (hi ▸ ka_push_at) h'))
theorem kb_iinc {i : Nat} {z : Int} {v x : Int32} (hC : kb_C G X b cc own nL d kc sc) (hd : decode cc pc = .ok (.iinc i z, 3)) (hl : L[i]? = some (.int x)) (hv : Int32.ofInt z = v) (hn : i < nL) (kk : kb_I G X b n E k sl (pc + 3) (L.set i (.int (x + v))) st) : kb_I G X b n E k sl pc L st := by
  obtain ⟨p, e, R, s, m, args, below, meth, c, Q⟩ := X
  intro H locs ls hP hS hL
  exact ka_iinc0 hC.1 hC.2.1 hd (ka_L_at hL hl) (by rw [hv]) hL.1 (by rw [hC.2.2.1]; exact hn) (fun ls' h' => kk H locs ls' hP hS (ka_L_new hL rfl ka_set_at h'))
theorem kb_sp1 {x : Int32} {a0 : Value} (hC : kb_C G X b cc own nL d kc sc) (hd : decode cc pc = .ok (.istore_n 1, 1)) (hn : 1 < nL) (kk : kb_I G X b n E k sl (pc + 1) [a0, .int x] st) : kb_I G X b n E k sl pc [a0] (.int x :: st) := kb_istore_n_p (i := 1) hC hd rfl hn kk
theorem kb_ss1 {x : Int32} {a0 a1 : Value} (hC : kb_C G X b cc own nL d kc sc) (hd : decode cc pc = .ok (.istore_n 1, 1)) (hn : 1 < nL) (kk : kb_I G X b n E k sl (pc + 1) [a0, .int x] st) : kb_I G X b n E k sl pc [a0, a1] (.int x :: st) := kb_istore_n_s (i := 1) hC hd (show 1 < 2 by decide) hn kk
theorem kb_inc1 {v x : Int32} {z : Int} {a0 : Value} (hC : kb_C G X b cc own nL d kc sc) (hd : decode cc pc = .ok (.iinc 1 z, 3)) (hv : Int32.ofInt z = v) (hn : 1 < nL) (kk : kb_I G X b n E k sl (pc + 3) [a0, .int (x + v)] st) : kb_I G X b n E k sl pc [a0, .int x] st := kb_iinc (i := 1) hC hd rfl hv hn kk
theorem kb_iadd {x y : Int32} (hC : kb_C G X b cc own nL d kc sc) (hd : decode cc pc = .ok (.iadd, 1)) (kk : kb_I G X b n E k sl (pc + 1) L (.int (x + y) :: st)) : kb_I G X b n E k sl pc L (.int y :: .int x :: st) := by
  obtain ⟨p, e, R, s, m, args, below, meth, c, Q⟩ := X
  intro H locs ls hP hS hL
  exact lv_iadd hC.1 hC.2.1 hd (kk H locs ls hP hS hL)
theorem kb_dup {v : Value} (hC : kb_C G X b cc own nL d kc sc) (hd : decode cc pc = .ok (.dup, 1)) (hv : v.category = 1) (kk : kb_I G X b n E k sl (pc + 1) L (v :: v :: st)) : kb_I G X b n E k sl pc L (v :: st) := by
  obtain ⟨p, e, R, s, m, args, below, meth, c, Q⟩ := X
  intro H locs ls hP hS hL
  exact lv_dup hC.1 hC.2.1 hd hv (kk H locs ls hP hS hL)
theorem kb_goto {off : Int} {tgt : Nat} (hC : kb_C G X b cc own nL d kc sc) (hd : decode cc pc = .ok (.goto off, 3)) (ht : (pc : Int) + off = (tgt : Int)) (kk : kb_I G X b n E k sl tgt L st) : kb_I G X b n E k sl pc L st := by
  obtain ⟨p, e, R, s, m, args, below, meth, c, Q⟩ := X
  intro H locs ls hP hS hL
  exact lv_goto hC.1 hC.2.1 hd ht (kk H locs ls hP hS hL)
theorem kb_ige {x y : Int32} {off : Int} {tgt : Nat} (hC : kb_C G X b cc own nL d kc sc) (hd : decode cc pc = .ok (.if_icmp .ge off, 3)) (ht : (pc : Int) + off = (tgt : Int)) (kt : ¬ x < y → kb_I G X b n E k sl tgt L st) (kf : x < y → kb_I G X b n E k sl (pc + 3) L st) : kb_I G X b n E k sl pc L (.int y :: .int x :: st) := by
  obtain ⟨p, e, R, s, m, args, below, meth, c, Q⟩ := X
  intro H locs ls hP hS hL
  exact lv_icmp_ge hC.1 hC.2.1 hd ht (fun h => kt (Int32.not_lt.mpr h) H locs ls hP hS hL) (fun h => kf (Int32.not_le.mp h) H locs ls hP hS hL)
theorem kb_obj {idx a : Nat} (hC : kb_C G X b cc own nL d kc sc) (hq : Cond.methodLink own idx objectInit ∈ ka_T) (hcat : (st.map fun v => v.category).sum ≤ 8) (hdp : 1 ≤ d) (hd : decode cc pc = .ok (.invokespecial idx, 3)) (kk : kb_I G X b n E k sl (pc + 3) L st) : kb_I G X b n E k sl pc L (.ref a :: st) := by
  obtain ⟨p, e, R, s, m, args, below, meth, c, Q⟩ := X
  intro H locs ls hP hS hL
  have h6 := hC.2.2.2.2.2.2.2.2.2.2
  refine W.objInit hC.1 hC.2.1 hC.2.2.2.1 (hC.2.2.2.2.1 _ hq) (hC.2.2.2.2.1 _ ka_q_im_objectInit) (hC.2.2.2.2.1 _ ka_q_co_objectInit) rfl hL.1.1 rfl hd (Nat.le_trans hdp h6.1) ?_ (kk H locs ls hP hS hL)
  have h7 : 2 * (F0 m pc ls (.ref a :: st)).monitorRoom + (st.map fun v => v.category).sum ≤ 8 := lv_room hcat
  omega
theorem kb_one {D : va_G} {a : Nat} {e : va_E} {H : Heap} (h : va_at D vwCl (a, e) H) : va_P D vwCl [(a, e)] H := by
  intro j q hj
  have hl : j < 1 := (List.getElem?_eq_some_iff.mp hj).1
  rw [show j = 0 by omega] at hj
  cases hj
  exact h
theorem kb_get {i ci idx N : Nat} {C ref : String} {T : u_T} {fs : List Value} {v : Value} (hC : kb_C G X b cc own nL d kc sc) (hi : i < n) (hE : E i = .inr (ci, fs)) (hc : vwCl[ci]? = some (C, T, N)) (k0 : Nat) (hk : k0 < N) (hin : ∀ w ∈ u_ws C T N, w ∈ ka_T) (hq : Cond.fieldLink own idx ref (T k0).2.1 (T k0).2.2.1 ∈ ka_T) (href : ref = (T k0).1) (hv : fs[k0]? = some v) (hd : decode cc pc = .ok (.getfield idx, 3)) (kk : kb_I G X b n E k sl (pc + 3) L (v :: st)) : kb_I G X b n E k sl pc L (.ref (b + i) :: st) := by
  obtain ⟨p, e, R, s, m, args, below, meth, c, Q⟩ := X
  intro H locs ls hP hS hL
  subst href
  exact va_get (D := G.2.1) (ci := ci) hC.1 hC.2.1 hC.2.2.2.2.1 hin hC.2.2.2.1 hC.2.2.2.2.2.1 (kb_one (hP.2 i hi)) 0 (by rw [hE]; rfl) hc k0 hk (hC.2.2.2.2.1 _ hq) (fun x hx => hx) hv hd (kk H locs ls hP hS hL)
theorem kb_put {i ci idx N : Nat} {C ref : String} {T : u_T} {fs : List Value} {v : Value} {ty : FieldType} {ty0 : Nat → FieldType} (hC : kb_C G X b cc own nL d kc sc) (hN : kb_N X) (hi : i < n) (hE : E i = .inr (ci, fs)) (hc : vwCl[ci]? = some (C, T, N)) (k0 : Nat) (hk : k0 < N) (hin : ∀ w ∈ u_ws C T N, w ∈ ka_T) (hty : ∀ k, k < N → parseFieldDescriptor (T k).2.2.1 = some (ty0 k)) (hnm : ∀ a, a < N → ∀ b, b < N → a ≠ b → (T a).2.1 ≠ (T b).2.1) (hq : Cond.fieldLink own idx ref (T k0).2.1 (T k0).2.2.1 ∈ ka_T) (href : ref = (T k0).1) (hfin : (T k0).2.2.2 = true) (hdecl : (T k0).1 = own) (hdt : parseFieldDescriptor (T k0).2.2.1 = some ty) (hn : narrow ty v = v) (hfit : fits ty v = true) (hl : k0 < fs.length) (hd : decode cc pc = .ok (.putfield idx, 3)) (kk : kb_I G X b n (kb_u E i (.inr (ci, fs.set k0 v))) k sl (pc + 3) L st) : kb_I G X b n E k sl pc L (v :: .ref (b + i) :: st) := by
  obtain ⟨p, e, R, s, m, args, below, meth, c, Q⟩ := X
  intro H locs ls hP hS hL
  subst href
  have hts := hC.2.2.2.2.1
  have hown := hC.2.2.2.1
  have hK := hC.2.2.2.2.2.1
  have hap := va_apart (own := own) hts hin ty0 hty hnm hK hc
  have hat := hP.2 i hi
  rw [hE] at hat
  obtain ⟨r, h1, cell, q1, q2, q3, q4⟩ := hat
  have hr : r = (C, T, N) := Option.some.inj (h1.symm.trans hc)
  subst hr
  obtain ⟨hSl, hfc, kC, hkC, hkind⟩ := hK.1 ci _ hc
  obtain ⟨cf, kf, fi, f, hf, hsl⟩ := hSl k0 hk
  have hlay := hts _ (hin _ (u_in_lay hk))
  unfold u_lay at hlay
  rw [if_pos hfin] at hlay
  have hst := (u_facts hfc hkC (u_lays hts hin hk) hf).1
  have hcf : m.cls = cf := by
    obtain ⟨_, _, c', _, _, _, -, -, hf', -, -, -, hown2, -⟩ := Cond.laysFinal_spec hlay
    have e1 : c' = cf := by have := hf.symm.trans hf'; simp at this; exact this.1.symm
    rw [hdecl] at hown2
    rw [← e1]; exact Option.some.inj (hown.symm.trans hown2)
  have h6 := u_fits hfc hkC hkind (Or.inr hlay) hf hdt hn hfit
  refine W.putFinK hC.1 hC.2.1 hown (hts _ hq) hf hst hcf hN (by rw [q2]; exact h6) q1 q3 (by rw [hsl]; exact k2_hasslot (q4 k0 hk)) rfl rfl hd fun H' e1 e2 e3 => ?_
  rw [hsl] at e1 ⊢
  refine kk H' _ ls ⟨by rw [e2]; exact hP.1, fun j hj => ?_⟩ (hS.put e2 e3 (Nat.le_add_right _ _)) hL
  by_cases hji : j = i
  · subst hji
    rw [kb_u_s]
    exact ⟨_, hc, t_OB.to (V := updV (vp_V fs) k0 v) ⟨_, e1, q2, q3, t_set q4 hap hk v⟩ (fun j _ => vp_updV_set hl v j)⟩
  · rw [kb_u_n hji]
    exact (hP.2 j hj).kept (e3 (b + j) (fun z => hji (Nat.add_left_cancel z)))
/-- a new cell behind the block -/
theorem kb_grow {H H1 : Heap} {e : va_E} (hP : kb_H G b n E H) (e1 : va_at G.2.1 vwCl (b + n, e) H1) (z1 : H1.size = H.size + 1) (o1 : ∀ q, q < H.size → H1[q]? = H[q]?) : kb_H G b (n + 1) (kb_u E n e) H1 := by
  refine ⟨by rw [z1, hP.1]; omega, fun j hj => ?_⟩
  by_cases hjn : j = n
  · subst hjn
    rw [kb_u_s]
    exact e1
  · rw [kb_u_n hjn]
    exact (hP.2 j (by omega)).kept (o1 (b + j) (by rw [hP.1]; omega))
theorem kb_growS {s : State} {H H1 : Heap} {locs : List Loc} (hS : va_S (fun q => b ≤ q) s.heap H locs) (z1 : H1.size = H.size + 1) (o1 : ∀ q, q < H.size → H1[q]? = H[q]?) : va_S (fun q => b ≤ q) s.heap H1 locs :=
  ⟨Nat.le_trans hS.1 (by omega), fun x h1 h2 => (o1 x (Nat.lt_of_lt_of_le h1 hS.1)).trans (hS.2.1 x h1 h2), hS.2.2⟩
theorem kb_new {C : String} {T : u_T} {N ci idx : Nat} {fs : List Value} (hC : kb_C G X b cc own nL d kc sc) (q1 : Cond.classLink own idx C ∈ ka_T) (q2 : Cond.instantiable C N ∈ ka_T) (q3 : Cond.initialized C ∈ ka_T) (hin : ∀ w ∈ u_ws C T N, w ∈ ka_T) (ty : Nat → FieldType) (hty : ∀ k, k < N → parseFieldDescriptor (T k).2.2.1 = some (ty k)) (hc : vwCl[ci]? = some (C, T, N)) (hfs : ∀ j, j < N → defaultValue (ty j) = vp_V fs j) (hk : k + 1 ≤ kc) (hs : sl + N ≤ sc) (hd : decode cc pc = .ok (.new idx, 3)) (kk : kb_I G X b (n + 1) (kb_u E n (.inr (ci, fs))) (k + 1) (sl + N) (pc + 3) L (.ref (b + n) :: st)) : kb_I G X b n E k sl pc L st := by
  obtain ⟨p, e, R, s, m, args, below, meth, c, Q⟩ := X
  intro H locs ls hP hS hL
  have h6 := hC.2.2.2.2.2.2.2.2.2.2
  have hts := hC.2.2.2.2.1
  have hKn := hC.2.2.2.2.2.1.1 ci _ hc
  refine W.newcK hC.1 hC.2.1 hC.2.2.2.1 (hts _ q1) (hts _ q2) (hts _ q3) rfl hd (Nat.le_trans hk h6.2.2.1) (Nat.le_trans hs h6.2.2.2) hKn.2.1 hP.1 fun H1 kC hkC e1 z1 o1 => ?_
  have z1 : H1.size = H.size + 1 := by rw [z1, hP.1]
  have o1 : ∀ q, q < H.size → H1[q]? = H[q]? := fun q hq => o1 q (by rw [← hP.1]; exact hq)
  exact kk H1 locs ls (kb_grow hP ⟨_, hc, (u_born ty hts hin hKn hkC e1 hty).to hfs⟩ z1 o1) (kb_growS hS z1 o1) hL
theorem kb_newa {v : Int32} {N : Nat} (hC : kb_C G X b cc own nL d kc sc) (hv : ¬ v < 0) (hN : v.toNatClampNeg = N) (hb : N * 4 ≤ 536870912) (hk : k + 1 ≤ kc) (hs : sl + N ≤ sc) (hd : decode cc pc = .ok (.newarray .int, 2)) (kk : kb_I G X b (n + 1) (kb_u E n (.inl (ka_ca G 0, N, .inl (fun _ => 0)))) (k + 1) (sl + N) (pc + 2) L (.ref (b + n) :: st)) : kb_I G X b n E k sl pc L (.int v :: st) := by
  obtain ⟨p, e, R, s, m, args, below, meth, c, Q⟩ := X
  intro H locs ls hP hS hL
  have h6 := hC.2.2.2.2.2.2.2.2.2.2
  have hts := hC.2.2.2.2.1
  refine va_newaK (atype := .int) hC.1 hC.2.1 (hts _ ka_q_ac_int) rfl hd rfl hv hN hb (Nat.le_trans hk h6.2.2.1) (Nat.le_trans hs h6.2.2.2) hP.1 fun H1 cA e1 z1 o1 _ hNm => ?_
  have z1 : H1.size = H.size + 1 := by rw [z1, hP.1]
  have o1 : ∀ q, q < H.size → H1[q]? = H[q]? := fun q hq => o1 q (by rw [← hP.1]; exact hq)
  have hca : cA = ka_ca G 0 := by
    have h7 : s.vm.findClass ("[" ++ FieldType.int.toString) = some (ka_ca G 0) := (hC.2.2.2.2.2.1.2 0 (ka_ca G 0, .int) rfl).2
    exact Option.some.inj (hNm.symm.trans h7)
  subst hca
  exact kk H1 locs ls (kb_grow hP e1 z1 o1) (kb_growS hS z1 o1) hL
theorem kb_newq {C : String} {v : Int32} {N t idx : Nat} (hC : kb_C G X b cc own nL d kc sc) (q1 : Cond.classLink own idx C ∈ ka_T) (hO : ∀ U, kb_O U → va_AO C U) (ht : (ka_ty G)[t]? = some (ka_ca G t, .object C)) (hv : ¬ v < 0) (hN : v.toNatClampNeg = N) (hb : N * 4 ≤ 536870912) (hk : k + 1 ≤ kc) (hs : sl + N ≤ sc) (hd : decode cc pc = .ok (.anewarray idx, 3)) (kk : kb_I G X b (n + 1) (kb_u E n (.inl (ka_ca G t, N, .inr (.inr (.inr (.inr (fun _ => none))))))) (k + 1) (sl + N) (pc + 3) L (.ref (b + n) :: st)) : kb_I G X b n E k sl pc L (.int v :: st) := by
  obtain ⟨p, e, R, s, m, args, below, meth, c, Q⟩ := X
  intro H locs ls hP hS hL
  subst hN
  have h6 := hC.2.2.2.2.2.2.2.2.2.2
  have hts := hC.2.2.2.2.1
  refine W.anew hC.1 hC.2.1 hC.2.2.2.1 (hts _ q1) (va_AO.use (hO s hC.2.2.2.2.2.2.2.2.1)) rfl hd rfl hv hb (Nat.le_trans hk h6.2.2.1) (Nat.le_trans hs h6.2.2.2) fun cA kA comp f1 f2 f3 f4 => ?_
  have hca : cA = ka_ca G t := by
    obtain ⟨_, _, _, _, _, h7⟩ := (hC.2.2.2.2.2.1.2 t _ ht).2
    exact Option.some.inj (f1.symm.trans h7)
  subst hca
  generalize hH1 : H.push ({ cls := ka_ca G t, slots := Array.replicate v.toNatClampNeg .null, vm := .none } : Cell) = H1
  have z1 : H1.size = H.size + 1 := by rw [← hH1, Array.size_push]
  have e1 : H1[H.size]? = some (arrV (ka_ca G t) v.toNatClampNeg (fun _ => .null)) := by rw [← hH1, Array.getElem?_push_size, ← arrV_new]
  have o1 : ∀ q : Nat, q < H.size → H1[q]? = H[q]? := fun q hq => by rw [← hH1, Array.getElem?_push, if_neg (Nat.ne_of_lt hq)]
  rw [hP.1] at e1
  have := kk H1 locs ls (kb_grow hP (e := .inl (ka_ca G t, v.toNatClampNeg, .inr (.inr (.inr (.inr (fun _ => none)))))) e1 z1 o1) (kb_growS hS z1 o1) hL
  rw [← hP.1] at this
  exact this
theorem kb_iast {i j N : Nat} {x v : Int32} {f : Nat → Int32} (hC : kb_C G X b cc own nL d kc sc) (hi : i < n) (hE : E i = .inl (ka_ca G 0, N, .inl f)) (hj : j < N) (hN : N < 2 ^ 31) (hx : x = nI j) (hd : decode cc pc = .ok (.iastore, 1)) (kk : kb_I G X b n (kb_u E i (.inl (ka_ca G 0, N, .inl (upd f j v)))) k sl (pc + 1) L st) : kb_I G X b n E k sl pc L (.int v :: .int x :: .ref (b + i) :: st) := by
  obtain ⟨p, e, R, s, m, args, below, meth, c, Q⟩ := X
  intro H locs ls hP hS hL
  subst hx
  have hat := hP.2 i hi
  rw [hE] at hat
  have hin : vp_in (nI j) N := vp_in_nI hj hN
  refine W.iast hC.1 hC.2.1 hat ((hC.2.2.2.2.2.1.2 0 (ka_ca G 0, .int) rfl).1 N (fun j => .int (f j))) (fun q => by cases q) (by show ¬ (nI j < 0 ∨ (arrV _ _ _).slots.size ≤ _); rw [arrV_size]; exact hin) rfl rfl hd fun H1 e1 z oq => ?_
  refine kk H1 _ ls ⟨by rw [z]; exact hP.1, fun r hr => ?_⟩ (hS.put z oq (Nat.le_add_right _ _)) hL
  by_cases hri : r = i
  · subst hri
    rw [kb_u_s]
    show H1[b + r]? = some (vp_cell _ _)
    rw [e1]
    dsimp only
    rw [vp_cell_i, vp_cell_i, arrV_store]
    congr 2
    funext q
    have ej : (nI j).toNatClampNeg = j := cn_nI (by omega)
    rw [ej]
    by_cases hq : q = j
    · subst hq
      simp [updV, upd]
    · simp [updV, upd, hq]
  · rw [kb_u_n hri]
    exact (hP.2 r hr).kept (oq (b + r) (fun z => hri (Nat.add_left_cancel z)))
theorem kb_aast {i i2 j N ci t : Nat} {x : Int32} {f : Nat → Option Nat} {r : vw_C} {vs : List Value} (hC : kb_C G X b cc own nL d kc sc) (hi : i < n) (hE : E i = .inl (ka_ca G t, N, .inr (.inr (.inr (.inr f))))) (ht : (ka_ty G)[t]? = some (ka_ca G t, .object r.1)) (hi2 : i2 < n) (hE2 : E i2 = .inr (ci, vs)) (hc : vwCl[ci]? = some r) (hj : j < N) (hN : N < 2 ^ 31) (hx : x = nI j) (hd : decode cc pc = .ok (.aastore, 1)) (kk : kb_I G X b n (kb_u E i (.inl (ka_ca G t, N, .inr (.inr (.inr (.inr (va_up f j (some (b + i2)))))))))  k sl (pc + 1) L st) : kb_I G X b n E k sl pc L (.ref (b + i2) :: .int x :: .ref (b + i) :: st) := by
  obtain ⟨p, e, R, s, m, args, below, meth, c, Q⟩ := X
  intro H locs ls hP hS hL
  subst hx
  have hat := hP.2 i hi
  rw [hE] at hat
  have hat2 := hP.2 i2 hi2
  rw [hE2] at hat2
  have ej : (nI j).toNatClampNeg = j := cn_nI (by omega)
  obtain ⟨r', hr', cellV, g1, g2, g3, -⟩ := hat2
  have hK := hC.2.2.2.2.2.1
  have hcls := (hK.1 ci r hc).2
  obtain ⟨kA, comp, k1, k2, k3, -⟩ := (hK.2 t _ ht).2
  have hcomp : comp = G.2.1.1 ci := Option.some.inj (k3.symm.trans hcls.1)
  subst hcomp
  obtain ⟨kC, hkC, -⟩ := hcls.2
  refine W.aast hC.1 hC.2.1 hat (fun q h => by cases h) (fun h => by cases h) k1 k2 rfl hkC ⟨nI_pos (by omega), by show _ < (arrV _ _ _).slots.size; rw [arrV_size, ej]; exact hj⟩ g1 (fun q h => by rw [g3] at h; cases h) (by rw [g2]; exact hkC) (by rw [g2]; exact va_assign hcls) rfl rfl hd fun H1 e1 z oq => ?_
  refine kk H1 _ ls ⟨by rw [z]; exact hP.1, fun r hr => ?_⟩ (hS.put z oq (Nat.le_add_right _ _)) hL
  by_cases hri : r = i
  · subst hri
    rw [kb_u_s]
    show H1[b + r]? = some (vp_cell _ _)
    rw [e1]
    dsimp only
    rw [vp_cell_q, vp_cell_q, arrV_store, ej]
    congr 2
    funext q
    by_cases hq : q = j
    · subst hq
      simp [updV, va_up, va_rf]
    · simp [updV, va_up, hq]
  · rw [kb_u_n hri]
    exact (hP.2 r hr).kept (oq (b + r) (fun z => hri (Nat.add_left_cancel z)))
theorem kb_gst {idx : Nat} {host : String} (hC : kb_C G X b cc own nL d kc sc) (hq : (own, idx, RX6, "FIRST_SETTING", "[I", host) ∈ ka_nF) (hd : decode cc pc = .ok (.getstatic idx, 3)) (kk : ∀ t : Nat, (∀ {pc j : Nat} {st : List Value} {x : Int32}, j < 7 → x = nI j → decode cc pc = .ok (.iaload, 1) → kb_I G X b n E k sl (pc + 1) L (.int (kb_first j) :: st) → kb_I G X b n E k sl pc L (.int x :: .ref t :: st)) → kb_I G X b n E k sl (pc + 3) L (.ref t :: st)) : kb_I G X b n E k sl pc L st := by
  obtain ⟨p, e, R, s, m, args, below, meth, c, Q⟩ := X
  obtain ⟨t, h1, h2⟩ := hC.2.2.2.2.2.2.2.1
  intro H locs ls hP hS hL
  refine va_getsN (host := host) hC.1 hC.2.1 h1 hS hC.2.2.2.1 (va_Nw.use rfl (hC.2.2.2.2.2.2.1.1 _ hq)) (fun x hx => hx) hd (kk t ?_ H locs ls hP hS hL)
  intro pc j st x hj hx hd2 k2 H locs ls hP hS hL
  subst hx
  have ej : (nI j).toNatClampNeg = j := cn_nI (by omega)
  exact va_ti hC.1 hC.2.1 h2 hS (vp_in_nI hj (by decide)) (by rw [ej]) hd2 (k2 H locs ls hP hS hL)
theorem kb_after {p : Program} {e : Env} {R : Room} {s : State} {m : MethodId} {args : Array Value} {below : List Frame} {meth : Method} {c : Code} {Q : State → Prop} {H : Heap} {locs : List Loc} {ls : Array Slot} {st0 rest : List Value} {kc' sc' i : Nat} {E' : Nat → va_E}
    (hr : va_Run p G.1 e R s m args below meth c H locs k sl kc' sc' (F0 m pc ls st0) rest (fun st oc t => oc = .returned none ∧ kb_H G (b + i) (1 + kc') E' t.heap ∧ ∀ q, q < b + i → t.heap[q]? = st.heap[q]?) (fun q => b + i ≤ q)) (hb : b ≤ s.heap.size) (hP : kb_H G b (i + 1) E H) (hS : va_S (fun q => b ≤ q) s.heap H locs) (hL : ka_L ls c.maxLocals L)
    (kk : kb_I G (p, e, R, s, m, args, below, meth, c, Q) b (i + 1 + kc') (kb_j E i E') (k + kc') (sl + sc') (pc + 3) L rest) : W p G.1 e R s m args below meth c H locs k sl Q (F0 m pc ls st0) := by
  intro T hT X
  obtain ⟨v', st₀, t, T', L2, h0, X', hL2, e1, e2, ⟨hv, hp, hk⟩, stp⟩ := hr T hT X
  cases hv
  rw [h0] at hk
  have hz := hP.1
  have hz2 := hp.1
  obtain ⟨t2, a1, b1⟩ := kk T'.heap (locs ++ L2) ls ⟨by rw [e1, hz2]; omega, fun j hj => by
      rw [e1]
      unfold kb_j
      by_cases c : j < i
      · rw [if_pos c]
        exact (hP.2 j (by omega)).kept (hk (b + j) (by omega))
      · rw [if_neg c]
        have h3 := hp.2 (j - i) (by omega)
        rw [show b + i + (j - i) = b + j by omega] at h3
        exact h3⟩
    ⟨by rw [e1, hz2]; have := hS.1; omega, fun q h1 h2 => by rw [e1, hk q (by have : ¬ b ≤ q := h2; omega)]; exact hS.2.1 q h1 h2, fun q hq => by
      rcases List.mem_append.mp hq with h | h
      · exact hS.2.2 q h
      · exact Nat.le_trans (Nat.le_add_right _ _) (hL2 q h)⟩ hL T' rfl X'
  exact ⟨t2, stp t2 a1, b1⟩
theorem kb_blind {h : Nat} {e0 : va_E} : FrameBlind (fun (a : Array Value) (U : State) => a = [Value.ref h].toArray ∧ kb_Pre G h e0 U) := fun a U g mk q => ⟨q.1, q.2.1, va_K.moved (u := U) (U := U.calling g mk a) (Vm.Alike.refl U.vm) q.2.2.1, ka_NW.same (s := U) (U := U.calling g mk a) rfl q.2.2.2.1, kb_F.moved (u := U) (U := U.calling g mk a) (Vm.Alike.refl U.vm) q.2.2.2.2.1, kb_O.moved (u := U) (U := U.calling g mk a) (Vm.Alike.refl U.vm) q.2.2.2.2.2⟩
theorem kb_pre {p : Program} {e : Env} {R : Room} {s : State} {m : MethodId} {args : Array Value} {below : List Frame} {meth : Method} {c : Code} {Q : State → Prop} {H : Heap} {locs : List Loc} {i : Nat} {e0 : va_E} (hC : kb_C G (p, e, R, s, m, args, below, meth, c, Q) b cc own nL d kc sc) (hP : kb_H G b (i + 1) E H) (hS : va_S (fun q => b ≤ q) s.heap H locs) (he : E i = e0) (U : State) (hU : U.heap = H) (hW : s.WarmedH U.vm) : kb_Pre G (b + i) e0 U := by
  refine ⟨⟨by rw [hU, hP.1]; omega, fun j hj => ?_⟩, va_K.moved hW.alike hC.2.2.2.2.2.1, ka_NW.warm hW hC.2.2.2.2.2.2.1, ?_, kb_O.moved hW.alike hC.2.2.2.2.2.2.2.2.1⟩
  · obtain rfl : j = 0 := by omega
    rw [hU, ← he]
    exact hP.2 i (by omega)
  · rw [hU]
    exact ((hC.2.2.2.2.2.2.2.1.kept (fun a h1 h2 => hS.2.1 a h1 h2)).moved hW.alike).narrow (Nat.le_add_right _ _)
theorem kb_call {y : MethodName} {bytes : ByteArray} {maxL d' kc' sc' idx i : Nat} {e0 : va_E} {E' : Nat → Nat → va_E} (hC : kb_C G X b cc own nL d kc sc) (hM : kb_M G y bytes maxL d' kc' sc' e0 E') (q1 : Cond.methodLink own idx y ∈ ka_T) (q2 : Cond.instanceMethod y ∈ ka_T) (q4 : Cond.initialized y.cls ∈ ka_T) (q5 : Cond.code y bytes maxL none ∈ ka_T) (hy1 : y.name = "<init>") (hy : ka_y y 0) (hdd : d' + 1 ≤ d) (hm : maxL ≤ 13) (hcat : (st.map fun v => v.category).sum ≤ 8) (hk : k + kc' ≤ kc) (hs : sl + sc' ≤ sc) (he : E i = e0) (hd : decode cc pc = .ok (.invokespecial idx, 3)) (kk : kb_I G X b (i + 1 + kc') (kb_j E i (E' (b + i))) (k + kc') (sl + sc') (pc + 3) L st) : kb_I G X b (i + 1) E k sl pc L (.ref (b + i) :: st) := by
  obtain ⟨p, e, R, s, m, args, below, meth, c, Q⟩ := X
  intro H locs ls hP hS hL
  have h6 := hC.2.2.2.2.2.2.2.2.2.2
  have hts := hC.2.2.2.2.1
  exact kb_after (va_runI (Ts := ka_T) (own := own) (As := []) (rest := st) ⟨hC.1, hC.2.1, hC.2.2.1, hC.2.2.2.1, hts⟩ (hM (b + i)) (cwI 0 hts (ka_goodW q5) rfl rfl rfl (hts _ q4) (hts _ q1) (hts _ q2) hy1 hy ⟨Nat.le_trans hdd h6.1, by show 8 + (maxL + 11) + 32 * d' ≤ _; omega⟩) ⟨kb_blind, fun U hU hW => ⟨rfl, kb_pre hC hP hS he U hU hW⟩⟩ rfl rfl (by rw [← hC.2.2.1]; exact hL.1.1) rfl (lv_room hcat) hd ⟨Nat.le_trans hk h6.2.2.1, Nat.le_trans hs h6.2.2.2⟩) hC.2.2.2.2.2.2.2.2.2.1 hP hS hL kk
theorem kb_callN {y : MethodName} {bytes : ByteArray} {maxL d' kc' sc' idx i : Nat} {host : String} {e0 : va_E} {E' : Nat → Nat → va_E} (hC : kb_C G X b cc own nL d kc sc) (hM : kb_M G y bytes maxL d' kc' sc' e0 E') (q1 : (own, idx, y, host) ∈ ka_nM) (q2 : Cond.instanceMethod y ∈ ka_T) (q4 : Cond.initialized y.cls ∈ ka_T) (q5 : Cond.code y bytes maxL none ∈ ka_T) (hy1 : y.name = "<init>") (hy : ka_y y 0) (hdd : d' + 1 ≤ d) (hm : maxL ≤ 13) (hcat : (st.map fun v => v.category).sum ≤ 8) (hk : k + kc' ≤ kc) (hs : sl + sc' ≤ sc) (he : E i = e0) (hd : decode cc pc = .ok (.invokespecial idx, 3)) (kk : kb_I G X b (i + 1 + kc') (kb_j E i (E' (b + i))) (k + kc') (sl + sc') (pc + 3) L st) : kb_I G X b (i + 1) E k sl pc L (.ref (b + i) :: st) := by
  obtain ⟨p, e, R, s, m, args, below, meth, c, Q⟩ := X
  intro H locs ls hP hS hL
  have h6 := hC.2.2.2.2.2.2.2.2.2.2
  have hts := hC.2.2.2.2.1
  exact kb_after (va_runIN (Ts := ka_T) (own := own) (host := host) (As := []) (rest := st) ⟨hC.1, hC.2.1, hC.2.2.1, hC.2.2.2.1, hts⟩ (hM (b + i)) ⟨va_cnB 0 hts (ka_goodW q5) rfl rfl rfl (hC.2.2.2.2.2.2.1.2 _ q1) (hts _ q4) hy ⟨Nat.le_trans hdd h6.1, by show 8 + (maxL + 11) + 32 * d' ≤ _; omega⟩, hy1, hts _ q2⟩ ⟨kb_blind, fun U hU hW => ⟨rfl, kb_pre hC hP hS he U hU hW⟩⟩ rfl rfl (by rw [← hC.2.2.1]; exact hL.1.1) rfl (lv_room hcat) hd ⟨Nat.le_trans hk h6.2.2.1, Nat.le_trans hs h6.2.2.2⟩) hC.2.2.2.2.2.2.2.2.2.1 hP hS hL kk
theorem kb_ret {E' : Nat → va_E} (hC : kb_C G X b cc own nL d kc sc) (hR : kb_R G X b kc sc E') (hd : decode cc pc = .ok (.return_, 1)) (hn : n = 1 + kc) (hk : k ≤ kc) (hs : sl ≤ sc) (hE : ∀ i, i < n → E i = E' i) : kb_I G X b n E k sl pc L [] := by
  obtain ⟨p, e, R, s, m, args, below, meth, c, Q⟩ := X
  intro H locs ls hP hS hL
  obtain ⟨r1, r2, rfl⟩ := hR
  subst hn
  refine W.widen hk hs ?_
  exact W.vret hC.1 hC.2.1 r1 (fun t ht hW => ⟨rfl, by rw [ht]; exact ⟨hP.1, fun i hi => by rw [← hE i hi]; exact hP.2 i hi⟩, fun q h1 => by
    rw [ht]
    exact hS.2.1 q (Nat.lt_of_lt_of_le h1 hC.2.2.2.2.2.2.2.2.2.1) (Nat.not_le.mpr h1)⟩) hS.2.2 hd r2
end KB
/-! contents -/
def kb_rf (b o n : Nat) : Nat → Option Nat := fun k => if k < n then some (b + (o + k)) else none
theorem kb_rf_0 {b o : Nat} : (fun _ => none) = kb_rf b o 0 := rfl
theorem kb_rf_s {b o n : Nat} : va_up (kb_rf b o n) n (some (b + (o + n))) = kb_rf b o (n + 1) := by
  funext k
  unfold va_up kb_rf
  by_cases h : k = n
  · subst h
    rw [if_pos rfl, if_pos (Nat.lt_succ_self _)]
  · rw [if_neg h]
    by_cases h2 : k < n
    · rw [if_pos h2, if_pos (by omega)]
    · rw [if_neg h2, if_neg (by omega)]
def kb_cs (n : Nat) (v : Nat → Int32) : Nat → Int32 := fun j => if j < n then v j else 0
theorem kb_cs_0 {v : Nat → Int32} : (fun _ => (0 : Int32)) = kb_cs 0 v := rfl
theorem kb_cs_s {n : Nat} {v : Nat → Int32} : upd (kb_cs n v) n (v n) = kb_cs (n + 1) v := by
  funext k
  by_cases h : k = n
  · subst h
    rw [pk_us]
    unfold kb_cs
    rw [if_pos (Nat.lt_succ_self _)]
  · rw [pk_un h]
    unfold kb_cs
    by_cases h2 : k < n
    · rw [if_pos h2, if_pos (by omega)]
    · rw [if_neg h2, if_neg (by omega)]
