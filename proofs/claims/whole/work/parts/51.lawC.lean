/-! from the law's entry to its end -/
theorem ks_end {G : ka_G} {a0 : Nat} {e1 e2 : va_E} : ∀ i, i < 198 + 1 + 6 → kb_j (kb_u (kb_j (kb_u (fun _ => kb_pl) 0 e1) 0 (kcE G (a0 + 0) [.ref (a0 + 0 + 1), .ref (a0 + 0 + 33), .ref (a0 + 0 + 65), .ref (a0 + 0 + 195)])) 198 e2) 198 (kmE G (kb_mfs (a0 + 198)) (kmS 25)) i = ks_E G a0 i := fun i hi => by
  by_cases c : i < 198
  · rw [kb_j_lt c, kb_u_n (by omega), kb_j_ge (Nat.not_lt_zero _), ks_Ec c]
    rfl
  · rw [kb_j_ge c]
    unfold ks_E
    rw [kb_j_ge c]
set_option maxHeartbeats 4000000 in
set_option maxRecDepth 100000 in
theorem whole_start {p : Program} {e : Env} {s : State} {m : MethodId} {below : List Frame} {meth : Method} {c : Code} (l : Launch) (hflags : l.flags = flags0) {b L : Nat} {xs : Nat → Int32} (hL : L ≤ 2560) (C0 : lw_At p s m meth c b L xs) : W p l e room_1 s m #[Value.ref b] below meth c s.heap [] 0 0 (lw_Z below #[Value.ref b] s) (entryFrame m ([Value.ref b] : List Value).toArray 4) := by
  obtain ⟨hx, hb, hr, hml, hown, hts, hX, hbl, hlocks, hgv⟩ := C0
  obtain ⟨D, ca, hK⟩ := ks_K hts
  have hA : ∀ a : Nat, a < s.heap.size → ¬ (fun q : Nat => s.heap.size ≤ q) a := fun a h => Nat.not_le.mpr h
  have hG : ka_AD (ks_G l D ca s.heap.size) := ks_AD
  obtain ⟨t1, z1, z2⟩ := ks_low (A := fun q : Nat => s.heap.size ≤ q) hts hgv hA
  obtain ⟨t2, z3, z4⟩ := ks_high (A := fun q : Nat => s.heap.size ≤ q) hts hgv hA
  have hF : kb_F s.heap.size s s.heap := ks_first hts hgv hA
  have hCb : kb_C (ks_G l D ca s.heap.size) (p, e, room_1, s, m, #[Value.ref b], below, meth, c, lw_Z below #[Value.ref b] s) s.heap.size cL_law RL 4 11 205 3844 := ⟨hx, hb, hml, hown, ks_T hts, hK, ks_NW hts, hF, ks_O hts, Nat.le_refl _, Nat.le_of_ble_eq_true rfl, Nat.le_of_ble_eq_true rfl, Nat.le_of_ble_eq_true rfl, Nat.le_of_ble_eq_true rfl⟩
  have hCa : ka_C (ks_G l D ca s.heap.size) (p, e, room_1, s, m, #[Value.ref b], below, meth, c, (fun q : Nat => s.heap.size ≤ q), 205, 3844, lw_Z below #[Value.ref b] s) cL_law RL 4 11 := ⟨hx, hb, hml, hown, ks_T hts, hK, ks_NW hts, ⟨t1, t2, z1, z2, z3, z4⟩, hG, fun q hq => by
    obtain ⟨_, _, _, rfl⟩ := hq
    exact Nat.le_add_right _ _, Nat.le_of_ble_eq_true rfl, Nat.le_of_ble_eq_true rfl, Nat.le_of_ble_eq_true rfl, Nat.le_of_ble_eq_true rfl⟩
  have hSc : ka_Sc (p, e, room_1, s, m, #[Value.ref b], below, meth, c, (fun q : Nat => s.heap.size ≤ q), 205, 3844, lw_Z below #[Value.ref b] s) b L xs := ⟨hX, hbl, Nat.not_le.mpr hbl⟩
  have hend : ∀ (V : ka_W) (L' : List Value), ka_I (ks_G l D ca s.heap.size) (p, e, room_1, s, m, #[Value.ref b], below, meth, c, (fun q : Nat => s.heap.size ≤ q), 205, 3844, lw_Z below #[Value.ref b] s) V 718 L' [] := fun V L' => by
    refine ka_iconst (v := 1) hCa dL_law_718 rfl ?_
    intro H locs ls hP hS hLl
    refine va_forget (fun q hq => hS.2.2 q hq) ?_
    refine W.widen (k := 600000) (n := 7302250) (Nat.le_of_ble_eq_true rfl) (Nat.le_of_ble_eq_true rfl) ?_
    refine W.base ?_
    exact lw_ret (Drawn.sameBut.refl s.drawn lw_cs) hx hb hr hlocks dL_law_719
  have KA : ka_I (ks_G l D ca s.heap.size) (p, e, room_1, s, m, #[Value.ref b], below, meth, c, (fun q : Nat => s.heap.size ≤ q), 205, 3844, lw_Z below #[Value.ref b] s) ks_V 16 [.ref b, .ref (ka_ad (ks_G l D ca s.heap.size) 8 0), .ref (ka_ad (ks_G l D ca s.heap.size) 9 0)] [] := by
    refine ka_iconst (v := 0) hCa dL_law_16 rfl ?_
    refine ka_istore_n_p3 hCa dL_law_17 (by decide) ?_
    exact ls_loop hCa hG hSc hL hend (L + 1) 0 (Nat.zero_le _) (by omega) ks_V (ks_V 9) (kmS 25) ks_9 ks_top
  have KB : kb_I (ks_G l D ca s.heap.size) (p, e, room_1, s, m, #[Value.ref b], below, meth, c, lw_Z below #[Value.ref b] s) s.heap.size 0 (fun _ => kb_pl) 0 0 0 [.ref b] [] := by
    refine kb_new (ci := 6) (fs := [.null, .null, .null, .null]) hCb ka_q_cl_L_7 ka_q_it_X6 ka_q_in_X6 ka_in6 tyX6 tyX6_ok rfl (fun j hj => by rcases (show j = 0 ∨ j = 1 ∨ j = 2 ∨ j = 3 by omega) with rfl | rfl | rfl | rfl <;> rfl) (by decide) (by decide) dL_law_0 ?_
    refine kb_dup hCb dL_law_3 rfl ?_
    refine kb_call (i := 0) hCb m_X6_init ka_q_ml_L_9 ka_q_im_X6_init ka_q_in_X6 ka_q_co_X6_init rfl ky_X6_init (by decide) (by decide) (Nat.le_of_ble_eq_true rfl) (by decide) (by decide) kb_u_s dL_law_4 ?_
    refine kb_astore_n_p (i := 1) hCb dL_law_7 rfl (by decide) ?_
    refine kb_new (ci := 7) (fs := [.null, .null, .null, .null, .int 0, .null, .int 0, .int 0, .int 0, .int 0, .int 0, .int 0, .null]) hCb ka_q_cl_L_10 ka_q_it_X7 ka_q_in_X7 ka_in7 tyX7 tyX7_ok rfl (fun j hj => by rcases (show j = 0 ∨ j = 1 ∨ j = 2 ∨ j = 3 ∨ j = 4 ∨ j = 5 ∨ j = 6 ∨ j = 7 ∨ j = 8 ∨ j = 9 ∨ j = 10 ∨ j = 11 ∨ j = 12 by omega) with rfl | rfl | rfl | rfl | rfl | rfl | rfl | rfl | rfl | rfl | rfl | rfl | rfl <;> rfl) (by decide) (by decide) dL_law_8 ?_
    refine kb_dup hCb dL_law_11 rfl ?_
    refine kb_call (i := 198) hCb m_X7_init ka_q_ml_L_12 ka_q_im_X7_init ka_q_in_X7 ka_q_co_X7_init rfl ky_X7_init (by decide) (by decide) (Nat.le_of_ble_eq_true rfl) (by decide) (by decide) kb_u_s dL_law_12 ?_
    refine kb_astore_n_p (i := 2) hCb dL_law_15 rfl (by decide) ?_
    refine kb_I.to (n' := 205) (k' := 205) (sl' := 3844) (E' := ks_E (ks_G l D ca s.heap.size) s.heap.size) (L' := [.ref b, .ref (ka_ad (ks_G l D ca s.heap.size) 8 0), .ref (ka_ad (ks_G l D ca s.heap.size) 9 0)]) rfl (by decide) (by decide) rfl ks_end ?_
    intro H locs ls hP hS hLl
    exact KA H locs ls (ks_world hP) hS hLl
  have hc : ∀ v ∈ [Value.ref b], v.category = 1 := ka_cat1 rfl
  rw [lg_entry_eq]
  refine KB s.heap [] _ ⟨rfl, fun i hi => absurd hi (Nat.not_lt_zero _)⟩ va_S.rf ⟨?_, hc⟩
  have h1 := lv_entry [Value.ref b] (n := 4) (by rw [ka_lg hc]; exact Nat.le_of_ble_eq_true rfl)
  rw [ka_lx_args hc] at h1
  rw [hml]
  exact h1
set_option maxHeartbeats 4000000 in
theorem lw_walk (l : Launch) (hflags : l.flags = flags0) (b : Addr) (xs : List Int32) : MetFree l x (headSpec (Jvm.Cond.code x code maxLocals ret :: tables_1) room_1) (lw_P b xs) (fun _ _ _ _ _ => True) lw_Q := by
  refine MetFree.of_bodyS (code := code) (maxLocals := maxLocals) (ret := ret) (by decide) ?_ ?_
  · intro args s m h hn
    obtain ⟨meth, c, h1, h2, h3, h4, h5, h6, -, -⟩ := Cond.code_spec hn (atoms_spec (ws := Jvm.Cond.code x code maxLocals ret :: tables_1) h _ List.mem_cons_self)
    exact ⟨meth, c, h1, h2, h3, h4, h5, h6⟩
  · intro p e s m args below meth c s₁ B hml0 hP _
    obtain ⟨rfl, hx, hbd, hgv⟩ := hP
    obtain ⟨scr, harrAt, hlist, hof, hsmall⟩ := hx
    obtain ⟨hcb, hkn, -, -⟩ := State.arrayAt?_spec harrAt
    have hown : s.vm.findClass R_law = some m.cls := findClass_of_methodNamed B.named
    have hts0 : ∀ c ∈ (Jvm.Cond.code x code maxLocals ret :: tables_1), c.before #[Value.ref b] s = true := atoms_spec (ws := Jvm.Cond.code x code maxLocals ret :: tables_1) B.pre
    have hts : ∀ w ∈ lw_tbl, w.before #[Value.ref b] s = true := k2_hts_sels lw_privs (fun w hw => hts0 w (List.mem_cons_of_mem _ hw)) lw_privs_ok
    have hml : c.maxLocals = 4 := B.maxLocals_eq (hts0 _ List.mem_cons_self)
    have X₀ : Stand p l e room_1 s m #[Value.ref b] below meth c s₁ [] 0 0 := Stand.of_body B
    have hh0 : s₁.heap = s.heap := by rw [B.state]; rfl
    have hsz : scr.slots.size = xs.length := by rw [← Array.length_toList, hlist, List.length_map]
    have hval : ∀ j : Nat, j < xs.length → scr.slots[j]? = some (.int (xs.getD j 0)) := fun j hj => by
      rw [← Array.getElem?_toList, hlist]
      simp [hj]
    have hbl : b < s.heap.size := (Array.getElem?_eq_some_iff.mp hcb).1
    have hX : va_X b xs.length (fun j => xs.getD j 0) s s.heap := ⟨scr, hcb, hof, hkn, hsz, hval⟩
    have K : W p l e room_1 s m #[Value.ref b] below meth c s₁.heap [] 0 0 (lw_Z below #[Value.ref b] s) (entryFrame m ([Value.ref b] : List Value).toArray 4) := by
      rw [hh0]
      exact whole_start l hflags hbd ⟨B.exec, B.bytes, B.returns, hml, hown, hts, hX, hbl, B.notSynchronized, hgv⟩
    obtain ⟨t, a1, o, b1, b2, b3⟩ := K s₁ rfl X₀
    exact ⟨t, o, a1, b1, b2, b3⟩
theorem lw_pre_spec {args : Array Value} {s : State} (h : (Jvm.Cond.and given_1 narrow_1).before args s = true) (hr : rest_1_c.before args s = true) : ∃ (b : Addr) (xs : List Int32), lw_P b xs args s := by
  have hs := flat_of_before _ h
  have hq := flat_of_before _ hr
  have hc : (Cond.count 1).before args s = true := hs _ (by decide +kernel)
  have harr : (Cond.arrayOf (.arg 0) .int).before args s = true := hs _ (by decide +kernel)
  have hle : (Cond.le (.length (.arg 0)) (.int 2560)).before args s = true := hs _ (by decide +kernel)
  have hlen : (Cond.isInt (.length (.arg 0))).before args s = true := hq _ (by decide +kernel)
  have hall : (Cond.all (.arg 0) (.isInt (.elem (.arg 0) (.index 0)))).before args s = true := hq _ (by decide +kernel)
  obtain ⟨b, xs, hb, hx⟩ := State.ints_of_pre rfl harr hlen hall
  have hsm : xs.length < 2 ^ 31 := hx.choose_spec.2.2.2
  have hev : (Term.length (.arg 0)).eval args s none [] s = some (.int xs.length.toInt32) := hx.length_eval hb
  have hv := Cond.le_ints hev (show (Term.int 2560).eval args s none [] s = some (.int 2560) from rfl)
  have hd : xs.length.toInt32 ≤ 2560 := by
    simpa [Cond.before, Cond.holds, hv] using hle
  have hN : xs.length ≤ 2560 := (Int32.ofNat_le_ofNat hsm (by decide)).mp (show Int32.ofNat xs.length ≤ Int32.ofNat 2560 from hd)
  exact ⟨b, xs, Cond.one_arg hc (show args[0]? = some (.ref b) from hb), hx, hN, h⟩
theorem lw_comes (l : Launch) (hflags : l.flags = flags0) : Comes l x (Jvm.Cond.code x code maxLocals ret :: tables_1) room_1 (fun tb e args s => Calls_1 tb e args s ∧ rest_1 tb e args s ∧ Pre_1 tb e args s)
    (fun _ _ args s o t => lw_Q args s o t) := by
  intro p e ha hc hk s m args below hf hfit hheap happ hpre
  obtain ⟨b, xs, hP⟩ := lw_pre_spec hpre.2.2 hpre.2.1
  obtain ⟨k, o, h1, h2, h3, hQ⟩ := lw_walk l hflags b xs p e ha hc hk s m args below hf ((Spec.applies_iff_loose hf).mp happ).1 hP trivial
  exact ⟨k, o, h1, h2, h3, hQ⟩
theorem lw_frame {s t : State} {o : Outcome} {args : Array Value} (h : State.butDraws s t lw_cs (fun t1 => Framed s o t1 [] 600000 7302250)) :
    State.butDraws s t [Jvm.Choice.named "NaN.bits"] (fun t1 => Framed s o t1 (fieldLocs frame_1_writes args s ++ arrayLocs frame_1_arrays args s ++ staticLocs frame_1_statics s) 600000 7302250) := h
theorem lw_limb (L : Cond) (hL : ∀ (args : Array Value) (s t : State), L.after args s (.returned (some (.int 1))) t = true) :
    ArmFor flags0 classFile x code maxLocals ret World_1 tables_1 room_1 Calls_1 rest_1 Pre_1
      (fun tb e a s o t => postC L tb e a s o t ∧ State.butDraws s t [Jvm.Choice.named "NaN.bits"] (fun t1 => Framed s o t1 (fieldLocs frame_1_writes a s ++ arrayLocs frame_1_arrays a s ++ staticLocs frame_1_statics s) 600000 7302250)) := by
  intro l hflags _ _ p e ha hc hk s m args below hf hfit hheap happ hpre
  obtain ⟨k, o, h1, h2, h3, rfl, hF⟩ := lw_comes l hflags p e ha hc hk s m args below hf hfit hheap happ hpre
  exact ⟨k, _, h1, h2, h3, hL args s _, lw_frame hF⟩
theorem i_vc : Claimed_1_1 ∧ Claimed_1_2 := ⟨lw_limb limb_1_1 (fun args s t => by simp [limb_1_1, Cond.after, Cond.holds, Cond.value]), lw_limb limb_1_2 (fun args s t => Cond.after_iff.mpr (by
  first | (rw [show limb_1_2 = Cond.eq .result (.int 1) from rfl, Cond.eq_ints (x := 1) (y := 1) rfl rfl]; simp; done) | (simp [limb_1_2, Cond.value, Term.eval]; done)))⟩
