theorem rf_c20 {a : Int32} (h : kw a 20 26 = true) : cn (7 + a - 20) < 269 ∧ 7 + a - 20 = nI (cn (7 + a - 20)) := by
  obtain ⟨h1, h2⟩ := kw_t h
  have h3 := nlt_int h1
  have h4 := nlt_int h2
  have e20 : (20 : Int32).toInt = 20 := by decide
  have e26 : (26 : Int32).toInt = 26 := by decide
  obtain ⟨j, hj, rfl⟩ := nI_of (x := a) (fun h => by
    have := lt_int h
    have e0 : (0 : Int32).toInt = 0 := by decide
    omega)
  rw [nI_toInt hj] at h3 h4
  have e : 7 + nI j - 20 = nI (7 + j - 20) := by
    show nI 7 + nI j - nI 20 = _
    rw [nI_add, nI_sub (by omega)]
  rw [e, cn_nI (by omega)]
  exact ⟨by omega, rfl⟩
theorem rf_need_pl {D : Nat} {S : ka_F} (hM : MK D S) (h : ¬ rf_need S < 0) : rf_need S = nI (cn (rf_need S)) ∧ cn (rf_need S) < 5 := rf_pl_lt hM.m (rf_needX_pl _ hM.m) h
theorem rf_near_pl {D : Nat} {S : ka_F} {to : Nat} (hM : MK D S) (h : ¬ rf_near S to < 0) : rf_near S to = nI (cn (rf_near S to)) ∧ cn (rf_near S to) < 5 := rf_pl_lt (i := cn (S 0)) hM.m (rf_nearX_pl (cn (S 0) + 1) (by have := hM.m; omega)) h
