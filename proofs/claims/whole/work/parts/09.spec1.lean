def sp_standAt (P : ka_P) (p kind : Int32) (i : Nat) (x : Int32) : Int32 :=
  if sp_standsAt P (wgIx (nI i)) p = true then (if sp_isOfKind P (wgIx (nI i)) kind = true then x ||| (1 <<< (nI i &&& 31)) else x) else x
def sp_standX (P : ka_P) (p kind : Int32) (i : Nat) : Int32 := itr (sp_standAt P p kind) i 0
theorem sp_standX_0 {P : ka_P} {p kind : Int32} : sp_standX P p kind 0 = 0 := rfl
theorem sp_standX_s {P : ka_P} {p kind : Int32} {i : Nat} : sp_standX P p kind (i + 1) = sp_standAt P p kind i (sp_standX P p kind i) := rfl
def sp_setStanding (P : ka_P) (p kind : Int32) : Int32 := sp_standX P p kind (cn (P 0 6))
def sp_goingAt (P : ka_P) (p : Int32) (i : Nat) (x : Int32) : Int32 :=
  if sp_goesTo P (wgIx (nI i)) p = true then x ||| (1 <<< (nI i &&& 31)) else x
def sp_goingX (P : ka_P) (p : Int32) (i : Nat) : Int32 := itr (sp_goingAt P p) i 0
theorem sp_goingX_0 {P : ka_P} {p : Int32} : sp_goingX P p 0 = 0 := rfl
theorem sp_goingX_s {P : ka_P} {p : Int32} {i : Nat} : sp_goingX P p (i + 1) = sp_goingAt P p i (sp_goingX P p i) := rfl
def sp_setGoing (P : ka_P) (p : Int32) : Int32 := sp_goingX P p (cn (P 0 6))
def sp_ownedAt (P : ka_P) (m : Int32) (i : Nat) (x : Int32) : Int32 :=
  if P (8 + wgIx (nI i)) 0 = m then x ||| (1 <<< (nI i &&& 31)) else x
def sp_ownedX (P : ka_P) (m : Int32) (i : Nat) : Int32 := itr (sp_ownedAt P m) i 0
theorem sp_ownedX_0 {P : ka_P} {m : Int32} : sp_ownedX P m 0 = 0 := rfl
theorem sp_ownedX_s {P : ka_P} {m : Int32} {i : Nat} : sp_ownedX P m (i + 1) = sp_ownedAt P m i (sp_ownedX P m i) := rfl
def sp_setOwned (P : ka_P) (m : Int32) : Int32 := sp_ownedX P m (cn (P 0 6))
def sp_cstandAt (P : ka_P) (kind : Int32) (i : Nat) (x : Int32) : Int32 :=
  if P (8 + wgIx (nI i)) 2 = 0 then (if sp_isOfKind P (wgIx (nI i)) kind = true then x + 1 else x) else x
def sp_cstandX (P : ka_P) (kind : Int32) (i : Nat) : Int32 := itr (sp_cstandAt P kind) i 0
theorem sp_cstandX_0 {P : ka_P} {kind : Int32} : sp_cstandX P kind 0 = 0 := rfl
theorem sp_cstandX_s {P : ka_P} {kind : Int32} {i : Nat} : sp_cstandX P kind (i + 1) = sp_cstandAt P kind i (sp_cstandX P kind i) := rfl
def sp_cntStanding (P : ka_P) (kind : Int32) : Int32 := sp_cstandX P kind (cn (P 0 6))
def sp_cgoAt (P : ka_P)  (i : Nat) (x : Int32) : Int32 :=
  if P (8 + wgIx (nI i)) 2 = 1 then x + 1 else x
def sp_cgoX (P : ka_P)  (i : Nat) : Int32 := itr (sp_cgoAt P ) i 0
theorem sp_cgoX_0 {P : ka_P}  : sp_cgoX P  0 = 0 := rfl
theorem sp_cgoX_s {P : ka_P}  {i : Nat} : sp_cgoX P  (i + 1) = sp_cgoAt P  i (sp_cgoX P  i) := rfl
def sp_cntGoing (P : ka_P) : Int32 := sp_cgoX P (cn (P 0 6))
def sp_cdueAt (P : ka_P)  (i : Nat) (x : Int32) : Int32 :=
  if sp_isDue P (wgIx (nI i)) = true then x + 1 else x
def sp_cdueX (P : ka_P)  (i : Nat) : Int32 := itr (sp_cdueAt P ) i 0
theorem sp_cdueX_0 {P : ka_P}  : sp_cdueX P  0 = 0 := rfl
theorem sp_cdueX_s {P : ka_P}  {i : Nat} : sp_cdueX P  (i + 1) = sp_cdueAt P  i (sp_cdueX P  i) := rfl
def sp_cntDue (P : ka_P) : Int32 := sp_cdueX P (cn (P 0 6))
def sp_accAt (P : ka_P)  (i : Nat) (x : Int32) : Int32 :=
  x + sp_accountOf P (nI i)
def sp_accX (P : ka_P)  (i : Nat) : Int32 := itr (sp_accAt P ) i 0
theorem sp_accX_0 {P : ka_P}  : sp_accX P  0 = 0 := rfl
theorem sp_accX_s {P : ka_P}  {i : Nat} : sp_accX P  (i + 1) = sp_accAt P  i (sp_accX P  i) := rfl
def sp_allAcc (P : ka_P) : Int32 := sp_accX P (cn (P 0 5) + 1)
def sp_heapsAt (P : ka_P)  (i : Nat) (x : Int32) : Int32 :=
  x + P (2 + plIx (nI (i + 1))) 1
def sp_heapsX (P : ka_P)  (i : Nat) : Int32 := itr (sp_heapsAt P ) i 0
theorem sp_heapsX_0 {P : ka_P}  : sp_heapsX P  0 = 0 := rfl
theorem sp_heapsX_s {P : ka_P}  {i : Nat} : sp_heapsX P  (i + 1) = sp_heapsAt P  i (sp_heapsX P  i) := rfl
def sp_tonsAt (P : ka_P) (z : Int32) (i : Nat) (x : Int32) : Int32 :=
  if sp_full P (wgIx (nI i)) = true then x + 30 else x
def sp_tonsX (P : ka_P) (z : Int32) (i : Nat) : Int32 := itr (sp_tonsAt P z) i z
theorem sp_tonsX_0 {P : ka_P} {z : Int32} : sp_tonsX P z 0 = z := rfl
theorem sp_tonsX_s {P : ka_P} {z : Int32} {i : Nat} : sp_tonsX P z (i + 1) = sp_tonsAt P z i (sp_tonsX P z i) := rfl
def sp_allTonnes (P : ka_P) : Int32 := sp_tonsX P (sp_heapsX P (cn (P 0 5))) (cn (P 0 6))
def sp_readyAt (P : ka_P) (p : Int32) (i : Nat) (x : Int32) : Int32 :=
  if sp_standsAt P (wgIx (nI i)) p = true then (if sp_full P (wgIx (nI i)) = true then x else if sp_isDue P (wgIx (nI i)) = true then x else x + 1) else x
def sp_readyX (P : ka_P) (p : Int32) (i : Nat) : Int32 := itr (sp_readyAt P p) i 0
theorem sp_readyX_0 {P : ka_P} {p : Int32} : sp_readyX P p 0 = 0 := rfl
theorem sp_readyX_s {P : ka_P} {p : Int32} {i : Nat} : sp_readyX P p (i + 1) = sp_readyAt P p i (sp_readyX P p i) := rfl
def sp_readyAt_ (P : ka_P) (p : Int32) : Int32 := sp_readyX P p (cn (P 0 6))
def sp_comingAt (P : ka_P) (p : Int32) (i : Nat) (x : Int32) : Int32 :=
  if sp_goesTo P (wgIx (nI i)) p = true then (if sp_full P (wgIx (nI i)) = true then x else x + 1) else x
def sp_comingX (P : ka_P) (p : Int32) (i : Nat) : Int32 := itr (sp_comingAt P p) i 0
theorem sp_comingX_0 {P : ka_P} {p : Int32} : sp_comingX P p 0 = 0 := rfl
theorem sp_comingX_s {P : ka_P} {p : Int32} {i : Nat} : sp_comingX P p (i + 1) = sp_comingAt P p i (sp_comingX P p i) := rfl
def sp_lack0 (P : ka_P) (m : Int32) : Int32 := sp_loadsOfHeap P (plIx m) - sp_readyAt_ P m - sp_comingX P m (cn (P 0 6))
def sp_lackOf (P : ka_P) (m : Int32) : Int32 := if 0 < sp_lack0 P m then sp_lack0 P m else 0
def sp_spareOf (P : ka_P) (p : Int32) : Int32 := sp_readyAt_ P p - sp_loadsOfHeap P (plIx p)
def sp_needAt (P : ka_P)  (i : Nat) (x : Int32 × Int32) : Int32 × Int32 :=
  if x.2 < sp_lackOf P (nI (i + 1)) then (nI (i + 1), sp_lackOf P (nI (i + 1))) else x
def sp_needX (P : ka_P)  (i : Nat) : Int32 × Int32 := itr (sp_needAt P ) i (-1, 0)
theorem sp_needX_0 {P : ka_P}  : sp_needX P  0 = (-1, 0) := rfl
theorem sp_needX_s {P : ka_P}  {i : Nat} : sp_needX P  (i + 1) = sp_needAt P  i (sp_needX P  i) := rfl
def sp_neediest (P : ka_P) : Int32 := (sp_needX P (cn (P 0 5))).1
def sp_nearAt (P : ka_P) (to : Int32) (i : Nat) (x : Int32 × Int32) : Int32 × Int32 :=
  if nI i = to then x else if 0 < sp_spareOf P (nI i) then (if sp_legDays P (nI i) to < x.2 then (nI i, sp_legDays P (nI i) to) else x) else x
def sp_nearX (P : ka_P) (to : Int32) (i : Nat) : Int32 × Int32 := itr (sp_nearAt P to) i (-1, 10)
theorem sp_nearX_0 {P : ka_P} {to : Int32} : sp_nearX P to 0 = (-1, 10) := rfl
theorem sp_nearX_s {P : ka_P} {to : Int32} {i : Nat} : sp_nearX P to (i + 1) = sp_nearAt P to i (sp_nearX P to i) := rfl
def sp_nearest (P : ka_P) (to : Int32) : Int32 := (sp_nearX P to (cn (P 0 5) + 1)).1
def sp_fullAt (P : ka_P) (m : Int32) (i : Nat) (x : Int32) : Int32 :=
  if P (8 + wgIx (nI i)) 0 = m then (if sp_full P (wgIx (nI i)) = true then x + 1 else x) else x
def sp_fullX (P : ka_P) (m : Int32) (i : Nat) : Int32 := itr (sp_fullAt P m) i 0
theorem sp_fullX_0 {P : ka_P} {m : Int32} : sp_fullX P m 0 = 0 := rfl
theorem sp_fullX_s {P : ka_P} {m : Int32} {i : Nat} : sp_fullX P m (i + 1) = sp_fullAt P m i (sp_fullX P m i) := rfl
def sp_loadedOf (P : ka_P) (m : Int32) : Int32 := sp_fullX P m (cn (P 0 6))
def sp_bc1 (x : Int32) : Int32 := x - (sp_us x 1 &&& 1431655765)
def sp_bc2 (x : Int32) : Int32 := (x &&& 858993459) + (sp_us x 2 &&& 858993459)
def sp_bc3 (x : Int32) : Int32 := (x + sp_us x 4) &&& 252645135
def sp_bc4 (x : Int32) : Int32 := x + sp_us x 8
def sp_bc5 (x : Int32) : Int32 := x + sp_us x 16
def sp_bitCount (x : Int32) : Int32 := sp_bc5 (sp_bc4 (sp_bc3 (sp_bc2 (sp_bc1 x)))) &&& 63
def sp_ownedBy (P : ka_P) (m : Int32) : Int32 := sp_bitCount (sp_setOwned P m)
def sp_fm (x y : Int32) : Int32 := if ¬ (x ^^^ y) < 0 then x - x / y * y else if x - x / y * y = 0 then x - x / y * y else x - x / y * y + y
def sp_tellWagon (P : ka_P) (n what : Int32) : Int32 :=
  if sp_isWagon P n = false then -2000000001 else if kw what 0 8 = false then -2000000001
  else if what = 0 then P (8 + wgIx n) 0 else if what = 1 then P (8 + wgIx n) 1 else if what = 2 then ka_b (sp_full P (wgIx n)) else if what = 3 then P (8 + wgIx n) 2
  else if what = 4 then P (8 + wgIx n) 4 else if what = 5 then (if P (8 + wgIx n) 2 = 0 then P 0 7 - P (8 + wgIx n) 5 else -2000000004)
  else if what = 6 then (if P (8 + wgIx n) 2 = 0 then -2000000004 else if P (8 + wgIx n) 6 = -1 then -2000000004 else P (8 + wgIx n) 6 - P 0 7)
  else if what = 7 then sp_whyNot P (wgIx n) else P (8 + wgIx n) 8
def sp_tellPlace2 (P : ka_P) (n what : Int32) : Int32 :=
  if what = 0 then P (2 + plIx n) 1 else if what = 1 then P (2 + plIx n) 0 else if what = 2 then sp_setStanding P n 0 else if what = 3 then sp_setStanding P n 1
  else if what = 4 then sp_setGoing P n else if what = 5 then sp_setOwned P n else if what = 6 then P (2 + plIx n) 2 else if what = 7 then P (2 + plIx n) 3 else if what = 8 then P (2 + plIx n) 4 else P (2 + plIx n) 5
def sp_tellPlace (P : ka_P) (n what : Int32) : Int32 :=
  if sp_isPlace P n = false then -2000000001 else if kw what 0 9 = false then -2000000001
  else if n = 0 then (if what = 0 then -2000000004 else if what = 1 then -2000000004 else if what = 5 then -2000000004 else if what = 8 then -2000000004 else sp_tellPlace2 P n what)
  else sp_tellPlace2 P n what
def sp_tellNumber (P : ka_P) (what : Int32) : Int32 :=
  if kw what 20 26 = true then sp_setting P (what - 20)
  else if what = 0 then P 0 5 else if what = 1 then P 0 6 else if what = 2 then P 0 7 else if what = 3 then sp_cntStanding P 0 else if what = 4 then sp_cntStanding P 1
  else if what = 5 then sp_cntGoing P else if what = 6 then P 30 1 else if what = 7 then sp_allAcc P else if what = 8 then sp_allTonnes P else if what = 9 then P 0 8 else if what = 10 then P 0 9
  else if what = 11 then P 0 10 else if what = 12 then sp_cntDue P else -2000000001
theorem pU_n {P : ka_P} {o j o' : Nat} {v : Int32} (h : o' ≠ o) : pU P o j v o' = P o' := ka_s2_n h
theorem pU_s {P : ka_P} {o j : Nat} {v : Int32} : pU P o j v o = upd (P o) j v := ka_s2_s
theorem pU_j {P : ka_P} {o j o' j' : Nat} {v : Int32} (h : o' = o → j' ≠ j) : pU P o j v o' j' = P o' j' := by
  by_cases h1 : o' = o
  · subst h1
    rw [pU_s, pk_un (h rfl)]
  · rw [pU_n h1]
theorem pU_e {P : ka_P} {o j : Nat} {v : Int32} : pU P o j v o j = v := by rw [pU_s, pk_us]
/-- what a day leaves as it is: how many mines and wagons, the legs, the settings -/
def fx (P Q : ka_P) : Prop := Q 0 5 = P 0 5 ∧ Q 0 6 = P 0 6 ∧ Q 28 = P 28 ∧ Q 29 = P 29
theorem fx.rf {P : ka_P} : fx P P := ⟨rfl, rfl, rfl, rfl⟩
theorem fx.tr {P Q U : ka_P} (h : fx P Q) (h2 : fx Q U) : fx P U := ⟨h2.1.trans h.1, h2.2.1.trans h.2.1, h2.2.2.1.trans h.2.2.1, h2.2.2.2.trans h.2.2.2⟩
theorem fx_pU {P : ka_P} {o j : Nat} {v : Int32} (h : o = 0 → j ≠ 5 ∧ j ≠ 6) (h1 : o ≠ 28) (h2 : o ≠ 29) : fx P (pU P o j v) :=
  ⟨pU_j (fun e => (h e.symm).1.symm), pU_j (fun e => (h e.symm).2.symm), pU_n h1.symm, pU_n h2.symm⟩
theorem fx_pUw {P : ka_P} {k j : Nat} {v : Int32} (hk : k < 20) : fx P (pU P (8 + k) j v) := fx_pU (fun e => by omega) (by omega) (by omega)
theorem fx_pUp {P : ka_P} {q j : Nat} {v : Int32} (hq : q < 5) : fx P (pU P (2 + q) j v) := fx_pU (fun e => by omega) (by omega) (by omega)
theorem fx_stand {P : ka_P} {k : Nat} {x : Int32} (hk : k < 20) : fx P (sp_standFrom P k x) := (fx_pUw hk).tr (fx_pUw hk)
theorem fx_leaveFor {P : ka_P} {k : Nat} {a b c : Int32} (hk : k < 20) : fx P (sp_leaveFor P k a b c) := (((fx_pUw hk).tr (fx_pUw hk)).tr (fx_pUw hk)).tr (fx_pUw hk)
theorem fx_grow {P : ka_P} {q : Nat} (hq : q < 5) : fx P (sp_grow P q) := fx_pUp hq
theorem fx_pay {P : ka_P} {a b : Nat} {v : Int32} (ha : a < 5) (hb : b < 5) : fx P (sp_pay P a b v) := (fx_pUp ha).tr (fx_pUp hb)
theorem fx_addp {P : ka_P} {q j : Nat} {v : Int32} (hq : q < 5) : fx P (sp_add P (2 + q) j v) := fx_pUp hq
theorem fx_subp {P : ka_P} {q j : Nat} {v : Int32} (hq : q < 5) : fx P (sp_sub P (2 + q) j v) := fx_pUp hq
theorem fx_payHire {P : ka_P} {a b : Nat} {v : Int32} (ha : a < 5) (hb : b < 5) : fx P (sp_payHire P a b v) := (((fx_subp ha).tr (fx_subp ha)).tr (fx_addp hb)).tr (fx_addp hb)
theorem fx_payDem {P : ka_P} {a b : Nat} {v : Int32} (ha : a < 5) (hb : b < 5) : fx P (sp_payDem P a b v) := (((fx_subp ha).tr (fx_addp ha)).tr (fx_addp hb)).tr (fx_addp hb)
theorem fx_leave {P : ka_P} {j : Nat} : fx P (sp_leave P j) := by
  refine fx.tr (Q := ka_s2 P 31 (sp_shift (P 31) j (sp_shifts P j))) ⟨?_, ?_, ?_, ?_⟩ (fx_pU (fun e => absurd e (by decide)) (by decide) (by decide))
  · rw [ka_s2_n (by decide)]
  · rw [ka_s2_n (by decide)]
  · rw [ka_s2_n (by decide)]
  · rw [ka_s2_n (by decide)]
theorem fx_growX {P : ka_P} {i : Nat} : fx P (sp_growX P i) := itr_inv (fun _ Q => fx P Q) fx.rf (fun _ _ h => h.tr (fx_grow (plIx_lt _))) i
theorem fx_arriveAt {i : Nat} {x : ka_P × Int32} : fx x.1 (sp_arriveAt i x).1 := by
  unfold sp_arriveAt
  split
  · exact fx.rf
  · split
    · exact fx.rf
    · exact (fx_pUw (wgIx_lt _)).tr (fx_stand (wgIx_lt _))
theorem fx_arriveX {P : ka_P} {i : Nat} : fx P (sp_arriveX P i).1 := itr_inv (fun _ (Q : ka_P × Int32) => fx P Q.1) fx.rf (fun _ _ h => h.tr fx_arriveAt) i
theorem fx_endAt {P : ka_P} {j k : Nat} (hk : k < 20) : fx P (sp_endAt P j k) := by
  unfold sp_endAt
  split
  · exact ((fx_leave.tr (fx_pUw hk)).tr (fx_stand hk)).tr (fx_pU (fun _ => ⟨by decide, by decide⟩) (by decide) (by decide))
  · exact fx.rf
theorem fx_endX {P : ka_P} {i : Nat} : fx P (sp_endX P i) := itr_inv (fun _ Q => fx P Q) fx.rf (fun _ _ h => h.tr (fx_endAt (wgIx_lt _))) i
theorem fx_beginAt {P : ka_P} {k : Nat} (hk : k < 20) : fx P (sp_beginAt P k) := by
  unfold sp_beginAt
  split
  · exact fx_pUw hk
  · exact fx.rf
theorem fx_beginX {P : ka_P} {i : Nat} : fx P (sp_beginX P i) := itr_inv (fun _ Q => fx P Q) fx.rf (fun _ _ h => h.tr (fx_beginAt (wgIx_lt _))) i
theorem fx_payAt {P : ka_P} {i : Nat} {a b c : Int32} : fx P (sp_payAt a b c i P) := by
  unfold sp_payAt
  have h1 : fx P (if sp_isHired P (wgIx (nI i)) = true then sp_payHire P (plIx (P (8 + wgIx (nI i)) 1)) (plIx (P (8 + wgIx (nI i)) 0)) a else P) := by
    split
    · exact fx_payHire (plIx_lt _) (plIx_lt _)
    · exact fx.rf
  refine h1.tr ?_
  generalize (if sp_isHired P (wgIx (nI i)) = true then sp_payHire P (plIx (P (8 + wgIx (nI i)) 1)) (plIx (P (8 + wgIx (nI i)) 0)) a else P) = Q
  show fx Q (if sp_isLoadedAtPort Q (wgIx (nI i)) = true then _ else _)
  split
  · split
    · exact fx_payDem (plIx_lt _) (plIx_lt _)
    · exact fx.rf
  · exact fx.rf
theorem fx_payX {P : ka_P} {i : Nat} : fx P (sp_payX P i) := itr_inv (fun _ Q => fx P Q) fx.rf (fun _ _ h => h.tr fx_payAt) i
theorem fx_growAll {P : ka_P} : fx P (sp_growAll P) := by unfold sp_growAll; exact fx_growX
theorem fx_arrive {P : ka_P} : fx P (sp_arrive P).1 := by unfold sp_arrive; exact fx_arriveX
theorem fx_ends {P : ka_P} : fx P (sp_ends P) := by unfold sp_ends; exact fx_endX
theorem fx_begins {P : ka_P} : fx P (sp_begins P) := by unfold sp_begins; exact fx_beginX
theorem fx_payDay {P : ka_P} : fx P (sp_payDay P) := by unfold sp_payDay; exact fx_payX
theorem fx_next {P : ka_P} : fx P (sp_add P 0 7 1) := fx_pU (fun _ => ⟨by decide, by decide⟩) (by decide) (by decide)
theorem fx_day1 {P : ka_P} : fx P (sp_day1 P).1 := by
  unfold sp_day1
  have h : fx P (sp_growAll (sp_add P 0 7 1)) := fx_next.tr fx_growAll
  generalize sp_growAll (sp_add P 0 7 1) = Q at h ⊢
  exact h.tr fx_arrive
theorem fx_day2 {P : ka_P} : fx P (sp_day2 P) := by
  unfold sp_day2
  have h : fx P (sp_day1 P).1 := fx_day1
  generalize (sp_day1 P).1 = Q at h ⊢
  exact (h.tr fx_ends).tr fx_begins
theorem fx_day {P : ka_P} : fx P (sp_dayP P) := by
  unfold sp_dayP
  have h : fx P (sp_day2 P) := fx_day2
  generalize sp_day2 P = Q at h ⊢
  exact h.tr fx_payDay
theorem fx_days {P : ka_P} : ∀ {i : Nat}, fx P (sp_days P i).1
  | 0 => fx.rf
  | i + 1 => by
    rw [sp_days_s]
    have h : fx P (sp_days P i).1 := fx_days
    generalize (sp_days P i).1 = Q at h ⊢
    have h2 : fx P (sp_dayP Q) := h.tr fx_day
    generalize sp_dayP Q = U at h2 ⊢
    exact h2
theorem fx_trainAt {frm to kind many leg : Int32} {i : Nat} {x : ka_P × Int32 × Int32 × Bool} : fx x.1 (sp_trainAt frm to kind many leg i x).1 := by
  unfold sp_trainAt
  split
  · exact fx.rf
  · split
    · split
      · exact fx_leaveFor (wgIx_lt _)
      · exact fx.rf
    · exact fx.rf
theorem fx_trainX {P : ka_P} {frm to kind many : Int32} {i : Nat} : fx P (sp_trainX P frm to kind many i).1 := itr_inv (fun _ (Q : ka_P × Int32 × Int32 × Bool) => fx P Q.1) fx.rf (fun _ _ h => h.tr fx_trainAt) i
theorem sp_trainX_stop {P : ka_P} {frm to kind many : Int32} {i n : Nat} (h : ¬ (sp_trainX P frm to kind many i).2.2.1 < many) (hi : i ≤ n) : sp_trainX P frm to kind many i = sp_trainX P frm to kind many n :=
  (itr_stop (fun x => ¬ x.2.2.1 < many) (fun i x hx => by unfold sp_trainAt; rw [if_pos hx]) h n hi).symm
/-- the shop's size stays as it is -/
def fz (P Q : ka_P) : Prop := Q 30 1 = P 30 1
theorem fz_pU {P : ka_P} {o j : Nat} {v : Int32} (h : o ≠ 30) : fz P (pU P o j v) := pU_j (fun e => absurd e.symm h)
theorem fz_w {P : ka_P} {k j : Nat} {v : Int32} (hk : k < 20) : fz P (pU P (8 + k) j v) := fz_pU (by omega)
theorem fz_p {P : ka_P} {q j : Nat} {v : Int32} (hq : q < 5) : fz P (pU P (2 + q) j v) := fz_pU (by omega)
theorem fz.rf {P : ka_P} : fz P P := rfl
theorem fz.tr {P Q U : ka_P} (h : fz P Q) (h2 : fz Q U) : fz P U := Eq.trans h2 h
theorem fz_growX {P : ka_P} {i : Nat} : fz P (sp_growX P i) := itr_inv (fun _ Q => fz P Q) fz.rf (fun _ _ h => h.tr (fz_p (plIx_lt _))) i
theorem fz_arriveX {P : ka_P} {i : Nat} : fz P (sp_arriveX P i).1 := by
  refine itr_inv (fun _ (Q : ka_P × Int32) => fz P Q.1) fz.rf (fun i x h => h.tr ?_) i
  unfold sp_arriveAt
  split
  · exact fz.rf
  · split
    · exact fz.rf
    · exact ((fz_w (wgIx_lt _)).tr (fz_w (wgIx_lt _))).tr (fz_w (wgIx_lt _))
theorem fz_beginAt {P : ka_P} {k : Nat} (hk : k < 20) : fz P (sp_beginAt P k) := by
  unfold sp_beginAt
  split
  · exact fz_w hk
  · exact fz.rf
theorem fz_beginX {P : ka_P} {i : Nat} : fz P (sp_beginX P i) := itr_inv (fun _ Q => fz P Q) fz.rf (fun _ _ h => h.tr (fz_beginAt (wgIx_lt _))) i
theorem fz_payX {P : ka_P} {i : Nat} : fz P (sp_payX P i) := by
  refine itr_inv (fun _ Q => fz P Q) fz.rf (fun i x h => h.tr ?_) i
  have hp : ∀ {P : ka_P} {q j : Nat} {v : Int32}, q < 5 → fz P (sp_add P (2 + q) j v) := fun hq => fz_p hq
  have hs : ∀ {P : ka_P} {q j : Nat} {v : Int32}, q < 5 → fz P (sp_sub P (2 + q) j v) := fun hq => fz_p hq
  unfold sp_payAt
  refine fz.tr (Q := if sp_isHired x (wgIx (nI i)) = true then sp_payHire x (plIx (x (8 + wgIx (nI i)) 1)) (plIx (x (8 + wgIx (nI i)) 0)) (sp_setting P 2) else x) ?_ ?_
  · split
    · exact (((hs (plIx_lt _)).tr (hs (plIx_lt _))).tr (hp (plIx_lt _))).tr (hp (plIx_lt _))
    · exact fz.rf
  · generalize (if sp_isHired x (wgIx (nI i)) = true then sp_payHire x (plIx (x (8 + wgIx (nI i)) 1)) (plIx (x (8 + wgIx (nI i)) 0)) (sp_setting P 2) else x) = Q
    show fz Q (if sp_isLoadedAtPort Q (wgIx (nI i)) = true then _ else _)
    split
    · split
      · exact (((hs (plIx_lt _)).tr (hp (plIx_lt _))).tr (hp (plIx_lt _))).tr (hp (plIx_lt _))
      · exact fz.rf
    · exact fz.rf
