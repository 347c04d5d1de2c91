/-! the reference: what is saved and taken back, what is asked -/
def cpF (n : Nat) (f g : ka_F) : ka_F := fun k => if k < n then f k else g k
theorem cpF_0 {f g : ka_F} : cpF 0 f g = g := by
  funext k
  unfold cpF
  rw [if_neg (Nat.not_lt_zero _)]
theorem cpF_s {n : Nat} {f g : ka_F} : upd (cpF n f g) n (f n) = cpF (n + 1) f g := by
  funext k
  by_cases h : k = n
  · subst h
    rw [pk_us]
    unfold cpF
    rw [if_pos (by omega)]
  · rw [pk_un h]
    unfold cpF
    by_cases h2 : k < n
    · rw [if_pos h2, if_pos (by omega)]
    · rw [if_neg h2, if_neg (by omega)]
theorem cpF_lt {n k : Nat} {f g : ka_F} (h : k < n) : cpF n f g k = f k := by
  unfold cpF
  rw [if_pos h]
theorem cpF_cp {n : Nat} {f g h : ka_F} : cpF n (cpF n f g) h = cpF n f h := by
  funext k
  unfold cpF
  by_cases h2 : k < n
  · rw [if_pos h2, if_pos h2, if_pos h2]
  · rw [if_neg h2, if_neg h2]
theorem cpF_self {n : Nat} {f : ka_F} : cpF n f f = f := by
  funext k
  unfold cpF
  split <;> rfl
def shF (n : Nat) (f : ka_F) : ka_F := fun k => if k < n then f (k + 269) else f k
theorem shF_0 {f : ka_F} : shF 0 f = f := by
  funext k
  unfold shF
  rw [if_neg (Nat.not_lt_zero _)]
theorem shF_s {n : Nat} {f : ka_F} : upd (shF n f) n (shF n f (n + 269)) = shF (n + 1) f := by
  funext k
  by_cases h : k = n
  · subst h
    rw [pk_us]
    unfold shF
    rw [if_neg (show ¬ k + 269 < k by omega), if_pos (show k < k + 1 by omega)]
  · rw [pk_un h]
    unfold shF
    by_cases h2 : k < n
    · rw [if_pos h2, if_pos (by omega)]
    · rw [if_neg h2, if_neg (by omega)]
def puF (t n : Nat) (b f : ka_F) : ka_F := fun k => if 269 * t ≤ k ∧ k < 269 * t + n then b (k - 269 * t) else f k
theorem puF_0 {t : Nat} {b f : ka_F} : puF t 0 b f = f := by
  funext k
  unfold puF
  rw [if_neg (by omega)]
theorem puF_s {t n : Nat} {b f : ka_F} : upd (puF t n b f) (269 * t + n) (b n) = puF t (n + 1) b f := by
  funext k
  by_cases h : k = 269 * t + n
  · subst h
    rw [pk_us]
    unfold puF
    rw [if_pos (by omega), show 269 * t + n - 269 * t = n by omega]
  · rw [pk_un h]
    unfold puF
    by_cases h2 : 269 * t ≤ k ∧ k < 269 * t + n
    · rw [if_pos h2, if_pos (by omega)]
    · rw [if_neg h2, if_neg (by omega)]
theorem ix_b {x y : Int32} (t k : Nat) (hx : x = nI t) (hy : y = nI k) : 269 * x + y = nI (269 * t + k) := by
  subst hx; subst hy
  show nI 269 * nI t + nI k = _
  rw [nI_mul, nI_add]
def rf_beg (M : ka_P) (S : ka_F) : ka_P := ka_s2 M 2 (cpF 269 S (M 2))
theorem rf_beg_2 {M : ka_P} {S : ka_F} : rf_beg M S 2 = cpF 269 S (M 2) := ka_s2_s
theorem rf_beg_n {M : ka_P} {S : ka_F} {o : Nat} (h : o ≠ 2) : rf_beg M S o = M o := ka_s2_n h
def rf_sv1 (M : ka_P) : ka_P := if M 0 4 = 4 then pU (ka_s2 M 4 (shF 807 (M 4))) 0 4 (M 0 4 - 1) else M
def rf_sv2 (M : ka_P) (i : Nat) : ka_P := ka_s2 M 4 (puF (cn (M 0 4)) i (M 2) (M 4))
def rf_sv3 (M : ka_P) : ka_P := sp_add M 0 4 1
def rf_save (M : ka_P) : ka_P := rf_sv3 (rf_sv2 (rf_sv1 M) 269)
theorem rf_sv1_t {M : ka_P} (h : ub 4 (M 0 4)) : ub 3 (rf_sv1 M 0 4) := by
  unfold rf_sv1
  split
  · next c =>
    rw [pU_e, c]
    exact ub_nI (n := 3) (m := 3) (by decide) (by decide)
  · next c =>
    refine ⟨h.1, ?_⟩
    have h1 := h.2
    rcases Nat.lt_or_ge (cn (M 0 4)) 4 with h2 | h2
    · omega
    · exact absurd (h.1.trans (by rw [show cn (M 0 4) = 4 by omega]; rfl)) c
theorem rf_sv2_0 {M : ka_P} : rf_sv2 M 0 = M := by
  unfold rf_sv2
  rw [puF_0, ka_s2_self]
theorem rf_sv2_s {M : ka_P} {i : Nat} : pU (rf_sv2 M i) 4 (269 * cn (M 0 4) + i) (M 2 i) = rf_sv2 M (i + 1) := by
  unfold rf_sv2 pU
  rw [ka_s2_s, ka_s2_s2, puF_s]
theorem rf_sv2_n {M : ka_P} {i o : Nat} (h : o ≠ 4) : rf_sv2 M i o = M o := ka_s2_n h
def rf_actM (M : ka_P) (a : Int32) : ka_P := if -2000000001 < a then rf_save M else M
def rf_actS (M : ka_P) (S : ka_F) (a : Int32) : ka_F := if -2000000001 < a then S else cpF 269 (M 2) S
/-- after begins, r, acted -/
def rf_fin (V : ka_W) (M : ka_P) (S : ka_F) (r : Int32 × ka_F) : ka_W := ka_ms V (rf_actM (rf_beg M S) r.1) (rf_actS (rf_beg M S) r.2 r.1)
theorem rf_fin_err {V : ka_W} {M : ka_P} {S : ka_F} {e : Int32} (h : ¬ -2000000001 < e) : ka_ms V (rf_beg M S) S = rf_fin V M S (e, S) := by
  unfold rf_fin rf_actM rf_actS
  rw [if_neg h, if_neg h, rf_beg_2, cpF_cp, cpF_self]
def rf_mine1 (S : ka_F) (x : Int32) : ka_F := qU (sA S 0 1) (cn (S 0) + 1) 1 x
def rf_mine (S : ka_F) (x : Int32) : Int32 × ka_F := if kw x 0 90 = false then (-2000000001, S) else if S 0 = 4 then (-2000000003, S) else (rf_mine1 S x 0, rf_mine1 S x)
def rf_legs1 (S : ka_F) (a b : Nat) (v : Int32) : ka_F := upd (upd S (14 + 5 * a + b) v) (14 + 5 * b + a) v
def rf_legs (S : ka_F) (x y v : Int32) : Int32 × ka_F := if rf_isPlace S x = false then (-2000000001, S) else if rf_isPlace S y = false then (-2000000001, S) else if x = y then (-2000000001, S) else if kw v 1 9 = false then (-2000000001, S)
  else (S (14 + 5 * cn x + cn y), rf_legs1 S (cn x) (cn y) v)
def rf_isSet (a v : Int32) : Bool := if a = 0 then kw v 0 30 else if a = 3 then kw v 1 99 else if a = 6 then kw v 1 30 else kw a 0 6 && kw v 0 99
def rf_set (S : ka_F) (a v : Int32) : Int32 × ka_F := if rf_isSet a v = false then (-2000000001, S) else (S (7 + cn a), upd S (7 + cn a) v)
theorem kw_nat {x : Int32} {n : Nat} (hn : n < 2 ^ 31) (h : kw x 0 (nI n) = true) : ∃ k, k ≤ n ∧ x = nI k := by
  have h1 := kw_t h
  obtain ⟨k, hk, rfl⟩ := nI_of h1.1
  have h3 := nlt_int h1.2
  rw [nI_toInt hk, nI_toInt hn] at h3
  exact ⟨k, by omega, rfl⟩
theorem rf_isSet_of {a v : Int32} (h : rf_isSet a v = true) : ∃ k, k < 7 ∧ a = nI k := by
  unfold rf_isSet at h
  split at h
  · next e => exact ⟨0, by decide, e⟩
  · split at h
    · next e => exact ⟨3, by decide, e⟩
    · split at h
      · next e => exact ⟨6, by decide, e⟩
      · rw [Bool.and_eq_true] at h
        obtain ⟨k, hk, e⟩ := kw_nat (n := 6) (by decide) h.1
        exact ⟨k, by omega, e⟩
theorem ix_s {x : Int32} (k : Nat) (hx : x = nI k) : 7 + x = nI (7 + k) := by
  subst hx
  show nI 7 + nI k = _
  rw [nI_add]
theorem nI_sub {a b : Nat} (h : b ≤ a) : nI a - nI b = nI (a - b) := by
  obtain ⟨c, rfl⟩ : ∃ c, a = b + c := ⟨a - b, by omega⟩
  rw [show b + c - b = c by omega, ← nI_add]
  rw [Int32.add_comm, Int32.add_sub_cancel]
def rf_daysOf (S : ka_F) (w : Nat) : Int32 := if wg S w 3 = 0 then -2000000004 else if wg S w 6 < 0 then -2000000004 else wg S w 6 - S 2
def rf_wagonOf (S : ka_F) (x y : Int32) : Int32 :=
  if rf_isWagon S x = false then -2000000001 else if kw y 0 8 = false then -2000000001
  else if y = 5 then (if wg S (cn x) 3 = 0 then wg S (cn x) 5 else -2000000004) else if y = 6 then rf_daysOf S (cn x) else if y = 7 then rf_whyNot S (cn x) else if y = 8 then wg S (cn x) 7 else wg S (cn x) (cn y)
def rf_bit (i : Nat) : Int32 := 1 <<< (nI i &&& 31)
def rf_standAt (S : ka_F) (p l : Int32) (i : Nat) (x : Int32) : Int32 := if rf_stands S i p = true then (if wg S i 2 = l then x ||| (1 <<< (nI i &&& 31)) else x ||| 0) else x ||| 0
def rf_standX (S : ka_F) (p l : Int32) (i : Nat) : Int32 := itr (rf_standAt S p l) i 0
theorem rf_standX_0 {S : ka_F} {p l : Int32} : rf_standX S p l 0 = 0 := rfl
theorem rf_standX_s {S : ka_F} {p l : Int32} {i : Nat} : rf_standX S p l (i + 1) = rf_standAt S p l i (rf_standX S p l i) := rfl
def rf_goAt (S : ka_F) (p : Int32) (i : Nat) (x : Int32) : Int32 := if wg S i 3 = 1 then (if wg S i 1 = p then x ||| (1 <<< (nI i &&& 31)) else x ||| 0) else x ||| 0
def rf_goX (S : ka_F) (p : Int32) (i : Nat) : Int32 := itr (rf_goAt S p) i 0
theorem rf_goX_0 {S : ka_F} {p : Int32} : rf_goX S p 0 = 0 := rfl
theorem rf_goX_s {S : ka_F} {p : Int32} {i : Nat} : rf_goX S p (i + 1) = rf_goAt S p i (rf_goX S p i) := rfl
def rf_ownAt (S : ka_F) (p : Int32) (i : Nat) (x : Int32) : Int32 := if wg S i 0 = p then x ||| (1 <<< (nI i &&& 31)) else x ||| 0
def rf_ownX (S : ka_F) (p : Int32) (i : Nat) : Int32 := itr (rf_ownAt S p) i 0
theorem rf_ownX_0 {S : ka_F} {p : Int32} : rf_ownX S p 0 = 0 := rfl
theorem rf_ownX_s {S : ka_F} {p : Int32} {i : Nat} : rf_ownX S p (i + 1) = rf_ownAt S p i (rf_ownX S p i) := rfl
def rf_placeOf2 (S : ka_F) (x y : Int32) : Int32 :=
  if y = 0 then pg S (cn x) (cn y) else if y = 1 then pg S (cn x) (cn y) else if y = 2 then rf_standX S x (y - 2) (cn (S 1)) else if y = 3 then rf_standX S x (y - 2) (cn (S 1))
  else if y = 4 then rf_goX S x (cn (S 1)) else if y = 5 then rf_ownX S x (cn (S 1)) else pg S (cn x) (cn (y - 4))
def rf_placeOf (S : ka_F) (x y : Int32) : Int32 :=
  if rf_isPlace S x = false then -2000000001 else if kw y 0 9 = false then -2000000001
  else if x = 0 then (if y < 2 then -2000000004 else if y = 5 then -2000000004 else if y = 8 then -2000000004 else rf_placeOf2 S x y) else rf_placeOf2 S x y
def rf_daysT (S : ka_F) (x y : Int32) : Int32 := if rf_isPlace S x = false then -2000000001 else if rf_isPlace S y = false then -2000000001 else if x = y then -2000000001 else S (14 + 5 * cn x + cn y)
def rf_would (S : ka_F) (x y : Int32) : Int32 := pg (rf_days S (cn y)).1 (cn x) 2
def rf_wouldV (S : ka_F) (x y : Int32) : Int32 := if rf_isPlace S x = false then -2000000001 else if kw y 0 99 = false then -2000000001 else rf_would S x y
def rf_aside (M : ka_P) (S : ka_F) (i : Nat) : ka_P := ka_s2 M 3 (cpF i S (M 3))
theorem rf_aside_0 {M : ka_P} {S : ka_F} : rf_aside M S 0 = M := by unfold rf_aside; rw [cpF_0, ka_s2_self]
theorem rf_aside_s {M : ka_P} {S : ka_F} {i : Nat} : pU (rf_aside M S i) 3 i (S i) = rf_aside M S (i + 1) := by
  unfold rf_aside pU
  rw [ka_s2_s, ka_s2_s2, cpF_s]
def rf_wouldW (V : ka_W) (M : ka_P) (S : ka_F) (x y : Int32) : ka_W := if rf_isPlace S x = false then ka_ms V M S else if kw y 0 99 = false then ka_ms V M S else ka_ms V (rf_aside M S 269) (cpF 269 S (rf_days S (cn y)).1)
def rf_readyAt (S : ka_F) (p : Int32) (i : Nat) (x : Int32) : Int32 := if rf_stands S i p = true then (if wg S i 2 = 0 then (if rf_isDue S i = true then x + 0 else x + 1) else x + 0) else x + 0
def rf_readyX (S : ka_F) (p : Int32) (i : Nat) : Int32 := itr (rf_readyAt S p) i 0
theorem rf_readyX_0 {S : ka_F} {p : Int32} : rf_readyX S p 0 = 0 := rfl
theorem rf_readyX_s {S : ka_F} {p : Int32} {i : Nat} : rf_readyX S p (i + 1) = rf_readyAt S p i (rf_readyX S p i) := rfl
def rf_ready (S : ka_F) (p : Int32) : Int32 := rf_readyX S p (cn (S 1))
def rf_lackAt (S : ka_F) (p : Int32) (i : Nat) (x : Int32) : Int32 := if wg S i 3 = 1 then (if wg S i 1 = p then (if wg S i 2 = 0 then x - 1 else x - 0) else x - 0) else x - 0
def rf_lackX (S : ka_F) (p : Nat) (i : Nat) : Int32 := itr (rf_lackAt S (nI p)) i (pg S p 0 / 30 - rf_ready S (nI p))
theorem rf_lackX_0 {S : ka_F} {p : Nat} : rf_lackX S p 0 = pg S p 0 / 30 - rf_ready S (nI p) := rfl
theorem rf_lackX_s {S : ka_F} {p i : Nat} : rf_lackX S p (i + 1) = rf_lackAt S (nI p) i (rf_lackX S p i) := rfl
def rf_lack (S : ka_F) (p : Nat) : Int32 := if rf_lackX S p (cn (S 1)) < 0 then 0 else rf_lackX S p (cn (S 1))
def rf_spare (S : ka_F) (p : Nat) : Int32 := if nI p = 0 then rf_ready S (nI p) - 0 else rf_ready S (nI p) - pg S p 0 / 30
def rf_lacks (S : ka_F) (x : Int32) : Int32 := if rf_isMine S x = false then -2000000001 else rf_lack S (cn x)
def rf_needAt (S : ka_F) (i : Nat) (x : Int32) : Int32 := if x < 0 then (if 0 < rf_lack S (i + 1) then nI (i + 1) else x) else if rf_lack S (cn x) < rf_lack S (i + 1) then nI (i + 1) else x
def rf_needX (S : ka_F) (i : Nat) : Int32 := itr (rf_needAt S) i (-1)
theorem rf_needX_0 {S : ka_F} : rf_needX S 0 = -1 := rfl
theorem rf_needX_s {S : ka_F} {i : Nat} : rf_needX S (i + 1) = rf_needAt S i (rf_needX S i) := rfl
def rf_need (S : ka_F) : Int32 := rf_needX S (cn (S 0))
def rf_pl (i : Nat) (x : Int32) : Prop := x = -1 ∨ (x = nI (cn x) ∧ cn x ≤ i)
theorem rf_pl_lt {i : Nat} {x : Int32} (hi : i ≤ 4) (h : rf_pl i x) (h0 : ¬ x < 0) : x = nI (cn x) ∧ cn x < 5 := by
  rcases h with h1 | h1
  · rw [h1] at h0
    exact absurd (by decide) h0
  · exact ⟨h1.1, by have := h1.2; omega⟩
theorem rf_pl_up {i j : Nat} {x : Int32} (hi : i ≤ j) (h : rf_pl i x) : rf_pl j x := by
  rcases h with h1 | h1
  · exact Or.inl h1
  · exact Or.inr ⟨h1.1, by have := h1.2; omega⟩
theorem rf_pl_new {i j : Nat} (hi : j ≤ i) (h : i < 2 ^ 31) : rf_pl i (nI j) := Or.inr ⟨by rw [cn_nI (by omega)], by rw [cn_nI (by omega)]; exact hi⟩
theorem rf_needX_pl {S : ka_F} : ∀ i, i ≤ 4 → rf_pl i (rf_needX S i)
  | 0, _ => Or.inl rfl
  | i + 1, h => by
    rw [rf_needX_s]
    have ih := rf_pl_up (Nat.le_succ i) (rf_needX_pl (S := S) i (by omega))
    have new : rf_pl (i + 1) (nI (i + 1)) := rf_pl_new (Nat.le_refl _) (by omega)
    unfold rf_needAt
    generalize rf_needX S i = x at ih ⊢
    split
    · split
      · exact new
      · exact ih
    · split
      · exact new
      · exact ih
def rf_nearAt (S : ka_F) (to : Nat) (i : Nat) (x : Int32) : Int32 :=
  if nI i = nI to then x else if 0 < rf_spare S i then (if x < 0 then nI i else if S (14 + 5 * i + to) < S (14 + 5 * cn x + to) then nI i else x) else x
def rf_nearX (S : ka_F) (to : Nat) (i : Nat) : Int32 := itr (rf_nearAt S to) i (-1)
theorem rf_nearX_0 {S : ka_F} {to : Nat} : rf_nearX S to 0 = -1 := rfl
theorem rf_nearX_s {S : ka_F} {to i : Nat} : rf_nearX S to (i + 1) = rf_nearAt S to i (rf_nearX S to i) := rfl
theorem rf_nearX_pl {S : ka_F} {to : Nat} : ∀ i, i ≤ 5 → rf_pl (i - 1) (rf_nearX S to i)
  | 0, _ => Or.inl rfl
  | i + 1, h => by
    rw [rf_nearX_s]
    have ih := rf_pl_up (i := i - 1) (j := i) (by omega) (rf_nearX_pl (S := S) (to := to) i (by omega))
    have new : rf_pl i (nI i) := rf_pl_new (Nat.le_refl _) (by omega)
    show rf_pl i _
    unfold rf_nearAt
    generalize rf_nearX S to i = x at ih ⊢
    split
    · exact ih
    · split
      · split
        · exact new
        · split
          · exact new
          · exact ih
      · exact ih
def rf_near (S : ka_F) (to : Nat) : Int32 := rf_nearX S to (cn (S 0) + 1)
def rf_many (S : ka_F) (to frm : Nat) : Int32 := if rf_lack S to < rf_spare S frm then rf_lack S to else rf_spare S frm
def rf_best2 (S : ka_F) (a : Int32) (to : Nat) (frm : Int32) : Int32 := if frm < 0 then -2000000004 else if a = 0 then frm else if a = 1 then nI to else if 8 < rf_many S to (cn frm) then 8 else rf_many S to (cn frm)
def rf_best (S : ka_F) (a : Int32) : Int32 := if kw a 0 2 = false then -2000000001 else if rf_need S < 0 then -2000000004 else rf_best2 S a (cn (rf_need S)) (rf_near S (cn (rf_need S)))
def rf_its (S : ka_F) (i : Nat) : Int32 := if wg S i 3 = 0 then wg S i 2 else 1 + wg S i 3
def rf_wagsAt (S : ka_F) (a : Int32) (i : Nat) (x : Int32) : Int32 := if rf_its S i = a then x + 1 else x + 0
def rf_wagsX (S : ka_F) (a : Int32) (i : Nat) : Int32 := itr (rf_wagsAt S a) i 0
theorem rf_wagsX_0 {S : ka_F} {a : Int32} : rf_wagsX S a 0 = 0 := rfl
theorem rf_wagsX_s {S : ka_F} {a : Int32} {i : Nat} : rf_wagsX S a (i + 1) = rf_wagsAt S a i (rf_wagsX S a i) := rfl
def rf_sumX (S : ka_F) (k : Nat) (i : Nat) : Int32 := itr (fun i x => x + pg S i k) i 0
theorem rf_sumX_0 {S : ka_F} {k : Nat} : rf_sumX S k 0 = 0 := rfl
theorem rf_sumX_s {S : ka_F} {k i : Nat} : rf_sumX S k (i + 1) = rf_sumX S k i + pg S i k := rfl
def rf_sum (S : ka_F) (k : Nat) : Int32 := rf_sumX S k (cn (S 0) + 1)
def rf_dueX (S : ka_F) (i : Nat) : Int32 := itr (fun i x => if rf_isDue S i = true then x + 1 else x + 0) i 0
theorem rf_dueX_0 {S : ka_F} : rf_dueX S 0 = 0 := rfl
theorem rf_dueX_s {S : ka_F} {i : Nat} : rf_dueX S (i + 1) = if rf_isDue S i = true then rf_dueX S i + 1 else rf_dueX S i + 0 := rfl
def rf_tonX (S : ka_F) (i : Nat) : Int32 := itr (fun i x => x + 30 * wg S i 2) i (rf_sum S 0)
theorem rf_tonX_0 {S : ka_F} : rf_tonX S 0 = rf_sum S 0 := rfl
theorem rf_tonX_s {S : ka_F} {i : Nat} : rf_tonX S (i + 1) = rf_tonX S i + 30 * wg S i 2 := rfl
def rf_count (M : ka_P) (S : ka_F) (a : Int32) : Int32 :=
  if a = 0 then S (cn a) else if a = 1 then S (cn a) else if a = 2 then S (cn a)
  else if a = 3 then rf_wagsX S (a - 3) (cn (S 1)) else if a = 4 then rf_wagsX S (a - 3) (cn (S 1)) else if a = 5 then rf_wagsX S (a - 3) (cn (S 1)) else if a = 6 then rf_wagsX S (a - 3) (cn (S 1))
  else if a = 7 then rf_sum S 2 else if a = 8 then rf_tonX S (cn (S 1)) else if a = 9 then S (cn (3 + a - 9)) else if a = 10 then S (cn (3 + a - 9)) else if a = 11 then S (cn (3 + a - 9)) else if a = 12 then rf_dueX S (cn (S 1)) else if a = 13 then M 0 4 else if a = 14 then M 0 6
  else if kw a 20 26 = true then S (cn (7 + a - 20)) else -2000000001
def rf_back (M : ka_P) (S : ka_F) (i : Nat) : ka_F := cpF i (fun k => M 4 (269 * cn (M 0 4) + k)) S
def rf_less (M : ka_P) : ka_P := pU M 0 4 (M 0 4 - 1)
def rf_undo (V : ka_W) (M : ka_P) (S : ka_F) : Int32 × ka_W := if M 0 4 = 0 then (-2000000002, ka_ms V M S) else (rf_less M 0 4, ka_ms V (rf_less M) (rf_back (rf_less M) S 269))
theorem rf_less_t {M : ka_P} (h : ub 4 (M 0 4)) (c : ¬ M 0 4 = 0) : ub 3 (rf_less M 0 4) := by
  unfold rf_less
  rw [pU_e]
  have h1 := h.2
  rw [h.1]
  rcases Nat.eq_zero_or_pos (cn (M 0 4)) with h2 | h2
  · exact absurd (h.1.trans (by rw [h2]; rfl)) c
  · rw [show cn (M 0 4) = (cn (M 0 4) - 1) + 1 by omega, nI_pred]
    exact ub_nI (by omega) (by omega)
theorem MK.cp {D : Nat} {S T : ka_F} (hM : MK D S) : MK D (cpF 269 S T) := by
  obtain ⟨h0, h1, h2, h3, h4⟩ := hM
  refine ⟨?_, ?_, ?_, ?_, fun w hw => ?_⟩
  · rw [cpF_lt (by decide)]; exact h0
  · rw [cpF_lt (by decide)]; exact h1
  · rw [cpF_lt (by decide)]; exact h2
  · rw [cpF_lt (by decide)]; exact h3
  · unfold wg
    rw [cpF_lt (by omega), cpF_lt (by omega)]
    exact h4 w hw
theorem rf_lt4 {D : Nat} {S : ka_F} (hM : MK D S) (c : ¬ S 0 = 4) : cn (S 0) ≤ 3 := by
  have h1 := hM.1.1
  have h2 := hM.1.2
  rcases Nat.lt_or_ge (cn (S 0)) 4 with h3 | h3
  · omega
  · exact absurd (h1.trans (by rw [show cn (S 0) = 4 by omega]; rfl)) c
theorem rf_asd {M : ka_P} {S : ka_F} {i : Nat} (hi : i < 269) : rf_aside M S 269 3 i = S i := by
  unfold rf_aside
  rw [ka_s2_s, cpF_lt hi]
theorem rf_yc {y : Int32} {j : Nat} (ey : y = nI j) (hj : j ≤ 9) : y = nI (cn y) := by
  rw [ey, cn_nI (by omega)]
theorem rf_y01 {y : Int32} {j : Nat} (_ : y = nI j) (h : y = 0 ∨ y = 1) : cn y < 6 := by
  rcases h with h | h
  · rw [h]; decide
  · rw [h]; decide
theorem rf_y69 {y : Int32} {j : Nat} (ey : y = nI j) (hj : j ≤ 9) (h0 : ¬ y = 0) (h1 : ¬ y = 1) (h2 : ¬ y = 2) (h3 : ¬ y = 3) (h4 : ¬ y = 4) (h5 : ¬ y = 5) : cn (y - 4) < 6 ∧ y - 4 = nI (cn (y - 4)) := by
  subst ey
  have ne : ∀ k : Nat, ¬ nI j = nI k → j ≠ k := fun k h e => h (by rw [e])
  have a0 := ne 0 h0
  have a1 := ne 1 h1
  have a2 := ne 2 h2
  have a3 := ne 3 h3
  have a4 := ne 4 h4
  have a5 := ne 5 h5
  have e : nI j - 4 = nI (j - 4) := nI_sub (a := j) (b := 4) (by omega)
  rw [e, cn_nI (by omega)]
  exact ⟨by omega, rfl⟩
