/-! counting bits; the share on both sides -/
def pcN : Nat → Nat → Nat
  | 0, _ => 0
  | k + 1, m => m % 2 + pcN k (m / 2)
theorem pcN_s {k m : Nat} : pcN (k + 1) m = m % 2 + pcN k (m / 2) := rfl
theorem pcN_z : ∀ k, pcN k 0 = 0
  | 0 => rfl
  | k + 1 => by
    have h := pcN_z k
    rw [pcN_s, Nat.zero_div, h]
theorem pcN_bit : ∀ k i m, i < k → m < 2 ^ i → pcN k (2 ^ i + m) = pcN k m + 1
  | 0, i, m, h, _ => absurd h (Nat.not_lt_zero _)
  | k + 1, 0, m, _, hm => by
    obtain rfl : m = 0 := by
      rw [Nat.pow_zero] at hm
      omega
    have h := pcN_z k
    show 1 + pcN k 0 = 0 + pcN k 0 + 1
    rw [h]
  | k + 1, i + 1, m, h, hm => by
    have hp : 2 ^ (i + 1) = 2 * 2 ^ i := by rw [Nat.pow_succ, Nat.mul_comm]
    rw [hp] at hm ⊢
    have e1 : (2 * 2 ^ i + m) % 2 = m % 2 := by omega
    have e2 : (2 * 2 ^ i + m) / 2 = 2 ^ i + m / 2 := by omega
    have h3 := pcN_bit k i (m / 2) (by omega) (by omega)
    rw [pcN_s, pcN_s, e1, e2, h3, Nat.add_assoc]
theorem pcN_app : ∀ k j a y, a < 2 ^ k → pcN (k + j) (2 ^ k * y + a) = pcN k a + pcN j y
  | 0, j, a, y, h => by
    obtain rfl : a = 0 := by
      rw [Nat.pow_zero] at h
      omega
    rw [Nat.zero_add, Nat.pow_zero, Nat.one_mul, Nat.add_zero]
    show _ = 0 + _
    rw [Nat.zero_add]
  | k + 1, j, a, y, h => by
    have hp : 2 ^ (k + 1) = 2 * 2 ^ k := by rw [Nat.pow_succ, Nat.mul_comm]
    rw [hp] at h ⊢
    have hq : 2 * 2 ^ k * y = 2 * (2 ^ k * y) := by rw [Nat.mul_assoc]
    have e1 : (2 * 2 ^ k * y + a) % 2 = a % 2 := by rw [hq]; omega
    have e2 : (2 * 2 ^ k * y + a) / 2 = 2 ^ k * y + a / 2 := by rw [hq]; omega
    have h3 := pcN_app k j (a / 2) y (by omega)
    rw [show k + 1 + j = (k + j) + 1 by omega, pcN_s, pcN_s, e1, e2, h3, Nat.add_assoc]
theorem and256 {a m b n : Nat} (ha : a < 256) (hm : m < 256) : (256 * b + a) &&& (256 * n + m) = 256 * (b &&& n) + (a &&& m) := by
  have ha : a < 2 ^ 8 := ha
  have hm : m < 2 ^ 8 := hm
  show (2 ^ 8 * b + a) &&& (2 ^ 8 * n + m) = 2 ^ 8 * (b &&& n) + (a &&& m)
  have h3 : a &&& m < 2 ^ 8 := Nat.and_lt_two_pow _ hm
  apply Nat.eq_of_testBit_eq
  intro j
  rw [Nat.testBit_and, Nat.testBit_two_pow_mul_add _ ha, Nat.testBit_two_pow_mul_add _ hm, Nat.testBit_two_pow_mul_add _ h3]
  split
  · rw [Nat.testBit_and]
  · rw [Nat.testBit_and]
def nb1 (M x : Nat) : Nat := x - (x / 2 &&& M)
def nb2 (M x : Nat) : Nat := (x &&& M) + (x / 4 &&& M)
def nb3 (M x : Nat) : Nat := (x + x / 16) &&& M
theorem nb_q1 : ∀ a, a < 256 → (128 + a / 2) &&& 85 = a / 2 &&& 85 := by decide +kernel
theorem nb_q2 : ∀ c, c < 4 → ∀ a, a < 256 → (64 * c + a / 4) &&& 51 = a / 4 &&& 51 := by decide +kernel
theorem nb1_sp {M y a : Nat} (ha : a < 256) : nb1 (256 * M + 85) (256 * y + a) = 256 * nb1 M y + nb1 85 a := by
  have e : (256 * y + a) / 2 = 256 * (y / 2) + (128 * (y % 2) + a / 2) := by omega
  have q : (128 * (y % 2) + a / 2) &&& 85 = a / 2 &&& 85 := by
    rcases (show y % 2 = 0 ∨ y % 2 = 1 by omega) with h | h
    · rw [h, Nat.mul_zero, Nat.zero_add]
    · rw [h, Nat.mul_one]
      exact nb_q1 a ha
  have h1 : y / 2 &&& M ≤ y := Nat.le_trans Nat.and_le_left (Nat.div_le_self _ _)
  have h2 : a / 2 &&& 85 ≤ a := Nat.le_trans Nat.and_le_left (Nat.div_le_self _ _)
  unfold nb1
  rw [e, and256 (by omega) (by decide), q]
  generalize y / 2 &&& M = u at *
  generalize a / 2 &&& 85 = v at *
  omega
theorem nb2_sp {M y a : Nat} (ha : a < 256) : nb2 (256 * M + 51) (256 * y + a) = 256 * nb2 M y + nb2 51 a := by
  have e : (256 * y + a) / 4 = 256 * (y / 4) + (64 * (y % 4) + a / 4) := by omega
  have q := nb_q2 (y % 4) (by omega) a ha
  unfold nb2
  rw [e, and256 ha (by decide), and256 (by omega) (by decide), q]
  generalize y / 4 &&& M = u
  generalize a / 4 &&& 51 = v
  generalize y &&& M = u2
  generalize a &&& 51 = v2
  omega
theorem nb3_sp {M y a : Nat} (ha : a ≤ 68) (hy : y % 16 ≤ 4) : nb3 (256 * M + 15) (256 * y + a) = 256 * nb3 M y + nb3 15 a := by
  have e : 256 * y + a + (256 * y + a) / 16 = 256 * (y + y / 16) + (a + a / 16 + 16 * (y % 16)) := by omega
  have m15 : ∀ n, n &&& 15 = n % 16 := fun n => Nat.and_two_pow_sub_one_eq_mod n 4
  unfold nb3
  rw [e, and256 (by omega) (by decide), m15, m15]
  omega
theorem nb_byte : ∀ b, b < 256 → nb1 85 b < 256 ∧ nb2 51 (nb1 85 b) ≤ 68 ∧ nb2 51 (nb1 85 b) % 16 ≤ 4 ∧ nb3 15 (nb2 51 (nb1 85 b)) = pcN 8 b ∧ pcN 8 b ≤ 8 := by decide +kernel
theorem nb_half : ∀ b, b < 16 → nb2 13107 (nb1 21845 b) % 16 ≤ 4 ∧ nb3 3855 (nb2 13107 (nb1 21845 b)) = pcN 4 b ∧ pcN 4 b ≤ 4 := by decide +kernel
/-- three bytes -/
theorem nb_all {l m h : Nat} (hl : l < 256) (hm : m < 256) (hh : h < 16) : nb3 252645135 (nb2 858993459 (nb1 1431655765 (256 * (256 * h + m) + l))) = 256 * (256 * pcN 4 h + pcN 8 m) + pcN 8 l := by
  obtain ⟨l1, l2, l3, l4, l5⟩ := nb_byte l hl
  obtain ⟨m1, m2, m3, m4, m5⟩ := nb_byte m hm
  obtain ⟨h3, h4, h5⟩ := nb_half h hh
  rw [show 1431655765 = 256 * (256 * 21845 + 85) + 85 from rfl, nb1_sp hl, nb1_sp hm]
  rw [show 858993459 = 256 * (256 * 13107 + 51) + 51 from rfl, nb2_sp l1, nb2_sp m1]
  rw [show 252645135 = 256 * (256 * 3855 + 15) + 15 from rfl, nb3_sp l2 (by omega), nb3_sp m2 h3, h4, m4, l4]
theorem us_nI {x k s : Nat} {c : Int32} (hx : x < 2 ^ 31) (hc : (c.toUInt32 &&& Int32.toUInt32 31).toNat = s) (hs : s < 32) (hk : 2 ^ s = k) : sp_us (nI x) c = nI (x / k) := by
  subst hk
  unfold sp_us
  apply Int32.toBitVec_inj.mp
  apply BitVec.eq_of_toNat_eq
  show ((nI x).toUInt32 >>> (c.toUInt32 &&& Int32.toUInt32 31)).toNat = (x / 2 ^ s) % 2 ^ 32
  rw [UInt32.toNat_shiftRight, hc, Nat.mod_eq_of_lt hs, Nat.shiftRight_eq_div_pow]
  have e : (nI x).toUInt32.toNat = x % 2 ^ 32 := rfl
  rw [e, Nat.mod_eq_of_lt (by omega)]
  exact (Nat.mod_eq_of_lt (Nat.lt_of_le_of_lt (Nat.div_le_self _ _) (by omega))).symm
theorem nI_and (a b : Nat) : nI a &&& nI b = nI (a &&& b) := by
  apply Int32.toBitVec_inj.mp
  rw [Int32.toBitVec_and]
  show BitVec.ofNat 32 a &&& BitVec.ofNat 32 b = BitVec.ofNat 32 (a &&& b)
  exact BitVec.ofNat_and.symm
theorem bc1_nI {x : Nat} (hx : x < 2 ^ 31) : sp_bc1 (nI x) = nI (nb1 1431655765 x) := by
  unfold sp_bc1
  rw [us_nI (s := 1) (k := 2) hx (by decide) (by decide) rfl]
  show nI x - (nI (x / 2) &&& nI 1431655765) = _
  rw [nI_and, nI_sub (Nat.le_trans Nat.and_le_left (Nat.div_le_self _ _))]
  rfl
theorem bc2_nI {x : Nat} (hx : x < 2 ^ 31) : sp_bc2 (nI x) = nI (nb2 858993459 x) := by
  unfold sp_bc2
  rw [us_nI (s := 2) (k := 4) hx (by decide) (by decide) rfl]
  show (nI x &&& nI 858993459) + (nI (x / 4) &&& nI 858993459) = _
  rw [nI_and, nI_and, nI_add]
  rfl
theorem bc3_nI {x : Nat} (hx : x < 2 ^ 31) : sp_bc3 (nI x) = nI (nb3 252645135 x) := by
  unfold sp_bc3
  rw [us_nI (s := 4) (k := 16) hx (by decide) (by decide) rfl, nI_add]
  show nI (x + x / 16) &&& nI 252645135 = _
  rw [nI_and]
  rfl
theorem bitCount_nI {x : Nat} (hx : x < 2 ^ 20) : sp_bitCount (nI x) = nI (pcN 20 x) := by
  obtain ⟨l, m, h, rfl, hl, hm, hh⟩ : ∃ l m h, x = 256 * (256 * h + m) + l ∧ l < 256 ∧ m < 256 ∧ h < 16 := ⟨x % 256, x / 256 % 256, x / 65536, by omega, by omega, by omega, by omega⟩
  have hx : 256 * (256 * h + m) + l < 1048576 := hx
  have e := nb_all hl hm hh
  obtain ⟨_, _, _, _, l5⟩ := nb_byte l hl
  obtain ⟨_, _, _, _, m5⟩ := nb_byte m hm
  obtain ⟨_, _, h5⟩ := nb_half h hh
  have p1 : pcN 20 (256 * (256 * h + m) + l) = pcN 8 l + (pcN 8 m + pcN 4 h) := by
    have q1 := pcN_app 8 12 l (256 * h + m) hl
    have q2 := pcN_app 8 4 m h hm
    rw [show (2 : Nat) ^ 8 = 256 from rfl] at q1 q2
    rw [show 20 = 8 + 12 from rfl, q1, show 12 = 8 + 4 from rfl, q2]
  have b1 : nb1 1431655765 (256 * (256 * h + m) + l) < 2 ^ 21 := Nat.lt_of_le_of_lt (Nat.sub_le _ _) (by omega)
  have b2 : nb2 858993459 (nb1 1431655765 (256 * (256 * h + m) + l)) < 2 ^ 22 := by
    unfold nb2
    generalize nb1 1431655765 (256 * (256 * h + m) + l) = u at b1 ⊢
    have g1 : u &&& 858993459 ≤ u := Nat.and_le_left
    have g2 : u / 4 &&& 858993459 ≤ u / 4 := Nat.and_le_left
    omega
  unfold sp_bitCount
  rw [bc1_nI (by omega), bc2_nI (by omega), bc3_nI (by omega), e, p1]
  generalize pcN 8 l = R at *
  generalize pcN 8 m = Q at *
  generalize pcN 4 h = P at *
  unfold sp_bc5 sp_bc4
  rw [us_nI (s := 8) (k := 256) (by omega) (by decide) (by decide) rfl, nI_add, us_nI (s := 16) (k := 65536) (by omega) (by decide) (by decide) rfl, nI_add]
  show nI _ &&& nI 63 = _
  rw [nI_and]
  congr 1
  have u1 : (256 * (256 * P + Q) + R) / 256 = 256 * P + Q := by omega
  rw [u1]
  have u2 : (256 * (256 * P + Q) + R + (256 * P + Q)) / 65536 = P := by omega
  rw [u2, show (63 : Nat) = 2 ^ 6 - 1 from rfl, Nat.and_two_pow_sub_one_eq_mod]
  show (256 * (256 * P + Q) + R + (256 * P + Q) + P) % 64 = _
  clear u1 u2
  omega
def ownB (S : ka_F) (p : Int32) (i : Nat) : Bool := decide (wg S i 0 = p)
def fulB (S : ka_F) (p : Int32) (i : Nat) : Bool := decide (wg S i 0 = p) && decide (wg S i 2 = 1)
theorem cntN_s {p : Nat → Bool} {n : Nat} : cntN p (n + 1) = cntN p n + if p n = true then 1 else 0 := rfl
theorem own_mask {S : ka_F} {p : Int32} : ∀ i, i ≤ 20 → ∃ m, m < 2 ^ i ∧ rf_ownX S p i = nI m ∧ pcN 20 m = cntN (ownB S p) i
  | 0, _ => ⟨0, by decide, rfl, pcN_z 20⟩
  | i + 1, h => by
    obtain ⟨m, hm, e, hc⟩ := own_mask (S := S) (p := p) i (by omega)
    have hp : 2 ^ (i + 1) = 2 * 2 ^ i := by rw [Nat.pow_succ, Nat.mul_comm]
    rw [rf_ownX_s, cntN_s, e]
    unfold rf_ownAt ownB
    by_cases c : wg S i 0 = p
    · rw [if_pos c, decide_eq_true c, if_pos rfl, or_bit (by omega) hm]
      exact ⟨2 ^ i + m, by omega, rfl, by rw [pcN_bit 20 i m (by omega) hm, hc]; rfl⟩
    · rw [if_neg c, decide_eq_false c, if_neg (by decide), Int32.or_zero]
      exact ⟨m, by omega, rfl, hc⟩
theorem own_all {S : ka_F} {p : Int32} : ∀ i, rf_allOX S p i = nI (cntN (ownB S p) i)
  | 0 => rfl
  | i + 1 => by
    have e := own_all (S := S) (p := p) i
    rw [rf_allOX_s, cntN_s, e]
    unfold rf_allOAt ownB
    by_cases c : wg S i 0 = p
    · rw [if_pos c, decide_eq_true c, if_pos rfl, nI_1]
    · rw [if_neg c, decide_eq_false c, if_neg (by decide), Int32.add_zero]
      rfl
theorem ask_owned {c D : Nat} {P : ka_P} {S : ka_F} {p : Int32} (h : RS c D P S) : sp_ownedBy P p = nI (cntN (ownB S p) (cn (S 1))) := by
  unfold sp_ownedBy
  rw [loop_own h]
  obtain ⟨m, hm, e, hc⟩ := own_mask (S := S) (p := p) (cn (S 1)) h.n
  have h20 : 2 ^ cn (S 1) ≤ 2 ^ 20 := Nat.pow_le_pow_right (by decide) h.n
  rw [e, bitCount_nI (by omega), hc]
theorem ful_le {S : ka_F} {p : Int32} : ∀ i, cntN (fulB S p) i ≤ cntN (ownB S p) i
  | 0 => Nat.le_refl _
  | i + 1 => by
    have e := ful_le (S := S) (p := p) i
    rw [cntN_s, cntN_s]
    unfold fulB ownB
    unfold fulB ownB at e
    by_cases c : wg S i 0 = p
    · rw [decide_eq_true c, Bool.true_and, if_pos rfl]
      split <;> omega
    · rw [decide_eq_false c, Bool.false_and, if_neg (by decide)]
      omega
theorem ful_ref {c D : Nat} {P : ka_P} {S : ka_F} {p : Int32} (h : RS c D P S) : ∀ i, i ≤ cn (S 1) → rf_fulOX S p i = nI (cntN (fulB S p) i)
  | 0, _ => rfl
  | i + 1, hi => by
    have e := ful_ref (p := p) h i (by omega)
    rw [rf_fulOX_s, cntN_s, e]
    unfold rf_fulOAt fulB
    have n20 := h.n
    by_cases c : wg S i 0 = p
    · rw [if_pos c, decide_eq_true c, Bool.true_and]
      rcases h.1.full (w := i) (by omega) (by omega) with ⟨_, f⟩ | ⟨_, f⟩
      · rw [f, if_pos (by decide), nI_1]
      · rw [f, if_neg (by decide), Int32.add_zero]
        rfl
    · rw [if_neg c, decide_eq_false c, Bool.false_and, if_neg (by decide), Int32.add_zero]
      rfl
theorem ful_cls {c D : Nat} {P : ka_P} {S : ka_F} {p : Int32} (h : RS c D P S) : ∀ i, i ≤ cn (S 1) → sp_fullX P p i = nI (cntN (fulB S p) i)
  | 0, _ => rfl
  | i + 1, hi => by
    have e := ful_cls (p := p) h i (by omega)
    have n20 := h.n
    rw [sp_fullX_s, cntN_s, e]
    unfold sp_fullAt fulB
    rw [wgIx_nI (by omega), h.1.w0 (by omega) (by omega)]
    by_cases c : wg S i 0 = p
    · rw [if_pos c, decide_eq_true c, Bool.true_and]
      rcases h.1.full (w := i) (by omega) (by omega) with ⟨g, f⟩ | ⟨g, f⟩
      · rw [f, g, if_pos rfl, if_pos (by decide), nI_1]
      · rw [f, g, if_neg (by decide), if_neg (by decide)]
        rfl
    · rw [if_neg c, decide_eq_false c, Bool.false_and, if_neg (by decide)]
      rfl
def shQ (l k : Nat) : UInt32 := FP.fdiv (FP.i2f (nI l)) (FP.i2f (nI k))
def n32b (x : UInt32) : Bool := decide (x &&& 0x7fffffff ≤ 0x7f800000)
theorem n32b_t {x : UInt32} (h : n32b x = true) : vf_n32 x := by
  unfold n32b at h
  show x &&& 0x7fffffff ≤ 0x7f800000
  exact of_decide_eq_true h
def shX (x : UInt32) : UInt32 × Int32 := sp_bsX x 5
def shC (x : UInt32) : Bool :=
  n32b x && (!rx_nan x) && (if 0 < Op.cmpValue (FP.fcmp x FP.fconst0) .l then
    n32b (FP.fmul (sp_bsX x 0).1 FP.fconst2) && n32b (FP.fmul (sp_bsX x 1).1 FP.fconst2) && n32b (FP.fmul (sp_bsX x 2).1 FP.fconst2) && n32b (FP.fmul (sp_bsX x 3).1 FP.fconst2) && n32b (FP.fmul (sp_bsX x 4).1 FP.fconst2) && n32b (FP.fmul (sp_bsX x 5).1 FP.fconst2)
      && (!decide (Op.cmpValue (FP.fcmp (sp_bsX x 5).1 FP.fconst1) .g < 0)) && n32b (FP.fmul (sp_bsX x 5).1 1258291200) && decide (((sp_bsX x 5).2 <<< (23 &&& 31)) + (FP.f2i (FP.fmul (sp_bsX x 5).1 1258291200) - 8388608) = x.toInt32)
  else decide (x.toInt32 = 0))
set_option maxRecDepth 100000 in
theorem shC_all : ∀ k, k < 20 → ∀ l, l < k + 2 → shC (shQ l (k + 1)) = true := by decide +kernel
theorem shC_ok {x : UInt32} (h : shC x = true) : sp_bsOK x ∧ vf_n32 x ∧ sp_bits x = x.toInt32 ∧ rx_bits x = x.toInt32 := by
  unfold shC at h
  rw [Bool.and_eq_true, Bool.and_eq_true] at h
  obtain ⟨⟨h1, h2⟩, h3⟩ := h
  have hn : rx_nan x = false := by simpa using h2
  have hr : rx_bits x = x.toInt32 := by
    unfold rx_bits
    rw [hn, if_neg (by decide)]
  have h1 := n32b_t h1
  by_cases c : 0 < Op.cmpValue (FP.fcmp x FP.fconst0) .l
  · rw [if_pos c] at h3
    simp only [Bool.and_eq_true] at h3
    obtain ⟨⟨⟨⟨⟨⟨⟨⟨a0, a1⟩, a2⟩, a3⟩, a4⟩, a5⟩, a6⟩, a7⟩, a8⟩ := h3
    have a6 : sp_bsStop (sp_bsX x 5) := Or.inl (by simpa using a6)
    have es : ∀ n, 5 ≤ n → sp_bsX x n = sp_bsX x 5 := fun n hn => sp_bsX_stop a6 hn
    refine ⟨⟨h1, fun _ => ⟨fun i hi => ?_, ?_⟩⟩, h1, ?_, hr⟩
    · rcases Nat.lt_or_ge i 5 with h5 | h5
      · rcases (show i = 0 ∨ i = 1 ∨ i = 2 ∨ i = 3 ∨ i = 4 by omega) with rfl | rfl | rfl | rfl | rfl
        · exact n32b_t a0
        · exact n32b_t a1
        · exact n32b_t a2
        · exact n32b_t a3
        · exact n32b_t a4
      · rw [es i h5]
        exact n32b_t a5
    · rw [es 126 (by decide)]
      exact n32b_t a7
    · unfold sp_bits
      rw [if_pos c, es 126 (by decide)]
      exact of_decide_eq_true a8
  · rw [if_neg c] at h3
    refine ⟨⟨h1, fun z => absurd z c⟩, h1, ?_, hr⟩
    unfold sp_bits
    rw [if_neg c]
    exact (of_decide_eq_true h3).symm
theorem share_key {c D : Nat} {P : ka_P} {S : ka_F} {p : Int32} (h : RS c D P S) : sp_ownedBy P p = rf_allOX S p (cn (S 1)) ∧ sp_share0 P p = rf_share0 S p ∧ (¬ rf_allOX S p (cn (S 1)) = 0 → sp_bsOK (rf_share0 S p) ∧ vf_n32 (rf_share0 S p) ∧ sp_bits (rf_share0 S p) = rx_bits (rf_share0 S p)) := by
  have e1 := ask_owned (p := p) h
  have e2 : sp_loadedOf P p = rf_fulOX S p (cn (S 1)) := by
    unfold sp_loadedOf
    rw [h.1.n, ful_cls h _ (Nat.le_refl _), ful_ref h _ (Nat.le_refl _)]
  have e3 : sp_share0 P p = rf_share0 S p := by
    unfold sp_share0 rf_share0
    rw [e1, e2, own_all]
  refine ⟨by rw [e1, own_all], e3, fun hz => ?_⟩
  have e4 : rf_share0 S p = shQ (cntN (fulB S p) (cn (S 1))) (cntN (ownB S p) (cn (S 1))) := by
    unfold rf_share0 shQ
    rw [own_all, ful_ref h _ (Nat.le_refl _)]
  have hk : cntN (ownB S p) (cn (S 1)) ≤ 20 := Nat.le_trans (cntN_le _) h.n
  have hl := ful_le (S := S) (p := p) (cn (S 1))
  rw [own_all] at hz
  rw [e4]
  generalize cntN (ownB S p) (cn (S 1)) = k at *
  generalize cntN (fulB S p) (cn (S 1)) = l at *
  cases k with
  | zero => exact absurd rfl hz
  | succ k =>
    obtain ⟨g1, g2, g3, g4⟩ := shC_ok (shC_all k (by omega) l (by omega))
    exact ⟨g1, g2, g3.trans g4.symm⟩
theorem ask_share {c D : Nat} {P : ka_P} {S : ka_F} {x : Int32} (h : RS c D P S) : sp_share P x = rf_share S x := by
  obtain ⟨e1, e2, e3⟩ := share_key (p := x) h
  unfold sp_share rf_share
  rw [h.1.isMine, e1, e2]
  split
  · rfl
  · split
    · rfl
    · next c => exact (e3 c).2.2
