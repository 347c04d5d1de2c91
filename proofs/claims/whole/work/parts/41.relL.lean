/-! copies, history, the whole world's relation -/
theorem smS_of {S T : ka_F} (h : ∀ k, k < 269 → T k = S k) : smS S T := ⟨fun j hj => h j (by omega), fun w hw => wr_of (fun k hk => by
  unfold wg
  exact h _ (by omega))⟩
theorem smS.rf {S : ka_F} : smS S S := ⟨fun _ _ => rfl, fun _ _ => rfl⟩
theorem MK.smm {D : Nat} {S T : ka_F} (hM : MK D S) (hs : smS S T) : MK D T := by
  obtain ⟨h0, h1, h2, h3, hw⟩ := hM
  refine ⟨?_, ?_, ?_, ?_, fun w hw20 => ?_⟩
  · rw [hs.1 0 (by decide)]; exact h0
  · rw [hs.1 1 (by decide)]; exact h1
  · rw [hs.1 2 (by decide)]; exact h2
  · rw [hs.1 13 (by decide)]; exact h3
  · rw [wg_of (hs.2 w hw20) (by decide), wg_of (hs.2 w hw20) (by decide)]
    exact hw w hw20
theorem RS.smr {c D : Nat} {P : ka_P} {S T : ka_F} (h : RS c D P S) (hs : smS S T) : RS c D P T := by
  obtain ⟨hR, hM, hI, a, b, hst, hQ⟩ := h
  refine ⟨hR.smt hs, hM.smm hs, ?_, a, b, hst, hQ.smq hM.n hs⟩
  have := IW.smw (B := 4000 * cn (S 2) + 6000 * c) hI hs
  unfold IV
  rw [hs.1 2 (by decide)]
  exact this
theorem cpP_lt {f g : Nat → Int32} {j : Nat} (h : j < 6) : cpP f g j = f j := by
  unfold cpP
  rw [if_pos h]
theorem cpW_lt {f g : Nat → Int32} {j : Nat} (h : j < 9) (h3 : j ≠ 3) : cpW f g j = f j := by
  unfold cpW
  rw [if_neg h3, if_pos h]
theorem cpW_3 {f g : Nat → Int32} : ka_t (cpW f g 3) = ka_t (f 3) := by
  unfold cpW
  rw [if_pos rfl, ka_t_b]
theorem cpPl_o {F G : ka_P} {o : Nat} : ∀ i, (∀ p, p < i → o ≠ 2 + p) → sp_cpPlX F G i o = G o
  | 0, _ => rfl
  | i + 1, h => by
    rw [sp_cpPlX_s, ka_s2_n (h i (by omega))]
    exact cpPl_o i (fun p hp => h p (by omega))
theorem cpPl_p {F G : ka_P} : ∀ i p, p < i → ∃ g, sp_cpPlX F G i (2 + p) = cpP (F (2 + p)) g
  | 0, p, h => absurd h (Nat.not_lt_zero _)
  | i + 1, p, h => by
    rw [sp_cpPlX_s]
    by_cases c : p = i
    · subst c
      rw [ka_s2_s]
      exact ⟨_, rfl⟩
    · rw [ka_s2_n (by omega)]
      exact cpPl_p i p (by omega)
theorem cpWg_o {F G : ka_P} {o : Nat} : ∀ i, (∀ w, w < i → o ≠ 8 + w) → sp_cpWgX F G i o = G o
  | 0, _ => rfl
  | i + 1, h => by
    rw [sp_cpWgX_s, ka_s2_n (h i (by omega))]
    exact cpWg_o i (fun p hp => h p (by omega))
theorem cpWg_w {F G : ka_P} : ∀ i w, w < i → ∃ g, sp_cpWgX F G i (8 + w) = cpW (F (8 + w)) g
  | 0, p, h => absurd h (Nat.not_lt_zero _)
  | i + 1, p, h => by
    rw [sp_cpWgX_s]
    by_cases c : p = i
    · subst c
      rw [ka_s2_s]
      exact ⟨_, rfl⟩
    · rw [ka_s2_n (by omega)]
      exact cpWg_w i p (by omega)
theorem copy_o {F G : ka_P} {o : Nat} (h0 : o ≠ 0) (h28 : o ≠ 28) (h29 : o ≠ 29) (h30 : o ≠ 30) (h31 : o ≠ 31) : sp_copy F G o = sp_cp1 F G o := by
  unfold sp_copy sp_cp3 sp_cpShop sp_cpSett sp_cpLegs
  rw [pU_n h0, pU_n h0, pU_n h0, pU_n h0, pU_n h0, pU_n h0, pU_n h30, ka_s2_n h31, ka_s2_n h29, ka_s2_n h28]
theorem copy_0 {F G : ka_P} {j : Nat} (h5 : 5 ≤ j) (h10 : j ≤ 10) : sp_copy F G 0 j = F 0 j := by
  unfold sp_copy sp_cp3
  rcases (show j = 5 ∨ j = 6 ∨ j = 7 ∨ j = 8 ∨ j = 9 ∨ j = 10 by omega) with rfl | rfl | rfl | rfl | rfl | rfl
  · rw [pU_j (by decide), pU_j (by decide), pU_j (by decide), pU_j (by decide), pU_j (by decide), pU_e]
  · rw [pU_j (by decide), pU_j (by decide), pU_j (by decide), pU_j (by decide), pU_e]
  · rw [pU_j (by decide), pU_j (by decide), pU_j (by decide), pU_e]
  · rw [pU_j (by decide), pU_j (by decide), pU_e]
  · rw [pU_j (by decide), pU_e]
  · rw [pU_e]
theorem copy_28 {F G : ka_P} {j : Nat} (h : j < 25) : sp_copy F G 28 j = F 28 j := by
  unfold sp_copy sp_cp3 sp_cpShop sp_cpSett sp_cpLegs
  rw [pU_n (by decide), pU_n (by decide), pU_n (by decide), pU_n (by decide), pU_n (by decide), pU_n (by decide), pU_n (by decide), ka_s2_n (by decide), ka_s2_n (by decide), ka_s2_s, pk_cpy_in (Nat.zero_le _) (by omega)]
  rw [Nat.zero_add, Nat.sub_zero]
theorem copy_29 {F G : ka_P} {j : Nat} (h : j < 7) : sp_copy F G 29 j = F 29 j := by
  unfold sp_copy sp_cp3 sp_cpShop sp_cpSett
  rw [pU_n (by decide), pU_n (by decide), pU_n (by decide), pU_n (by decide), pU_n (by decide), pU_n (by decide), pU_n (by decide), ka_s2_n (by decide), ka_s2_s, pk_cpy_in (Nat.zero_le _) (by omega)]
  rw [Nat.zero_add, Nat.sub_zero]
theorem copy_31 {F G : ka_P} {j : Nat} (h : j < 20) : sp_copy F G 31 j = F 31 j := by
  unfold sp_copy sp_cp3 sp_cpShop
  rw [pU_n (by decide), pU_n (by decide), pU_n (by decide), pU_n (by decide), pU_n (by decide), pU_n (by decide), pU_n (by decide), ka_s2_s, pk_cpy_in (Nat.zero_le _) (by omega)]
  rw [Nat.zero_add, Nat.sub_zero]
theorem copy_pl {F G : ka_P} {p : Nat} (hp : p < 5) : ∃ g, sp_copy F G (2 + p) = cpP (F (2 + p)) g := by
  rw [copy_o (by omega) (by omega) (by omega) (by omega) (by omega)]
  unfold sp_cp1
  rw [cpWg_o 20 (fun w hw => by omega)]
  exact cpPl_p 5 p hp
theorem copy_wg {F G : ka_P} {w : Nat} (hw : w < 20) : ∃ g, sp_copy F G (8 + w) = cpW (F (8 + w)) g := by
  rw [copy_o (by omega) (by omega) (by omega) (by omega) (by omega)]
  unfold sp_cp1
  exact cpWg_w 20 w hw
theorem RS.cpy {c D : Nat} {F G : ka_P} {S : ka_F} (h : RS c D F S) : RS c D (sp_copy F G) S := by
  obtain ⟨hR, hM, hI, a, b, hst, hQ⟩ := h
  refine ⟨hR.eP (fun j h5 h10 => copy_0 h5 h10) (fun j hj => copy_28 hj) (fun j hj => copy_29 hj) (fun p hp j hj => ?_) (fun w hw => ?_), hM, hI, a, b, hst, hQ.of hM.n sp_copy_z (fun i hi => copy_31 hi) qsS.rf⟩
  · obtain ⟨g, e⟩ := copy_pl (F := F) (G := G) hp
    rw [e, cpP_lt hj]
  · obtain ⟨g, e⟩ := copy_wg (F := F) (G := G) hw
    rw [e]
    exact ⟨fun j hj h3 => cpW_lt hj h3, cpW_3⟩
theorem fm_nI {k : Nat} (hk : k < 2 ^ 31) : sp_fm (nI k) 4 = nI (k % 4) := by
  unfold sp_fm
  rw [if_pos (fun z => nI_pos hk ((x4_neg _).mp z))]
  exact pk_rem (a := k) (d := 4) hk (by decide) (by decide)
/-- a state that the reference keeps -/
def sgF (M : ka_P) (t : Nat) : ka_F := fun k => M 4 (269 * t + k)
def HIS (c : Nat) (W : ka_W) (M : ka_P) : Prop := ∃ o h : Nat, (o < 4 ∧ h ≤ 4) ∧ (W 6 0 1 = nI o ∧ W 6 0 2 = nI h ∧ M 0 4 = nI h) ∧ ∀ t, t < h → RS c 1999 (W (2 + (o + t) % 4)) (sgF M t)
theorem HIS.of {c c' : Nat} {W W' : ka_W} {M M' : ka_P} (h : HIS c W M) (hc : c ≤ c') (hW : ∀ r, 2 ≤ r → r ≤ 6 → W' r = W r) (h4 : M' 0 4 = M 0 4) (hM : M' 4 = M 4) : HIS c' W' M' := by
  obtain ⟨o, k, h1, ⟨h2, h3, h5⟩, h6⟩ := h
  refine ⟨o, k, h1, ⟨by rw [hW 6 (by decide) (by decide)]; exact h2, by rw [hW 6 (by decide) (by decide)]; exact h3, h4.trans h5⟩, fun t ht => ?_⟩
  rw [hW _ (by omega) (by omega)]
  unfold sgF
  rw [hM]
  exact (h6 t ht).up hc (Nat.le_refl _)
theorem HIS.t4 {c : Nat} {W : ka_W} {M : ka_P} (h : HIS c W M) : ub 4 (M 0 4) := by
  obtain ⟨o, k, h1, ⟨_, _, h5⟩, _⟩ := h
  rw [h5]
  exact ub_nI h1.2 (by decide)
/-- a full history: the oldest goes -/
theorem HIS.shift {c : Nat} {W : ka_W} {M : ka_P} (h : HIS c W M) : ∃ o h : Nat, (o < 4 ∧ h ≤ 3) ∧ (sp_rec1 W 6 0 1 = nI o ∧ sp_rec1 W 6 0 2 = nI h ∧ rf_sv1 M 0 4 = nI h) ∧ (∀ t, t < h → RS c 1999 (sp_rec1 W (2 + (o + t) % 4)) (sgF (rf_sv1 M) t)) ∧ (∀ r, r ≠ 6 → sp_rec1 W r = W r) ∧ ∀ o, o ≠ 0 → o ≠ 4 → rf_sv1 M o = M o := by
  obtain ⟨o, k, ⟨ho, hk⟩, ⟨h2, h3, h5⟩, h6⟩ := h
  have lt4 : (W 6 0 2 < 4) ↔ k < 4 := by
    rw [h3]
    exact nI_ltI (a := k) (b := 4) (by omega) (by decide)
  have eq4 : (M 0 4 = 4) ↔ k = 4 := by
    rw [h5]
    exact nI_eq (a := k) (b := 4) (by omega) (by decide)
  unfold sp_rec1 rf_sv1
  by_cases c1 : k = 4
  · rw [if_neg (fun z => by have := lt4.mp z; omega), if_pos (eq4.mpr c1)]
    subst c1
    have e61 : sp_recM (sp_recA W) 6 0 1 = nI ((o + 1) % 4) := by
      unfold sp_recM
      rw [ka_st_s, pk_un (by decide)]
      unfold sp_recA
      rw [ka_st_s, pk_us, h2, nI_1, fm_nI (by omega)]
    have e62 : sp_recM (sp_recA W) 6 0 2 = nI 3 := by
      unfold sp_recM
      rw [ka_st_s, pk_us]
      unfold sp_recA
      rw [ka_st_s, pk_un (by decide), h3, nI_pred]
    have er : ∀ r, r ≠ 6 → sp_recM (sp_recA W) r = W r := fun r hr => (ka_sp_n hr).trans (ka_sp_n hr)
    refine ⟨(o + 1) % 4, 3, ⟨by omega, Nat.le_refl _⟩, ⟨e61, e62, ?_⟩, fun t ht => ?_, er, fun x h0 h4 => ?_⟩
    · rw [pU_e, h5, nI_pred]
    · rw [er _ (by omega), show ((o + 1) % 4 + t) % 4 = (o + (t + 1)) % 4 by omega]
      refine (h6 (t + 1) (by omega)).smr (smS_of (fun k hk => ?_))
      unfold sgF
      rw [pU_n (by decide), ka_s2_s]
      unfold shF
      rw [if_pos (by omega), show 269 * t + k + 269 = 269 * (t + 1) + k by omega]
    · rw [pU_n h0, ka_s2_n h4]
  · rw [if_pos (lt4.mpr (by omega)), if_neg (fun z => c1 (eq4.mp z))]
    exact ⟨o, k, ⟨ho, by omega⟩, ⟨h2, h3, h5⟩, h6, fun _ _ => rfl, fun _ _ _ => rfl⟩
/-- the present state is recorded on both sides -/
theorem HIS.rec {c : Nat} {W : ka_W} {M : ka_P} {S : ka_F} (h : HIS c W M) (hS : RS c 1999 (W 0) S) (hM : ∀ k, k < 269 → M 2 k = S k) : HIS c (sp_record W 0) (rf_save M) ∧ (∀ r, r < 2 ∨ 6 < r → sp_record W 0 r = W r) ∧ rf_save M 5 = M 5 ∧ ∀ j, j ≠ 4 → rf_save M 0 j = M 0 j := by
  obtain ⟨o, k, ⟨ho, hk⟩, ⟨h2, h3, h5⟩, h6, h7, h8⟩ := h.shift
  have hj1 : ∀ j, j ≠ 4 → rf_sv1 M 0 j = M 0 j := fun j hj => by
    unfold rf_sv1
    split
    · rw [pU_j (fun _ => hj), ka_s2_n (by decide)]
    · rfl
  have hq : sp_recQ (sp_rec1 W) = 2 + (o + k) % 4 := by
    unfold sp_recQ
    rw [h2, h3, nI_add, fm_nI (by omega), cn_nI (by omega)]
  have w0 : sp_rec1 W 0 = W 0 := h7 0 (by decide)
  have m2 : rf_sv1 M 2 = M 2 := h8 2 (by decide) (by decide)
  have m5 : rf_sv1 M 5 = M 5 := h8 5 (by decide) (by decide)
  unfold sp_record rf_save sp_rec2
  rw [hq]
  generalize sp_rec1 W = V at *
  generalize rf_sv1 M = N at *
  have hs6 : ∀ r, r ≠ 6 → sp_recS (ka_sp V (2 + (o + k) % 4) (sp_copy (V 0) (V (2 + (o + k) % 4)))) 1 r = ka_sp V (2 + (o + k) % 4) (sp_copy (V 0) (V (2 + (o + k) % 4))) r := fun r hr => ka_sp_n hr
  have hn4 : cn (N 0 4) = k := by rw [h5, cn_nI (by omega)]
  refine ⟨⟨o, k + 1, ⟨ho, by omega⟩, ⟨?_, ?_, ?_⟩, fun t ht => ?_⟩, fun r hr => ?_, ?_, fun j hj => ?_⟩
  · unfold sp_recS
    rw [ka_st_s, pk_un (by decide), ka_sp_n (by omega)]
    exact h2
  · unfold sp_recS
    rw [ka_st_s, pk_us, ka_sp_n (by omega), h3, nI_1]
  · unfold rf_sv3 sp_add
    rw [pU_e, rf_sv2_n (by decide), h5, nI_1]
  · rw [hs6 _ (by omega)]
    have es : ∀ i, sgF (rf_sv3 (rf_sv2 N 269)) t i = puF k 269 (N 2) (N 4) (269 * t + i) := fun i => by
      unfold sgF rf_sv3 sp_add
      rw [pU_n (by decide)]
      unfold rf_sv2
      rw [ka_s2_s, hn4]
    by_cases c1 : t = k
    · subst c1
      rw [ka_sp_s, w0]
      refine (hS.cpy).smr (smS_of (fun i hi => ?_))
      rw [es]
      unfold puF
      rw [if_pos (by omega), m2, show 269 * t + i - 269 * t = i by omega]
      exact hM i hi
    · rw [ka_sp_n (by omega)]
      refine (h6 t (by omega)).smr (smS_of (fun i hi => ?_))
      rw [es]
      unfold puF sgF
      rw [if_neg (by omega)]
  · rw [hs6 _ (by omega), ka_sp_n (by omega)]
    exact h7 r (by omega)
  · unfold rf_sv3 sp_add
    rw [pU_n (by decide), rf_sv2_n (by decide)]
    exact m5
  · unfold rf_sv3 sp_add
    rw [pU_j (fun _ => hj), rf_sv2_n (by decide)]
    exact hj1 j hj
/-- the world W, the reference's other cells M and array S -/
def TOP (c : Nat) (W : ka_W) (M : ka_P) (S : ka_F) : Prop := RS c 1999 (W 0) S ∧ HIS c W M ∧ TXT (W 7) M
theorem TOP.of {c c' : Nat} {W W' : ka_W} {M M' : ka_P} {S S' : ka_F} (h : TOP c W M S) (hc : c ≤ c') (hW : ∀ r, r ≤ 7 → r ≠ 1 → W' r = W r) (hM : ∀ o, o ≠ 0 → o ≠ 2 → o ≠ 3 → o ≠ 6 → M' o = M o) (h4 : M' 0 4 = M 0 4) (h6 : M' 0 6 = M 0 6) (hS : smS S S') : TOP c' W' M' S' := by
  obtain ⟨h1, h2, h3⟩ := h
  refine ⟨?_, h2.of hc (fun r h0 h1 => hW r (by omega) (by omega)) h4 (hM 4 (by decide) (by decide) (by decide) (by decide)), ?_⟩
  · rw [hW 0 (by decide) (by decide)]
    exact (h1.up hc (Nat.le_refl _)).smr hS
  · rw [hW 7 (by decide) (by decide)]
    exact h3.of rfl rfl h6 (hM 5 (by decide) (by decide) (by decide) (by decide))
theorem cpF_sm {S T : ka_F} : smS S (cpF 269 S T) := smS_of (fun k hk => cpF_lt hk)
/-- an act on both sides; the trial's pool is W 1 -/
theorem TOP.settle {c c' : Nat} {W : ka_W} {M : ka_P} {S T : ka_F} {x : Int32} (h : TOP c W M S) (hc : c ≤ c') (hx : okA x) (hM : ∀ k, k < 269 → M 2 k = S k) (ht : -2000000001 < x → RS c' 1999 (W 1) T) : TOP c' (sp_settle W x) (rf_actM M x) (rf_actS M T x) := by
  unfold sp_settle rf_actM rf_actS
  rcases hx with ⟨h1, h2⟩ | ⟨h1, h2⟩
  · rw [if_pos h1, if_neg h2, if_neg h2]
    exact h.of hc (fun _ _ _ => rfl) (fun _ _ _ _ _ => rfl) rfl rfl (smS_of (fun k hk => by rw [cpF_lt hk]; exact hM k hk))
  · rw [if_neg (by rw [h1]; decide), if_pos h2, if_pos h2]
    obtain ⟨g1, g2, g3, g4⟩ := h.2.1.rec h.1 hM
    have e1 : sp_record W 0 1 = W 1 := g2 1 (Or.inl (by decide))
    refine ⟨?_, ?_, ?_⟩
    · rw [ka_sp_s, e1]
      exact (ht h2).cpy
    · exact g1.of hc (fun r hr _ => ka_sp_n (by omega)) rfl rfl
    · rw [ka_sp_n (by decide), g2 7 (Or.inr (by decide))]
      exact h.2.2.of rfl rfl (g4 6 (by decide)) g3
theorem TOP.act {c : Nat} {W : ka_W} {M : ka_P} {S : ka_F} {r : Int32 × ka_P} {q : Int32 × ka_F} (h : TOP c W M S) (hs : simO (c + 1) 1999 r q) : TOP (c + 60) (sp_act W r) (rf_actM (rf_beg M S) q.1) (rf_actS (rf_beg M S) q.2 q.1) := by
  obtain ⟨s1, s2, s3⟩ := hs
  have h2 : TOP c (ka_sp W 1 r.2) (rf_beg M S) S := h.of (Nat.le_refl _) (fun r _ hr => ka_sp_n hr) (fun o _ h2 _ _ => rf_beg_n h2) (by rw [rf_beg_n (by decide)]) (by rw [rf_beg_n (by decide)]) smS.rf
  unfold sp_act
  rw [← s1]
  exact h2.settle (by omega) s2 (fun k hk => by rw [rf_beg_2, cpF_lt hk]) (fun hx => by
    rw [ka_sp_s]
    exact (s3 hx).up (by omega) (Nat.le_refl _))
theorem TOP.tr {c : Nat} {W : ka_W} {M : ka_P} {S : ka_F} (h : TOP c W M S) : RS c 1999 (sp_tr W) S := by
  unfold sp_tr
  exact h.1.cpy
theorem TOP.undo {c : Nat} {W : ka_W} {M : ka_P} {S : ka_F} (h : TOP c W M S) (V : ka_W) : (sp_undo W).1 = (rf_undo V M S).1 ∧ ∃ M' S', (rf_undo V M S).2 = ka_ms V M' S' ∧ TOP c (sp_undo W).2 M' S' ∧ ∀ r, 7 < r → (sp_undo W).2 r = W r := by
  obtain ⟨h1, ⟨o, k, ⟨ho, hk⟩, ⟨h2, h3, h5⟩, h6⟩, h7⟩ := h
  unfold sp_undo rf_undo
  by_cases c1 : k = 0
  · subst c1
    rw [if_pos (by rw [h3]; rfl), if_pos (by rw [h5]; rfl)]
    exact ⟨rfl, M, S, rfl, ⟨h1, ⟨o, 0, ⟨ho, hk⟩, ⟨h2, h3, h5⟩, h6⟩, h7⟩, fun _ _ => rfl⟩
  · have np : 0 < k := by omega
    rw [if_neg (by rw [h3]; exact nI_ne0 np (by omega)), if_neg (by rw [h5]; exact nI_ne0 np (by omega))]
    have hpos : (0 : Int32) < W 6 0 2 := by
      rw [h3]
      exact nI_lt (a := 0) (b := k) np (by omega)
    have e2 : W 6 0 2 - 1 = nI (k - 1) := by
      rw [h3, show k = (k - 1) + 1 by omega, nI_pred]
      rfl
    have l2 : rf_less M 0 4 = nI (k - 1) := by
      unfold rf_less
      rw [pU_e, h5, show k = (k - 1) + 1 by omega, nI_pred]
      rfl
    have r6 : sp_recM W 6 0 2 = nI (k - 1) := by
      unfold sp_recM
      rw [ka_st_s, pk_us, e2]
    have r61 : sp_recM W 6 0 1 = nI o := by
      unfold sp_recM
      rw [ka_st_s, pk_un (by decide)]
      exact h2
    have rn : ∀ r, r ≠ 6 → sp_recM W r = W r := fun r hr => ka_sp_n hr
    have hq : sp_recQ (sp_recM W) = 2 + (o + (k - 1)) % 4 := by
      unfold sp_recQ
      rw [r61, r6, nI_add, fm_nI (by omega), cn_nI (by omega)]
    have et : sp_take W 0 = ka_sp (sp_recM W) 0 (sp_copy (W (2 + (o + (k - 1)) % 4)) (W 0)) := by
      unfold sp_take
      rw [if_pos hpos, hq, rn _ (by omega), rn 0 (by decide)]
    rw [et]
    generalize sp_recM W = V1 at *
    refine ⟨?_, _, _, rfl, ⟨?_, ?_, ?_⟩, fun r hr => ?_⟩
    · show ka_sp V1 0 (sp_copy (W (2 + (o + (k - 1)) % 4)) (W 0)) 6 0 2 = rf_less M 0 4
      rw [ka_sp_n (by decide), r6, l2]
    · show RS c 1999 (ka_sp V1 0 (sp_copy (W (2 + (o + (k - 1)) % 4)) (W 0)) 0) (rf_back (rf_less M) S 269)
      rw [ka_sp_s]
      refine ((h6 (k - 1) (by omega)).cpy).smr (smS_of (fun i hi => ?_))
      unfold rf_back sgF
      rw [cpF_lt hi, l2, cn_nI (by omega)]
      unfold rf_less
      rw [pU_n (by decide)]
    · refine ⟨o, k - 1, ⟨ho, by omega⟩, ⟨?_, ?_, l2⟩, fun t ht => ?_⟩
      · show ka_sp V1 0 (sp_copy (W (2 + (o + (k - 1)) % 4)) (W 0)) 6 0 1 = nI o
        rw [ka_sp_n (by decide), r61]
      · show ka_sp V1 0 (sp_copy (W (2 + (o + (k - 1)) % 4)) (W 0)) 6 0 2 = nI (k - 1)
        rw [ka_sp_n (by decide), r6]
      · show RS c 1999 (ka_sp V1 0 (sp_copy (W (2 + (o + (k - 1)) % 4)) (W 0)) (2 + (o + t) % 4)) (sgF (rf_less M) t)
        rw [ka_sp_n (by omega), rn _ (by omega)]
        have e4 : sgF (rf_less M) t = sgF M t := by
          unfold sgF rf_less
          rw [pU_n (by decide)]
        rw [e4]
        exact h6 t (by omega)
    · show TXT (ka_sp V1 0 (sp_copy (W (2 + (o + (k - 1)) % 4)) (W 0)) 7) (rf_less M)
      rw [ka_sp_n (by decide), rn 7 (by decide)]
      exact h7.of rfl rfl (pU_j (fun _ => by decide)) (pU_n (by decide))
    · show ka_sp V1 0 (sp_copy (W (2 + (o + (k - 1)) % 4)) (W 0)) r = W r
      rw [ka_sp_n (by omega), rn r (by omega)]
