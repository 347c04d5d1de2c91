/-! the law's loop -/
def ka_Sc (X : ka_X) (b N : Nat) (xs : Nat → Int32) : Prop := match X with
  | (_, _, _, s, _, _, _, _, _, A0, _, _, _) => va_X b N xs s s.heap ∧ b < s.heap.size ∧ ¬ A0 b
section KL
variable {G : ka_G} {X : ka_X} {cc : ByteArray} {own : String} {nL d : Nat} {V : ka_W} {pc : Nat} {L st : List Value} {b N : Nat} {xs : Nat → Int32}
theorem ka_sld {x : Int32} (j : Nat) (hX : ka_Sc X b N xs) (hC : ka_C G X cc own nL d) (hj : j < N) (hN : N < 2 ^ 31) (hx : x = nI j) (hd : decode cc pc = .ok (.iaload, 1)) (kk : ka_I G X V (pc + 1) L (.int (xs j) :: st)) : ka_I G X V pc L (.int x :: .ref b :: st) := by
  obtain ⟨p, e, R, s, m, args, below, meth, c, A0, k, n, Q⟩ := X
  intro H locs ls hP hS hL
  subst hx
  have ej : (nI j).toNatClampNeg = j := cn_nI (by omega)
  refine va_sld hC.1 hC.2.1 hX.1 hX.2.1 hX.2.2 hS (vp_in_nI hj hN) hd ?_
  rw [ej]
  exact kk H locs ls hP hS hL
theorem ka_slen (hX : ka_Sc X b N xs) (hC : ka_C G X cc own nL d) (hd : decode cc pc = .ok (.arraylength, 1)) (kk : ka_I G X V (pc + 1) L (.int (nI N) :: st)) : ka_I G X V pc L (.ref b :: st) := by
  obtain ⟨p, e, R, s, m, args, below, meth, c, A0, k, n, Q⟩ := X
  intro H locs ls hP hS hL
  exact va_slen hC.1 hC.2.1 hX.1 hX.2.1 hX.2.2 hS hd (kk H locs ls hP hS hL)
end KL
theorem ls_len {N j : Nat} (hN : N ≤ 2560) (hj : 5 * j ≤ N) (c : ¬ nI N - 5 < nI (5 * j)) : 5 * j + 5 ≤ N := by
  rcases Nat.lt_or_ge N 5 with h | h
  · exfalso
    refine c ?_
    rcases (show N = 0 ∨ N = 1 ∨ N = 2 ∨ N = 3 ∨ N = 4 by omega) with rfl | rfl | rfl | rfl | rfl <;> (obtain rfl : j = 0 := (by omega)) <;> decide
  · rcases Nat.lt_or_ge N (5 * j + 5) with h2 | h2
    · exfalso
      refine c ?_
      show nI N - nI 5 < nI (5 * j)
      rw [nI_sub h]
      exact nI_lt (a := N - 5) (b := 5 * j) (by omega) (by omega)
    · exact h2
abbrev ls_L (G : ka_G) (b j : Nat) : List Value := [.ref b, .ref (ka_ad G 8 0), .ref (ka_ad G 9 0), .int (nI (5 * j))]
section LS
variable {G : ka_G} {X : ka_X} {V : ka_W} {M : ka_P} {S : ka_F} {b N j : Nat} {xs : Nat → Int32}
set_option maxHeartbeats 4000000 in
set_option maxRecDepth 100000 in
theorem ls_mine (hC : ka_C G X cL_law RL 4 11) (hG : ka_AD G) (hX : ka_Sc X b N xs) (hN : N ≤ 2560) (hlen : 5 * j + 5 ≤ N) (hc : 60 * j < 39000) (h9 : V 9 = ka_s2 M 1 S) (hT : TOP (60 * j) V M S) (hnext : ∀ (V' : ka_W) (M' : ka_P) (S' : ka_F), V' 9 = ka_s2 M' 1 S' → TOP (60 * j + 60) V' M' S' → ka_I G X V' 712 (ls_L G b j) []) : ka_I G X V 136 (ls_L G b j) [] := by
  have hst := st_mine (x := (xs (5 * j + 1))) hT
  refine ka_aload_n hC dL_law_136 rfl ?_
  refine ka_aload_n hC dL_law_137 rfl ?_
  refine ka_iload_n hC dL_law_138 rfl ?_
  refine ka_iconst (v := 1) hC dL_law_139 rfl ?_
  refine ka_iadd hC dL_law_140 ?_
  refine ka_sld (5 * j + 1) hX hC (by omega) (by omega) (nI_add (5 * j) 1) dL_law_141 ?_
  refine ka_callV hC (m_X6_mine hG) ka_Rc_coal rfl ka_q_ml_L_13 ka_q_im_X6_mine ka_q_se_X6_mine ka_q_in_X6 ka_q_co_X6_mine ky_X6_mine (by decide) (by decide) (Nat.le_of_ble_eq_true rfl) rfl dL_law_142 ?_
  refine ka_aload_n hC dL_law_145 rfl ?_
  refine ka_aload_n hC dL_law_146 rfl ?_
  refine ka_iload_n hC dL_law_147 rfl ?_
  refine ka_iconst (v := 1) hC dL_law_148 rfl ?_
  refine ka_iadd hC dL_law_149 ?_
  refine ka_sld (5 * j + 1) hX hC (by omega) (by omega) (nI_add (5 * j) 1) dL_law_150 ?_
  refine ka_I.eqW (STEP.w (c := 0) h9 hst.2.1) ?_
  refine ka_callV hC (m_X7_mine hG hT.mk hT.t4) ka_Rc_model rfl ka_q_ml_L_17 ka_q_im_X7_mine ka_q_se_X7_mine ka_q_in_X7 ka_q_co_X7_mine ky_X7_mine (by decide) (by decide) (Nat.le_of_ble_eq_true rfl) rfl dL_law_151 ?_
  refine ka_icmp_eq (tgt := 712) hC dL_law_154 (by decide) (fun _ => ?_) (fun h => absurd hst.1 h)
  obtain ⟨_, _, M', S', eW, hT'⟩ := hst
  refine ka_I.eqW eW ?_
  exact hnext _ M' S' ka_ms_9 hT'.ms
set_option maxHeartbeats 4000000 in
set_option maxRecDepth 100000 in
theorem ls_leg (hC : ka_C G X cL_law RL 4 11) (hG : ka_AD G) (hX : ka_Sc X b N xs) (hN : N ≤ 2560) (hlen : 5 * j + 5 ≤ N) (hc : 60 * j < 39000) (h9 : V 9 = ka_s2 M 1 S) (hT : TOP (60 * j) V M S) (hnext : ∀ (V' : ka_W) (M' : ka_P) (S' : ka_F), V' 9 = ka_s2 M' 1 S' → TOP (60 * j + 60) V' M' S' → ka_I G X V' 712 (ls_L G b j) []) : ka_I G X V 159 (ls_L G b j) [] := by
  have hst := st_leg (x := (xs (5 * j + 1))) (y := (xs (5 * j + 2))) (v := (xs (5 * j + 3))) hT
  refine ka_aload_n hC dL_law_159 rfl ?_
  refine ka_aload_n hC dL_law_160 rfl ?_
  refine ka_iload_n hC dL_law_161 rfl ?_
  refine ka_iconst (v := 1) hC dL_law_162 rfl ?_
  refine ka_iadd hC dL_law_163 ?_
  refine ka_sld (5 * j + 1) hX hC (by omega) (by omega) (nI_add (5 * j) 1) dL_law_164 ?_
  refine ka_aload_n hC dL_law_165 rfl ?_
  refine ka_iload_n hC dL_law_166 rfl ?_
  refine ka_iconst (v := 2) hC dL_law_167 rfl ?_
  refine ka_iadd hC dL_law_168 ?_
  refine ka_sld (5 * j + 2) hX hC (by omega) (by omega) (nI_add (5 * j) 2) dL_law_169 ?_
  refine ka_aload_n hC dL_law_170 rfl ?_
  refine ka_iload_n hC dL_law_171 rfl ?_
  refine ka_iconst (v := 3) hC dL_law_172 rfl ?_
  refine ka_iadd hC dL_law_173 ?_
  refine ka_sld (5 * j + 3) hX hC (by omega) (by omega) (nI_add (5 * j) 3) dL_law_174 ?_
  refine ka_callV hC (m_X6_leg hG) ka_Rc_coal rfl ka_q_ml_L_18 ka_q_im_X6_leg ka_q_se_X6_leg ka_q_in_X6 ka_q_co_X6_leg ky_X6_leg (by decide) (by decide) (Nat.le_of_ble_eq_true rfl) rfl dL_law_175 ?_
  refine ka_aload_n hC dL_law_178 rfl ?_
  refine ka_aload_n hC dL_law_179 rfl ?_
  refine ka_iload_n hC dL_law_180 rfl ?_
  refine ka_iconst (v := 1) hC dL_law_181 rfl ?_
  refine ka_iadd hC dL_law_182 ?_
  refine ka_sld (5 * j + 1) hX hC (by omega) (by omega) (nI_add (5 * j) 1) dL_law_183 ?_
  refine ka_aload_n hC dL_law_184 rfl ?_
  refine ka_iload_n hC dL_law_185 rfl ?_
  refine ka_iconst (v := 2) hC dL_law_186 rfl ?_
  refine ka_iadd hC dL_law_187 ?_
  refine ka_sld (5 * j + 2) hX hC (by omega) (by omega) (nI_add (5 * j) 2) dL_law_188 ?_
  refine ka_aload_n hC dL_law_189 rfl ?_
  refine ka_iload_n hC dL_law_190 rfl ?_
  refine ka_iconst (v := 3) hC dL_law_191 rfl ?_
  refine ka_iadd hC dL_law_192 ?_
  refine ka_sld (5 * j + 3) hX hC (by omega) (by omega) (nI_add (5 * j) 3) dL_law_193 ?_
  refine ka_I.eqW (STEP.w (c := 0) h9 hst.2.1) ?_
  refine ka_callV hC (m_X7_leg hG hT.mk hT.t4) ka_Rc_model rfl ka_q_ml_L_22 ka_q_im_X7_leg ka_q_se_X7_leg ka_q_in_X7 ka_q_co_X7_leg ky_X7_leg (by decide) (by decide) (Nat.le_of_ble_eq_true rfl) rfl dL_law_194 ?_
  refine ka_icmp_eq (tgt := 712) hC dL_law_197 (by decide) (fun _ => ?_) (fun h => absurd hst.1 h)
  obtain ⟨_, _, M', S', eW, hT'⟩ := hst
  refine ka_I.eqW eW ?_
  exact hnext _ M' S' ka_ms_9 hT'.ms
set_option maxHeartbeats 4000000 in
set_option maxRecDepth 100000 in
theorem ls_wagon (hC : ka_C G X cL_law RL 4 11) (hG : ka_AD G) (hX : ka_Sc X b N xs) (hN : N ≤ 2560) (hlen : 5 * j + 5 ≤ N) (hc : 60 * j < 39000) (h9 : V 9 = ka_s2 M 1 S) (hT : TOP (60 * j) V M S) (hnext : ∀ (V' : ka_W) (M' : ka_P) (S' : ka_F), V' 9 = ka_s2 M' 1 S' → TOP (60 * j + 60) V' M' S' → ka_I G X V' 712 (ls_L G b j) []) : ka_I G X V 202 (ls_L G b j) [] := by
  have hst := st_wagon (x := (xs (5 * j + 1))) hT
  refine ka_aload_n hC dL_law_202 rfl ?_
  refine ka_aload_n hC dL_law_203 rfl ?_
  refine ka_iload_n hC dL_law_204 rfl ?_
  refine ka_iconst (v := 1) hC dL_law_205 rfl ?_
  refine ka_iadd hC dL_law_206 ?_
  refine ka_sld (5 * j + 1) hX hC (by omega) (by omega) (nI_add (5 * j) 1) dL_law_207 ?_
  refine ka_callV hC (m_X6_wagon hG) ka_Rc_coal rfl ka_q_ml_L_23 ka_q_im_X6_wagon ka_q_se_X6_wagon ka_q_in_X6 ka_q_co_X6_wagon ky_X6_wagon (by decide) (by decide) (Nat.le_of_ble_eq_true rfl) rfl dL_law_208 ?_
  refine ka_aload_n hC dL_law_211 rfl ?_
  refine ka_aload_n hC dL_law_212 rfl ?_
  refine ka_iload_n hC dL_law_213 rfl ?_
  refine ka_iconst (v := 1) hC dL_law_214 rfl ?_
  refine ka_iadd hC dL_law_215 ?_
  refine ka_sld (5 * j + 1) hX hC (by omega) (by omega) (nI_add (5 * j) 1) dL_law_216 ?_
  refine ka_I.eqW (STEP.w (c := 0) h9 hst.2.1) ?_
  refine ka_callV hC (m_X7_wagon hG hT.mk hT.t4 (by decide)) ka_Rc_model rfl ka_q_ml_L_26 ka_q_im_X7_wagon ka_q_se_X7_wagon ka_q_in_X7 ka_q_co_X7_wagon ky_X7_wagon (by decide) (by decide) (Nat.le_of_ble_eq_true rfl) rfl dL_law_217 ?_
  refine ka_icmp_eq (tgt := 712) hC dL_law_220 (by decide) (fun _ => ?_) (fun h => absurd hst.1 h)
  obtain ⟨_, _, M', S', eW, hT'⟩ := hst
  refine ka_I.eqW eW ?_
  exact hnext _ M' S' ka_ms_9 hT'.ms
set_option maxHeartbeats 4000000 in
set_option maxRecDepth 100000 in
theorem ls_load (hC : ka_C G X cL_law RL 4 11) (hG : ka_AD G) (hX : ka_Sc X b N xs) (hN : N ≤ 2560) (hlen : 5 * j + 5 ≤ N) (hc : 60 * j < 39000) (h9 : V 9 = ka_s2 M 1 S) (hT : TOP (60 * j) V M S) (hnext : ∀ (V' : ka_W) (M' : ka_P) (S' : ka_F), V' 9 = ka_s2 M' 1 S' → TOP (60 * j + 60) V' M' S' → ka_I G X V' 712 (ls_L G b j) []) : ka_I G X V 225 (ls_L G b j) [] := by
  have hst := st_load (x := (xs (5 * j + 1))) hT
  refine ka_aload_n hC dL_law_225 rfl ?_
  refine ka_aload_n hC dL_law_226 rfl ?_
  refine ka_iload_n hC dL_law_227 rfl ?_
  refine ka_iconst (v := 1) hC dL_law_228 rfl ?_
  refine ka_iadd hC dL_law_229 ?_
  refine ka_sld (5 * j + 1) hX hC (by omega) (by omega) (nI_add (5 * j) 1) dL_law_230 ?_
  refine ka_callV hC (m_X6_load hG) ka_Rc_coal rfl ka_q_ml_L_27 ka_q_im_X6_load ka_q_se_X6_load ka_q_in_X6 ka_q_co_X6_load ky_X6_load (by decide) (by decide) (Nat.le_of_ble_eq_true rfl) rfl dL_law_231 ?_
  refine ka_aload_n hC dL_law_234 rfl ?_
  refine ka_aload_n hC dL_law_235 rfl ?_
  refine ka_iload_n hC dL_law_236 rfl ?_
  refine ka_iconst (v := 1) hC dL_law_237 rfl ?_
  refine ka_iadd hC dL_law_238 ?_
  refine ka_sld (5 * j + 1) hX hC (by omega) (by omega) (nI_add (5 * j) 1) dL_law_239 ?_
  refine ka_I.eqW (STEP.w (c := 0) h9 hst.2.1) ?_
  refine ka_callV hC (m_X7_load hG hT.mk hT.t4 (by decide)) ka_Rc_model rfl ka_q_ml_L_30 ka_q_im_X7_load ka_q_se_X7_load ka_q_in_X7 ka_q_co_X7_load ky_X7_load (by decide) (by decide) (Nat.le_of_ble_eq_true rfl) rfl dL_law_240 ?_
  refine ka_icmp_eq (tgt := 712) hC dL_law_243 (by decide) (fun _ => ?_) (fun h => absurd hst.1 h)
  obtain ⟨_, _, M', S', eW, hT'⟩ := hst
  refine ka_I.eqW eW ?_
  exact hnext _ M' S' ka_ms_9 hT'.ms
set_option maxHeartbeats 4000000 in
set_option maxRecDepth 100000 in
theorem ls_unload (hC : ka_C G X cL_law RL 4 11) (hG : ka_AD G) (hX : ka_Sc X b N xs) (hN : N ≤ 2560) (hlen : 5 * j + 5 ≤ N) (hc : 60 * j < 39000) (h9 : V 9 = ka_s2 M 1 S) (hT : TOP (60 * j) V M S) (hnext : ∀ (V' : ka_W) (M' : ka_P) (S' : ka_F), V' 9 = ka_s2 M' 1 S' → TOP (60 * j + 60) V' M' S' → ka_I G X V' 712 (ls_L G b j) []) : ka_I G X V 248 (ls_L G b j) [] := by
  have hst := st_unload (x := (xs (5 * j + 1))) hT hc
  refine ka_aload_n hC dL_law_248 rfl ?_
  refine ka_aload_n hC dL_law_249 rfl ?_
  refine ka_iload_n hC dL_law_250 rfl ?_
  refine ka_iconst (v := 1) hC dL_law_251 rfl ?_
  refine ka_iadd hC dL_law_252 ?_
  refine ka_sld (5 * j + 1) hX hC (by omega) (by omega) (nI_add (5 * j) 1) dL_law_253 ?_
  refine ka_callV hC (m_X6_unload hG) ka_Rc_coal rfl ka_q_ml_L_31 ka_q_im_X6_unload ka_q_se_X6_unload ka_q_in_X6 ka_q_co_X6_unload ky_X6_unload (by decide) (by decide) (Nat.le_of_ble_eq_true rfl) rfl dL_law_254 ?_
  refine ka_aload_n hC dL_law_257 rfl ?_
  refine ka_aload_n hC dL_law_258 rfl ?_
  refine ka_iload_n hC dL_law_259 rfl ?_
  refine ka_iconst (v := 1) hC dL_law_260 rfl ?_
  refine ka_iadd hC dL_law_261 ?_
  refine ka_sld (5 * j + 1) hX hC (by omega) (by omega) (nI_add (5 * j) 1) dL_law_262 ?_
  refine ka_I.eqW (STEP.w (c := 0) h9 hst.2.1) ?_
  refine ka_callV hC (m_X7_unload hG hT.mk hT.t4 (by decide)) ka_Rc_model rfl ka_q_ml_L_34 ka_q_im_X7_unload ka_q_se_X7_unload ka_q_in_X7 ka_q_co_X7_unload ky_X7_unload (by decide) (by decide) (Nat.le_of_ble_eq_true rfl) rfl dL_law_263 ?_
  refine ka_icmp_eq (tgt := 712) hC dL_law_266 (by decide) (fun _ => ?_) (fun h => absurd hst.1 h)
  obtain ⟨_, _, M', S', eW, hT'⟩ := hst
  refine ka_I.eqW eW ?_
  exact hnext _ M' S' ka_ms_9 hT'.ms
set_option maxHeartbeats 4000000 in
set_option maxRecDepth 100000 in
theorem ls_repair (hC : ka_C G X cL_law RL 4 11) (hG : ka_AD G) (hX : ka_Sc X b N xs) (hN : N ≤ 2560) (hlen : 5 * j + 5 ≤ N) (hc : 60 * j < 39000) (h9 : V 9 = ka_s2 M 1 S) (hT : TOP (60 * j) V M S) (hnext : ∀ (V' : ka_W) (M' : ka_P) (S' : ka_F), V' 9 = ka_s2 M' 1 S' → TOP (60 * j + 60) V' M' S' → ka_I G X V' 712 (ls_L G b j) []) : ka_I G X V 271 (ls_L G b j) [] := by
  have hst := st_repair (x := (xs (5 * j + 1))) hT hc
  refine ka_aload_n hC dL_law_271 rfl ?_
  refine ka_aload_n hC dL_law_272 rfl ?_
  refine ka_iload_n hC dL_law_273 rfl ?_
  refine ka_iconst (v := 1) hC dL_law_274 rfl ?_
  refine ka_iadd hC dL_law_275 ?_
  refine ka_sld (5 * j + 1) hX hC (by omega) (by omega) (nI_add (5 * j) 1) dL_law_276 ?_
  refine ka_callV hC (m_X6_repair hG) ka_Rc_coal rfl ka_q_ml_L_35 ka_q_im_X6_repair ka_q_se_X6_repair ka_q_in_X6 ka_q_co_X6_repair ky_X6_repair (by decide) (by decide) (Nat.le_of_ble_eq_true rfl) rfl dL_law_277 ?_
  refine ka_aload_n hC dL_law_280 rfl ?_
  refine ka_aload_n hC dL_law_281 rfl ?_
  refine ka_iload_n hC dL_law_282 rfl ?_
  refine ka_iconst (v := 1) hC dL_law_283 rfl ?_
  refine ka_iadd hC dL_law_284 ?_
  refine ka_sld (5 * j + 1) hX hC (by omega) (by omega) (nI_add (5 * j) 1) dL_law_285 ?_
  refine ka_I.eqW (STEP.w (c := 0) h9 hst.2.1) ?_
  refine ka_callV hC (m_X7_repair hG hT.mk hT.t4 (by decide)) ka_Rc_model rfl ka_q_ml_L_38 ka_q_im_X7_repair ka_q_se_X7_repair ka_q_in_X7 ka_q_co_X7_repair ky_X7_repair (by decide) (by decide) (Nat.le_of_ble_eq_true rfl) rfl dL_law_286 ?_
  refine ka_icmp_eq (tgt := 712) hC dL_law_289 (by decide) (fun _ => ?_) (fun h => absurd hst.1 h)
  obtain ⟨_, _, M', S', eW, hT'⟩ := hst
  refine ka_I.eqW eW ?_
  exact hnext _ M' S' ka_ms_9 hT'.ms
set_option maxHeartbeats 4000000 in
set_option maxRecDepth 100000 in
theorem ls_train (hC : ka_C G X cL_law RL 4 11) (hG : ka_AD G) (hX : ka_Sc X b N xs) (hN : N ≤ 2560) (hlen : 5 * j + 5 ≤ N) (hc : 60 * j < 39000) (h9 : V 9 = ka_s2 M 1 S) (hT : TOP (60 * j) V M S) (hnext : ∀ (V' : ka_W) (M' : ka_P) (S' : ka_F), V' 9 = ka_s2 M' 1 S' → TOP (60 * j + 60) V' M' S' → ka_I G X V' 712 (ls_L G b j) []) : ka_I G X V 294 (ls_L G b j) [] := by
  have hst := st_train (x := (xs (5 * j + 1))) (y := (xs (5 * j + 2))) (k := (xs (5 * j + 3))) (n := (xs (5 * j + 4))) hT
  refine ka_aload_n hC dL_law_294 rfl ?_
  refine ka_aload_n hC dL_law_295 rfl ?_
  refine ka_iload_n hC dL_law_296 rfl ?_
  refine ka_iconst (v := 1) hC dL_law_297 rfl ?_
  refine ka_iadd hC dL_law_298 ?_
  refine ka_sld (5 * j + 1) hX hC (by omega) (by omega) (nI_add (5 * j) 1) dL_law_299 ?_
  refine ka_aload_n hC dL_law_300 rfl ?_
  refine ka_iload_n hC dL_law_301 rfl ?_
  refine ka_iconst (v := 2) hC dL_law_302 rfl ?_
  refine ka_iadd hC dL_law_303 ?_
  refine ka_sld (5 * j + 2) hX hC (by omega) (by omega) (nI_add (5 * j) 2) dL_law_304 ?_
  refine ka_aload_n hC dL_law_305 rfl ?_
  refine ka_iload_n hC dL_law_306 rfl ?_
  refine ka_iconst (v := 3) hC dL_law_307 rfl ?_
  refine ka_iadd hC dL_law_308 ?_
  refine ka_sld (5 * j + 3) hX hC (by omega) (by omega) (nI_add (5 * j) 3) dL_law_309 ?_
  refine ka_aload_n hC dL_law_310 rfl ?_
  refine ka_iload_n hC dL_law_311 rfl ?_
  refine ka_iconst (v := 4) hC dL_law_312 rfl ?_
  refine ka_iadd hC dL_law_313 ?_
  refine ka_sld (5 * j + 4) hX hC (by omega) (by omega) (nI_add (5 * j) 4) dL_law_314 ?_
  refine ka_callV hC (m_X6_train hG) ka_Rc_coal rfl ka_q_ml_L_39 ka_q_im_X6_train ka_q_se_X6_train ka_q_in_X6 ka_q_co_X6_train ky_X6_train (by decide) (by decide) (Nat.le_of_ble_eq_true rfl) rfl dL_law_315 ?_
  refine ka_aload_n hC dL_law_318 rfl ?_
  refine ka_aload_n hC dL_law_319 rfl ?_
  refine ka_iload_n hC dL_law_320 rfl ?_
  refine ka_iconst (v := 1) hC dL_law_321 rfl ?_
  refine ka_iadd hC dL_law_322 ?_
  refine ka_sld (5 * j + 1) hX hC (by omega) (by omega) (nI_add (5 * j) 1) dL_law_323 ?_
  refine ka_aload_n hC dL_law_324 rfl ?_
  refine ka_iload_n hC dL_law_325 rfl ?_
  refine ka_iconst (v := 2) hC dL_law_326 rfl ?_
  refine ka_iadd hC dL_law_327 ?_
  refine ka_sld (5 * j + 2) hX hC (by omega) (by omega) (nI_add (5 * j) 2) dL_law_328 ?_
  refine ka_aload_n hC dL_law_329 rfl ?_
  refine ka_iload_n hC dL_law_330 rfl ?_
  refine ka_iconst (v := 3) hC dL_law_331 rfl ?_
  refine ka_iadd hC dL_law_332 ?_
  refine ka_sld (5 * j + 3) hX hC (by omega) (by omega) (nI_add (5 * j) 3) dL_law_333 ?_
  refine ka_aload_n hC dL_law_334 rfl ?_
  refine ka_iload_n hC dL_law_335 rfl ?_
  refine ka_iconst (v := 4) hC dL_law_336 rfl ?_
  refine ka_iadd hC dL_law_337 ?_
  refine ka_sld (5 * j + 4) hX hC (by omega) (by omega) (nI_add (5 * j) 4) dL_law_338 ?_
  refine ka_I.eqW (STEP.w (c := 0) h9 hst.2.1) ?_
  refine ka_callV hC (m_X7_train hG hT.mk hT.t4 (by decide)) ka_Rc_model rfl ka_q_ml_L_43 ka_q_im_X7_train ka_q_se_X7_train ka_q_in_X7 ka_q_co_X7_train ky_X7_train (by decide) (by decide) (Nat.le_of_ble_eq_true rfl) rfl dL_law_339 ?_
  refine ka_icmp_eq (tgt := 712) hC dL_law_342 (by decide) (fun _ => ?_) (fun h => absurd hst.1 h)
  obtain ⟨_, _, M', S', eW, hT'⟩ := hst
  refine ka_I.eqW eW ?_
  exact hnext _ M' S' ka_ms_9 hT'.ms
set_option maxHeartbeats 4000000 in
set_option maxRecDepth 100000 in
theorem ls_pass (hC : ka_C G X cL_law RL 4 11) (hG : ka_AD G) (hX : ka_Sc X b N xs) (hN : N ≤ 2560) (hlen : 5 * j + 5 ≤ N) (hc : 60 * j < 39000) (h9 : V 9 = ka_s2 M 1 S) (hT : TOP (60 * j) V M S) (hnext : ∀ (V' : ka_W) (M' : ka_P) (S' : ka_F), V' 9 = ka_s2 M' 1 S' → TOP (60 * j + 60) V' M' S' → ka_I G X V' 712 (ls_L G b j) []) : ka_I G X V 347 (ls_L G b j) [] := by
  have hst := st_pass (x := (xs (5 * j + 1))) hT hc
  refine ka_aload_n hC dL_law_347 rfl ?_
  refine ka_aload_n hC dL_law_348 rfl ?_
  refine ka_iload_n hC dL_law_349 rfl ?_
  refine ka_iconst (v := 1) hC dL_law_350 rfl ?_
  refine ka_iadd hC dL_law_351 ?_
  refine ka_sld (5 * j + 1) hX hC (by omega) (by omega) (nI_add (5 * j) 1) dL_law_352 ?_
  refine ka_callV hC (m_X6_pass hG hT.gd.1) ka_Rc_coal rfl ka_q_ml_L_44 ka_q_im_X6_pass ka_q_se_X6_pass ka_q_in_X6 ka_q_co_X6_pass ky_X6_pass (by decide) (by decide) (Nat.le_of_ble_eq_true rfl) rfl dL_law_353 ?_
  refine ka_aload_n hC dL_law_356 rfl ?_
  refine ka_aload_n hC dL_law_357 rfl ?_
  refine ka_iload_n hC dL_law_358 rfl ?_
  refine ka_iconst (v := 1) hC dL_law_359 rfl ?_
  refine ka_iadd hC dL_law_360 ?_
  refine ka_sld (5 * j + 1) hX hC (by omega) (by omega) (nI_add (5 * j) 1) dL_law_361 ?_
  refine ka_I.eqW (STEP.w (c := 0) h9 hst.2.1) ?_
  refine ka_callV hC (m_X7_pass hG hT.mk hT.t4 (by decide)) ka_Rc_model rfl ka_q_ml_L_47 ka_q_im_X7_pass ka_q_se_X7_pass ka_q_in_X7 ka_q_co_X7_pass ky_X7_pass (by decide) (by decide) (Nat.le_of_ble_eq_true rfl) rfl dL_law_362 ?_
  refine ka_icmp_eq (tgt := 712) hC dL_law_365 (by decide) (fun _ => ?_) (fun h => absurd hst.1 h)
  obtain ⟨_, _, M', S', eW, hT'⟩ := hst
  refine ka_I.eqW eW ?_
  exact hnext _ M' S' ka_ms_9 hT'.ms
set_option maxHeartbeats 4000000 in
set_option maxRecDepth 100000 in
theorem ls_set (hC : ka_C G X cL_law RL 4 11) (hG : ka_AD G) (hX : ka_Sc X b N xs) (hN : N ≤ 2560) (hlen : 5 * j + 5 ≤ N) (hc : 60 * j < 39000) (h9 : V 9 = ka_s2 M 1 S) (hT : TOP (60 * j) V M S) (hnext : ∀ (V' : ka_W) (M' : ka_P) (S' : ka_F), V' 9 = ka_s2 M' 1 S' → TOP (60 * j + 60) V' M' S' → ka_I G X V' 712 (ls_L G b j) []) : ka_I G X V 370 (ls_L G b j) [] := by
  have hst := st_set (x := (xs (5 * j + 1))) (v := (xs (5 * j + 2))) hT
  refine ka_aload_n hC dL_law_370 rfl ?_
  refine ka_aload_n hC dL_law_371 rfl ?_
  refine ka_iload_n hC dL_law_372 rfl ?_
  refine ka_iconst (v := 1) hC dL_law_373 rfl ?_
  refine ka_iadd hC dL_law_374 ?_
  refine ka_sld (5 * j + 1) hX hC (by omega) (by omega) (nI_add (5 * j) 1) dL_law_375 ?_
  refine ka_aload_n hC dL_law_376 rfl ?_
  refine ka_iload_n hC dL_law_377 rfl ?_
  refine ka_iconst (v := 2) hC dL_law_378 rfl ?_
  refine ka_iadd hC dL_law_379 ?_
  refine ka_sld (5 * j + 2) hX hC (by omega) (by omega) (nI_add (5 * j) 2) dL_law_380 ?_
  refine ka_callV hC (m_X6_set hG) ka_Rc_coal rfl ka_q_ml_L_48 ka_q_im_X6_set ka_q_se_X6_set ka_q_in_X6 ka_q_co_X6_set ky_X6_set (by decide) (by decide) (Nat.le_of_ble_eq_true rfl) rfl dL_law_381 ?_
  refine ka_aload_n hC dL_law_384 rfl ?_
  refine ka_aload_n hC dL_law_385 rfl ?_
  refine ka_iload_n hC dL_law_386 rfl ?_
  refine ka_iconst (v := 1) hC dL_law_387 rfl ?_
  refine ka_iadd hC dL_law_388 ?_
  refine ka_sld (5 * j + 1) hX hC (by omega) (by omega) (nI_add (5 * j) 1) dL_law_389 ?_
  refine ka_aload_n hC dL_law_390 rfl ?_
  refine ka_iload_n hC dL_law_391 rfl ?_
  refine ka_iconst (v := 2) hC dL_law_392 rfl ?_
  refine ka_iadd hC dL_law_393 ?_
  refine ka_sld (5 * j + 2) hX hC (by omega) (by omega) (nI_add (5 * j) 2) dL_law_394 ?_
  refine ka_I.eqW (STEP.w (c := 0) h9 hst.2.1) ?_
  refine ka_callV hC (m_X7_set hG hT.mk hT.t4) ka_Rc_model rfl ka_q_ml_L_52 ka_q_im_X7_set ka_q_se_X7_set ka_q_in_X7 ka_q_co_X7_set ky_X7_set (by decide) (by decide) (Nat.le_of_ble_eq_true rfl) rfl dL_law_395 ?_
  refine ka_icmp_eq (tgt := 712) hC dL_law_398 (by decide) (fun _ => ?_) (fun h => absurd hst.1 h)
  obtain ⟨_, _, M', S', eW, hT'⟩ := hst
  refine ka_I.eqW eW ?_
  exact hnext _ M' S' ka_ms_9 hT'.ms
set_option maxHeartbeats 4000000 in
set_option maxRecDepth 100000 in
theorem ls_wagonOf (hC : ka_C G X cL_law RL 4 11) (hG : ka_AD G) (hX : ka_Sc X b N xs) (hN : N ≤ 2560) (hlen : 5 * j + 5 ≤ N) (hc : 60 * j < 39000) (h9 : V 9 = ka_s2 M 1 S) (hT : TOP (60 * j) V M S) (hnext : ∀ (V' : ka_W) (M' : ka_P) (S' : ka_F), V' 9 = ka_s2 M' 1 S' → TOP (60 * j + 60) V' M' S' → ka_I G X V' 712 (ls_L G b j) []) : ka_I G X V 403 (ls_L G b j) [] := by
  have hst := st_ask hT (ask_wagon (x := (xs (5 * j + 1))) (y := (xs (5 * j + 2))) hT.1)
  refine ka_aload_n hC dL_law_403 rfl ?_
  refine ka_aload_n hC dL_law_404 rfl ?_
  refine ka_iload_n hC dL_law_405 rfl ?_
  refine ka_iconst (v := 1) hC dL_law_406 rfl ?_
  refine ka_iadd hC dL_law_407 ?_
  refine ka_sld (5 * j + 1) hX hC (by omega) (by omega) (nI_add (5 * j) 1) dL_law_408 ?_
  refine ka_aload_n hC dL_law_409 rfl ?_
  refine ka_iload_n hC dL_law_410 rfl ?_
  refine ka_iconst (v := 2) hC dL_law_411 rfl ?_
  refine ka_iadd hC dL_law_412 ?_
  refine ka_sld (5 * j + 2) hX hC (by omega) (by omega) (nI_add (5 * j) 2) dL_law_413 ?_
  refine ka_callV hC (m_X6_wagonOf hG) ka_Rc_coal rfl ka_q_ml_L_53 ka_q_im_X6_wagonOf ka_q_se_X6_wagonOf ka_q_in_X6 ka_q_co_X6_wagonOf ky_X6_wagonOf (by decide) (by decide) (Nat.le_of_ble_eq_true rfl) rfl dL_law_414 ?_
  refine ka_aload_n hC dL_law_417 rfl ?_
  refine ka_aload_n hC dL_law_418 rfl ?_
  refine ka_iload_n hC dL_law_419 rfl ?_
  refine ka_iconst (v := 1) hC dL_law_420 rfl ?_
  refine ka_iadd hC dL_law_421 ?_
  refine ka_sld (5 * j + 1) hX hC (by omega) (by omega) (nI_add (5 * j) 1) dL_law_422 ?_
  refine ka_aload_n hC dL_law_423 rfl ?_
  refine ka_iload_n hC dL_law_424 rfl ?_
  refine ka_iconst (v := 2) hC dL_law_425 rfl ?_
  refine ka_iadd hC dL_law_426 ?_
  refine ka_sld (5 * j + 2) hX hC (by omega) (by omega) (nI_add (5 * j) 2) dL_law_427 ?_
  refine ka_I.eqW (STEP.w (c := 0) h9 hst.2.1) ?_
  refine ka_callV hC (m_X7_wagonOf hG hT.mk) ka_Rc_model rfl ka_q_ml_L_56 ka_q_im_X7_wagonOf ka_q_se_X7_wagonOf ka_q_in_X7 ka_q_co_X7_wagonOf ky_X7_wagonOf (by decide) (by decide) (Nat.le_of_ble_eq_true rfl) rfl dL_law_428 ?_
  refine ka_icmp_eq (tgt := 712) hC dL_law_431 (by decide) (fun _ => ?_) (fun h => absurd hst.1 h)
  obtain ⟨_, _, M', S', eW, hT'⟩ := hst
  refine ka_I.eqW eW ?_
  exact hnext _ M' S' ka_ms_9 hT'.ms
set_option maxHeartbeats 4000000 in
set_option maxRecDepth 100000 in
theorem ls_placeOf (hC : ka_C G X cL_law RL 4 11) (hG : ka_AD G) (hX : ka_Sc X b N xs) (hN : N ≤ 2560) (hlen : 5 * j + 5 ≤ N) (hc : 60 * j < 39000) (h9 : V 9 = ka_s2 M 1 S) (hT : TOP (60 * j) V M S) (hnext : ∀ (V' : ka_W) (M' : ka_P) (S' : ka_F), V' 9 = ka_s2 M' 1 S' → TOP (60 * j + 60) V' M' S' → ka_I G X V' 712 (ls_L G b j) []) : ka_I G X V 436 (ls_L G b j) [] := by
  have hst := st_ask hT (ask_place (x := (xs (5 * j + 1))) (y := (xs (5 * j + 2))) hT.1)
  refine ka_aload_n hC dL_law_436 rfl ?_
  refine ka_aload_n hC dL_law_437 rfl ?_
  refine ka_iload_n hC dL_law_438 rfl ?_
  refine ka_iconst (v := 1) hC dL_law_439 rfl ?_
  refine ka_iadd hC dL_law_440 ?_
  refine ka_sld (5 * j + 1) hX hC (by omega) (by omega) (nI_add (5 * j) 1) dL_law_441 ?_
  refine ka_aload_n hC dL_law_442 rfl ?_
  refine ka_iload_n hC dL_law_443 rfl ?_
  refine ka_iconst (v := 2) hC dL_law_444 rfl ?_
  refine ka_iadd hC dL_law_445 ?_
  refine ka_sld (5 * j + 2) hX hC (by omega) (by omega) (nI_add (5 * j) 2) dL_law_446 ?_
  refine ka_callV hC (m_X6_placeOf hG) ka_Rc_coal rfl ka_q_ml_L_57 ka_q_im_X6_placeOf ka_q_se_X6_placeOf ka_q_in_X6 ka_q_co_X6_placeOf ky_X6_placeOf (by decide) (by decide) (Nat.le_of_ble_eq_true rfl) rfl dL_law_447 ?_
  refine ka_aload_n hC dL_law_450 rfl ?_
  refine ka_aload_n hC dL_law_451 rfl ?_
  refine ka_iload_n hC dL_law_452 rfl ?_
  refine ka_iconst (v := 1) hC dL_law_453 rfl ?_
  refine ka_iadd hC dL_law_454 ?_
  refine ka_sld (5 * j + 1) hX hC (by omega) (by omega) (nI_add (5 * j) 1) dL_law_455 ?_
  refine ka_aload_n hC dL_law_456 rfl ?_
  refine ka_iload_n hC dL_law_457 rfl ?_
  refine ka_iconst (v := 2) hC dL_law_458 rfl ?_
  refine ka_iadd hC dL_law_459 ?_
  refine ka_sld (5 * j + 2) hX hC (by omega) (by omega) (nI_add (5 * j) 2) dL_law_460 ?_
  refine ka_I.eqW (STEP.w (c := 0) h9 hst.2.1) ?_
  refine ka_callV hC (m_X7_placeOf hG hT.mk) ka_Rc_model rfl ka_q_ml_L_60 ka_q_im_X7_placeOf ka_q_se_X7_placeOf ka_q_in_X7 ka_q_co_X7_placeOf ky_X7_placeOf (by decide) (by decide) (Nat.le_of_ble_eq_true rfl) rfl dL_law_461 ?_
  refine ka_icmp_eq (tgt := 712) hC dL_law_464 (by decide) (fun _ => ?_) (fun h => absurd hst.1 h)
  obtain ⟨_, _, M', S', eW, hT'⟩ := hst
  refine ka_I.eqW eW ?_
  exact hnext _ M' S' ka_ms_9 hT'.ms
set_option maxHeartbeats 4000000 in
set_option maxRecDepth 100000 in
theorem ls_days (hC : ka_C G X cL_law RL 4 11) (hG : ka_AD G) (hX : ka_Sc X b N xs) (hN : N ≤ 2560) (hlen : 5 * j + 5 ≤ N) (hc : 60 * j < 39000) (h9 : V 9 = ka_s2 M 1 S) (hT : TOP (60 * j) V M S) (hnext : ∀ (V' : ka_W) (M' : ka_P) (S' : ka_F), V' 9 = ka_s2 M' 1 S' → TOP (60 * j + 60) V' M' S' → ka_I G X V' 712 (ls_L G b j) []) : ka_I G X V 469 (ls_L G b j) [] := by
  have hst := st_ask hT (ask_days (x := (xs (5 * j + 1))) (y := (xs (5 * j + 2))) hT.1)
  refine ka_aload_n hC dL_law_469 rfl ?_
  refine ka_aload_n hC dL_law_470 rfl ?_
  refine ka_iload_n hC dL_law_471 rfl ?_
  refine ka_iconst (v := 1) hC dL_law_472 rfl ?_
  refine ka_iadd hC dL_law_473 ?_
  refine ka_sld (5 * j + 1) hX hC (by omega) (by omega) (nI_add (5 * j) 1) dL_law_474 ?_
  refine ka_aload_n hC dL_law_475 rfl ?_
  refine ka_iload_n hC dL_law_476 rfl ?_
  refine ka_iconst (v := 2) hC dL_law_477 rfl ?_
  refine ka_iadd hC dL_law_478 ?_
  refine ka_sld (5 * j + 2) hX hC (by omega) (by omega) (nI_add (5 * j) 2) dL_law_479 ?_
  refine ka_callV hC (m_X6_days hG) ka_Rc_coal rfl ka_q_ml_L_61 ka_q_im_X6_days ka_q_se_X6_days ka_q_in_X6 ka_q_co_X6_days ky_X6_days (by decide) (by decide) (Nat.le_of_ble_eq_true rfl) rfl dL_law_480 ?_
  refine ka_aload_n hC dL_law_483 rfl ?_
  refine ka_aload_n hC dL_law_484 rfl ?_
  refine ka_iload_n hC dL_law_485 rfl ?_
  refine ka_iconst (v := 1) hC dL_law_486 rfl ?_
  refine ka_iadd hC dL_law_487 ?_
  refine ka_sld (5 * j + 1) hX hC (by omega) (by omega) (nI_add (5 * j) 1) dL_law_488 ?_
  refine ka_aload_n hC dL_law_489 rfl ?_
  refine ka_iload_n hC dL_law_490 rfl ?_
  refine ka_iconst (v := 2) hC dL_law_491 rfl ?_
  refine ka_iadd hC dL_law_492 ?_
  refine ka_sld (5 * j + 2) hX hC (by omega) (by omega) (nI_add (5 * j) 2) dL_law_493 ?_
  refine ka_I.eqW (STEP.w (c := 0) h9 hst.2.1) ?_
  refine ka_callV hC (m_X7_days hG hT.mk) ka_Rc_model rfl ka_q_ml_L_64 ka_q_im_X7_days ka_q_se_X7_days ka_q_in_X7 ka_q_co_X7_days ky_X7_days (by decide) (by decide) (Nat.le_of_ble_eq_true rfl) rfl dL_law_494 ?_
  refine ka_icmp_eq (tgt := 712) hC dL_law_497 (by decide) (fun _ => ?_) (fun h => absurd hst.1 h)
  obtain ⟨_, _, M', S', eW, hT'⟩ := hst
  refine ka_I.eqW eW ?_
  exact hnext _ M' S' ka_ms_9 hT'.ms
set_option maxHeartbeats 4000000 in
set_option maxRecDepth 100000 in
theorem ls_would (hC : ka_C G X cL_law RL 4 11) (hG : ka_AD G) (hX : ka_Sc X b N xs) (hN : N ≤ 2560) (hlen : 5 * j + 5 ≤ N) (hc : 60 * j < 39000) (h9 : V 9 = ka_s2 M 1 S) (hT : TOP (60 * j) V M S) (hnext : ∀ (V' : ka_W) (M' : ka_P) (S' : ka_F), V' 9 = ka_s2 M' 1 S' → TOP (60 * j + 60) V' M' S' → ka_I G X V' 712 (ls_L G b j) []) : ka_I G X V 502 (ls_L G b j) [] := by
  have hst := st_would (x := (xs (5 * j + 1))) (y := (xs (5 * j + 2))) hT hc
  refine ka_aload_n hC dL_law_502 rfl ?_
  refine ka_aload_n hC dL_law_503 rfl ?_
  refine ka_iload_n hC dL_law_504 rfl ?_
  refine ka_iconst (v := 1) hC dL_law_505 rfl ?_
  refine ka_iadd hC dL_law_506 ?_
  refine ka_sld (5 * j + 1) hX hC (by omega) (by omega) (nI_add (5 * j) 1) dL_law_507 ?_
  refine ka_aload_n hC dL_law_508 rfl ?_
  refine ka_iload_n hC dL_law_509 rfl ?_
  refine ka_iconst (v := 2) hC dL_law_510 rfl ?_
  refine ka_iadd hC dL_law_511 ?_
  refine ka_sld (5 * j + 2) hX hC (by omega) (by omega) (nI_add (5 * j) 2) dL_law_512 ?_
  refine ka_callV hC (m_X6_would hG hT.gd.1) ka_Rc_coal rfl ka_q_ml_L_65 ka_q_im_X6_would ka_q_se_X6_would ka_q_in_X6 ka_q_co_X6_would ky_X6_would (by decide) (by decide) (Nat.le_of_ble_eq_true rfl) rfl dL_law_513 ?_
  refine ka_aload_n hC dL_law_516 rfl ?_
  refine ka_aload_n hC dL_law_517 rfl ?_
  refine ka_iload_n hC dL_law_518 rfl ?_
  refine ka_iconst (v := 1) hC dL_law_519 rfl ?_
  refine ka_iadd hC dL_law_520 ?_
  refine ka_sld (5 * j + 1) hX hC (by omega) (by omega) (nI_add (5 * j) 1) dL_law_521 ?_
  refine ka_aload_n hC dL_law_522 rfl ?_
  refine ka_iload_n hC dL_law_523 rfl ?_
  refine ka_iconst (v := 2) hC dL_law_524 rfl ?_
  refine ka_iadd hC dL_law_525 ?_
  refine ka_sld (5 * j + 2) hX hC (by omega) (by omega) (nI_add (5 * j) 2) dL_law_526 ?_
  refine ka_I.eqW (STEP.w (c := 0) h9 hst.2.1) ?_
  refine ka_callV hC (m_X7_would hG hT.mk (by decide)) ka_Rc_model rfl ka_q_ml_L_68 ka_q_im_X7_would ka_q_se_X7_would ka_q_in_X7 ka_q_co_X7_would ky_X7_would (by decide) (by decide) (Nat.le_of_ble_eq_true rfl) rfl dL_law_527 ?_
  refine ka_icmp_eq (tgt := 712) hC dL_law_530 (by decide) (fun _ => ?_) (fun h => absurd hst.1 h)
  obtain ⟨_, _, M', S', eW, hT'⟩ := hst
  refine ka_I.eqW eW ?_
  exact hnext _ M' S' ka_ms_9 hT'.ms
set_option maxHeartbeats 4000000 in
set_option maxRecDepth 100000 in
theorem ls_lacks (hC : ka_C G X cL_law RL 4 11) (hG : ka_AD G) (hX : ka_Sc X b N xs) (hN : N ≤ 2560) (hlen : 5 * j + 5 ≤ N) (hc : 60 * j < 39000) (h9 : V 9 = ka_s2 M 1 S) (hT : TOP (60 * j) V M S) (hnext : ∀ (V' : ka_W) (M' : ka_P) (S' : ka_F), V' 9 = ka_s2 M' 1 S' → TOP (60 * j + 60) V' M' S' → ka_I G X V' 712 (ls_L G b j) []) : ka_I G X V 535 (ls_L G b j) [] := by
  have hst := st_ask hT (ask_lacks (x := (xs (5 * j + 1))) hT.1)
  refine ka_aload_n hC dL_law_535 rfl ?_
  refine ka_aload_n hC dL_law_536 rfl ?_
  refine ka_iload_n hC dL_law_537 rfl ?_
  refine ka_iconst (v := 1) hC dL_law_538 rfl ?_
  refine ka_iadd hC dL_law_539 ?_
  refine ka_sld (5 * j + 1) hX hC (by omega) (by omega) (nI_add (5 * j) 1) dL_law_540 ?_
  refine ka_callV hC (m_X6_lacks hG) ka_Rc_coal rfl ka_q_ml_L_69 ka_q_im_X6_lacks ka_q_se_X6_lacks ka_q_in_X6 ka_q_co_X6_lacks ky_X6_lacks (by decide) (by decide) (Nat.le_of_ble_eq_true rfl) rfl dL_law_541 ?_
  refine ka_aload_n hC dL_law_544 rfl ?_
  refine ka_aload_n hC dL_law_545 rfl ?_
  refine ka_iload_n hC dL_law_546 rfl ?_
  refine ka_iconst (v := 1) hC dL_law_547 rfl ?_
  refine ka_iadd hC dL_law_548 ?_
  refine ka_sld (5 * j + 1) hX hC (by omega) (by omega) (nI_add (5 * j) 1) dL_law_549 ?_
  refine ka_I.eqW (STEP.w (c := 0) h9 hst.2.1) ?_
  refine ka_callV hC (m_X7_lacks hG hT.mk) ka_Rc_model rfl ka_q_ml_L_72 ka_q_im_X7_lacks ka_q_se_X7_lacks ka_q_in_X7 ka_q_co_X7_lacks ky_X7_lacks (by decide) (by decide) (Nat.le_of_ble_eq_true rfl) rfl dL_law_550 ?_
  refine ka_icmp_eq (tgt := 712) hC dL_law_553 (by decide) (fun _ => ?_) (fun h => absurd hst.1 h)
  obtain ⟨_, _, M', S', eW, hT'⟩ := hst
  refine ka_I.eqW eW ?_
  exact hnext _ M' S' ka_ms_9 hT'.ms
set_option maxHeartbeats 4000000 in
set_option maxRecDepth 100000 in
theorem ls_bestTrain (hC : ka_C G X cL_law RL 4 11) (hG : ka_AD G) (hX : ka_Sc X b N xs) (hN : N ≤ 2560) (hlen : 5 * j + 5 ≤ N) (hc : 60 * j < 39000) (h9 : V 9 = ka_s2 M 1 S) (hT : TOP (60 * j) V M S) (hnext : ∀ (V' : ka_W) (M' : ka_P) (S' : ka_F), V' 9 = ka_s2 M' 1 S' → TOP (60 * j + 60) V' M' S' → ka_I G X V' 712 (ls_L G b j) []) : ka_I G X V 558 (ls_L G b j) [] := by
  have hst := st_ask hT (ask_best (x := (xs (5 * j + 1))) hT.1)
  refine ka_aload_n hC dL_law_558 rfl ?_
  refine ka_aload_n hC dL_law_559 rfl ?_
  refine ka_iload_n hC dL_law_560 rfl ?_
  refine ka_iconst (v := 1) hC dL_law_561 rfl ?_
  refine ka_iadd hC dL_law_562 ?_
  refine ka_sld (5 * j + 1) hX hC (by omega) (by omega) (nI_add (5 * j) 1) dL_law_563 ?_
  refine ka_callV hC (m_X6_bestTrain hG hT.gd.1 hT.gd.2) ka_Rc_coal rfl ka_q_ml_L_73 ka_q_im_X6_bestTrain ka_q_se_X6_bestTrain ka_q_in_X6 ka_q_co_X6_bestTrain ky_X6_bestTrain (by decide) (by decide) (Nat.le_of_ble_eq_true rfl) rfl dL_law_564 ?_
  refine ka_aload_n hC dL_law_567 rfl ?_
  refine ka_aload_n hC dL_law_568 rfl ?_
  refine ka_iload_n hC dL_law_569 rfl ?_
  refine ka_iconst (v := 1) hC dL_law_570 rfl ?_
  refine ka_iadd hC dL_law_571 ?_
  refine ka_sld (5 * j + 1) hX hC (by omega) (by omega) (nI_add (5 * j) 1) dL_law_572 ?_
  refine ka_I.eqW (STEP.w (c := 0) h9 hst.2.1) ?_
  refine ka_callV hC (m_X7_bestTrain hG hT.mk) ka_Rc_model rfl ka_q_ml_L_76 ka_q_im_X7_bestTrain ka_q_se_X7_bestTrain ka_q_in_X7 ka_q_co_X7_bestTrain ky_X7_bestTrain (by decide) (by decide) (Nat.le_of_ble_eq_true rfl) rfl dL_law_573 ?_
  refine ka_icmp_eq (tgt := 712) hC dL_law_576 (by decide) (fun _ => ?_) (fun h => absurd hst.1 h)
  obtain ⟨_, _, M', S', eW, hT'⟩ := hst
  refine ka_I.eqW eW ?_
  exact hnext _ M' S' ka_ms_9 hT'.ms
set_option maxHeartbeats 4000000 in
set_option maxRecDepth 100000 in
theorem ls_share (hC : ka_C G X cL_law RL 4 11) (hG : ka_AD G) (hX : ka_Sc X b N xs) (hN : N ≤ 2560) (hlen : 5 * j + 5 ≤ N) (hc : 60 * j < 39000) (h9 : V 9 = ka_s2 M 1 S) (hT : TOP (60 * j) V M S) (hnext : ∀ (V' : ka_W) (M' : ka_P) (S' : ka_F), V' 9 = ka_s2 M' 1 S' → TOP (60 * j + 60) V' M' S' → ka_I G X V' 712 (ls_L G b j) []) : ka_I G X V 581 (ls_L G b j) [] := by
  have hst := st_ask hT (ask_share (x := (xs (5 * j + 1))) hT.1)
  refine ka_aload_n hC dL_law_581 rfl ?_
  refine ka_aload_n hC dL_law_582 rfl ?_
  refine ka_iload_n hC dL_law_583 rfl ?_
  refine ka_iconst (v := 1) hC dL_law_584 rfl ?_
  refine ka_iadd hC dL_law_585 ?_
  refine ka_sld (5 * j + 1) hX hC (by omega) (by omega) (nI_add (5 * j) 1) dL_law_586 ?_
  refine ka_callV hC (m_X6_share hG (fun _ h => by rw [(share_key hT.1).2.1]; exact ((share_key hT.1).2.2 (by rw [← (share_key hT.1).1]; exact h)).1)) ka_Rc_coal rfl ka_q_ml_L_77 ka_q_im_X6_share ka_q_se_X6_share ka_q_in_X6 ka_q_co_X6_share ky_X6_share (by decide) (by decide) (Nat.le_of_ble_eq_true rfl) rfl dL_law_587 ?_
  refine ka_aload_n hC dL_law_590 rfl ?_
  refine ka_aload_n hC dL_law_591 rfl ?_
  refine ka_iload_n hC dL_law_592 rfl ?_
  refine ka_iconst (v := 1) hC dL_law_593 rfl ?_
  refine ka_iadd hC dL_law_594 ?_
  refine ka_sld (5 * j + 1) hX hC (by omega) (by omega) (nI_add (5 * j) 1) dL_law_595 ?_
  refine ka_I.eqW (STEP.w (c := 0) h9 hst.2.1) ?_
  refine ka_callV hC (m_X7_share hG hT.mk (fun _ h => ((share_key hT.1).2.2 h).2.1)) ka_Rc_model rfl ka_q_ml_L_80 ka_q_im_X7_share ka_q_se_X7_share ka_q_in_X7 ka_q_co_X7_share ky_X7_share (by decide) (by decide) (Nat.le_of_ble_eq_true rfl) rfl dL_law_596 ?_
  refine ka_icmp_eq (tgt := 712) hC dL_law_599 (by decide) (fun _ => ?_) (fun h => absurd hst.1 h)
  obtain ⟨_, _, M', S', eW, hT'⟩ := hst
  refine ka_I.eqW eW ?_
  exact hnext _ M' S' ka_ms_9 hT'.ms
set_option maxHeartbeats 4000000 in
set_option maxRecDepth 100000 in
theorem ls_count (hC : ka_C G X cL_law RL 4 11) (hG : ka_AD G) (hX : ka_Sc X b N xs) (hN : N ≤ 2560) (hlen : 5 * j + 5 ≤ N) (hc : 60 * j < 39000) (h9 : V 9 = ka_s2 M 1 S) (hT : TOP (60 * j) V M S) (hnext : ∀ (V' : ka_W) (M' : ka_P) (S' : ka_F), V' 9 = ka_s2 M' 1 S' → TOP (60 * j + 60) V' M' S' → ka_I G X V' 712 (ls_L G b j) []) : ka_I G X V 604 (ls_L G b j) [] := by
  have hst := st_count (x := (xs (5 * j + 1))) hT
  refine ka_aload_n hC dL_law_604 rfl ?_
  refine ka_aload_n hC dL_law_605 rfl ?_
  refine ka_iload_n hC dL_law_606 rfl ?_
  refine ka_iconst (v := 1) hC dL_law_607 rfl ?_
  refine ka_iadd hC dL_law_608 ?_
  refine ka_sld (5 * j + 1) hX hC (by omega) (by omega) (nI_add (5 * j) 1) dL_law_609 ?_
  refine ka_callV hC (m_X6_count hG hT.gd.1 hT.gd.2) ka_Rc_coal rfl ka_q_ml_L_81 ka_q_im_X6_count ka_q_se_X6_count ka_q_in_X6 ka_q_co_X6_count ky_X6_count (by decide) (by decide) (Nat.le_of_ble_eq_true rfl) rfl dL_law_610 ?_
  refine ka_aload_n hC dL_law_613 rfl ?_
  refine ka_aload_n hC dL_law_614 rfl ?_
  refine ka_iload_n hC dL_law_615 rfl ?_
  refine ka_iconst (v := 1) hC dL_law_616 rfl ?_
  refine ka_iadd hC dL_law_617 ?_
  refine ka_sld (5 * j + 1) hX hC (by omega) (by omega) (nI_add (5 * j) 1) dL_law_618 ?_
  refine ka_I.eqW (STEP.w (c := 0) h9 hst.2.1) ?_
  refine ka_callV hC (m_X7_count hG hT.mk) ka_Rc_model rfl ka_q_ml_L_84 ka_q_im_X7_count ka_q_se_X7_count ka_q_in_X7 ka_q_co_X7_count ky_X7_count (by decide) (by decide) (Nat.le_of_ble_eq_true rfl) rfl dL_law_619 ?_
  refine ka_icmp_eq (tgt := 712) hC dL_law_622 (by decide) (fun _ => ?_) (fun h => absurd hst.1 h)
  obtain ⟨_, _, M', S', eW, hT'⟩ := hst
  refine ka_I.eqW eW ?_
  exact hnext _ M' S' ka_ms_9 hT'.ms
set_option maxHeartbeats 4000000 in
set_option maxRecDepth 100000 in
theorem ls_undo (hC : ka_C G X cL_law RL 4 11) (hG : ka_AD G) (hX : ka_Sc X b N xs) (hN : N ≤ 2560) (hlen : 5 * j + 5 ≤ N) (hc : 60 * j < 39000) (h9 : V 9 = ka_s2 M 1 S) (hT : TOP (60 * j) V M S) (hnext : ∀ (V' : ka_W) (M' : ka_P) (S' : ka_F), V' 9 = ka_s2 M' 1 S' → TOP (60 * j + 60) V' M' S' → ka_I G X V' 712 (ls_L G b j) []) : ka_I G X V 627 (ls_L G b j) [] := by
  have hst := st_undo hT
  refine ka_aload_n hC dL_law_627 rfl ?_
  refine ka_callV hC (m_X6_undo hG) ka_Rc_coal rfl ka_q_ml_L_85 ka_q_im_X6_undo ka_q_se_X6_undo ka_q_in_X6 ka_q_co_X6_undo ky_X6_undo (by decide) (by decide) (Nat.le_of_ble_eq_true rfl) rfl dL_law_628 ?_
  refine ka_aload_n hC dL_law_631 rfl ?_
  refine ka_I.eqW (STEP.w (c := 0) h9 hst.2.1) ?_
  refine ka_callV hC (m_X7_undo hG hT.t4) ka_Rc_model rfl ka_q_ml_L_89 ka_q_im_X7_undo ka_q_se_X7_undo ka_q_in_X7 ka_q_co_X7_undo ky_X7_undo (by decide) (by decide) (Nat.le_of_ble_eq_true rfl) rfl dL_law_632 ?_
  refine ka_icmp_eq (tgt := 712) hC dL_law_635 (by decide) (fun _ => ?_) (fun h => absurd hst.1 h)
  obtain ⟨_, _, M', S', eW, hT'⟩ := hst
  refine ka_I.eqW eW ?_
  exact hnext _ M' S' ka_ms_9 hT'.ms
set_option maxHeartbeats 4000000 in
set_option maxRecDepth 100000 in
theorem ls_type (hC : ka_C G X cL_law RL 4 11) (hG : ka_AD G) (hX : ka_Sc X b N xs) (hN : N ≤ 2560) (hlen : 5 * j + 5 ≤ N) (hc : 60 * j < 39000) (h9 : V 9 = ka_s2 M 1 S) (hT : TOP (60 * j) V M S) (hnext : ∀ (V' : ka_W) (M' : ka_P) (S' : ka_F), V' 9 = ka_s2 M' 1 S' → TOP (60 * j + 60) V' M' S' → ka_I G X V' 712 (ls_L G b j) []) : ka_I G X V 640 (ls_L G b j) [] := by
  have hst := st_type (x := (xs (5 * j + 1))) hT
  refine ka_aload_n hC dL_law_640 rfl ?_
  refine ka_aload_n hC dL_law_641 rfl ?_
  refine ka_iload_n hC dL_law_642 rfl ?_
  refine ka_iconst (v := 1) hC dL_law_643 rfl ?_
  refine ka_iadd hC dL_law_644 ?_
  refine ka_sld (5 * j + 1) hX hC (by omega) (by omega) (nI_add (5 * j) 1) dL_law_645 ?_
  refine ka_callV hC (m_X6_type hG) ka_Rc_coal rfl ka_q_ml_L_90 ka_q_im_X6_type ka_q_se_X6_type ka_q_in_X6 ka_q_co_X6_type ky_X6_type (by decide) (by decide) (Nat.le_of_ble_eq_true rfl) rfl dL_law_646 ?_
  refine ka_aload_n hC dL_law_649 rfl ?_
  refine ka_aload_n hC dL_law_650 rfl ?_
  refine ka_iload_n hC dL_law_651 rfl ?_
  refine ka_iconst (v := 1) hC dL_law_652 rfl ?_
  refine ka_iadd hC dL_law_653 ?_
  refine ka_sld (5 * j + 1) hX hC (by omega) (by omega) (nI_add (5 * j) 1) dL_law_654 ?_
  refine ka_I.eqW (STEP.w (c := 0) h9 hst.2.1) ?_
  refine ka_callV hC (m_X7_type hG hT.t6) ka_Rc_model rfl ka_q_ml_L_93 ka_q_im_X7_type ka_q_se_X7_type ka_q_in_X7 ka_q_co_X7_type ky_X7_type (by decide) (by decide) (Nat.le_of_ble_eq_true rfl) rfl dL_law_655 ?_
  refine ka_icmp_eq (tgt := 712) hC dL_law_658 (by decide) (fun _ => ?_) (fun h => absurd hst.1 h)
  obtain ⟨_, _, M', S', eW, hT'⟩ := hst
  refine ka_I.eqW eW ?_
  exact hnext _ M' S' ka_ms_9 hT'.ms
set_option maxHeartbeats 4000000 in
set_option maxRecDepth 100000 in
theorem ls_clearText (hC : ka_C G X cL_law RL 4 11) (hG : ka_AD G) (hX : ka_Sc X b N xs) (hN : N ≤ 2560) (hlen : 5 * j + 5 ≤ N) (hc : 60 * j < 39000) (h9 : V 9 = ka_s2 M 1 S) (hT : TOP (60 * j) V M S) (hnext : ∀ (V' : ka_W) (M' : ka_P) (S' : ka_F), V' 9 = ka_s2 M' 1 S' → TOP (60 * j + 60) V' M' S' → ka_I G X V' 712 (ls_L G b j) []) : ka_I G X V 663 (ls_L G b j) [] := by
  have hst := st_clear hT
  refine ka_aload_n hC dL_law_663 rfl ?_
  refine ka_callV hC (m_X6_clearText hG) ka_Rc_coal rfl ka_q_ml_L_94 ka_q_im_X6_clearText ka_q_se_X6_clearText ka_q_in_X6 ka_q_co_X6_clearText ky_X6_clearText (by decide) (by decide) (Nat.le_of_ble_eq_true rfl) rfl dL_law_664 ?_
  refine ka_aload_n hC dL_law_667 rfl ?_
  refine ka_I.eqW (STEP.w (c := 0) h9 hst.2.1) ?_
  refine ka_callV hC (m_X7_clearText hG) ka_Rc_model rfl ka_q_ml_L_97 ka_q_im_X7_clearText ka_q_se_X7_clearText ka_q_in_X7 ka_q_co_X7_clearText ky_X7_clearText (by decide) (by decide) (Nat.le_of_ble_eq_true rfl) rfl dL_law_668 ?_
  refine ka_icmp_eq (tgt := 712) hC dL_law_671 (by decide) (fun _ => ?_) (fun h => absurd hst.1 h)
  obtain ⟨_, _, M', S', eW, hT'⟩ := hst
  refine ka_I.eqW eW ?_
  exact hnext _ M' S' ka_ms_9 hT'.ms
set_option maxHeartbeats 4000000 in
set_option maxRecDepth 100000 in
theorem ls_fault (hC : ka_C G X cL_law RL 4 11) (hG : ka_AD G) (hX : ka_Sc X b N xs) (hN : N ≤ 2560) (hlen : 5 * j + 5 ≤ N) (hc : 60 * j < 39000) (h9 : V 9 = ka_s2 M 1 S) (hT : TOP (60 * j) V M S) (hnext : ∀ (V' : ka_W) (M' : ka_P) (S' : ka_F), V' 9 = ka_s2 M' 1 S' → TOP (60 * j + 60) V' M' S' → ka_I G X V' 712 (ls_L G b j) []) : ka_I G X V 676 (ls_L G b j) [] := by
  have hst := st_fault (x := (xs (5 * j + 1))) hT hc
  refine ka_aload_n hC dL_law_676 rfl ?_
  refine ka_aload_n hC dL_law_677 rfl ?_
  refine ka_iload_n hC dL_law_678 rfl ?_
  refine ka_iconst (v := 1) hC dL_law_679 rfl ?_
  refine ka_iadd hC dL_law_680 ?_
  refine ka_sld (5 * j + 1) hX hC (by omega) (by omega) (nI_add (5 * j) 1) dL_law_681 ?_
  refine ka_callV hC (m_X6_fault hG hT.gd.1) ka_Rc_coal rfl ka_q_ml_L_98 ka_q_im_X6_fault ka_q_se_X6_fault ka_q_in_X6 ka_q_co_X6_fault ky_X6_fault (by decide) (by decide) (Nat.le_of_ble_eq_true rfl) rfl dL_law_682 ?_
  refine ka_aload_n hC dL_law_685 rfl ?_
  refine ka_aload_n hC dL_law_686 rfl ?_
  refine ka_iload_n hC dL_law_687 rfl ?_
  refine ka_iconst (v := 1) hC dL_law_688 rfl ?_
  refine ka_iadd hC dL_law_689 ?_
  refine ka_sld (5 * j + 1) hX hC (by omega) (by omega) (nI_add (5 * j) 1) dL_law_690 ?_
  refine ka_I.eqW (STEP.w (c := 0) h9 hst.2.1) ?_
  refine ka_callV hC (m_X7_fault hG hT.t6 hT.mk) ka_Rc_model rfl ka_q_ml_L_101 ka_q_im_X7_fault ka_q_se_X7_fault ka_q_in_X7 ka_q_co_X7_fault ky_X7_fault (by decide) (by decide) (Nat.le_of_ble_eq_true rfl) rfl dL_law_691 ?_
  refine ka_icmp_eq (tgt := 712) hC dL_law_694 (by decide) (fun _ => ?_) (fun h => absurd hst.1 h)
  obtain ⟨_, _, M', S', eW, hT'⟩ := hst
  refine ka_I.eqW eW ?_
  exact hnext _ M' S' ka_ms_9 hT'.ms
set_option maxHeartbeats 4000000 in
set_option maxRecDepth 100000 in
theorem ls_play (hC : ka_C G X cL_law RL 4 11) (hG : ka_AD G) (hX : ka_Sc X b N xs) (hN : N ≤ 2560) (hlen : 5 * j + 5 ≤ N) (hc : 60 * j < 39000) (h9 : V 9 = ka_s2 M 1 S) (hT : TOP (60 * j) V M S) (hnext : ∀ (V' : ka_W) (M' : ka_P) (S' : ka_F), V' 9 = ka_s2 M' 1 S' → TOP (60 * j + 60) V' M' S' → ka_I G X V' 712 (ls_L G b j) []) : ka_I G X V 699 (ls_L G b j) [] := by
  have hst := st_play hT hc
  refine ka_aload_n hC dL_law_699 rfl ?_
  refine ka_callV hC (m_X6_play hG hT.gd.1) ka_Rc_coal rfl ka_q_ml_L_102 ka_q_im_X6_play ka_q_se_X6_play ka_q_in_X6 ka_q_co_X6_play ky_X6_play (by decide) (by decide) (Nat.le_of_ble_eq_true rfl) rfl dL_law_700 ?_
  refine ka_aload_n hC dL_law_703 rfl ?_
  refine ka_I.eqW (STEP.w (c := 0) h9 hst.2.1) ?_
  refine ka_callV hC (m_X7_play hG hT.t6 hT.mk hT.t4) ka_Rc_model rfl ka_q_ml_L_105 ka_q_im_X7_play ka_q_se_X7_play ka_q_in_X7 ka_q_co_X7_play ky_X7_play (by decide) (by decide) (Nat.le_of_ble_eq_true rfl) rfl dL_law_704 ?_
  refine ka_icmp_eq (tgt := 712) hC dL_law_707 (by decide) (fun _ => ?_) (fun h => absurd hst.1 h)
  obtain ⟨_, _, M', S', eW, hT'⟩ := hst
  refine ka_I.eqW eW ?_
  exact hnext _ M' S' ka_ms_9 hT'.ms
end LS
set_option maxHeartbeats 4000000 in
set_option maxRecDepth 100000 in
theorem ls_loop {G : ka_G} {X : ka_X} {b N : Nat} {xs : Nat → Int32} (hC : ka_C G X cL_law RL 4 11) (hG : ka_AD G) (hX : ka_Sc X b N xs) (hN : N ≤ 2560) (hend : ∀ (V : ka_W) (L : List Value), ka_I G X V 718 L []) : ∀ jj j : Nat, 5 * j ≤ N → N - 5 * j < jj → ∀ (V : ka_W) (M : ka_P) (S : ka_F), V 9 = ka_s2 M 1 S → TOP (60 * j) V M S → ka_I G X V 18 (ls_L G b j) [] := by
  intro jj
  induction jj with
  | zero => intro j h1 h2; exact absurd h2 (Nat.not_lt_zero _)
  | succ jj ih =>
    intro j hj hlt V M S h9 hT
    have hc : 60 * j < 39000 := by omega
    refine ka_iload_n hC dL_law_18 rfl ?_
    refine ka_aload_n hC dL_law_19 rfl ?_
    refine ka_slen hX hC dL_law_20 ?_
    refine ka_iconst (v := 5) hC dL_law_21 rfl ?_
    refine ka_isub hC dL_law_22 ?_
    refine ka_icmp_gt (tgt := 718) hC dL_law_23 (by decide) (fun _ => hend _ _) (fun c => ?_)
    have hlen := ls_len hN hj c
    have hnext : ∀ (V' : ka_W) (M' : ka_P) (S' : ka_F), V' 9 = ka_s2 M' 1 S' → TOP (60 * j + 60) V' M' S' → ka_I G X V' 712 (ls_L G b j) [] := fun V' M' S' h9' hT' => by
      refine ka_iinc_3 (v := 5) hC dL_law_712 rfl (by decide) ?_
      refine ka_goto (tgt := 18) hC dL_law_715 (by decide) ?_
      rw [show nI (5 * j) + 5 = nI (5 * (j + 1)) from nI_add (5 * j) 5]
      exact ih (j + 1) (by omega) (by omega) V' M' S' h9' hT'
    refine ka_aload_n hC dL_law_26 rfl ?_
    refine ka_iload_n hC dL_law_27 rfl ?_
    refine ka_sld (5 * j) hX hC (by omega) (by omega) rfl dL_law_28 ?_
    refine ka_bipush (v := 31) hC dL_law_29 rfl ?_
    refine ka_iand hC dL_law_31 ?_
    generalize xs (5 * j) &&& 31 = x
    by_cases c0 : x = 0
    · refine ka_tsIn (tgt := 136) hC dL_law_32 (by rw [c0]; decide) (by rw [c0]; decide) (by rw [c0]; rfl) (by decide) ?_
      exact ls_mine hC hG hX hN hlen hc h9 hT hnext
    by_cases c1 : x = 1
    · refine ka_tsIn (tgt := 159) hC dL_law_32 (by rw [c1]; decide) (by rw [c1]; decide) (by rw [c1]; rfl) (by decide) ?_
      exact ls_leg hC hG hX hN hlen hc h9 hT hnext
    by_cases c2 : x = 2
    · refine ka_tsIn (tgt := 202) hC dL_law_32 (by rw [c2]; decide) (by rw [c2]; decide) (by rw [c2]; rfl) (by decide) ?_
      exact ls_wagon hC hG hX hN hlen hc h9 hT hnext
    by_cases c3 : x = 3
    · refine ka_tsIn (tgt := 225) hC dL_law_32 (by rw [c3]; decide) (by rw [c3]; decide) (by rw [c3]; rfl) (by decide) ?_
      exact ls_load hC hG hX hN hlen hc h9 hT hnext
    by_cases c4 : x = 4
    · refine ka_tsIn (tgt := 248) hC dL_law_32 (by rw [c4]; decide) (by rw [c4]; decide) (by rw [c4]; rfl) (by decide) ?_
      exact ls_unload hC hG hX hN hlen hc h9 hT hnext
    by_cases c5 : x = 5
    · refine ka_tsIn (tgt := 271) hC dL_law_32 (by rw [c5]; decide) (by rw [c5]; decide) (by rw [c5]; rfl) (by decide) ?_
      exact ls_repair hC hG hX hN hlen hc h9 hT hnext
    by_cases c6 : x = 6
    · refine ka_tsIn (tgt := 294) hC dL_law_32 (by rw [c6]; decide) (by rw [c6]; decide) (by rw [c6]; rfl) (by decide) ?_
      exact ls_train hC hG hX hN hlen hc h9 hT hnext
    by_cases c7 : x = 7
    · refine ka_tsIn (tgt := 347) hC dL_law_32 (by rw [c7]; decide) (by rw [c7]; decide) (by rw [c7]; rfl) (by decide) ?_
      exact ls_pass hC hG hX hN hlen hc h9 hT hnext
    by_cases c8 : x = 8
    · refine ka_tsIn (tgt := 370) hC dL_law_32 (by rw [c8]; decide) (by rw [c8]; decide) (by rw [c8]; rfl) (by decide) ?_
      exact ls_set hC hG hX hN hlen hc h9 hT hnext
    by_cases c9 : x = 9
    · refine ka_tsIn (tgt := 403) hC dL_law_32 (by rw [c9]; decide) (by rw [c9]; decide) (by rw [c9]; rfl) (by decide) ?_
      exact ls_wagonOf hC hG hX hN hlen hc h9 hT hnext
    by_cases c10 : x = 10
    · refine ka_tsIn (tgt := 436) hC dL_law_32 (by rw [c10]; decide) (by rw [c10]; decide) (by rw [c10]; rfl) (by decide) ?_
      exact ls_placeOf hC hG hX hN hlen hc h9 hT hnext
    by_cases c11 : x = 11
    · refine ka_tsIn (tgt := 469) hC dL_law_32 (by rw [c11]; decide) (by rw [c11]; decide) (by rw [c11]; rfl) (by decide) ?_
      exact ls_days hC hG hX hN hlen hc h9 hT hnext
    by_cases c12 : x = 12
    · refine ka_tsIn (tgt := 502) hC dL_law_32 (by rw [c12]; decide) (by rw [c12]; decide) (by rw [c12]; rfl) (by decide) ?_
      exact ls_would hC hG hX hN hlen hc h9 hT hnext
    by_cases c13 : x = 13
    · refine ka_tsIn (tgt := 535) hC dL_law_32 (by rw [c13]; decide) (by rw [c13]; decide) (by rw [c13]; rfl) (by decide) ?_
      exact ls_lacks hC hG hX hN hlen hc h9 hT hnext
    by_cases c14 : x = 14
    · refine ka_tsIn (tgt := 558) hC dL_law_32 (by rw [c14]; decide) (by rw [c14]; decide) (by rw [c14]; rfl) (by decide) ?_
      exact ls_bestTrain hC hG hX hN hlen hc h9 hT hnext
    by_cases c15 : x = 15
    · refine ka_tsIn (tgt := 581) hC dL_law_32 (by rw [c15]; decide) (by rw [c15]; decide) (by rw [c15]; rfl) (by decide) ?_
      exact ls_share hC hG hX hN hlen hc h9 hT hnext
    by_cases c16 : x = 16
    · refine ka_tsIn (tgt := 604) hC dL_law_32 (by rw [c16]; decide) (by rw [c16]; decide) (by rw [c16]; rfl) (by decide) ?_
      exact ls_count hC hG hX hN hlen hc h9 hT hnext
    by_cases c17 : x = 17
    · refine ka_tsIn (tgt := 627) hC dL_law_32 (by rw [c17]; decide) (by rw [c17]; decide) (by rw [c17]; rfl) (by decide) ?_
      exact ls_undo hC hG hX hN hlen hc h9 hT hnext
    by_cases c18 : x = 18
    · refine ka_tsIn (tgt := 640) hC dL_law_32 (by rw [c18]; decide) (by rw [c18]; decide) (by rw [c18]; rfl) (by decide) ?_
      exact ls_type hC hG hX hN hlen hc h9 hT hnext
    by_cases c19 : x = 19
    · refine ka_tsIn (tgt := 663) hC dL_law_32 (by rw [c19]; decide) (by rw [c19]; decide) (by rw [c19]; rfl) (by decide) ?_
      exact ls_clearText hC hG hX hN hlen hc h9 hT hnext
    by_cases c20 : x = 20
    · refine ka_tsIn (tgt := 676) hC dL_law_32 (by rw [c20]; decide) (by rw [c20]; decide) (by rw [c20]; rfl) (by decide) ?_
      exact ls_fault hC hG hX hN hlen hc h9 hT hnext
    by_cases c21 : x = 21
    · refine ka_tsIn (tgt := 699) hC dL_law_32 (by rw [c21]; decide) (by rw [c21]; decide) (by rw [c21]; rfl) (by decide) ?_
      exact ls_play hC hG hX hN hlen hc h9 hT hnext
    refine ka_tsOut (tgt := 712) hC dL_law_32 (by
      have t0 : ¬ x.toInt = 0 := fun e => c0 (Int32.toInt_inj.mp (e.trans (by decide)))
      have t1 : ¬ x.toInt = 1 := fun e => c1 (Int32.toInt_inj.mp (e.trans (by decide)))
      have t2 : ¬ x.toInt = 2 := fun e => c2 (Int32.toInt_inj.mp (e.trans (by decide)))
      have t3 : ¬ x.toInt = 3 := fun e => c3 (Int32.toInt_inj.mp (e.trans (by decide)))
      have t4 : ¬ x.toInt = 4 := fun e => c4 (Int32.toInt_inj.mp (e.trans (by decide)))
      have t5 : ¬ x.toInt = 5 := fun e => c5 (Int32.toInt_inj.mp (e.trans (by decide)))
      have t6 : ¬ x.toInt = 6 := fun e => c6 (Int32.toInt_inj.mp (e.trans (by decide)))
      have t7 : ¬ x.toInt = 7 := fun e => c7 (Int32.toInt_inj.mp (e.trans (by decide)))
      have t8 : ¬ x.toInt = 8 := fun e => c8 (Int32.toInt_inj.mp (e.trans (by decide)))
      have t9 : ¬ x.toInt = 9 := fun e => c9 (Int32.toInt_inj.mp (e.trans (by decide)))
      have t10 : ¬ x.toInt = 10 := fun e => c10 (Int32.toInt_inj.mp (e.trans (by decide)))
      have t11 : ¬ x.toInt = 11 := fun e => c11 (Int32.toInt_inj.mp (e.trans (by decide)))
      have t12 : ¬ x.toInt = 12 := fun e => c12 (Int32.toInt_inj.mp (e.trans (by decide)))
      have t13 : ¬ x.toInt = 13 := fun e => c13 (Int32.toInt_inj.mp (e.trans (by decide)))
      have t14 : ¬ x.toInt = 14 := fun e => c14 (Int32.toInt_inj.mp (e.trans (by decide)))
      have t15 : ¬ x.toInt = 15 := fun e => c15 (Int32.toInt_inj.mp (e.trans (by decide)))
      have t16 : ¬ x.toInt = 16 := fun e => c16 (Int32.toInt_inj.mp (e.trans (by decide)))
      have t17 : ¬ x.toInt = 17 := fun e => c17 (Int32.toInt_inj.mp (e.trans (by decide)))
      have t18 : ¬ x.toInt = 18 := fun e => c18 (Int32.toInt_inj.mp (e.trans (by decide)))
      have t19 : ¬ x.toInt = 19 := fun e => c19 (Int32.toInt_inj.mp (e.trans (by decide)))
      have t20 : ¬ x.toInt = 20 := fun e => c20 (Int32.toInt_inj.mp (e.trans (by decide)))
      have t21 : ¬ x.toInt = 21 := fun e => c21 (Int32.toInt_inj.mp (e.trans (by decide)))
      omega) (by decide) ?_
    exact hnext V M S h9 (hT.up (by omega))
