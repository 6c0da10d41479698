/-! The law's loop. -/
set_option maxHeartbeats 40000000 in
set_option maxRecDepth 100000 in
theorem law_loop {p : Program} {l : Launch} {e : Env} {s : State} {m : MethodId} {args : Array Value} {below : List Frame} {meth : Method} {c : Code} {Q : State → Prop} {A : Nat → Prop} {dC : Nat → ClassId} {dI : Nat → Nat → Nat} {cA : ClassId} {ad : Nat → Nat} {bs L : Nat} {xs : Nat → Int32} (hX : va_X bs L xs s s.heap) (hbl : bs < s.heap.size) (hbA : ¬ A bs) (N : Nat) (u w : Mem) (r : Int32) (hr0 : ¬ r = 0) (ret : ∀ (u : Mem) (pc : Nat) (lo : List (Option Value)), decode b_La_law pc = .ok (.ireturn, 1) → VJ p l e 8 25 5161 276 s m args below meth c 25 5161 Q A b_La_law 4 R_La (dC, dI) cA (wA ad cA) pc lo [.int 1] u) (h : k_La_law_18 N xs L (fun (u211 : Mem) => some (1, u211)) N 0 u = some (r, w)) : VJ p l e 8 25 5161 276 s m args below meth c 25 5161 Q A b_La_law 4 R_La (dC, dI) cA (wA ad cA) 18 [some (.ref bs), some (.ref (ad 0)), some (.ref (ad 15)), some (.int 0)] [] u := by
  have L18 : ∀ (κ : Mem → Rs), (∀ (u211 : Mem), κ u211 = some (r, w) → VJ p l e 8 25 5161 276 s m args below meth c 25 5161 Q A b_La_law 4 R_La (dC, dI) cA (wA ad cA) 670 [none, none, none, none] [] u211) → ∀ (n : Nat) (x1 : Int32) (u2 : Mem), k_La_law_18 N xs L κ n x1 u2 = some (r, w) → VJ p l e 8 25 5161 276 s m args below meth c 25 5161 Q A b_La_law 4 R_La (dC, dI) cA (wA ad cA) 18 [some (.ref bs), some (.ref (ad 0)), some (.ref (ad 15)), some (.int x1)] [] u2 := by
    intro κ hκ n
    induction n with
    | zero =>
      intro x1 u2 h
      exact no_ns h
    | succ n ih =>
      intro x1 u2 h
      unfold k_La_law_18 at h
      refine v_iload_n d_La_law_18 rfl rfl ?_
      refine v_aload_n d_La_law_19 rfl rfl ?_
      refine v_slen hX hbl hbA d_La_law_20 rfl ?_
      refine v_iconst 5 d_La_law_21 (by decide) rfl ?_
      refine v_isub d_La_law_22 rfl ?_
      refine v_icmp_gt 670 d_La_law_23 (by decide) rfl (fun c210 => ?_) (fun c210 => ?_)
      · replace h := (if_pos c210).symm.trans h
        refine v_drop 0 (lo' := [none, _, _, _]) rfl ?_
        refine v_drop 1 (lo' := [none, none, _, _]) rfl ?_
        refine v_drop 2 (lo' := [none, none, none, _]) rfl ?_
        refine v_drop 3 (lo' := [none, none, none, none]) rfl ?_
        exact hκ _ h
      · replace h := (if_neg c210).symm.trans h
        refine v_aload_n d_La_law_26 rfl rfl ?_
        refine v_iload_n d_La_law_27 rfl rfl ?_
        obtain ⟨g3, h⟩ := gd_inv h
        refine v_sld hX hbl hbA d_La_law_28 g3 rfl ?_
        refine v_bipush 31 d_La_law_29 (by decide) rfl ?_
        refine v_iand d_La_law_31 rfl ?_
        by_cases c4 : ((xs x1.toNatClampNeg) &&& 31) = 0
        · replace h := (if_pos c4).symm.trans h
          refine v_tabIn 120 d_La_law_32 (by rw [c4]; decide) (by rw [c4]; decide) (by rw [c4]; rfl) (by decide) ?_
          refine v_aload_n d_La_law_120 rfl rfl ?_
          refine v_aload_n d_La_law_121 rfl rfl ?_
          refine v_iload_n d_La_law_122 rfl rfl ?_
          refine v_iconst 1 d_La_law_123 (by decide) rfl ?_
          refine v_iadd d_La_law_124 rfl ?_
          obtain ⟨g22, h⟩ := gd_inv h
          refine v_sld hX hbl hbA d_La_law_125 g22 rfl ?_
          refine v_aload_n d_La_law_126 rfl rfl ?_
          refine v_iload_n d_La_law_127 rfl rfl ?_
          refine v_iconst 2 d_La_law_128 (by decide) rfl ?_
          refine v_iadd d_La_law_129 rfl ?_
          obtain ⟨g23, h⟩ := gd_inv h
          refine v_sld hX hbl hbA d_La_law_130 g23 rfl ?_
          refine v_aload_n d_La_law_131 rfl rfl ?_
          refine v_iload_n d_La_law_132 rfl rfl ?_
          refine v_iconst 3 d_La_law_133 (by decide) rfl ?_
          refine v_iadd d_La_law_134 rfl ?_
          obtain ⟨g24, h⟩ := gd_inv h
          refine v_sld hX hbl hbA d_La_law_135 g24 rfl ?_
          obtain ⟨y25, u26, hc27, h⟩ := bd_inv h
          refine vc_La_Sh_make hc27 (Nat.le_of_ble_eq_true rfl) (Nat.le_of_ble_eq_true rfl) (Nat.le_of_ble_eq_true rfl) d_La_law_136 rfl ?_
          refine v_aload_n d_La_law_139 rfl rfl ?_
          refine v_aload_n d_La_law_140 rfl rfl ?_
          refine v_iload_n d_La_law_141 rfl rfl ?_
          refine v_iconst 1 d_La_law_142 (by decide) rfl ?_
          refine v_iadd d_La_law_143 rfl ?_
          obtain ⟨g28, h⟩ := gd_inv h
          refine v_sld hX hbl hbA d_La_law_144 g28 rfl ?_
          refine v_aload_n d_La_law_145 rfl rfl ?_
          refine v_iload_n d_La_law_146 rfl rfl ?_
          refine v_iconst 2 d_La_law_147 (by decide) rfl ?_
          refine v_iadd d_La_law_148 rfl ?_
          obtain ⟨g29, h⟩ := gd_inv h
          refine v_sld hX hbl hbA d_La_law_149 g29 rfl ?_
          refine v_aload_n d_La_law_150 rfl rfl ?_
          refine v_iload_n d_La_law_151 rfl rfl ?_
          refine v_iconst 3 d_La_law_152 (by decide) rfl ?_
          refine v_iadd d_La_law_153 rfl ?_
          obtain ⟨g30, h⟩ := gd_inv h
          refine v_sld hX hbl hbA d_La_law_154 g30 rfl ?_
          obtain ⟨y31, u32, hc33, h⟩ := bd_inv h
          refine vc_La_Md_make hc33 (Nat.le_of_ble_eq_true rfl) (Nat.le_of_ble_eq_true rfl) (Nat.le_of_ble_eq_true rfl) d_La_law_155 rfl ?_
          refine v_icmp_eq 664 d_La_law_158 (by decide) rfl (fun c34 => ?_) (fun c34 => ?_)
          · replace h := (if_pos c34).symm.trans h
            refine v_iinc (lo' := [_, _, _, _]) 5 d_La_law_664 (by decide) rfl rfl (by decide) rfl ?_
            refine v_goto 18 d_La_law_667 (by decide) ?_
            exact ih _ _ h
          · replace h := (if_neg c34).symm.trans h
            refine v_iconst 0 d_La_law_161 (by decide) rfl ?_
            exact absurd (rt_inv h).1.symm hr0
        replace h := (if_neg c4).symm.trans h
        by_cases c5 : ((xs x1.toNatClampNeg) &&& 31) = 1
        · replace h := (if_pos c5).symm.trans h
          refine v_tabIn 163 d_La_law_32 (by rw [c5]; decide) (by rw [c5]; decide) (by rw [c5]; rfl) (by decide) ?_
          refine v_aload_n d_La_law_163 rfl rfl ?_
          refine v_aload_n d_La_law_164 rfl rfl ?_
          refine v_iload_n d_La_law_165 rfl rfl ?_
          refine v_iconst 1 d_La_law_166 (by decide) rfl ?_
          refine v_iadd d_La_law_167 rfl ?_
          obtain ⟨g35, h⟩ := gd_inv h
          refine v_sld hX hbl hbA d_La_law_168 g35 rfl ?_
          refine v_aload_n d_La_law_169 rfl rfl ?_
          refine v_iload_n d_La_law_170 rfl rfl ?_
          refine v_iconst 2 d_La_law_171 (by decide) rfl ?_
          refine v_iadd d_La_law_172 rfl ?_
          obtain ⟨g36, h⟩ := gd_inv h
          refine v_sld hX hbl hbA d_La_law_173 g36 rfl ?_
          refine v_aload_n d_La_law_174 rfl rfl ?_
          refine v_iload_n d_La_law_175 rfl rfl ?_
          refine v_iconst 3 d_La_law_176 (by decide) rfl ?_
          refine v_iadd d_La_law_177 rfl ?_
          obtain ⟨g37, h⟩ := gd_inv h
          refine v_sld hX hbl hbA d_La_law_178 g37 rfl ?_
          refine v_aload_n d_La_law_179 rfl rfl ?_
          refine v_iload_n d_La_law_180 rfl rfl ?_
          refine v_iconst 4 d_La_law_181 (by decide) rfl ?_
          refine v_iadd d_La_law_182 rfl ?_
          obtain ⟨g38, h⟩ := gd_inv h
          refine v_sld hX hbl hbA d_La_law_183 g38 rfl ?_
          obtain ⟨y39, u40, hc41, h⟩ := bd_inv h
          refine vc_La_Sh_load hc41 (Nat.le_of_ble_eq_true rfl) (Nat.le_of_ble_eq_true rfl) (Nat.le_of_ble_eq_true rfl) d_La_law_184 rfl ?_
          refine v_aload_n d_La_law_187 rfl rfl ?_
          refine v_aload_n d_La_law_188 rfl rfl ?_
          refine v_iload_n d_La_law_189 rfl rfl ?_
          refine v_iconst 1 d_La_law_190 (by decide) rfl ?_
          refine v_iadd d_La_law_191 rfl ?_
          obtain ⟨g42, h⟩ := gd_inv h
          refine v_sld hX hbl hbA d_La_law_192 g42 rfl ?_
          refine v_aload_n d_La_law_193 rfl rfl ?_
          refine v_iload_n d_La_law_194 rfl rfl ?_
          refine v_iconst 2 d_La_law_195 (by decide) rfl ?_
          refine v_iadd d_La_law_196 rfl ?_
          obtain ⟨g43, h⟩ := gd_inv h
          refine v_sld hX hbl hbA d_La_law_197 g43 rfl ?_
          refine v_aload_n d_La_law_198 rfl rfl ?_
          refine v_iload_n d_La_law_199 rfl rfl ?_
          refine v_iconst 3 d_La_law_200 (by decide) rfl ?_
          refine v_iadd d_La_law_201 rfl ?_
          obtain ⟨g44, h⟩ := gd_inv h
          refine v_sld hX hbl hbA d_La_law_202 g44 rfl ?_
          refine v_aload_n d_La_law_203 rfl rfl ?_
          refine v_iload_n d_La_law_204 rfl rfl ?_
          refine v_iconst 4 d_La_law_205 (by decide) rfl ?_
          refine v_iadd d_La_law_206 rfl ?_
          obtain ⟨g45, h⟩ := gd_inv h
          refine v_sld hX hbl hbA d_La_law_207 g45 rfl ?_
          obtain ⟨y46, u47, hc48, h⟩ := bd_inv h
          refine vc_La_Md_load hc48 (Nat.le_of_ble_eq_true rfl) (Nat.le_of_ble_eq_true rfl) (Nat.le_of_ble_eq_true rfl) d_La_law_208 rfl ?_
          refine v_icmp_eq 664 d_La_law_211 (by decide) rfl (fun c49 => ?_) (fun c49 => ?_)
          · replace h := (if_pos c49).symm.trans h
            refine v_iinc (lo' := [_, _, _, _]) 5 d_La_law_664 (by decide) rfl rfl (by decide) rfl ?_
            refine v_goto 18 d_La_law_667 (by decide) ?_
            exact ih _ _ h
          · replace h := (if_neg c49).symm.trans h
            refine v_iconst 0 d_La_law_214 (by decide) rfl ?_
            exact absurd (rt_inv h).1.symm hr0
        replace h := (if_neg c5).symm.trans h
        by_cases c6 : ((xs x1.toNatClampNeg) &&& 31) = 2
        · replace h := (if_pos c6).symm.trans h
          refine v_tabIn 216 d_La_law_32 (by rw [c6]; decide) (by rw [c6]; decide) (by rw [c6]; rfl) (by decide) ?_
          refine v_aload_n d_La_law_216 rfl rfl ?_
          refine v_aload_n d_La_law_217 rfl rfl ?_
          refine v_iload_n d_La_law_218 rfl rfl ?_
          refine v_iconst 1 d_La_law_219 (by decide) rfl ?_
          refine v_iadd d_La_law_220 rfl ?_
          obtain ⟨g50, h⟩ := gd_inv h
          refine v_sld hX hbl hbA d_La_law_221 g50 rfl ?_
          refine v_aload_n d_La_law_222 rfl rfl ?_
          refine v_iload_n d_La_law_223 rfl rfl ?_
          refine v_iconst 2 d_La_law_224 (by decide) rfl ?_
          refine v_iadd d_La_law_225 rfl ?_
          obtain ⟨g51, h⟩ := gd_inv h
          refine v_sld hX hbl hbA d_La_law_226 g51 rfl ?_
          refine v_aload_n d_La_law_227 rfl rfl ?_
          refine v_iload_n d_La_law_228 rfl rfl ?_
          refine v_iconst 3 d_La_law_229 (by decide) rfl ?_
          refine v_iadd d_La_law_230 rfl ?_
          obtain ⟨g52, h⟩ := gd_inv h
          refine v_sld hX hbl hbA d_La_law_231 g52 rfl ?_
          refine v_aload_n d_La_law_232 rfl rfl ?_
          refine v_iload_n d_La_law_233 rfl rfl ?_
          refine v_iconst 4 d_La_law_234 (by decide) rfl ?_
          refine v_iadd d_La_law_235 rfl ?_
          obtain ⟨g53, h⟩ := gd_inv h
          refine v_sld hX hbl hbA d_La_law_236 g53 rfl ?_
          obtain ⟨y54, u55, hc56, h⟩ := bd_inv h
          refine vc_La_Sh_store hc56 (Nat.le_of_ble_eq_true rfl) (Nat.le_of_ble_eq_true rfl) (Nat.le_of_ble_eq_true rfl) d_La_law_237 rfl ?_
          refine v_aload_n d_La_law_240 rfl rfl ?_
          refine v_aload_n d_La_law_241 rfl rfl ?_
          refine v_iload_n d_La_law_242 rfl rfl ?_
          refine v_iconst 1 d_La_law_243 (by decide) rfl ?_
          refine v_iadd d_La_law_244 rfl ?_
          obtain ⟨g57, h⟩ := gd_inv h
          refine v_sld hX hbl hbA d_La_law_245 g57 rfl ?_
          refine v_aload_n d_La_law_246 rfl rfl ?_
          refine v_iload_n d_La_law_247 rfl rfl ?_
          refine v_iconst 2 d_La_law_248 (by decide) rfl ?_
          refine v_iadd d_La_law_249 rfl ?_
          obtain ⟨g58, h⟩ := gd_inv h
          refine v_sld hX hbl hbA d_La_law_250 g58 rfl ?_
          refine v_aload_n d_La_law_251 rfl rfl ?_
          refine v_iload_n d_La_law_252 rfl rfl ?_
          refine v_iconst 3 d_La_law_253 (by decide) rfl ?_
          refine v_iadd d_La_law_254 rfl ?_
          obtain ⟨g59, h⟩ := gd_inv h
          refine v_sld hX hbl hbA d_La_law_255 g59 rfl ?_
          refine v_aload_n d_La_law_256 rfl rfl ?_
          refine v_iload_n d_La_law_257 rfl rfl ?_
          refine v_iconst 4 d_La_law_258 (by decide) rfl ?_
          refine v_iadd d_La_law_259 rfl ?_
          obtain ⟨g60, h⟩ := gd_inv h
          refine v_sld hX hbl hbA d_La_law_260 g60 rfl ?_
          obtain ⟨y61, u62, hc63, h⟩ := bd_inv h
          refine vc_La_Md_store hc63 (Nat.le_of_ble_eq_true rfl) (Nat.le_of_ble_eq_true rfl) (Nat.le_of_ble_eq_true rfl) d_La_law_261 rfl ?_
          refine v_icmp_eq 664 d_La_law_264 (by decide) rfl (fun c64 => ?_) (fun c64 => ?_)
          · replace h := (if_pos c64).symm.trans h
            refine v_iinc (lo' := [_, _, _, _]) 5 d_La_law_664 (by decide) rfl rfl (by decide) rfl ?_
            refine v_goto 18 d_La_law_667 (by decide) ?_
            exact ih _ _ h
          · replace h := (if_neg c64).symm.trans h
            refine v_iconst 0 d_La_law_267 (by decide) rfl ?_
            exact absurd (rt_inv h).1.symm hr0
        replace h := (if_neg c6).symm.trans h
        by_cases c7 : ((xs x1.toNatClampNeg) &&& 31) = 3
        · replace h := (if_pos c7).symm.trans h
          refine v_tabIn 269 d_La_law_32 (by rw [c7]; decide) (by rw [c7]; decide) (by rw [c7]; rfl) (by decide) ?_
          refine v_aload_n d_La_law_269 rfl rfl ?_
          refine v_aload_n d_La_law_270 rfl rfl ?_
          refine v_iload_n d_La_law_271 rfl rfl ?_
          refine v_iconst 1 d_La_law_272 (by decide) rfl ?_
          refine v_iadd d_La_law_273 rfl ?_
          obtain ⟨g65, h⟩ := gd_inv h
          refine v_sld hX hbl hbA d_La_law_274 g65 rfl ?_
          refine v_aload_n d_La_law_275 rfl rfl ?_
          refine v_iload_n d_La_law_276 rfl rfl ?_
          refine v_iconst 2 d_La_law_277 (by decide) rfl ?_
          refine v_iadd d_La_law_278 rfl ?_
          obtain ⟨g66, h⟩ := gd_inv h
          refine v_sld hX hbl hbA d_La_law_279 g66 rfl ?_
          refine v_aload_n d_La_law_280 rfl rfl ?_
          refine v_iload_n d_La_law_281 rfl rfl ?_
          refine v_iconst 3 d_La_law_282 (by decide) rfl ?_
          refine v_iadd d_La_law_283 rfl ?_
          obtain ⟨g67, h⟩ := gd_inv h
          refine v_sld hX hbl hbA d_La_law_284 g67 rfl ?_
          refine v_aload_n d_La_law_285 rfl rfl ?_
          refine v_iload_n d_La_law_286 rfl rfl ?_
          refine v_iconst 4 d_La_law_287 (by decide) rfl ?_
          refine v_iadd d_La_law_288 rfl ?_
          obtain ⟨g68, h⟩ := gd_inv h
          refine v_sld hX hbl hbA d_La_law_289 g68 rfl ?_
          obtain ⟨y69, u70, hc71, h⟩ := bd_inv h
          refine vc_La_Sh_move hc71 (Nat.le_of_ble_eq_true rfl) (Nat.le_of_ble_eq_true rfl) (Nat.le_of_ble_eq_true rfl) d_La_law_290 rfl ?_
          refine v_aload_n d_La_law_293 rfl rfl ?_
          refine v_aload_n d_La_law_294 rfl rfl ?_
          refine v_iload_n d_La_law_295 rfl rfl ?_
          refine v_iconst 1 d_La_law_296 (by decide) rfl ?_
          refine v_iadd d_La_law_297 rfl ?_
          obtain ⟨g72, h⟩ := gd_inv h
          refine v_sld hX hbl hbA d_La_law_298 g72 rfl ?_
          refine v_aload_n d_La_law_299 rfl rfl ?_
          refine v_iload_n d_La_law_300 rfl rfl ?_
          refine v_iconst 2 d_La_law_301 (by decide) rfl ?_
          refine v_iadd d_La_law_302 rfl ?_
          obtain ⟨g73, h⟩ := gd_inv h
          refine v_sld hX hbl hbA d_La_law_303 g73 rfl ?_
          refine v_aload_n d_La_law_304 rfl rfl ?_
          refine v_iload_n d_La_law_305 rfl rfl ?_
          refine v_iconst 3 d_La_law_306 (by decide) rfl ?_
          refine v_iadd d_La_law_307 rfl ?_
          obtain ⟨g74, h⟩ := gd_inv h
          refine v_sld hX hbl hbA d_La_law_308 g74 rfl ?_
          refine v_aload_n d_La_law_309 rfl rfl ?_
          refine v_iload_n d_La_law_310 rfl rfl ?_
          refine v_iconst 4 d_La_law_311 (by decide) rfl ?_
          refine v_iadd d_La_law_312 rfl ?_
          obtain ⟨g75, h⟩ := gd_inv h
          refine v_sld hX hbl hbA d_La_law_313 g75 rfl ?_
          obtain ⟨y76, u77, hc78, h⟩ := bd_inv h
          refine vc_La_Md_move hc78 (Nat.le_of_ble_eq_true rfl) (Nat.le_of_ble_eq_true rfl) (Nat.le_of_ble_eq_true rfl) d_La_law_314 rfl ?_
          refine v_icmp_eq 664 d_La_law_317 (by decide) rfl (fun c79 => ?_) (fun c79 => ?_)
          · replace h := (if_pos c79).symm.trans h
            refine v_iinc (lo' := [_, _, _, _]) 5 d_La_law_664 (by decide) rfl rfl (by decide) rfl ?_
            refine v_goto 18 d_La_law_667 (by decide) ?_
            exact ih _ _ h
          · replace h := (if_neg c79).symm.trans h
            refine v_iconst 0 d_La_law_320 (by decide) rfl ?_
            exact absurd (rt_inv h).1.symm hr0
        replace h := (if_neg c7).symm.trans h
        by_cases c8 : ((xs x1.toNatClampNeg) &&& 31) = 4
        · replace h := (if_pos c8).symm.trans h
          refine v_tabIn 322 d_La_law_32 (by rw [c8]; decide) (by rw [c8]; decide) (by rw [c8]; rfl) (by decide) ?_
          refine v_aload_n d_La_law_322 rfl rfl ?_
          refine v_aload_n d_La_law_323 rfl rfl ?_
          refine v_iload_n d_La_law_324 rfl rfl ?_
          refine v_iconst 1 d_La_law_325 (by decide) rfl ?_
          refine v_iadd d_La_law_326 rfl ?_
          obtain ⟨g80, h⟩ := gd_inv h
          refine v_sld hX hbl hbA d_La_law_327 g80 rfl ?_
          refine v_aload_n d_La_law_328 rfl rfl ?_
          refine v_iload_n d_La_law_329 rfl rfl ?_
          refine v_iconst 2 d_La_law_330 (by decide) rfl ?_
          refine v_iadd d_La_law_331 rfl ?_
          obtain ⟨g81, h⟩ := gd_inv h
          refine v_sld hX hbl hbA d_La_law_332 g81 rfl ?_
          obtain ⟨y82, u83, hc84, h⟩ := bd_inv h
          refine vc_La_Sh_drop hc84 (Nat.le_of_ble_eq_true rfl) (Nat.le_of_ble_eq_true rfl) (Nat.le_of_ble_eq_true rfl) d_La_law_333 rfl ?_
          refine v_aload_n d_La_law_336 rfl rfl ?_
          refine v_aload_n d_La_law_337 rfl rfl ?_
          refine v_iload_n d_La_law_338 rfl rfl ?_
          refine v_iconst 1 d_La_law_339 (by decide) rfl ?_
          refine v_iadd d_La_law_340 rfl ?_
          obtain ⟨g85, h⟩ := gd_inv h
          refine v_sld hX hbl hbA d_La_law_341 g85 rfl ?_
          refine v_aload_n d_La_law_342 rfl rfl ?_
          refine v_iload_n d_La_law_343 rfl rfl ?_
          refine v_iconst 2 d_La_law_344 (by decide) rfl ?_
          refine v_iadd d_La_law_345 rfl ?_
          obtain ⟨g86, h⟩ := gd_inv h
          refine v_sld hX hbl hbA d_La_law_346 g86 rfl ?_
          obtain ⟨y87, u88, hc89, h⟩ := bd_inv h
          refine vc_La_Md_drop hc89 (Nat.le_of_ble_eq_true rfl) (Nat.le_of_ble_eq_true rfl) (Nat.le_of_ble_eq_true rfl) d_La_law_347 rfl ?_
          refine v_icmp_eq 664 d_La_law_350 (by decide) rfl (fun c90 => ?_) (fun c90 => ?_)
          · replace h := (if_pos c90).symm.trans h
            refine v_iinc (lo' := [_, _, _, _]) 5 d_La_law_664 (by decide) rfl rfl (by decide) rfl ?_
            refine v_goto 18 d_La_law_667 (by decide) ?_
            exact ih _ _ h
          · replace h := (if_neg c90).symm.trans h
            refine v_iconst 0 d_La_law_353 (by decide) rfl ?_
            exact absurd (rt_inv h).1.symm hr0
        replace h := (if_neg c8).symm.trans h
        by_cases c9 : ((xs x1.toNatClampNeg) &&& 31) = 5
        · replace h := (if_pos c9).symm.trans h
          refine v_tabIn 355 d_La_law_32 (by rw [c9]; decide) (by rw [c9]; decide) (by rw [c9]; rfl) (by decide) ?_
          refine v_aload_n d_La_law_355 rfl rfl ?_
          refine v_aload_n d_La_law_356 rfl rfl ?_
          refine v_iload_n d_La_law_357 rfl rfl ?_
          refine v_iconst 1 d_La_law_358 (by decide) rfl ?_
          refine v_iadd d_La_law_359 rfl ?_
          obtain ⟨g91, h⟩ := gd_inv h
          refine v_sld hX hbl hbA d_La_law_360 g91 rfl ?_
          obtain ⟨y92, u93, hc94, h⟩ := bd_inv h
          refine vc_La_Sh_collect hc94 (Nat.le_of_ble_eq_true rfl) (Nat.le_of_ble_eq_true rfl) (Nat.le_of_ble_eq_true rfl) d_La_law_361 rfl ?_
          refine v_aload_n d_La_law_364 rfl rfl ?_
          refine v_aload_n d_La_law_365 rfl rfl ?_
          refine v_iload_n d_La_law_366 rfl rfl ?_
          refine v_iconst 1 d_La_law_367 (by decide) rfl ?_
          refine v_iadd d_La_law_368 rfl ?_
          obtain ⟨g95, h⟩ := gd_inv h
          refine v_sld hX hbl hbA d_La_law_369 g95 rfl ?_
          obtain ⟨y96, u97, hc98, h⟩ := bd_inv h
          refine vc_La_Md_collect hc98 (Nat.le_of_ble_eq_true rfl) (Nat.le_of_ble_eq_true rfl) (Nat.le_of_ble_eq_true rfl) d_La_law_370 rfl ?_
          refine v_icmp_eq 664 d_La_law_373 (by decide) rfl (fun c99 => ?_) (fun c99 => ?_)
          · replace h := (if_pos c99).symm.trans h
            refine v_iinc (lo' := [_, _, _, _]) 5 d_La_law_664 (by decide) rfl rfl (by decide) rfl ?_
            refine v_goto 18 d_La_law_667 (by decide) ?_
            exact ih _ _ h
          · replace h := (if_neg c99).symm.trans h
            refine v_iconst 0 d_La_law_376 (by decide) rfl ?_
            exact absurd (rt_inv h).1.symm hr0
        replace h := (if_neg c9).symm.trans h
        by_cases c10 : ((xs x1.toNatClampNeg) &&& 31) = 6
        · replace h := (if_pos c10).symm.trans h
          refine v_tabIn 378 d_La_law_32 (by rw [c10]; decide) (by rw [c10]; decide) (by rw [c10]; rfl) (by decide) ?_
          refine v_aload_n d_La_law_378 rfl rfl ?_
          refine v_aload_n d_La_law_379 rfl rfl ?_
          refine v_iload_n d_La_law_380 rfl rfl ?_
          refine v_iconst 1 d_La_law_381 (by decide) rfl ?_
          refine v_iadd d_La_law_382 rfl ?_
          obtain ⟨g100, h⟩ := gd_inv h
          refine v_sld hX hbl hbA d_La_law_383 g100 rfl ?_
          obtain ⟨y101, u102, hc103, h⟩ := bd_inv h
          refine vc_La_Sh_deliver hc103 (Nat.le_of_ble_eq_true rfl) (Nat.le_of_ble_eq_true rfl) (Nat.le_of_ble_eq_true rfl) d_La_law_384 rfl ?_
          refine v_aload_n d_La_law_387 rfl rfl ?_
          refine v_aload_n d_La_law_388 rfl rfl ?_
          refine v_iload_n d_La_law_389 rfl rfl ?_
          refine v_iconst 1 d_La_law_390 (by decide) rfl ?_
          refine v_iadd d_La_law_391 rfl ?_
          obtain ⟨g104, h⟩ := gd_inv h
          refine v_sld hX hbl hbA d_La_law_392 g104 rfl ?_
          obtain ⟨y105, u106, hc107, h⟩ := bd_inv h
          refine vc_La_Md_deliver hc107 (Nat.le_of_ble_eq_true rfl) (Nat.le_of_ble_eq_true rfl) (Nat.le_of_ble_eq_true rfl) d_La_law_393 rfl ?_
          refine v_icmp_eq 664 d_La_law_396 (by decide) rfl (fun c108 => ?_) (fun c108 => ?_)
          · replace h := (if_pos c108).symm.trans h
            refine v_iinc (lo' := [_, _, _, _]) 5 d_La_law_664 (by decide) rfl rfl (by decide) rfl ?_
            refine v_goto 18 d_La_law_667 (by decide) ?_
            exact ih _ _ h
          · replace h := (if_neg c108).symm.trans h
            refine v_iconst 0 d_La_law_399 (by decide) rfl ?_
            exact absurd (rt_inv h).1.symm hr0
        replace h := (if_neg c10).symm.trans h
        by_cases c11 : ((xs x1.toNatClampNeg) &&& 31) = 7
        · replace h := (if_pos c11).symm.trans h
          refine v_tabIn 401 d_La_law_32 (by rw [c11]; decide) (by rw [c11]; decide) (by rw [c11]; rfl) (by decide) ?_
          refine v_aload_n d_La_law_401 rfl rfl ?_
          obtain ⟨y109, u110, hc111, h⟩ := bd_inv h
          refine vc_La_Sh_round hc111 (Nat.le_of_ble_eq_true rfl) (Nat.le_of_ble_eq_true rfl) (Nat.le_of_ble_eq_true rfl) d_La_law_402 rfl ?_
          refine v_aload_n d_La_law_405 rfl rfl ?_
          obtain ⟨y112, u113, hc114, h⟩ := bd_inv h
          refine vc_La_Md_round hc114 (Nat.le_of_ble_eq_true rfl) (Nat.le_of_ble_eq_true rfl) (Nat.le_of_ble_eq_true rfl) d_La_law_406 rfl ?_
          refine v_icmp_eq 664 d_La_law_409 (by decide) rfl (fun c115 => ?_) (fun c115 => ?_)
          · replace h := (if_pos c115).symm.trans h
            refine v_iinc (lo' := [_, _, _, _]) 5 d_La_law_664 (by decide) rfl rfl (by decide) rfl ?_
            refine v_goto 18 d_La_law_667 (by decide) ?_
            exact ih _ _ h
          · replace h := (if_neg c115).symm.trans h
            refine v_iconst 0 d_La_law_412 (by decide) rfl ?_
            exact absurd (rt_inv h).1.symm hr0
        replace h := (if_neg c11).symm.trans h
        by_cases c12 : ((xs x1.toNatClampNeg) &&& 31) = 8
        · replace h := (if_pos c12).symm.trans h
          refine v_tabIn 414 d_La_law_32 (by rw [c12]; decide) (by rw [c12]; decide) (by rw [c12]; rfl) (by decide) ?_
          refine v_aload_n d_La_law_414 rfl rfl ?_
          refine v_aload_n d_La_law_415 rfl rfl ?_
          refine v_iload_n d_La_law_416 rfl rfl ?_
          refine v_iconst 1 d_La_law_417 (by decide) rfl ?_
          refine v_iadd d_La_law_418 rfl ?_
          obtain ⟨g116, h⟩ := gd_inv h
          refine v_sld hX hbl hbA d_La_law_419 g116 rfl ?_
          refine v_aload_n d_La_law_420 rfl rfl ?_
          refine v_iload_n d_La_law_421 rfl rfl ?_
          refine v_iconst 2 d_La_law_422 (by decide) rfl ?_
          refine v_iadd d_La_law_423 rfl ?_
          obtain ⟨g117, h⟩ := gd_inv h
          refine v_sld hX hbl hbA d_La_law_424 g117 rfl ?_
          obtain ⟨y118, u119, hc120, h⟩ := bd_inv h
          refine vc_La_Sh_root hc120 (Nat.le_of_ble_eq_true rfl) (Nat.le_of_ble_eq_true rfl) (Nat.le_of_ble_eq_true rfl) d_La_law_425 rfl ?_
          refine v_aload_n d_La_law_428 rfl rfl ?_
          refine v_aload_n d_La_law_429 rfl rfl ?_
          refine v_iload_n d_La_law_430 rfl rfl ?_
          refine v_iconst 1 d_La_law_431 (by decide) rfl ?_
          refine v_iadd d_La_law_432 rfl ?_
          obtain ⟨g121, h⟩ := gd_inv h
          refine v_sld hX hbl hbA d_La_law_433 g121 rfl ?_
          refine v_aload_n d_La_law_434 rfl rfl ?_
          refine v_iload_n d_La_law_435 rfl rfl ?_
          refine v_iconst 2 d_La_law_436 (by decide) rfl ?_
          refine v_iadd d_La_law_437 rfl ?_
          obtain ⟨g122, h⟩ := gd_inv h
          refine v_sld hX hbl hbA d_La_law_438 g122 rfl ?_
          obtain ⟨y123, u124, hc125, h⟩ := bd_inv h
          refine vc_La_Md_root hc125 (Nat.le_of_ble_eq_true rfl) (Nat.le_of_ble_eq_true rfl) (Nat.le_of_ble_eq_true rfl) d_La_law_439 rfl ?_
          refine v_icmp_eq 664 d_La_law_442 (by decide) rfl (fun c126 => ?_) (fun c126 => ?_)
          · replace h := (if_pos c126).symm.trans h
            refine v_iinc (lo' := [_, _, _, _]) 5 d_La_law_664 (by decide) rfl rfl (by decide) rfl ?_
            refine v_goto 18 d_La_law_667 (by decide) ?_
            exact ih _ _ h
          · replace h := (if_neg c126).symm.trans h
            refine v_iconst 0 d_La_law_445 (by decide) rfl ?_
            exact absurd (rt_inv h).1.symm hr0
        replace h := (if_neg c12).symm.trans h
        by_cases c13 : ((xs x1.toNatClampNeg) &&& 31) = 9
        · replace h := (if_pos c13).symm.trans h
          refine v_tabIn 447 d_La_law_32 (by rw [c13]; decide) (by rw [c13]; decide) (by rw [c13]; rfl) (by decide) ?_
          refine v_aload_n d_La_law_447 rfl rfl ?_
          refine v_aload_n d_La_law_448 rfl rfl ?_
          refine v_iload_n d_La_law_449 rfl rfl ?_
          refine v_iconst 1 d_La_law_450 (by decide) rfl ?_
          refine v_iadd d_La_law_451 rfl ?_
          obtain ⟨g127, h⟩ := gd_inv h
          refine v_sld hX hbl hbA d_La_law_452 g127 rfl ?_
          refine v_aload_n d_La_law_453 rfl rfl ?_
          refine v_iload_n d_La_law_454 rfl rfl ?_
          refine v_iconst 2 d_La_law_455 (by decide) rfl ?_
          refine v_iadd d_La_law_456 rfl ?_
          obtain ⟨g128, h⟩ := gd_inv h
          refine v_sld hX hbl hbA d_La_law_457 g128 rfl ?_
          obtain ⟨y129, u130, hc131, h⟩ := bd_inv h
          refine vc_La_Sh_field hc131 (Nat.le_of_ble_eq_true rfl) (Nat.le_of_ble_eq_true rfl) (Nat.le_of_ble_eq_true rfl) d_La_law_458 rfl ?_
          refine v_aload_n d_La_law_461 rfl rfl ?_
          refine v_aload_n d_La_law_462 rfl rfl ?_
          refine v_iload_n d_La_law_463 rfl rfl ?_
          refine v_iconst 1 d_La_law_464 (by decide) rfl ?_
          refine v_iadd d_La_law_465 rfl ?_
          obtain ⟨g132, h⟩ := gd_inv h
          refine v_sld hX hbl hbA d_La_law_466 g132 rfl ?_
          refine v_aload_n d_La_law_467 rfl rfl ?_
          refine v_iload_n d_La_law_468 rfl rfl ?_
          refine v_iconst 2 d_La_law_469 (by decide) rfl ?_
          refine v_iadd d_La_law_470 rfl ?_
          obtain ⟨g133, h⟩ := gd_inv h
          refine v_sld hX hbl hbA d_La_law_471 g133 rfl ?_
          obtain ⟨y134, u135, hc136, h⟩ := bd_inv h
          refine vc_La_Md_field hc136 (Nat.le_of_ble_eq_true rfl) (Nat.le_of_ble_eq_true rfl) (Nat.le_of_ble_eq_true rfl) d_La_law_472 rfl ?_
          refine v_icmp_eq 664 d_La_law_475 (by decide) rfl (fun c137 => ?_) (fun c137 => ?_)
          · replace h := (if_pos c137).symm.trans h
            refine v_iinc (lo' := [_, _, _, _]) 5 d_La_law_664 (by decide) rfl rfl (by decide) rfl ?_
            refine v_goto 18 d_La_law_667 (by decide) ?_
            exact ih _ _ h
          · replace h := (if_neg c137).symm.trans h
            refine v_iconst 0 d_La_law_478 (by decide) rfl ?_
            exact absurd (rt_inv h).1.symm hr0
        replace h := (if_neg c13).symm.trans h
        by_cases c14 : ((xs x1.toNatClampNeg) &&& 31) = 10
        · replace h := (if_pos c14).symm.trans h
          refine v_tabIn 480 d_La_law_32 (by rw [c14]; decide) (by rw [c14]; decide) (by rw [c14]; rfl) (by decide) ?_
          refine v_aload_n d_La_law_480 rfl rfl ?_
          refine v_aload_n d_La_law_481 rfl rfl ?_
          refine v_iload_n d_La_law_482 rfl rfl ?_
          refine v_iconst 1 d_La_law_483 (by decide) rfl ?_
          refine v_iadd d_La_law_484 rfl ?_
          obtain ⟨g138, h⟩ := gd_inv h
          refine v_sld hX hbl hbA d_La_law_485 g138 rfl ?_
          obtain ⟨y139, u140, hc141, h⟩ := bd_inv h
          refine vc_La_Sh_owner hc141 (Nat.le_of_ble_eq_true rfl) (Nat.le_of_ble_eq_true rfl) (Nat.le_of_ble_eq_true rfl) d_La_law_486 rfl ?_
          refine v_aload_n d_La_law_489 rfl rfl ?_
          refine v_aload_n d_La_law_490 rfl rfl ?_
          refine v_iload_n d_La_law_491 rfl rfl ?_
          refine v_iconst 1 d_La_law_492 (by decide) rfl ?_
          refine v_iadd d_La_law_493 rfl ?_
          obtain ⟨g142, h⟩ := gd_inv h
          refine v_sld hX hbl hbA d_La_law_494 g142 rfl ?_
          obtain ⟨y143, u144, hc145, h⟩ := bd_inv h
          refine vc_La_Md_owner hc145 (Nat.le_of_ble_eq_true rfl) (Nat.le_of_ble_eq_true rfl) (Nat.le_of_ble_eq_true rfl) d_La_law_495 rfl ?_
          refine v_icmp_eq 664 d_La_law_498 (by decide) rfl (fun c146 => ?_) (fun c146 => ?_)
          · replace h := (if_pos c146).symm.trans h
            refine v_iinc (lo' := [_, _, _, _]) 5 d_La_law_664 (by decide) rfl rfl (by decide) rfl ?_
            refine v_goto 18 d_La_law_667 (by decide) ?_
            exact ih _ _ h
          · replace h := (if_neg c146).symm.trans h
            refine v_iconst 0 d_La_law_501 (by decide) rfl ?_
            exact absurd (rt_inv h).1.symm hr0
        replace h := (if_neg c14).symm.trans h
        by_cases c15 : ((xs x1.toNatClampNeg) &&& 31) = 11
        · replace h := (if_pos c15).symm.trans h
          refine v_tabIn 503 d_La_law_32 (by rw [c15]; decide) (by rw [c15]; decide) (by rw [c15]; rfl) (by decide) ?_
          refine v_aload_n d_La_law_503 rfl rfl ?_
          refine v_aload_n d_La_law_504 rfl rfl ?_
          refine v_iload_n d_La_law_505 rfl rfl ?_
          refine v_iconst 1 d_La_law_506 (by decide) rfl ?_
          refine v_iadd d_La_law_507 rfl ?_
          obtain ⟨g147, h⟩ := gd_inv h
          refine v_sld hX hbl hbA d_La_law_508 g147 rfl ?_
          obtain ⟨y148, u149, hc150, h⟩ := bd_inv h
          refine vc_La_Sh_objects hc150 (Nat.le_of_ble_eq_true rfl) (Nat.le_of_ble_eq_true rfl) (Nat.le_of_ble_eq_true rfl) d_La_law_509 rfl ?_
          refine v_aload_n d_La_law_512 rfl rfl ?_
          refine v_aload_n d_La_law_513 rfl rfl ?_
          refine v_iload_n d_La_law_514 rfl rfl ?_
          refine v_iconst 1 d_La_law_515 (by decide) rfl ?_
          refine v_iadd d_La_law_516 rfl ?_
          obtain ⟨g151, h⟩ := gd_inv h
          refine v_sld hX hbl hbA d_La_law_517 g151 rfl ?_
          obtain ⟨y152, u153, hc154, h⟩ := bd_inv h
          refine vc_La_Md_objects hc154 (Nat.le_of_ble_eq_true rfl) (Nat.le_of_ble_eq_true rfl) (Nat.le_of_ble_eq_true rfl) d_La_law_518 rfl ?_
          refine v_icmp_eq 664 d_La_law_521 (by decide) rfl (fun c155 => ?_) (fun c155 => ?_)
          · replace h := (if_pos c155).symm.trans h
            refine v_iinc (lo' := [_, _, _, _]) 5 d_La_law_664 (by decide) rfl rfl (by decide) rfl ?_
            refine v_goto 18 d_La_law_667 (by decide) ?_
            exact ih _ _ h
          · replace h := (if_neg c155).symm.trans h
            refine v_iconst 0 d_La_law_524 (by decide) rfl ?_
            exact absurd (rt_inv h).1.symm hr0
        replace h := (if_neg c15).symm.trans h
        by_cases c16 : ((xs x1.toNatClampNeg) &&& 31) = 12
        · replace h := (if_pos c16).symm.trans h
          refine v_tabIn 526 d_La_law_32 (by rw [c16]; decide) (by rw [c16]; decide) (by rw [c16]; rfl) (by decide) ?_
          refine v_aload_n d_La_law_526 rfl rfl ?_
          refine v_aload_n d_La_law_527 rfl rfl ?_
          refine v_iload_n d_La_law_528 rfl rfl ?_
          refine v_iconst 1 d_La_law_529 (by decide) rfl ?_
          refine v_iadd d_La_law_530 rfl ?_
          obtain ⟨g156, h⟩ := gd_inv h
          refine v_sld hX hbl hbA d_La_law_531 g156 rfl ?_
          obtain ⟨y157, u158, hc159, h⟩ := bd_inv h
          refine vc_La_Sh_entry hc159 (Nat.le_of_ble_eq_true rfl) (Nat.le_of_ble_eq_true rfl) (Nat.le_of_ble_eq_true rfl) d_La_law_532 rfl ?_
          refine v_aload_n d_La_law_535 rfl rfl ?_
          refine v_aload_n d_La_law_536 rfl rfl ?_
          refine v_iload_n d_La_law_537 rfl rfl ?_
          refine v_iconst 1 d_La_law_538 (by decide) rfl ?_
          refine v_iadd d_La_law_539 rfl ?_
          obtain ⟨g160, h⟩ := gd_inv h
          refine v_sld hX hbl hbA d_La_law_540 g160 rfl ?_
          obtain ⟨y161, u162, hc163, h⟩ := bd_inv h
          refine vc_La_Md_entry hc163 (Nat.le_of_ble_eq_true rfl) (Nat.le_of_ble_eq_true rfl) (Nat.le_of_ble_eq_true rfl) d_La_law_541 rfl ?_
          refine v_icmp_eq 664 d_La_law_544 (by decide) rfl (fun c164 => ?_) (fun c164 => ?_)
          · replace h := (if_pos c164).symm.trans h
            refine v_iinc (lo' := [_, _, _, _]) 5 d_La_law_664 (by decide) rfl rfl (by decide) rfl ?_
            refine v_goto 18 d_La_law_667 (by decide) ?_
            exact ih _ _ h
          · replace h := (if_neg c164).symm.trans h
            refine v_iconst 0 d_La_law_547 (by decide) rfl ?_
            exact absurd (rt_inv h).1.symm hr0
        replace h := (if_neg c16).symm.trans h
        by_cases c17 : ((xs x1.toNatClampNeg) &&& 31) = 13
        · replace h := (if_pos c17).symm.trans h
          refine v_tabIn 549 d_La_law_32 (by rw [c17]; decide) (by rw [c17]; decide) (by rw [c17]; rfl) (by decide) ?_
          refine v_aload_n d_La_law_549 rfl rfl ?_
          refine v_aload_n d_La_law_550 rfl rfl ?_
          refine v_iload_n d_La_law_551 rfl rfl ?_
          refine v_iconst 1 d_La_law_552 (by decide) rfl ?_
          refine v_iadd d_La_law_553 rfl ?_
          obtain ⟨g165, h⟩ := gd_inv h
          refine v_sld hX hbl hbA d_La_law_554 g165 rfl ?_
          refine v_aload_n d_La_law_555 rfl rfl ?_
          refine v_iload_n d_La_law_556 rfl rfl ?_
          refine v_iconst 2 d_La_law_557 (by decide) rfl ?_
          refine v_iadd d_La_law_558 rfl ?_
          obtain ⟨g166, h⟩ := gd_inv h
          refine v_sld hX hbl hbA d_La_law_559 g166 rfl ?_
          obtain ⟨y167, u168, hc169, h⟩ := bd_inv h
          refine vc_La_Sh_exit hc169 (Nat.le_of_ble_eq_true rfl) (Nat.le_of_ble_eq_true rfl) (Nat.le_of_ble_eq_true rfl) d_La_law_560 rfl ?_
          refine v_aload_n d_La_law_563 rfl rfl ?_
          refine v_aload_n d_La_law_564 rfl rfl ?_
          refine v_iload_n d_La_law_565 rfl rfl ?_
          refine v_iconst 1 d_La_law_566 (by decide) rfl ?_
          refine v_iadd d_La_law_567 rfl ?_
          obtain ⟨g170, h⟩ := gd_inv h
          refine v_sld hX hbl hbA d_La_law_568 g170 rfl ?_
          refine v_aload_n d_La_law_569 rfl rfl ?_
          refine v_iload_n d_La_law_570 rfl rfl ?_
          refine v_iconst 2 d_La_law_571 (by decide) rfl ?_
          refine v_iadd d_La_law_572 rfl ?_
          obtain ⟨g171, h⟩ := gd_inv h
          refine v_sld hX hbl hbA d_La_law_573 g171 rfl ?_
          obtain ⟨y172, u173, hc174, h⟩ := bd_inv h
          refine vc_La_Md_exit hc174 (Nat.le_of_ble_eq_true rfl) (Nat.le_of_ble_eq_true rfl) (Nat.le_of_ble_eq_true rfl) d_La_law_574 rfl ?_
          refine v_icmp_eq 664 d_La_law_577 (by decide) rfl (fun c175 => ?_) (fun c175 => ?_)
          · replace h := (if_pos c175).symm.trans h
            refine v_iinc (lo' := [_, _, _, _]) 5 d_La_law_664 (by decide) rfl rfl (by decide) rfl ?_
            refine v_goto 18 d_La_law_667 (by decide) ?_
            exact ih _ _ h
          · replace h := (if_neg c175).symm.trans h
            refine v_iconst 0 d_La_law_580 (by decide) rfl ?_
            exact absurd (rt_inv h).1.symm hr0
        replace h := (if_neg c17).symm.trans h
        by_cases c18 : ((xs x1.toNatClampNeg) &&& 31) = 14
        · replace h := (if_pos c18).symm.trans h
          refine v_tabIn 582 d_La_law_32 (by rw [c18]; decide) (by rw [c18]; decide) (by rw [c18]; rfl) (by decide) ?_
          refine v_aload_n d_La_law_582 rfl rfl ?_
          obtain ⟨y176, u177, hc178, h⟩ := bd_inv h
          refine vc_La_Sh_messages hc178 (Nat.le_of_ble_eq_true rfl) (Nat.le_of_ble_eq_true rfl) (Nat.le_of_ble_eq_true rfl) d_La_law_583 rfl ?_
          refine v_aload_n d_La_law_586 rfl rfl ?_
          obtain ⟨y179, u180, hc181, h⟩ := bd_inv h
          refine vc_La_Md_messages hc181 (Nat.le_of_ble_eq_true rfl) (Nat.le_of_ble_eq_true rfl) (Nat.le_of_ble_eq_true rfl) d_La_law_587 rfl ?_
          refine v_icmp_eq 664 d_La_law_590 (by decide) rfl (fun c182 => ?_) (fun c182 => ?_)
          · replace h := (if_pos c182).symm.trans h
            refine v_iinc (lo' := [_, _, _, _]) 5 d_La_law_664 (by decide) rfl rfl (by decide) rfl ?_
            refine v_goto 18 d_La_law_667 (by decide) ?_
            exact ih _ _ h
          · replace h := (if_neg c182).symm.trans h
            refine v_iconst 0 d_La_law_593 (by decide) rfl ?_
            exact absurd (rt_inv h).1.symm hr0
        replace h := (if_neg c18).symm.trans h
        by_cases c19 : ((xs x1.toNatClampNeg) &&& 31) = 15
        · replace h := (if_pos c19).symm.trans h
          refine v_tabIn 595 d_La_law_32 (by rw [c19]; decide) (by rw [c19]; decide) (by rw [c19]; rfl) (by decide) ?_
          refine v_aload_n d_La_law_595 rfl rfl ?_
          refine v_aload_n d_La_law_596 rfl rfl ?_
          refine v_iload_n d_La_law_597 rfl rfl ?_
          refine v_iconst 1 d_La_law_598 (by decide) rfl ?_
          refine v_iadd d_La_law_599 rfl ?_
          obtain ⟨g183, h⟩ := gd_inv h
          refine v_sld hX hbl hbA d_La_law_600 g183 rfl ?_
          refine v_aload_n d_La_law_601 rfl rfl ?_
          refine v_iload_n d_La_law_602 rfl rfl ?_
          refine v_iconst 2 d_La_law_603 (by decide) rfl ?_
          refine v_iadd d_La_law_604 rfl ?_
          obtain ⟨g184, h⟩ := gd_inv h
          refine v_sld hX hbl hbA d_La_law_605 g184 rfl ?_
          obtain ⟨y185, u186, hc187, h⟩ := bd_inv h
          refine vc_La_Sh_message hc187 (Nat.le_of_ble_eq_true rfl) (Nat.le_of_ble_eq_true rfl) (Nat.le_of_ble_eq_true rfl) d_La_law_606 rfl ?_
          refine v_aload_n d_La_law_609 rfl rfl ?_
          refine v_aload_n d_La_law_610 rfl rfl ?_
          refine v_iload_n d_La_law_611 rfl rfl ?_
          refine v_iconst 1 d_La_law_612 (by decide) rfl ?_
          refine v_iadd d_La_law_613 rfl ?_
          obtain ⟨g188, h⟩ := gd_inv h
          refine v_sld hX hbl hbA d_La_law_614 g188 rfl ?_
          refine v_aload_n d_La_law_615 rfl rfl ?_
          refine v_iload_n d_La_law_616 rfl rfl ?_
          refine v_iconst 2 d_La_law_617 (by decide) rfl ?_
          refine v_iadd d_La_law_618 rfl ?_
          obtain ⟨g189, h⟩ := gd_inv h
          refine v_sld hX hbl hbA d_La_law_619 g189 rfl ?_
          obtain ⟨y190, u191, hc192, h⟩ := bd_inv h
          refine vc_La_Md_message hc192 (Nat.le_of_ble_eq_true rfl) (Nat.le_of_ble_eq_true rfl) (Nat.le_of_ble_eq_true rfl) d_La_law_620 rfl ?_
          refine v_icmp_eq 664 d_La_law_623 (by decide) rfl (fun c193 => ?_) (fun c193 => ?_)
          · replace h := (if_pos c193).symm.trans h
            refine v_iinc (lo' := [_, _, _, _]) 5 d_La_law_664 (by decide) rfl rfl (by decide) rfl ?_
            refine v_goto 18 d_La_law_667 (by decide) ?_
            exact ih _ _ h
          · replace h := (if_neg c193).symm.trans h
            refine v_iconst 0 d_La_law_626 (by decide) rfl ?_
            exact absurd (rt_inv h).1.symm hr0
        replace h := (if_neg c19).symm.trans h
        by_cases c20 : ((xs x1.toNatClampNeg) &&& 31) = 16
        · replace h := (if_pos c20).symm.trans h
          refine v_tabIn 628 d_La_law_32 (by rw [c20]; decide) (by rw [c20]; decide) (by rw [c20]; rfl) (by decide) ?_
          refine v_aload_n d_La_law_628 rfl rfl ?_
          refine v_aload_n d_La_law_629 rfl rfl ?_
          refine v_iload_n d_La_law_630 rfl rfl ?_
          refine v_iconst 1 d_La_law_631 (by decide) rfl ?_
          refine v_iadd d_La_law_632 rfl ?_
          obtain ⟨g194, h⟩ := gd_inv h
          refine v_sld hX hbl hbA d_La_law_633 g194 rfl ?_
          obtain ⟨y195, u196, hc197, h⟩ := bd_inv h
          refine vc_La_Sh_redo hc197 (Nat.le_of_ble_eq_true rfl) (Nat.le_of_ble_eq_true rfl) (Nat.le_of_ble_eq_true rfl) d_La_law_634 rfl ?_
          refine v_aload_n d_La_law_637 rfl rfl ?_
          refine v_aload_n d_La_law_638 rfl rfl ?_
          refine v_iload_n d_La_law_639 rfl rfl ?_
          refine v_iconst 1 d_La_law_640 (by decide) rfl ?_
          refine v_iadd d_La_law_641 rfl ?_
          obtain ⟨g198, h⟩ := gd_inv h
          refine v_sld hX hbl hbA d_La_law_642 g198 rfl ?_
          obtain ⟨y199, u200, hc201, h⟩ := bd_inv h
          refine vc_La_Md_redo hc201 (Nat.le_of_ble_eq_true rfl) (Nat.le_of_ble_eq_true rfl) (Nat.le_of_ble_eq_true rfl) d_La_law_643 rfl ?_
          refine v_icmp_eq 664 d_La_law_646 (by decide) rfl (fun c202 => ?_) (fun c202 => ?_)
          · replace h := (if_pos c202).symm.trans h
            refine v_iinc (lo' := [_, _, _, _]) 5 d_La_law_664 (by decide) rfl rfl (by decide) rfl ?_
            refine v_goto 18 d_La_law_667 (by decide) ?_
            exact ih _ _ h
          · replace h := (if_neg c202).symm.trans h
            refine v_iconst 0 d_La_law_649 (by decide) rfl ?_
            exact absurd (rt_inv h).1.symm hr0
        replace h := (if_neg c20).symm.trans h
        by_cases c21 : ((xs x1.toNatClampNeg) &&& 31) = 17
        · replace h := (if_pos c21).symm.trans h
          refine v_tabIn 651 d_La_law_32 (by rw [c21]; decide) (by rw [c21]; decide) (by rw [c21]; rfl) (by decide) ?_
          refine v_aload_n d_La_law_651 rfl rfl ?_
          obtain ⟨y203, u204, hc205, h⟩ := bd_inv h
          refine vc_La_Sh_threshold hc205 (Nat.le_of_ble_eq_true rfl) (Nat.le_of_ble_eq_true rfl) (Nat.le_of_ble_eq_true rfl) d_La_law_652 rfl ?_
          refine v_aload_n d_La_law_655 rfl rfl ?_
          obtain ⟨y206, u207, hc208, h⟩ := bd_inv h
          refine vc_La_Md_threshold hc208 (Nat.le_of_ble_eq_true rfl) (Nat.le_of_ble_eq_true rfl) (Nat.le_of_ble_eq_true rfl) d_La_law_656 rfl ?_
          refine v_icmp_eq 664 d_La_law_659 (by decide) rfl (fun c209 => ?_) (fun c209 => ?_)
          · replace h := (if_pos c209).symm.trans h
            refine v_iinc (lo' := [_, _, _, _]) 5 d_La_law_664 (by decide) rfl rfl (by decide) rfl ?_
            refine v_goto 18 d_La_law_667 (by decide) ?_
            exact ih _ _ h
          · replace h := (if_neg c209).symm.trans h
            refine v_iconst 0 d_La_law_662 (by decide) rfl ?_
            exact absurd (rt_inv h).1.symm hr0
        replace h := (if_neg c21).symm.trans h
        refine v_tabOut 664 d_La_law_32 (tab_out c4 c5 c6 c7 c8 c9 c10 c11 c12 c13 c14 c15 c16 c17 c18 c19 c20 c21) (by decide) ?_
        refine v_iinc (lo' := [_, _, _, _]) 5 d_La_law_664 (by decide) rfl rfl (by decide) rfl ?_
        refine v_goto 18 d_La_law_667 (by decide) ?_
        exact ih _ _ h
  refine L18 _ (fun u211 h => ?_) N _ _ h
  refine v_iconst 1 d_La_law_670 (by decide) rfl ?_
  exact ret _ _ _ d_La_law_671
