set_option maxHeartbeats 4000000 in
set_option maxRecDepth 100000 in
theorem w_L_law_18 (L : Nat) (xs : Nat → Int32) : ∀ (f : Nat) (x3 : Int32) (h : AHp), WO tvI (QL_law L xs) 130 18 [(0, .ref 9002), (1, .ref 0), (2, .ref 70), (3, .int x3)] [] h (m_L_law_18 L xs f x3 h) := by
  intro f
  induction f with
  | zero => intro x3 h; exact z_none
  | succ f ih =>
    intro x3 h
    rw [m_L_law_18]
    refine z_iload_n dL_law_18 3 rfl ?_
    refine z_aload_n dL_law_19 0 rfl ?_
    refine z_slen (L := L) (xs := xs) rfl dL_law_20 ?_
    refine z_bipush (v := 7) dL_law_21 (by decide) ?_
    refine z_isub dL_law_23 ?_
    refine z_ic_gt (tgt := 985) dL_law_24 (by decide) ?_ ?_
    · refine z_iconst (v := 1) dL_law_985 (by decide) ?_
      exact z_zret dL_law_986 rfl (Or.inr rfl)
    · refine z_aload_n dL_law_27 0 rfl ?_
      refine z_iload_n dL_law_28 3 rfl ?_
      refine z_gd (fun g1 => ?_)
      refine z_sld (L := L) (xs := xs) rfl g1 dL_law_29 ?_
      refine z_bipush (v := 31) dL_law_30 (by decide) ?_
      refine z_iand dL_law_32 ?_
      refine z_ite (fun c2 => ?_) (fun c2 => ?_)
      · refine z_tin (tgt := 144) (off := 111) dL_law_33 (by rw [c2]; decide) (by rw [c2]; decide) (by rw [c2]; decide) (by decide) ?_
        refine z_aload_n dL_law_144 1 rfl ?_
        refine z_aload_n dL_law_145 0 rfl ?_
        refine z_iload_n dL_law_146 3 rfl ?_
        refine z_iconst (v := 1) dL_law_147 (by decide) ?_
        refine z_iadd dL_law_148 ?_
        refine z_gd (fun g3 => ?_)
        refine z_sld (L := L) (xs := xs) rfl g3 dL_law_149 ?_
        refine z_aload_n dL_law_150 0 rfl ?_
        refine z_iload_n dL_law_151 3 rfl ?_
        refine z_iconst (v := 2) dL_law_152 (by decide) ?_
        refine z_iadd dL_law_153 ?_
        refine z_gd (fun g4 => ?_)
        refine z_sld (L := L) (xs := xs) rfl g4 dL_law_154 ?_
        refine z_aload_n dL_law_155 0 rfl ?_
        refine z_iload_n dL_law_156 3 rfl ?_
        refine z_iconst (v := 3) dL_law_157 (by decide) ?_
        refine z_iadd dL_law_158 ?_
        refine z_gd (fun g5 => ?_)
        refine z_sld (L := L) (xs := xs) rfl g5 dL_law_159 ?_
        refine z_aload_n dL_law_160 0 rfl ?_
        refine z_iload_n dL_law_161 3 rfl ?_
        refine z_iconst (v := 4) dL_law_162 (by decide) ?_
        refine z_iadd dL_law_163 ?_
        refine z_gd (fun g6 => ?_)
        refine z_sld (L := L) (xs := xs) rfl g6 dL_law_164 ?_
        refine z_aload_n dL_law_165 0 rfl ?_
        refine z_iload_n dL_law_166 3 rfl ?_
        refine z_iconst (v := 5) dL_law_167 (by decide) ?_
        refine z_iadd dL_law_168 ?_
        refine z_gd (fun g7 => ?_)
        refine z_sld (L := L) (xs := xs) rfl g7 dL_law_169 ?_
        refine z_callVI dL_law_170 (M_X11_feed _ _ _ _ _ _) bX11_feed lL_13 kc_0 rfl rfl (Nat.le_of_ble_eq_true rfl) (Nat.le_of_ble_eq_true rfl) (fun r8 h9 => ?_)
        refine z_aload_n dL_law_173 2 rfl ?_
        refine z_aload_n dL_law_174 0 rfl ?_
        refine z_iload_n dL_law_175 3 rfl ?_
        refine z_iconst (v := 1) dL_law_176 (by decide) ?_
        refine z_iadd dL_law_177 ?_
        refine z_gd (fun g10 => ?_)
        refine z_sld (L := L) (xs := xs) rfl g10 dL_law_178 ?_
        refine z_aload_n dL_law_179 0 rfl ?_
        refine z_iload_n dL_law_180 3 rfl ?_
        refine z_iconst (v := 2) dL_law_181 (by decide) ?_
        refine z_iadd dL_law_182 ?_
        refine z_gd (fun g11 => ?_)
        refine z_sld (L := L) (xs := xs) rfl g11 dL_law_183 ?_
        refine z_aload_n dL_law_184 0 rfl ?_
        refine z_iload_n dL_law_185 3 rfl ?_
        refine z_iconst (v := 3) dL_law_186 (by decide) ?_
        refine z_iadd dL_law_187 ?_
        refine z_gd (fun g12 => ?_)
        refine z_sld (L := L) (xs := xs) rfl g12 dL_law_188 ?_
        refine z_aload_n dL_law_189 0 rfl ?_
        refine z_iload_n dL_law_190 3 rfl ?_
        refine z_iconst (v := 4) dL_law_191 (by decide) ?_
        refine z_iadd dL_law_192 ?_
        refine z_gd (fun g13 => ?_)
        refine z_sld (L := L) (xs := xs) rfl g13 dL_law_193 ?_
        refine z_aload_n dL_law_194 0 rfl ?_
        refine z_iload_n dL_law_195 3 rfl ?_
        refine z_iconst (v := 5) dL_law_196 (by decide) ?_
        refine z_iadd dL_law_197 ?_
        refine z_gd (fun g14 => ?_)
        refine z_sld (L := L) (xs := xs) rfl g14 dL_law_198 ?_
        refine z_callVI dL_law_199 (M_X12_feed _ _ _ _ _ _) bX12_feed lL_17 kc_70 rfl rfl (Nat.le_of_ble_eq_true rfl) (Nat.le_of_ble_eq_true rfl) (fun r15 h16 => ?_)
        refine z_ic_eq (tgt := 979) dL_law_202 (by decide) ?_ ?_
        · refine z_iincL (lv2 := fun v17 => [(3, .int v17), (0, .ref 9002), (1, .ref 0), (2, .ref 70)]) dL_law_979 3 rfl rfl (Nat.le_of_ble_eq_true rfl) (fun _ => rfl) (fun v17 => ?_)
          refine z_goto (tgt := 18) dL_law_982 (by decide) ?_
          exact z_sub [1, 2, 3, 0] rfl (ih _ _)
        · refine z_iconst (v := 0) dL_law_205 (by decide) ?_
          exact z_zret dL_law_206 rfl (Or.inl rfl)
      · refine z_ite (fun c18 => ?_) (fun c18 => ?_)
        · refine z_tin (tgt := 207) (off := 174) dL_law_33 (by rw [c18]; decide) (by rw [c18]; decide) (by rw [c18]; decide) (by decide) ?_
          refine z_aload_n dL_law_207 1 rfl ?_
          refine z_aload_n dL_law_208 0 rfl ?_
          refine z_iload_n dL_law_209 3 rfl ?_
          refine z_iconst (v := 1) dL_law_210 (by decide) ?_
          refine z_iadd dL_law_211 ?_
          refine z_gd (fun g19 => ?_)
          refine z_sld (L := L) (xs := xs) rfl g19 dL_law_212 ?_
          refine z_aload_n dL_law_213 0 rfl ?_
          refine z_iload_n dL_law_214 3 rfl ?_
          refine z_iconst (v := 2) dL_law_215 (by decide) ?_
          refine z_iadd dL_law_216 ?_
          refine z_gd (fun g20 => ?_)
          refine z_sld (L := L) (xs := xs) rfl g20 dL_law_217 ?_
          refine z_callVI dL_law_218 (M_X11_thing _ _ _) bX11_thing lL_18 kc_0 rfl rfl (Nat.le_of_ble_eq_true rfl) (Nat.le_of_ble_eq_true rfl) (fun r21 h22 => ?_)
          refine z_aload_n dL_law_221 2 rfl ?_
          refine z_aload_n dL_law_222 0 rfl ?_
          refine z_iload_n dL_law_223 3 rfl ?_
          refine z_iconst (v := 1) dL_law_224 (by decide) ?_
          refine z_iadd dL_law_225 ?_
          refine z_gd (fun g23 => ?_)
          refine z_sld (L := L) (xs := xs) rfl g23 dL_law_226 ?_
          refine z_aload_n dL_law_227 0 rfl ?_
          refine z_iload_n dL_law_228 3 rfl ?_
          refine z_iconst (v := 2) dL_law_229 (by decide) ?_
          refine z_iadd dL_law_230 ?_
          refine z_gd (fun g24 => ?_)
          refine z_sld (L := L) (xs := xs) rfl g24 dL_law_231 ?_
          refine z_callVI dL_law_232 (M_X12_thing _ _ _) bX12_thing lL_22 kc_70 rfl rfl (Nat.le_of_ble_eq_true rfl) (Nat.le_of_ble_eq_true rfl) (fun r25 h26 => ?_)
          refine z_ic_eq (tgt := 979) dL_law_235 (by decide) ?_ ?_
          · refine z_iincL (lv2 := fun v27 => [(3, .int v27), (0, .ref 9002), (1, .ref 0), (2, .ref 70)]) dL_law_979 3 rfl rfl (Nat.le_of_ble_eq_true rfl) (fun _ => rfl) (fun v27 => ?_)
            refine z_goto (tgt := 18) dL_law_982 (by decide) ?_
            exact z_sub [1, 2, 3, 0] rfl (ih _ _)
          · refine z_iconst (v := 0) dL_law_238 (by decide) ?_
            exact z_zret dL_law_239 rfl (Or.inl rfl)
        · refine z_ite (fun c28 => ?_) (fun c28 => ?_)
          · refine z_tin (tgt := 240) (off := 207) dL_law_33 (by rw [c28]; decide) (by rw [c28]; decide) (by rw [c28]; decide) (by decide) ?_
            refine z_aload_n dL_law_240 1 rfl ?_
            refine z_aload_n dL_law_241 0 rfl ?_
            refine z_iload_n dL_law_242 3 rfl ?_
            refine z_iconst (v := 1) dL_law_243 (by decide) ?_
            refine z_iadd dL_law_244 ?_
            refine z_gd (fun g29 => ?_)
            refine z_sld (L := L) (xs := xs) rfl g29 dL_law_245 ?_
            refine z_callVI dL_law_246 (M_X11_lengths _ _) bX11_lengths lL_23 kc_0 rfl rfl (Nat.le_of_ble_eq_true rfl) (Nat.le_of_ble_eq_true rfl) (fun r30 h31 => ?_)
            refine z_aload_n dL_law_249 2 rfl ?_
            refine z_aload_n dL_law_250 0 rfl ?_
            refine z_iload_n dL_law_251 3 rfl ?_
            refine z_iconst (v := 1) dL_law_252 (by decide) ?_
            refine z_iadd dL_law_253 ?_
            refine z_gd (fun g32 => ?_)
            refine z_sld (L := L) (xs := xs) rfl g32 dL_law_254 ?_
            refine z_callVI dL_law_255 (M_X12_lengths _ _) bX12_lengths lL_27 kc_70 rfl rfl (Nat.le_of_ble_eq_true rfl) (Nat.le_of_ble_eq_true rfl) (fun r33 h34 => ?_)
            refine z_ic_eq (tgt := 979) dL_law_258 (by decide) ?_ ?_
            · refine z_iincL (lv2 := fun v35 => [(3, .int v35), (0, .ref 9002), (1, .ref 0), (2, .ref 70)]) dL_law_979 3 rfl rfl (Nat.le_of_ble_eq_true rfl) (fun _ => rfl) (fun v35 => ?_)
              refine z_goto (tgt := 18) dL_law_982 (by decide) ?_
              exact z_sub [1, 2, 3, 0] rfl (ih _ _)
            · refine z_iconst (v := 0) dL_law_261 (by decide) ?_
              exact z_zret dL_law_262 rfl (Or.inl rfl)
          · refine z_ite (fun c36 => ?_) (fun c36 => ?_)
            · refine z_tin (tgt := 263) (off := 230) dL_law_33 (by rw [c36]; decide) (by rw [c36]; decide) (by rw [c36]; decide) (by decide) ?_
              refine z_aload_n dL_law_263 1 rfl ?_
              refine z_aload_n dL_law_264 0 rfl ?_
              refine z_iload_n dL_law_265 3 rfl ?_
              refine z_iconst (v := 1) dL_law_266 (by decide) ?_
              refine z_iadd dL_law_267 ?_
              refine z_gd (fun g37 => ?_)
              refine z_sld (L := L) (xs := xs) rfl g37 dL_law_268 ?_
              refine z_aload_n dL_law_269 0 rfl ?_
              refine z_iload_n dL_law_270 3 rfl ?_
              refine z_iconst (v := 2) dL_law_271 (by decide) ?_
              refine z_iadd dL_law_272 ?_
              refine z_gd (fun g38 => ?_)
              refine z_sld (L := L) (xs := xs) rfl g38 dL_law_273 ?_
              refine z_callVI dL_law_274 (M_X11_colour _ _ _) bX11_colour lL_28 kc_0 rfl rfl (Nat.le_of_ble_eq_true rfl) (Nat.le_of_ble_eq_true rfl) (fun r39 h40 => ?_)
              refine z_aload_n dL_law_277 2 rfl ?_
              refine z_aload_n dL_law_278 0 rfl ?_
              refine z_iload_n dL_law_279 3 rfl ?_
              refine z_iconst (v := 1) dL_law_280 (by decide) ?_
              refine z_iadd dL_law_281 ?_
              refine z_gd (fun g41 => ?_)
              refine z_sld (L := L) (xs := xs) rfl g41 dL_law_282 ?_
              refine z_aload_n dL_law_283 0 rfl ?_
              refine z_iload_n dL_law_284 3 rfl ?_
              refine z_iconst (v := 2) dL_law_285 (by decide) ?_
              refine z_iadd dL_law_286 ?_
              refine z_gd (fun g42 => ?_)
              refine z_sld (L := L) (xs := xs) rfl g42 dL_law_287 ?_
              refine z_callVI dL_law_288 (M_X12_colour _ _ _) bX12_colour lL_32 kc_70 rfl rfl (Nat.le_of_ble_eq_true rfl) (Nat.le_of_ble_eq_true rfl) (fun r43 h44 => ?_)
              refine z_ic_eq (tgt := 979) dL_law_291 (by decide) ?_ ?_
              · refine z_iincL (lv2 := fun v45 => [(3, .int v45), (0, .ref 9002), (1, .ref 0), (2, .ref 70)]) dL_law_979 3 rfl rfl (Nat.le_of_ble_eq_true rfl) (fun _ => rfl) (fun v45 => ?_)
                refine z_goto (tgt := 18) dL_law_982 (by decide) ?_
                exact z_sub [1, 2, 3, 0] rfl (ih _ _)
              · refine z_iconst (v := 0) dL_law_294 (by decide) ?_
                exact z_zret dL_law_295 rfl (Or.inl rfl)
            · refine z_ite (fun c46 => ?_) (fun c46 => ?_)
              · refine z_tin (tgt := 296) (off := 263) dL_law_33 (by rw [c46]; decide) (by rw [c46]; decide) (by rw [c46]; decide) (by decide) ?_
                refine z_aload_n dL_law_296 1 rfl ?_
                refine z_aload_n dL_law_297 0 rfl ?_
                refine z_iload_n dL_law_298 3 rfl ?_
                refine z_iconst (v := 1) dL_law_299 (by decide) ?_
                refine z_iadd dL_law_300 ?_
                refine z_gd (fun g47 => ?_)
                refine z_sld (L := L) (xs := xs) rfl g47 dL_law_301 ?_
                refine z_aload_n dL_law_302 0 rfl ?_
                refine z_iload_n dL_law_303 3 rfl ?_
                refine z_iconst (v := 2) dL_law_304 (by decide) ?_
                refine z_iadd dL_law_305 ?_
                refine z_gd (fun g48 => ?_)
                refine z_sld (L := L) (xs := xs) rfl g48 dL_law_306 ?_
                refine z_callVI dL_law_307 (M_X11_law _ _ _) bX11_law lL_33 kc_0 rfl rfl (Nat.le_of_ble_eq_true rfl) (Nat.le_of_ble_eq_true rfl) (fun r49 h50 => ?_)
                refine z_aload_n dL_law_310 2 rfl ?_
                refine z_aload_n dL_law_311 0 rfl ?_
                refine z_iload_n dL_law_312 3 rfl ?_
                refine z_iconst (v := 1) dL_law_313 (by decide) ?_
                refine z_iadd dL_law_314 ?_
                refine z_gd (fun g51 => ?_)
                refine z_sld (L := L) (xs := xs) rfl g51 dL_law_315 ?_
                refine z_aload_n dL_law_316 0 rfl ?_
                refine z_iload_n dL_law_317 3 rfl ?_
                refine z_iconst (v := 2) dL_law_318 (by decide) ?_
                refine z_iadd dL_law_319 ?_
                refine z_gd (fun g52 => ?_)
                refine z_sld (L := L) (xs := xs) rfl g52 dL_law_320 ?_
                refine z_callVI dL_law_321 (M_X12_law _ _ _) bX12_law lL_36 kc_70 rfl rfl (Nat.le_of_ble_eq_true rfl) (Nat.le_of_ble_eq_true rfl) (fun r53 h54 => ?_)
                refine z_ic_eq (tgt := 979) dL_law_324 (by decide) ?_ ?_
                · refine z_iincL (lv2 := fun v55 => [(3, .int v55), (0, .ref 9002), (1, .ref 0), (2, .ref 70)]) dL_law_979 3 rfl rfl (Nat.le_of_ble_eq_true rfl) (fun _ => rfl) (fun v55 => ?_)
                  refine z_goto (tgt := 18) dL_law_982 (by decide) ?_
                  exact z_sub [1, 2, 3, 0] rfl (ih _ _)
                · refine z_iconst (v := 0) dL_law_327 (by decide) ?_
                  exact z_zret dL_law_328 rfl (Or.inl rfl)
              · refine z_ite (fun c56 => ?_) (fun c56 => ?_)
                · refine z_tin (tgt := 329) (off := 296) dL_law_33 (by rw [c56]; decide) (by rw [c56]; decide) (by rw [c56]; decide) (by decide) ?_
                  refine z_aload_n dL_law_329 1 rfl ?_
                  refine z_aload_n dL_law_330 0 rfl ?_
                  refine z_iload_n dL_law_331 3 rfl ?_
                  refine z_iconst (v := 1) dL_law_332 (by decide) ?_
                  refine z_iadd dL_law_333 ?_
                  refine z_gd (fun g57 => ?_)
                  refine z_sld (L := L) (xs := xs) rfl g57 dL_law_334 ?_
                  refine z_aload_n dL_law_335 0 rfl ?_
                  refine z_iload_n dL_law_336 3 rfl ?_
                  refine z_iconst (v := 2) dL_law_337 (by decide) ?_
                  refine z_iadd dL_law_338 ?_
                  refine z_gd (fun g58 => ?_)
                  refine z_sld (L := L) (xs := xs) rfl g58 dL_law_339 ?_
                  refine z_aload_n dL_law_340 0 rfl ?_
                  refine z_iload_n dL_law_341 3 rfl ?_
                  refine z_iconst (v := 3) dL_law_342 (by decide) ?_
                  refine z_iadd dL_law_343 ?_
                  refine z_gd (fun g59 => ?_)
                  refine z_sld (L := L) (xs := xs) rfl g59 dL_law_344 ?_
                  refine z_aload_n dL_law_345 0 rfl ?_
                  refine z_iload_n dL_law_346 3 rfl ?_
                  refine z_iconst (v := 4) dL_law_347 (by decide) ?_
                  refine z_iadd dL_law_348 ?_
                  refine z_gd (fun g60 => ?_)
                  refine z_sld (L := L) (xs := xs) rfl g60 dL_law_349 ?_
                  refine z_callVI dL_law_350 (M_X11_may _ _ _ _ _) bX11_may lL_37 kc_0 rfl rfl (Nat.le_of_ble_eq_true rfl) (Nat.le_of_ble_eq_true rfl) (fun r61 h62 => ?_)
                  refine z_aload_n dL_law_353 2 rfl ?_
                  refine z_aload_n dL_law_354 0 rfl ?_
                  refine z_iload_n dL_law_355 3 rfl ?_
                  refine z_iconst (v := 1) dL_law_356 (by decide) ?_
                  refine z_iadd dL_law_357 ?_
                  refine z_gd (fun g63 => ?_)
                  refine z_sld (L := L) (xs := xs) rfl g63 dL_law_358 ?_
                  refine z_aload_n dL_law_359 0 rfl ?_
                  refine z_iload_n dL_law_360 3 rfl ?_
                  refine z_iconst (v := 2) dL_law_361 (by decide) ?_
                  refine z_iadd dL_law_362 ?_
                  refine z_gd (fun g64 => ?_)
                  refine z_sld (L := L) (xs := xs) rfl g64 dL_law_363 ?_
                  refine z_aload_n dL_law_364 0 rfl ?_
                  refine z_iload_n dL_law_365 3 rfl ?_
                  refine z_iconst (v := 3) dL_law_366 (by decide) ?_
                  refine z_iadd dL_law_367 ?_
                  refine z_gd (fun g65 => ?_)
                  refine z_sld (L := L) (xs := xs) rfl g65 dL_law_368 ?_
                  refine z_aload_n dL_law_369 0 rfl ?_
                  refine z_iload_n dL_law_370 3 rfl ?_
                  refine z_iconst (v := 4) dL_law_371 (by decide) ?_
                  refine z_iadd dL_law_372 ?_
                  refine z_gd (fun g66 => ?_)
                  refine z_sld (L := L) (xs := xs) rfl g66 dL_law_373 ?_
                  refine z_callVI dL_law_374 (M_X12_may _ _ _ _ _) bX12_may lL_41 kc_70 rfl rfl (Nat.le_of_ble_eq_true rfl) (Nat.le_of_ble_eq_true rfl) (fun r67 h68 => ?_)
                  refine z_ic_eq (tgt := 979) dL_law_377 (by decide) ?_ ?_
                  · refine z_iincL (lv2 := fun v69 => [(3, .int v69), (0, .ref 9002), (1, .ref 0), (2, .ref 70)]) dL_law_979 3 rfl rfl (Nat.le_of_ble_eq_true rfl) (fun _ => rfl) (fun v69 => ?_)
                    refine z_goto (tgt := 18) dL_law_982 (by decide) ?_
                    exact z_sub [1, 2, 3, 0] rfl (ih _ _)
                  · refine z_iconst (v := 0) dL_law_380 (by decide) ?_
                    exact z_zret dL_law_381 rfl (Or.inl rfl)
                · refine z_ite (fun c70 => ?_) (fun c70 => ?_)
                  · refine z_tin (tgt := 382) (off := 349) dL_law_33 (by rw [c70]; decide) (by rw [c70]; decide) (by rw [c70]; decide) (by decide) ?_
                    refine z_aload_n dL_law_382 1 rfl ?_
                    refine z_aload_n dL_law_383 0 rfl ?_
                    refine z_iload_n dL_law_384 3 rfl ?_
                    refine z_iconst (v := 1) dL_law_385 (by decide) ?_
                    refine z_iadd dL_law_386 ?_
                    refine z_gd (fun g71 => ?_)
                    refine z_sld (L := L) (xs := xs) rfl g71 dL_law_387 ?_
                    refine z_aload_n dL_law_388 0 rfl ?_
                    refine z_iload_n dL_law_389 3 rfl ?_
                    refine z_iconst (v := 2) dL_law_390 (by decide) ?_
                    refine z_iadd dL_law_391 ?_
                    refine z_gd (fun g72 => ?_)
                    refine z_sld (L := L) (xs := xs) rfl g72 dL_law_392 ?_
                    refine z_aload_n dL_law_393 0 rfl ?_
                    refine z_iload_n dL_law_394 3 rfl ?_
                    refine z_iconst (v := 3) dL_law_395 (by decide) ?_
                    refine z_iadd dL_law_396 ?_
                    refine z_gd (fun g73 => ?_)
                    refine z_sld (L := L) (xs := xs) rfl g73 dL_law_397 ?_
                    refine z_callVI dL_law_398 (M_X11_ways _ _ _ _) bX11_ways lL_42 kc_0 rfl rfl (Nat.le_of_ble_eq_true rfl) (Nat.le_of_ble_eq_true rfl) (fun r74 h75 => ?_)
                    refine z_aload_n dL_law_401 2 rfl ?_
                    refine z_aload_n dL_law_402 0 rfl ?_
                    refine z_iload_n dL_law_403 3 rfl ?_
                    refine z_iconst (v := 1) dL_law_404 (by decide) ?_
                    refine z_iadd dL_law_405 ?_
                    refine z_gd (fun g76 => ?_)
                    refine z_sld (L := L) (xs := xs) rfl g76 dL_law_406 ?_
                    refine z_aload_n dL_law_407 0 rfl ?_
                    refine z_iload_n dL_law_408 3 rfl ?_
                    refine z_iconst (v := 2) dL_law_409 (by decide) ?_
                    refine z_iadd dL_law_410 ?_
                    refine z_gd (fun g77 => ?_)
                    refine z_sld (L := L) (xs := xs) rfl g77 dL_law_411 ?_
                    refine z_aload_n dL_law_412 0 rfl ?_
                    refine z_iload_n dL_law_413 3 rfl ?_
                    refine z_iconst (v := 3) dL_law_414 (by decide) ?_
                    refine z_iadd dL_law_415 ?_
                    refine z_gd (fun g78 => ?_)
                    refine z_sld (L := L) (xs := xs) rfl g78 dL_law_416 ?_
                    refine z_callVI dL_law_417 (M_X12_ways _ _ _ _) bX12_ways lL_46 kc_70 rfl rfl (Nat.le_of_ble_eq_true rfl) (Nat.le_of_ble_eq_true rfl) (fun r79 h80 => ?_)
                    refine z_ic_eq (tgt := 979) dL_law_420 (by decide) ?_ ?_
                    · refine z_iincL (lv2 := fun v81 => [(3, .int v81), (0, .ref 9002), (1, .ref 0), (2, .ref 70)]) dL_law_979 3 rfl rfl (Nat.le_of_ble_eq_true rfl) (fun _ => rfl) (fun v81 => ?_)
                      refine z_goto (tgt := 18) dL_law_982 (by decide) ?_
                      exact z_sub [1, 2, 3, 0] rfl (ih _ _)
                    · refine z_iconst (v := 0) dL_law_423 (by decide) ?_
                      exact z_zret dL_law_424 rfl (Or.inl rfl)
                  · refine z_ite (fun c82 => ?_) (fun c82 => ?_)
                    · refine z_tin (tgt := 425) (off := 392) dL_law_33 (by rw [c82]; decide) (by rw [c82]; decide) (by rw [c82]; decide) (by decide) ?_
                      refine z_aload_n dL_law_425 1 rfl ?_
                      refine z_aload_n dL_law_426 0 rfl ?_
                      refine z_iload_n dL_law_427 3 rfl ?_
                      refine z_iconst (v := 1) dL_law_428 (by decide) ?_
                      refine z_iadd dL_law_429 ?_
                      refine z_gd (fun g83 => ?_)
                      refine z_sld (L := L) (xs := xs) rfl g83 dL_law_430 ?_
                      refine z_aload_n dL_law_431 0 rfl ?_
                      refine z_iload_n dL_law_432 3 rfl ?_
                      refine z_iconst (v := 2) dL_law_433 (by decide) ?_
                      refine z_iadd dL_law_434 ?_
                      refine z_gd (fun g84 => ?_)
                      refine z_sld (L := L) (xs := xs) rfl g84 dL_law_435 ?_
                      refine z_aload_n dL_law_436 0 rfl ?_
                      refine z_iload_n dL_law_437 3 rfl ?_
                      refine z_iconst (v := 3) dL_law_438 (by decide) ?_
                      refine z_iadd dL_law_439 ?_
                      refine z_gd (fun g85 => ?_)
                      refine z_sld (L := L) (xs := xs) rfl g85 dL_law_440 ?_
                      refine z_callVI dL_law_441 (M_X11_say _ _ _ _) bX11_say lL_47 kc_0 rfl rfl (Nat.le_of_ble_eq_true rfl) (Nat.le_of_ble_eq_true rfl) (fun r86 h87 => ?_)
                      refine z_aload_n dL_law_444 2 rfl ?_
                      refine z_aload_n dL_law_445 0 rfl ?_
                      refine z_iload_n dL_law_446 3 rfl ?_
                      refine z_iconst (v := 1) dL_law_447 (by decide) ?_
                      refine z_iadd dL_law_448 ?_
                      refine z_gd (fun g88 => ?_)
                      refine z_sld (L := L) (xs := xs) rfl g88 dL_law_449 ?_
                      refine z_aload_n dL_law_450 0 rfl ?_
                      refine z_iload_n dL_law_451 3 rfl ?_
                      refine z_iconst (v := 2) dL_law_452 (by decide) ?_
                      refine z_iadd dL_law_453 ?_
                      refine z_gd (fun g89 => ?_)
                      refine z_sld (L := L) (xs := xs) rfl g89 dL_law_454 ?_
                      refine z_aload_n dL_law_455 0 rfl ?_
                      refine z_iload_n dL_law_456 3 rfl ?_
                      refine z_iconst (v := 3) dL_law_457 (by decide) ?_
                      refine z_iadd dL_law_458 ?_
                      refine z_gd (fun g90 => ?_)
                      refine z_sld (L := L) (xs := xs) rfl g90 dL_law_459 ?_
                      refine z_callVI dL_law_460 (M_X12_say _ _ _ _) bX12_say lL_50 kc_70 rfl rfl (Nat.le_of_ble_eq_true rfl) (Nat.le_of_ble_eq_true rfl) (fun r91 h92 => ?_)
                      refine z_ic_eq (tgt := 979) dL_law_463 (by decide) ?_ ?_
                      · refine z_iincL (lv2 := fun v93 => [(3, .int v93), (0, .ref 9002), (1, .ref 0), (2, .ref 70)]) dL_law_979 3 rfl rfl (Nat.le_of_ble_eq_true rfl) (fun _ => rfl) (fun v93 => ?_)
                        refine z_goto (tgt := 18) dL_law_982 (by decide) ?_
                        exact z_sub [1, 2, 3, 0] rfl (ih _ _)
                      · refine z_iconst (v := 0) dL_law_466 (by decide) ?_
                        exact z_zret dL_law_467 rfl (Or.inl rfl)
                    · refine z_ite (fun c94 => ?_) (fun c94 => ?_)
                      · refine z_tin (tgt := 468) (off := 435) dL_law_33 (by rw [c94]; decide) (by rw [c94]; decide) (by rw [c94]; decide) (by decide) ?_
                        refine z_aload_n dL_law_468 1 rfl ?_
                        refine z_aload_n dL_law_469 0 rfl ?_
                        refine z_iload_n dL_law_470 3 rfl ?_
                        refine z_iconst (v := 1) dL_law_471 (by decide) ?_
                        refine z_iadd dL_law_472 ?_
                        refine z_gd (fun g95 => ?_)
                        refine z_sld (L := L) (xs := xs) rfl g95 dL_law_473 ?_
                        refine z_aload_n dL_law_474 0 rfl ?_
                        refine z_iload_n dL_law_475 3 rfl ?_
                        refine z_iconst (v := 2) dL_law_476 (by decide) ?_
                        refine z_iadd dL_law_477 ?_
                        refine z_gd (fun g96 => ?_)
                        refine z_sld (L := L) (xs := xs) rfl g96 dL_law_478 ?_
                        refine z_callVI dL_law_479 (M_X11_said _ _ _) bX11_said lL_51 kc_0 rfl rfl (Nat.le_of_ble_eq_true rfl) (Nat.le_of_ble_eq_true rfl) (fun r97 h98 => ?_)
                        refine z_aload_n dL_law_482 2 rfl ?_
                        refine z_aload_n dL_law_483 0 rfl ?_
                        refine z_iload_n dL_law_484 3 rfl ?_
                        refine z_iconst (v := 1) dL_law_485 (by decide) ?_
                        refine z_iadd dL_law_486 ?_
                        refine z_gd (fun g99 => ?_)
                        refine z_sld (L := L) (xs := xs) rfl g99 dL_law_487 ?_
                        refine z_aload_n dL_law_488 0 rfl ?_
                        refine z_iload_n dL_law_489 3 rfl ?_
                        refine z_iconst (v := 2) dL_law_490 (by decide) ?_
                        refine z_iadd dL_law_491 ?_
                        refine z_gd (fun g100 => ?_)
                        refine z_sld (L := L) (xs := xs) rfl g100 dL_law_492 ?_
                        refine z_callVI dL_law_493 (M_X12_said _ _ _) bX12_said lL_54 kc_70 rfl rfl (Nat.le_of_ble_eq_true rfl) (Nat.le_of_ble_eq_true rfl) (fun r101 h102 => ?_)
                        refine z_ic_eq (tgt := 979) dL_law_496 (by decide) ?_ ?_
                        · refine z_iincL (lv2 := fun v103 => [(3, .int v103), (0, .ref 9002), (1, .ref 0), (2, .ref 70)]) dL_law_979 3 rfl rfl (Nat.le_of_ble_eq_true rfl) (fun _ => rfl) (fun v103 => ?_)
                          refine z_goto (tgt := 18) dL_law_982 (by decide) ?_
                          exact z_sub [1, 2, 3, 0] rfl (ih _ _)
                        · refine z_iconst (v := 0) dL_law_499 (by decide) ?_
                          exact z_zret dL_law_500 rfl (Or.inl rfl)
                      · refine z_ite (fun c104 => ?_) (fun c104 => ?_)
                        · refine z_tin (tgt := 501) (off := 468) dL_law_33 (by rw [c104]; decide) (by rw [c104]; decide) (by rw [c104]; decide) (by decide) ?_
                          refine z_aload_n dL_law_501 1 rfl ?_
                          refine z_aload_n dL_law_502 0 rfl ?_
                          refine z_iload_n dL_law_503 3 rfl ?_
                          refine z_iconst (v := 1) dL_law_504 (by decide) ?_
                          refine z_iadd dL_law_505 ?_
                          refine z_gd (fun g105 => ?_)
                          refine z_sld (L := L) (xs := xs) rfl g105 dL_law_506 ?_
                          refine z_callVI dL_law_507 (M_X11_paid _ _) bX11_paid lL_55 kc_0 rfl rfl (Nat.le_of_ble_eq_true rfl) (Nat.le_of_ble_eq_true rfl) (fun r106 h107 => ?_)
                          refine z_aload_n dL_law_510 2 rfl ?_
                          refine z_aload_n dL_law_511 0 rfl ?_
                          refine z_iload_n dL_law_512 3 rfl ?_
                          refine z_iconst (v := 1) dL_law_513 (by decide) ?_
                          refine z_iadd dL_law_514 ?_
                          refine z_gd (fun g108 => ?_)
                          refine z_sld (L := L) (xs := xs) rfl g108 dL_law_515 ?_
                          refine z_callVI dL_law_516 (M_X12_paid _ _) bX12_paid lL_58 kc_70 rfl rfl (Nat.le_of_ble_eq_true rfl) (Nat.le_of_ble_eq_true rfl) (fun r109 h110 => ?_)
                          refine z_ic_eq (tgt := 979) dL_law_519 (by decide) ?_ ?_
                          · refine z_iincL (lv2 := fun v111 => [(3, .int v111), (0, .ref 9002), (1, .ref 0), (2, .ref 70)]) dL_law_979 3 rfl rfl (Nat.le_of_ble_eq_true rfl) (fun _ => rfl) (fun v111 => ?_)
                            refine z_goto (tgt := 18) dL_law_982 (by decide) ?_
                            exact z_sub [1, 2, 3, 0] rfl (ih _ _)
                          · refine z_iconst (v := 0) dL_law_522 (by decide) ?_
                            exact z_zret dL_law_523 rfl (Or.inl rfl)
                        · refine z_ite (fun c112 => ?_) (fun c112 => ?_)
                          · refine z_tin (tgt := 524) (off := 491) dL_law_33 (by rw [c112]; decide) (by rw [c112]; decide) (by rw [c112]; decide) (by decide) ?_
                            refine z_aload_n dL_law_524 1 rfl ?_
                            refine z_aload_n dL_law_525 0 rfl ?_
                            refine z_iload_n dL_law_526 3 rfl ?_
                            refine z_iconst (v := 1) dL_law_527 (by decide) ?_
                            refine z_iadd dL_law_528 ?_
                            refine z_gd (fun g113 => ?_)
                            refine z_sld (L := L) (xs := xs) rfl g113 dL_law_529 ?_
                            refine z_aload_n dL_law_530 0 rfl ?_
                            refine z_iload_n dL_law_531 3 rfl ?_
                            refine z_iconst (v := 2) dL_law_532 (by decide) ?_
                            refine z_iadd dL_law_533 ?_
                            refine z_gd (fun g114 => ?_)
                            refine z_sld (L := L) (xs := xs) rfl g114 dL_law_534 ?_
                            refine z_callVI dL_law_535 (M_X11_judged _ _ _) bX11_judged lL_59 kc_0 rfl rfl (Nat.le_of_ble_eq_true rfl) (Nat.le_of_ble_eq_true rfl) (fun r115 h116 => ?_)
                            refine z_aload_n dL_law_538 2 rfl ?_
                            refine z_aload_n dL_law_539 0 rfl ?_
                            refine z_iload_n dL_law_540 3 rfl ?_
                            refine z_iconst (v := 1) dL_law_541 (by decide) ?_
                            refine z_iadd dL_law_542 ?_
                            refine z_gd (fun g117 => ?_)
                            refine z_sld (L := L) (xs := xs) rfl g117 dL_law_543 ?_
                            refine z_aload_n dL_law_544 0 rfl ?_
                            refine z_iload_n dL_law_545 3 rfl ?_
                            refine z_iconst (v := 2) dL_law_546 (by decide) ?_
                            refine z_iadd dL_law_547 ?_
                            refine z_gd (fun g118 => ?_)
                            refine z_sld (L := L) (xs := xs) rfl g118 dL_law_548 ?_
                            refine z_callVI dL_law_549 (M_X12_judged _ _ _) bX12_judged lL_62 kc_70 rfl rfl (Nat.le_of_ble_eq_true rfl) (Nat.le_of_ble_eq_true rfl) (fun r119 h120 => ?_)
                            refine z_ic_eq (tgt := 979) dL_law_552 (by decide) ?_ ?_
                            · refine z_iincL (lv2 := fun v121 => [(3, .int v121), (0, .ref 9002), (1, .ref 0), (2, .ref 70)]) dL_law_979 3 rfl rfl (Nat.le_of_ble_eq_true rfl) (fun _ => rfl) (fun v121 => ?_)
                              refine z_goto (tgt := 18) dL_law_982 (by decide) ?_
                              exact z_sub [1, 2, 3, 0] rfl (ih _ _)
                            · refine z_iconst (v := 0) dL_law_555 (by decide) ?_
                              exact z_zret dL_law_556 rfl (Or.inl rfl)
                          · refine z_ite (fun c122 => ?_) (fun c122 => ?_)
                            · refine z_tin (tgt := 557) (off := 524) dL_law_33 (by rw [c122]; decide) (by rw [c122]; decide) (by rw [c122]; decide) (by decide) ?_
                              refine z_aload_n dL_law_557 1 rfl ?_
                              refine z_aload_n dL_law_558 0 rfl ?_
                              refine z_iload_n dL_law_559 3 rfl ?_
                              refine z_iconst (v := 1) dL_law_560 (by decide) ?_
                              refine z_iadd dL_law_561 ?_
                              refine z_gd (fun g123 => ?_)
                              refine z_sld (L := L) (xs := xs) rfl g123 dL_law_562 ?_
                              refine z_aload_n dL_law_563 0 rfl ?_
                              refine z_iload_n dL_law_564 3 rfl ?_
                              refine z_iconst (v := 2) dL_law_565 (by decide) ?_
                              refine z_iadd dL_law_566 ?_
                              refine z_gd (fun g124 => ?_)
                              refine z_sld (L := L) (xs := xs) rfl g124 dL_law_567 ?_
                              refine z_aload_n dL_law_568 0 rfl ?_
                              refine z_iload_n dL_law_569 3 rfl ?_
                              refine z_iconst (v := 3) dL_law_570 (by decide) ?_
                              refine z_iadd dL_law_571 ?_
                              refine z_gd (fun g125 => ?_)
                              refine z_sld (L := L) (xs := xs) rfl g125 dL_law_572 ?_
                              refine z_callVI dL_law_573 (M_X11_held _ _ _ _) bX11_held lL_63 kc_0 rfl rfl (Nat.le_of_ble_eq_true rfl) (Nat.le_of_ble_eq_true rfl) (fun r126 h127 => ?_)
                              refine z_aload_n dL_law_576 2 rfl ?_
                              refine z_aload_n dL_law_577 0 rfl ?_
                              refine z_iload_n dL_law_578 3 rfl ?_
                              refine z_iconst (v := 1) dL_law_579 (by decide) ?_
                              refine z_iadd dL_law_580 ?_
                              refine z_gd (fun g128 => ?_)
                              refine z_sld (L := L) (xs := xs) rfl g128 dL_law_581 ?_
                              refine z_aload_n dL_law_582 0 rfl ?_
                              refine z_iload_n dL_law_583 3 rfl ?_
                              refine z_iconst (v := 2) dL_law_584 (by decide) ?_
                              refine z_iadd dL_law_585 ?_
                              refine z_gd (fun g129 => ?_)
                              refine z_sld (L := L) (xs := xs) rfl g129 dL_law_586 ?_
                              refine z_aload_n dL_law_587 0 rfl ?_
                              refine z_iload_n dL_law_588 3 rfl ?_
                              refine z_iconst (v := 3) dL_law_589 (by decide) ?_
                              refine z_iadd dL_law_590 ?_
                              refine z_gd (fun g130 => ?_)
                              refine z_sld (L := L) (xs := xs) rfl g130 dL_law_591 ?_
                              refine z_callVI dL_law_592 (M_X12_held _ _ _ _) bX12_held lL_66 kc_70 rfl rfl (Nat.le_of_ble_eq_true rfl) (Nat.le_of_ble_eq_true rfl) (fun r131 h132 => ?_)
                              refine z_ic_eq (tgt := 979) dL_law_595 (by decide) ?_ ?_
                              · refine z_iincL (lv2 := fun v133 => [(3, .int v133), (0, .ref 9002), (1, .ref 0), (2, .ref 70)]) dL_law_979 3 rfl rfl (Nat.le_of_ble_eq_true rfl) (fun _ => rfl) (fun v133 => ?_)
                                refine z_goto (tgt := 18) dL_law_982 (by decide) ?_
                                exact z_sub [1, 2, 3, 0] rfl (ih _ _)
                              · refine z_iconst (v := 0) dL_law_598 (by decide) ?_
                                exact z_zret dL_law_599 rfl (Or.inl rfl)
                            · refine z_ite (fun c134 => ?_) (fun c134 => ?_)
                              · refine z_tin (tgt := 600) (off := 567) dL_law_33 (by rw [c134]; decide) (by rw [c134]; decide) (by rw [c134]; decide) (by decide) ?_
                                refine z_aload_n dL_law_600 1 rfl ?_
                                refine z_aload_n dL_law_601 0 rfl ?_
                                refine z_iload_n dL_law_602 3 rfl ?_
                                refine z_iconst (v := 1) dL_law_603 (by decide) ?_
                                refine z_iadd dL_law_604 ?_
                                refine z_gd (fun g135 => ?_)
                                refine z_sld (L := L) (xs := xs) rfl g135 dL_law_605 ?_
                                refine z_aload_n dL_law_606 0 rfl ?_
                                refine z_iload_n dL_law_607 3 rfl ?_
                                refine z_iconst (v := 2) dL_law_608 (by decide) ?_
                                refine z_iadd dL_law_609 ?_
                                refine z_gd (fun g136 => ?_)
                                refine z_sld (L := L) (xs := xs) rfl g136 dL_law_610 ?_
                                refine z_aload_n dL_law_611 0 rfl ?_
                                refine z_iload_n dL_law_612 3 rfl ?_
                                refine z_iconst (v := 3) dL_law_613 (by decide) ?_
                                refine z_iadd dL_law_614 ?_
                                refine z_gd (fun g137 => ?_)
                                refine z_sld (L := L) (xs := xs) rfl g137 dL_law_615 ?_
                                refine z_callVI dL_law_616 (M_X11_coded _ _ _ _) bX11_coded lL_67 kc_0 rfl rfl (Nat.le_of_ble_eq_true rfl) (Nat.le_of_ble_eq_true rfl) (fun r138 h139 => ?_)
                                refine z_aload_n dL_law_619 2 rfl ?_
                                refine z_aload_n dL_law_620 0 rfl ?_
                                refine z_iload_n dL_law_621 3 rfl ?_
                                refine z_iconst (v := 1) dL_law_622 (by decide) ?_
                                refine z_iadd dL_law_623 ?_
                                refine z_gd (fun g140 => ?_)
                                refine z_sld (L := L) (xs := xs) rfl g140 dL_law_624 ?_
                                refine z_aload_n dL_law_625 0 rfl ?_
                                refine z_iload_n dL_law_626 3 rfl ?_
                                refine z_iconst (v := 2) dL_law_627 (by decide) ?_
                                refine z_iadd dL_law_628 ?_
                                refine z_gd (fun g141 => ?_)
                                refine z_sld (L := L) (xs := xs) rfl g141 dL_law_629 ?_
                                refine z_aload_n dL_law_630 0 rfl ?_
                                refine z_iload_n dL_law_631 3 rfl ?_
                                refine z_iconst (v := 3) dL_law_632 (by decide) ?_
                                refine z_iadd dL_law_633 ?_
                                refine z_gd (fun g142 => ?_)
                                refine z_sld (L := L) (xs := xs) rfl g142 dL_law_634 ?_
                                refine z_callVI dL_law_635 (M_X12_coded _ _ _ _) bX12_coded lL_70 kc_70 rfl rfl (Nat.le_of_ble_eq_true rfl) (Nat.le_of_ble_eq_true rfl) (fun r143 h144 => ?_)
                                refine z_ic_eq (tgt := 979) dL_law_638 (by decide) ?_ ?_
                                · refine z_iincL (lv2 := fun v145 => [(3, .int v145), (0, .ref 9002), (1, .ref 0), (2, .ref 70)]) dL_law_979 3 rfl rfl (Nat.le_of_ble_eq_true rfl) (fun _ => rfl) (fun v145 => ?_)
                                  refine z_goto (tgt := 18) dL_law_982 (by decide) ?_
                                  exact z_sub [1, 2, 3, 0] rfl (ih _ _)
                                · refine z_iconst (v := 0) dL_law_641 (by decide) ?_
                                  exact z_zret dL_law_642 rfl (Or.inl rfl)
                              · refine z_ite (fun c146 => ?_) (fun c146 => ?_)
                                · refine z_tin (tgt := 643) (off := 610) dL_law_33 (by rw [c146]; decide) (by rw [c146]; decide) (by rw [c146]; decide) (by decide) ?_
                                  refine z_aload_n dL_law_643 1 rfl ?_
                                  refine z_aload_n dL_law_644 0 rfl ?_
                                  refine z_iload_n dL_law_645 3 rfl ?_
                                  refine z_iconst (v := 1) dL_law_646 (by decide) ?_
                                  refine z_iadd dL_law_647 ?_
                                  refine z_gd (fun g147 => ?_)
                                  refine z_sld (L := L) (xs := xs) rfl g147 dL_law_648 ?_
                                  refine z_aload_n dL_law_649 0 rfl ?_
                                  refine z_iload_n dL_law_650 3 rfl ?_
                                  refine z_iconst (v := 2) dL_law_651 (by decide) ?_
                                  refine z_iadd dL_law_652 ?_
                                  refine z_gd (fun g148 => ?_)
                                  refine z_sld (L := L) (xs := xs) rfl g148 dL_law_653 ?_
                                  refine z_callVL dL_law_654 (M_X11_heard _ _ _) bX11_heard lL_71 kc_0 rfl rfl (Nat.le_of_ble_eq_true rfl) (Nat.le_of_ble_eq_true rfl) (fun r149 h150 => ?_)
                                  refine z_aload_n dL_law_657 2 rfl ?_
                                  refine z_aload_n dL_law_658 0 rfl ?_
                                  refine z_iload_n dL_law_659 3 rfl ?_
                                  refine z_iconst (v := 1) dL_law_660 (by decide) ?_
                                  refine z_iadd dL_law_661 ?_
                                  refine z_gd (fun g151 => ?_)
                                  refine z_sld (L := L) (xs := xs) rfl g151 dL_law_662 ?_
                                  refine z_aload_n dL_law_663 0 rfl ?_
                                  refine z_iload_n dL_law_664 3 rfl ?_
                                  refine z_iconst (v := 2) dL_law_665 (by decide) ?_
                                  refine z_iadd dL_law_666 ?_
                                  refine z_gd (fun g152 => ?_)
                                  refine z_sld (L := L) (xs := xs) rfl g152 dL_law_667 ?_
                                  refine z_callVL dL_law_668 (M_X12_heard _ _ _) bX12_heard lL_75 kc_70 rfl rfl (Nat.le_of_ble_eq_true rfl) (Nat.le_of_ble_eq_true rfl) (fun r153 h154 => ?_)
                                  refine z_lcmp dL_law_671 ?_
                                  refine z_if_eq (tgt := 979) dL_law_672 (by decide) ?_ ?_
                                  · refine z_iincL (lv2 := fun v155 => [(3, .int v155), (0, .ref 9002), (1, .ref 0), (2, .ref 70)]) dL_law_979 3 rfl rfl (Nat.le_of_ble_eq_true rfl) (fun _ => rfl) (fun v155 => ?_)
                                    refine z_goto (tgt := 18) dL_law_982 (by decide) ?_
                                    exact z_sub [1, 2, 3, 0] rfl (ih _ _)
                                  · refine z_iconst (v := 0) dL_law_675 (by decide) ?_
                                    exact z_zret dL_law_676 rfl (Or.inl rfl)
                                · refine z_ite (fun c156 => ?_) (fun c156 => ?_)
                                  · refine z_tin (tgt := 677) (off := 644) dL_law_33 (by rw [c156]; decide) (by rw [c156]; decide) (by rw [c156]; decide) (by decide) ?_
                                    refine z_aload_n dL_law_677 1 rfl ?_
                                    refine z_aload_n dL_law_678 0 rfl ?_
                                    refine z_iload_n dL_law_679 3 rfl ?_
                                    refine z_iconst (v := 1) dL_law_680 (by decide) ?_
                                    refine z_iadd dL_law_681 ?_
                                    refine z_gd (fun g157 => ?_)
                                    refine z_sld (L := L) (xs := xs) rfl g157 dL_law_682 ?_
                                    refine z_aload_n dL_law_683 0 rfl ?_
                                    refine z_iload_n dL_law_684 3 rfl ?_
                                    refine z_iconst (v := 2) dL_law_685 (by decide) ?_
                                    refine z_iadd dL_law_686 ?_
                                    refine z_gd (fun g158 => ?_)
                                    refine z_sld (L := L) (xs := xs) rfl g158 dL_law_687 ?_
                                    refine z_aload_n dL_law_688 0 rfl ?_
                                    refine z_iload_n dL_law_689 3 rfl ?_
                                    refine z_iconst (v := 3) dL_law_690 (by decide) ?_
                                    refine z_iadd dL_law_691 ?_
                                    refine z_gd (fun g159 => ?_)
                                    refine z_sld (L := L) (xs := xs) rfl g159 dL_law_692 ?_
                                    refine z_callVI dL_law_693 (M_X11_anyTalk _ _ _ _) bX11_anyTalk lL_76 kc_0 rfl rfl (Nat.le_of_ble_eq_true rfl) (Nat.le_of_ble_eq_true rfl) (fun r160 h161 => ?_)
                                    refine z_aload_n dL_law_696 2 rfl ?_
                                    refine z_aload_n dL_law_697 0 rfl ?_
                                    refine z_iload_n dL_law_698 3 rfl ?_
                                    refine z_iconst (v := 1) dL_law_699 (by decide) ?_
                                    refine z_iadd dL_law_700 ?_
                                    refine z_gd (fun g162 => ?_)
                                    refine z_sld (L := L) (xs := xs) rfl g162 dL_law_701 ?_
                                    refine z_aload_n dL_law_702 0 rfl ?_
                                    refine z_iload_n dL_law_703 3 rfl ?_
                                    refine z_iconst (v := 2) dL_law_704 (by decide) ?_
                                    refine z_iadd dL_law_705 ?_
                                    refine z_gd (fun g163 => ?_)
                                    refine z_sld (L := L) (xs := xs) rfl g163 dL_law_706 ?_
                                    refine z_aload_n dL_law_707 0 rfl ?_
                                    refine z_iload_n dL_law_708 3 rfl ?_
                                    refine z_iconst (v := 3) dL_law_709 (by decide) ?_
                                    refine z_iadd dL_law_710 ?_
                                    refine z_gd (fun g164 => ?_)
                                    refine z_sld (L := L) (xs := xs) rfl g164 dL_law_711 ?_
                                    refine z_callVI dL_law_712 (M_X12_anyTalk _ _ _ _) bX12_anyTalk lL_79 kc_70 rfl rfl (Nat.le_of_ble_eq_true rfl) (Nat.le_of_ble_eq_true rfl) (fun r165 h166 => ?_)
                                    refine z_ic_eq (tgt := 979) dL_law_715 (by decide) ?_ ?_
                                    · refine z_iincL (lv2 := fun v167 => [(3, .int v167), (0, .ref 9002), (1, .ref 0), (2, .ref 70)]) dL_law_979 3 rfl rfl (Nat.le_of_ble_eq_true rfl) (fun _ => rfl) (fun v167 => ?_)
                                      refine z_goto (tgt := 18) dL_law_982 (by decide) ?_
                                      exact z_sub [1, 2, 3, 0] rfl (ih _ _)
                                    · refine z_iconst (v := 0) dL_law_718 (by decide) ?_
                                      exact z_zret dL_law_719 rfl (Or.inl rfl)
                                  · refine z_ite (fun c168 => ?_) (fun c168 => ?_)
                                    · refine z_tin (tgt := 720) (off := 687) dL_law_33 (by rw [c168]; decide) (by rw [c168]; decide) (by rw [c168]; decide) (by decide) ?_
                                      refine z_aload_n dL_law_720 1 rfl ?_
                                      refine z_aload_n dL_law_721 0 rfl ?_
                                      refine z_iload_n dL_law_722 3 rfl ?_
                                      refine z_iconst (v := 1) dL_law_723 (by decide) ?_
                                      refine z_iadd dL_law_724 ?_
                                      refine z_gd (fun g169 => ?_)
                                      refine z_sld (L := L) (xs := xs) rfl g169 dL_law_725 ?_
                                      refine z_aload_n dL_law_726 0 rfl ?_
                                      refine z_iload_n dL_law_727 3 rfl ?_
                                      refine z_iconst (v := 2) dL_law_728 (by decide) ?_
                                      refine z_iadd dL_law_729 ?_
                                      refine z_gd (fun g170 => ?_)
                                      refine z_sld (L := L) (xs := xs) rfl g170 dL_law_730 ?_
                                      refine z_aload_n dL_law_731 0 rfl ?_
                                      refine z_iload_n dL_law_732 3 rfl ?_
                                      refine z_iconst (v := 3) dL_law_733 (by decide) ?_
                                      refine z_iadd dL_law_734 ?_
                                      refine z_gd (fun g171 => ?_)
                                      refine z_sld (L := L) (xs := xs) rfl g171 dL_law_735 ?_
                                      refine z_aload_n dL_law_736 0 rfl ?_
                                      refine z_iload_n dL_law_737 3 rfl ?_
                                      refine z_iconst (v := 4) dL_law_738 (by decide) ?_
                                      refine z_iadd dL_law_739 ?_
                                      refine z_gd (fun g172 => ?_)
                                      refine z_sld (L := L) (xs := xs) rfl g172 dL_law_740 ?_
                                      refine z_aload_n dL_law_741 0 rfl ?_
                                      refine z_iload_n dL_law_742 3 rfl ?_
                                      refine z_iconst (v := 5) dL_law_743 (by decide) ?_
                                      refine z_iadd dL_law_744 ?_
                                      refine z_gd (fun g173 => ?_)
                                      refine z_sld (L := L) (xs := xs) rfl g173 dL_law_745 ?_
                                      refine z_aload_n dL_law_746 0 rfl ?_
                                      refine z_iload_n dL_law_747 3 rfl ?_
                                      refine z_bipush (v := 6) dL_law_748 (by decide) ?_
                                      refine z_iadd dL_law_750 ?_
                                      refine z_gd (fun g174 => ?_)
                                      refine z_sld (L := L) (xs := xs) rfl g174 dL_law_751 ?_
                                      refine z_callVI dL_law_752 (M_X11_silenced _ _ _ _ _ _ _) bX11_silenced lL_80 kc_0 rfl rfl (Nat.le_of_ble_eq_true rfl) (Nat.le_of_ble_eq_true rfl) (fun r175 h176 => ?_)
                                      refine z_aload_n dL_law_755 2 rfl ?_
                                      refine z_aload_n dL_law_756 0 rfl ?_
                                      refine z_iload_n dL_law_757 3 rfl ?_
                                      refine z_iconst (v := 1) dL_law_758 (by decide) ?_
                                      refine z_iadd dL_law_759 ?_
                                      refine z_gd (fun g177 => ?_)
                                      refine z_sld (L := L) (xs := xs) rfl g177 dL_law_760 ?_
                                      refine z_aload_n dL_law_761 0 rfl ?_
                                      refine z_iload_n dL_law_762 3 rfl ?_
                                      refine z_iconst (v := 2) dL_law_763 (by decide) ?_
                                      refine z_iadd dL_law_764 ?_
                                      refine z_gd (fun g178 => ?_)
                                      refine z_sld (L := L) (xs := xs) rfl g178 dL_law_765 ?_
                                      refine z_aload_n dL_law_766 0 rfl ?_
                                      refine z_iload_n dL_law_767 3 rfl ?_
                                      refine z_iconst (v := 3) dL_law_768 (by decide) ?_
                                      refine z_iadd dL_law_769 ?_
                                      refine z_gd (fun g179 => ?_)
                                      refine z_sld (L := L) (xs := xs) rfl g179 dL_law_770 ?_
                                      refine z_aload_n dL_law_771 0 rfl ?_
                                      refine z_iload_n dL_law_772 3 rfl ?_
                                      refine z_iconst (v := 4) dL_law_773 (by decide) ?_
                                      refine z_iadd dL_law_774 ?_
                                      refine z_gd (fun g180 => ?_)
                                      refine z_sld (L := L) (xs := xs) rfl g180 dL_law_775 ?_
                                      refine z_aload_n dL_law_776 0 rfl ?_
                                      refine z_iload_n dL_law_777 3 rfl ?_
                                      refine z_iconst (v := 5) dL_law_778 (by decide) ?_
                                      refine z_iadd dL_law_779 ?_
                                      refine z_gd (fun g181 => ?_)
                                      refine z_sld (L := L) (xs := xs) rfl g181 dL_law_780 ?_
                                      refine z_aload_n dL_law_781 0 rfl ?_
                                      refine z_iload_n dL_law_782 3 rfl ?_
                                      refine z_bipush (v := 6) dL_law_783 (by decide) ?_
                                      refine z_iadd dL_law_785 ?_
                                      refine z_gd (fun g182 => ?_)
                                      refine z_sld (L := L) (xs := xs) rfl g182 dL_law_786 ?_
                                      refine z_callVI dL_law_787 (M_X12_silenced _ _ _ _ _ _ _) bX12_silenced lL_84 kc_70 rfl rfl (Nat.le_of_ble_eq_true rfl) (Nat.le_of_ble_eq_true rfl) (fun r183 h184 => ?_)
                                      refine z_ic_eq (tgt := 979) dL_law_790 (by decide) ?_ ?_
                                      · refine z_iincL (lv2 := fun v185 => [(3, .int v185), (0, .ref 9002), (1, .ref 0), (2, .ref 70)]) dL_law_979 3 rfl rfl (Nat.le_of_ble_eq_true rfl) (fun _ => rfl) (fun v185 => ?_)
                                        refine z_goto (tgt := 18) dL_law_982 (by decide) ?_
                                        exact z_sub [1, 2, 3, 0] rfl (ih _ _)
                                      · refine z_iconst (v := 0) dL_law_793 (by decide) ?_
                                        exact z_zret dL_law_794 rfl (Or.inl rfl)
                                    · refine z_ite (fun c186 => ?_) (fun c186 => ?_)
                                      · refine z_tin (tgt := 795) (off := 762) dL_law_33 (by rw [c186]; decide) (by rw [c186]; decide) (by rw [c186]; decide) (by decide) ?_
                                        refine z_aload_n dL_law_795 1 rfl ?_
                                        refine z_aload_n dL_law_796 0 rfl ?_
                                        refine z_iload_n dL_law_797 3 rfl ?_
                                        refine z_iconst (v := 1) dL_law_798 (by decide) ?_
                                        refine z_iadd dL_law_799 ?_
                                        refine z_gd (fun g187 => ?_)
                                        refine z_sld (L := L) (xs := xs) rfl g187 dL_law_800 ?_
                                        refine z_aload_n dL_law_801 0 rfl ?_
                                        refine z_iload_n dL_law_802 3 rfl ?_
                                        refine z_iconst (v := 2) dL_law_803 (by decide) ?_
                                        refine z_iadd dL_law_804 ?_
                                        refine z_gd (fun g188 => ?_)
                                        refine z_sld (L := L) (xs := xs) rfl g188 dL_law_805 ?_
                                        refine z_callVI dL_law_806 (M_X11_waited _ _ _) bX11_waited lL_85 kc_0 rfl rfl (Nat.le_of_ble_eq_true rfl) (Nat.le_of_ble_eq_true rfl) (fun r189 h190 => ?_)
                                        refine z_aload_n dL_law_809 2 rfl ?_
                                        refine z_aload_n dL_law_810 0 rfl ?_
                                        refine z_iload_n dL_law_811 3 rfl ?_
                                        refine z_iconst (v := 1) dL_law_812 (by decide) ?_
                                        refine z_iadd dL_law_813 ?_
                                        refine z_gd (fun g191 => ?_)
                                        refine z_sld (L := L) (xs := xs) rfl g191 dL_law_814 ?_
                                        refine z_aload_n dL_law_815 0 rfl ?_
                                        refine z_iload_n dL_law_816 3 rfl ?_
                                        refine z_iconst (v := 2) dL_law_817 (by decide) ?_
                                        refine z_iadd dL_law_818 ?_
                                        refine z_gd (fun g192 => ?_)
                                        refine z_sld (L := L) (xs := xs) rfl g192 dL_law_819 ?_
                                        refine z_callVI dL_law_820 (M_X12_waited _ _ _) bX12_waited lL_88 kc_70 rfl rfl (Nat.le_of_ble_eq_true rfl) (Nat.le_of_ble_eq_true rfl) (fun r193 h194 => ?_)
                                        refine z_ic_eq (tgt := 979) dL_law_823 (by decide) ?_ ?_
                                        · refine z_iincL (lv2 := fun v195 => [(3, .int v195), (0, .ref 9002), (1, .ref 0), (2, .ref 70)]) dL_law_979 3 rfl rfl (Nat.le_of_ble_eq_true rfl) (fun _ => rfl) (fun v195 => ?_)
                                          refine z_goto (tgt := 18) dL_law_982 (by decide) ?_
                                          exact z_sub [1, 2, 3, 0] rfl (ih _ _)
                                        · refine z_iconst (v := 0) dL_law_826 (by decide) ?_
                                          exact z_zret dL_law_827 rfl (Or.inl rfl)
                                      · refine z_ite (fun c196 => ?_) (fun c196 => ?_)
                                        · refine z_tin (tgt := 828) (off := 795) dL_law_33 (by rw [c196]; decide) (by rw [c196]; decide) (by rw [c196]; decide) (by decide) ?_
                                          refine z_aload_n dL_law_828 1 rfl ?_
                                          refine z_aload_n dL_law_829 0 rfl ?_
                                          refine z_iload_n dL_law_830 3 rfl ?_
                                          refine z_iconst (v := 1) dL_law_831 (by decide) ?_
                                          refine z_iadd dL_law_832 ?_
                                          refine z_gd (fun g197 => ?_)
                                          refine z_sld (L := L) (xs := xs) rfl g197 dL_law_833 ?_
                                          refine z_aload_n dL_law_834 0 rfl ?_
                                          refine z_iload_n dL_law_835 3 rfl ?_
                                          refine z_iconst (v := 2) dL_law_836 (by decide) ?_
                                          refine z_iadd dL_law_837 ?_
                                          refine z_gd (fun g198 => ?_)
                                          refine z_sld (L := L) (xs := xs) rfl g198 dL_law_838 ?_
                                          refine z_callVI dL_law_839 (M_X11_round _ _ _) bX11_round lL_89 kc_0 rfl rfl (Nat.le_of_ble_eq_true rfl) (Nat.le_of_ble_eq_true rfl) (fun r199 h200 => ?_)
                                          refine z_aload_n dL_law_842 2 rfl ?_
                                          refine z_aload_n dL_law_843 0 rfl ?_
                                          refine z_iload_n dL_law_844 3 rfl ?_
                                          refine z_iconst (v := 1) dL_law_845 (by decide) ?_
                                          refine z_iadd dL_law_846 ?_
                                          refine z_gd (fun g201 => ?_)
                                          refine z_sld (L := L) (xs := xs) rfl g201 dL_law_847 ?_
                                          refine z_aload_n dL_law_848 0 rfl ?_
                                          refine z_iload_n dL_law_849 3 rfl ?_
                                          refine z_iconst (v := 2) dL_law_850 (by decide) ?_
                                          refine z_iadd dL_law_851 ?_
                                          refine z_gd (fun g202 => ?_)
                                          refine z_sld (L := L) (xs := xs) rfl g202 dL_law_852 ?_
                                          refine z_callVI dL_law_853 (M_X12_round _ _ _) bX12_round lL_92 kc_70 rfl rfl (Nat.le_of_ble_eq_true rfl) (Nat.le_of_ble_eq_true rfl) (fun r203 h204 => ?_)
                                          refine z_ic_eq (tgt := 979) dL_law_856 (by decide) ?_ ?_
                                          · refine z_iincL (lv2 := fun v205 => [(3, .int v205), (0, .ref 9002), (1, .ref 0), (2, .ref 70)]) dL_law_979 3 rfl rfl (Nat.le_of_ble_eq_true rfl) (fun _ => rfl) (fun v205 => ?_)
                                            refine z_goto (tgt := 18) dL_law_982 (by decide) ?_
                                            exact z_sub [1, 2, 3, 0] rfl (ih _ _)
                                          · refine z_iconst (v := 0) dL_law_859 (by decide) ?_
                                            exact z_zret dL_law_860 rfl (Or.inl rfl)
                                        · refine z_ite (fun c206 => ?_) (fun c206 => ?_)
                                          · refine z_tin (tgt := 861) (off := 828) dL_law_33 (by rw [c206]; decide) (by rw [c206]; decide) (by rw [c206]; decide) (by decide) ?_
                                            refine z_aload_n dL_law_861 1 rfl ?_
                                            refine z_aload_n dL_law_862 0 rfl ?_
                                            refine z_iload_n dL_law_863 3 rfl ?_
                                            refine z_iconst (v := 1) dL_law_864 (by decide) ?_
                                            refine z_iadd dL_law_865 ?_
                                            refine z_gd (fun g207 => ?_)
                                            refine z_sld (L := L) (xs := xs) rfl g207 dL_law_866 ?_
                                            refine z_callVI dL_law_867 (M_X11_seed _ _) bX11_seed lL_93 kc_0 rfl rfl (Nat.le_of_ble_eq_true rfl) (Nat.le_of_ble_eq_true rfl) (fun r208 h209 => ?_)
                                            refine z_aload_n dL_law_870 2 rfl ?_
                                            refine z_aload_n dL_law_871 0 rfl ?_
                                            refine z_iload_n dL_law_872 3 rfl ?_
                                            refine z_iconst (v := 1) dL_law_873 (by decide) ?_
                                            refine z_iadd dL_law_874 ?_
                                            refine z_gd (fun g210 => ?_)
                                            refine z_sld (L := L) (xs := xs) rfl g210 dL_law_875 ?_
                                            refine z_callVI dL_law_876 (M_X12_seed _ _) bX12_seed lL_97 kc_70 rfl rfl (Nat.le_of_ble_eq_true rfl) (Nat.le_of_ble_eq_true rfl) (fun r211 h212 => ?_)
                                            refine z_ic_eq (tgt := 979) dL_law_879 (by decide) ?_ ?_
                                            · refine z_iincL (lv2 := fun v213 => [(3, .int v213), (0, .ref 9002), (1, .ref 0), (2, .ref 70)]) dL_law_979 3 rfl rfl (Nat.le_of_ble_eq_true rfl) (fun _ => rfl) (fun v213 => ?_)
                                              refine z_goto (tgt := 18) dL_law_982 (by decide) ?_
                                              exact z_sub [1, 2, 3, 0] rfl (ih _ _)
                                            · refine z_iconst (v := 0) dL_law_882 (by decide) ?_
                                              exact z_zret dL_law_883 rfl (Or.inl rfl)
                                          · refine z_ite (fun c214 => ?_) (fun c214 => ?_)
                                            · refine z_tin (tgt := 884) (off := 851) dL_law_33 (by rw [c214]; decide) (by rw [c214]; decide) (by rw [c214]; decide) (by decide) ?_
                                              refine z_aload_n dL_law_884 1 rfl ?_
                                              refine z_aload_n dL_law_885 0 rfl ?_
                                              refine z_iload_n dL_law_886 3 rfl ?_
                                              refine z_iconst (v := 1) dL_law_887 (by decide) ?_
                                              refine z_iadd dL_law_888 ?_
                                              refine z_gd (fun g215 => ?_)
                                              refine z_sld (L := L) (xs := xs) rfl g215 dL_law_889 ?_
                                              refine z_callVI dL_law_890 (M_X11_draw _ _) bX11_draw lL_98 kc_0 rfl rfl (Nat.le_of_ble_eq_true rfl) (Nat.le_of_ble_eq_true rfl) (fun r216 h217 => ?_)
                                              refine z_aload_n dL_law_893 2 rfl ?_
                                              refine z_aload_n dL_law_894 0 rfl ?_
                                              refine z_iload_n dL_law_895 3 rfl ?_
                                              refine z_iconst (v := 1) dL_law_896 (by decide) ?_
                                              refine z_iadd dL_law_897 ?_
                                              refine z_gd (fun g218 => ?_)
                                              refine z_sld (L := L) (xs := xs) rfl g218 dL_law_898 ?_
                                              refine z_callVI dL_law_899 (M_X12_draw _ _) bX12_draw lL_101 kc_70 rfl rfl (Nat.le_of_ble_eq_true rfl) (Nat.le_of_ble_eq_true rfl) (fun r219 h220 => ?_)
                                              refine z_ic_eq (tgt := 979) dL_law_902 (by decide) ?_ ?_
                                              · refine z_iincL (lv2 := fun v221 => [(3, .int v221), (0, .ref 9002), (1, .ref 0), (2, .ref 70)]) dL_law_979 3 rfl rfl (Nat.le_of_ble_eq_true rfl) (fun _ => rfl) (fun v221 => ?_)
                                                refine z_goto (tgt := 18) dL_law_982 (by decide) ?_
                                                exact z_sub [1, 2, 3, 0] rfl (ih _ _)
                                              · refine z_iconst (v := 0) dL_law_905 (by decide) ?_
                                                exact z_zret dL_law_906 rfl (Or.inl rfl)
                                            · refine z_ite (fun c222 => ?_) (fun c222 => ?_)
                                              · refine z_tin (tgt := 907) (off := 874) dL_law_33 (by rw [c222]; decide) (by rw [c222]; decide) (by rw [c222]; decide) (by decide) ?_
                                                refine z_aload_n dL_law_907 1 rfl ?_
                                                refine z_callVI dL_law_908 (M_X11_keep _) bX11_keep lL_102 kc_0 rfl rfl (Nat.le_of_ble_eq_true rfl) (Nat.le_of_ble_eq_true rfl) (fun r223 h224 => ?_)
                                                refine z_aload_n dL_law_911 2 rfl ?_
                                                refine z_callVI dL_law_912 (M_X12_keep _) bX12_keep lL_106 kc_70 rfl rfl (Nat.le_of_ble_eq_true rfl) (Nat.le_of_ble_eq_true rfl) (fun r225 h226 => ?_)
                                                refine z_ic_eq (tgt := 979) dL_law_915 (by decide) ?_ ?_
                                                · refine z_iincL (lv2 := fun v227 => [(3, .int v227), (0, .ref 9002), (1, .ref 0), (2, .ref 70)]) dL_law_979 3 rfl rfl (Nat.le_of_ble_eq_true rfl) (fun _ => rfl) (fun v227 => ?_)
                                                  refine z_goto (tgt := 18) dL_law_982 (by decide) ?_
                                                  exact z_sub [1, 2, 3, 0] rfl (ih _ _)
                                                · refine z_iconst (v := 0) dL_law_918 (by decide) ?_
                                                  exact z_zret dL_law_919 rfl (Or.inl rfl)
                                              · refine z_ite (fun c228 => ?_) (fun c228 => ?_)
                                                · refine z_tin (tgt := 920) (off := 887) dL_law_33 (by rw [c228]; decide) (by rw [c228]; decide) (by rw [c228]; decide) (by decide) ?_
                                                  refine z_aload_n dL_law_920 1 rfl ?_
                                                  refine z_callVI dL_law_921 (M_X11_undo _) bX11_undo lL_107 kc_0 rfl rfl (Nat.le_of_ble_eq_true rfl) (Nat.le_of_ble_eq_true rfl) (fun r229 h230 => ?_)
                                                  refine z_aload_n dL_law_924 2 rfl ?_
                                                  refine z_callVI dL_law_925 (M_X12_undo _) bX12_undo lL_111 kc_70 rfl rfl (Nat.le_of_ble_eq_true rfl) (Nat.le_of_ble_eq_true rfl) (fun r231 h232 => ?_)
                                                  refine z_ic_eq (tgt := 979) dL_law_928 (by decide) ?_ ?_
                                                  · refine z_iincL (lv2 := fun v233 => [(3, .int v233), (0, .ref 9002), (1, .ref 0), (2, .ref 70)]) dL_law_979 3 rfl rfl (Nat.le_of_ble_eq_true rfl) (fun _ => rfl) (fun v233 => ?_)
                                                    refine z_goto (tgt := 18) dL_law_982 (by decide) ?_
                                                    exact z_sub [1, 2, 3, 0] rfl (ih _ _)
                                                  · refine z_iconst (v := 0) dL_law_931 (by decide) ?_
                                                    exact z_zret dL_law_932 rfl (Or.inl rfl)
                                                · refine z_ite (fun c234 => ?_) (fun c234 => ?_)
                                                  · refine z_tin (tgt := 933) (off := 900) dL_law_33 (by rw [c234]; decide) (by rw [c234]; decide) (by rw [c234]; decide) (by decide) ?_
                                                    refine z_aload_n dL_law_933 1 rfl ?_
                                                    refine z_aload_n dL_law_934 0 rfl ?_
                                                    refine z_iload_n dL_law_935 3 rfl ?_
                                                    refine z_iconst (v := 1) dL_law_936 (by decide) ?_
                                                    refine z_iadd dL_law_937 ?_
                                                    refine z_gd (fun g235 => ?_)
                                                    refine z_sld (L := L) (xs := xs) rfl g235 dL_law_938 ?_
                                                    refine z_callVI dL_law_939 (M_X11_check _ _) bX11_check lL_112 kc_0 rfl rfl (Nat.le_of_ble_eq_true rfl) (Nat.le_of_ble_eq_true rfl) (fun r236 h237 => ?_)
                                                    refine z_aload_n dL_law_942 2 rfl ?_
                                                    refine z_aload_n dL_law_943 0 rfl ?_
                                                    refine z_iload_n dL_law_944 3 rfl ?_
                                                    refine z_iconst (v := 1) dL_law_945 (by decide) ?_
                                                    refine z_iadd dL_law_946 ?_
                                                    refine z_gd (fun g238 => ?_)
                                                    refine z_sld (L := L) (xs := xs) rfl g238 dL_law_947 ?_
                                                    refine z_callVI dL_law_948 (M_X12_check _ _) bX12_check lL_115 kc_70 rfl rfl (Nat.le_of_ble_eq_true rfl) (Nat.le_of_ble_eq_true rfl) (fun r239 h240 => ?_)
                                                    refine z_ic_eq (tgt := 979) dL_law_951 (by decide) ?_ ?_
                                                    · refine z_iincL (lv2 := fun v241 => [(3, .int v241), (0, .ref 9002), (1, .ref 0), (2, .ref 70)]) dL_law_979 3 rfl rfl (Nat.le_of_ble_eq_true rfl) (fun _ => rfl) (fun v241 => ?_)
                                                      refine z_goto (tgt := 18) dL_law_982 (by decide) ?_
                                                      exact z_sub [1, 2, 3, 0] rfl (ih _ _)
                                                    · refine z_iconst (v := 0) dL_law_954 (by decide) ?_
                                                      exact z_zret dL_law_955 rfl (Or.inl rfl)
                                                  · refine z_ite (fun c242 => ?_) (fun c242 => ?_)
                                                    · refine z_tin (tgt := 956) (off := 923) dL_law_33 (by rw [c242]; decide) (by rw [c242]; decide) (by rw [c242]; decide) (by decide) ?_
                                                      refine z_aload_n dL_law_956 1 rfl ?_
                                                      refine z_aload_n dL_law_957 0 rfl ?_
                                                      refine z_iload_n dL_law_958 3 rfl ?_
                                                      refine z_iconst (v := 1) dL_law_959 (by decide) ?_
                                                      refine z_iadd dL_law_960 ?_
                                                      refine z_gd (fun g243 => ?_)
                                                      refine z_sld (L := L) (xs := xs) rfl g243 dL_law_961 ?_
                                                      refine z_callVI dL_law_962 (M_X11_count _ _) bX11_count lL_116 kc_0 rfl rfl (Nat.le_of_ble_eq_true rfl) (Nat.le_of_ble_eq_true rfl) (fun r244 h245 => ?_)
                                                      refine z_aload_n dL_law_965 2 rfl ?_
                                                      refine z_aload_n dL_law_966 0 rfl ?_
                                                      refine z_iload_n dL_law_967 3 rfl ?_
                                                      refine z_iconst (v := 1) dL_law_968 (by decide) ?_
                                                      refine z_iadd dL_law_969 ?_
                                                      refine z_gd (fun g246 => ?_)
                                                      refine z_sld (L := L) (xs := xs) rfl g246 dL_law_970 ?_
                                                      refine z_callVI dL_law_971 (M_X12_count _ _) bX12_count lL_119 kc_70 rfl rfl (Nat.le_of_ble_eq_true rfl) (Nat.le_of_ble_eq_true rfl) (fun r247 h248 => ?_)
                                                      refine z_ic_eq (tgt := 979) dL_law_974 (by decide) ?_ ?_
                                                      · refine z_iincL (lv2 := fun v249 => [(3, .int v249), (0, .ref 9002), (1, .ref 0), (2, .ref 70)]) dL_law_979 3 rfl rfl (Nat.le_of_ble_eq_true rfl) (fun _ => rfl) (fun v249 => ?_)
                                                        refine z_goto (tgt := 18) dL_law_982 (by decide) ?_
                                                        exact z_sub [1, 2, 3, 0] rfl (ih _ _)
                                                      · refine z_iconst (v := 0) dL_law_977 (by decide) ?_
                                                        exact z_zret dL_law_978 rfl (Or.inl rfl)
                                                    · refine z_tout (tgt := 979) dL_law_33 (by have a0 := n32 (k := 0) c2 rfl; have a1 := n32 (k := 1) c18 rfl; have a2 := n32 (k := 2) c28 rfl; have a3 := n32 (k := 3) c36 rfl; have a4 := n32 (k := 4) c46 rfl; have a5 := n32 (k := 5) c56 rfl; have a6 := n32 (k := 6) c70 rfl; have a7 := n32 (k := 7) c82 rfl; have a8 := n32 (k := 8) c94 rfl; have a9 := n32 (k := 9) c104 rfl; have a10 := n32 (k := 10) c112 rfl; have a11 := n32 (k := 11) c122 rfl; have a12 := n32 (k := 12) c134 rfl; have a13 := n32 (k := 13) c146 rfl; have a14 := n32 (k := 14) c156 rfl; have a15 := n32 (k := 15) c168 rfl; have a16 := n32 (k := 16) c186 rfl; have a17 := n32 (k := 17) c196 rfl; have a18 := n32 (k := 18) c206 rfl; have a19 := n32 (k := 19) c214 rfl; have a20 := n32 (k := 20) c222 rfl; have a21 := n32 (k := 21) c228 rfl; have a22 := n32 (k := 22) c234 rfl; have a23 := n32 (k := 23) c242 rfl; omega) (by decide) ?_
                                                      refine z_iincL (lv2 := fun v250 => [(3, .int v250), (0, .ref 9002), (1, .ref 0), (2, .ref 70)]) dL_law_979 3 rfl rfl (Nat.le_of_ble_eq_true rfl) (fun _ => rfl) (fun v250 => ?_)
                                                      refine z_goto (tgt := 18) dL_law_982 (by decide) ?_
                                                      exact z_sub [1, 2, 3, 0] rfl (ih _ _)
