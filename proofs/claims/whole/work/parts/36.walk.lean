set_option maxRecDepth 10000 in
theorem bk_L_law_18 {X : ps_X} (C : ps_C X RL cL_law) (hRm : xR X = room_1) {b Ls : Nat} {sc : Nat → Int32} (hX : va_X b Ls sc (xs X) (xs X).heap) (hbl : b < xb X ∧ b < (xs X).heap.size) {r : Int32} {M9 : ps_M} (hfin : ∀ pc lv, decode cL_law pc = .ok (.ireturn, 1) → narrow .boolean (.int r) = .int r → ps_G X M9 pc lv [.int r]) : ∀ (n : Nat) (b1 : Nat) (b2 : Nat) (a3 : Int32) (hb1 : ps_ck 0 b1 = true) (hb2 : ps_ck 20 b2 = true) (M : ps_M), fk_L_law_18 Ls sc n b1 b2 a3 M = some (r, M9) → ps_G X M 18 [some (.ref b), some (.ref (xb X + b1)), some (.ref (xb X + b2)), some (.int a3)] [] := by
  intro n
  induction n with
  | zero => intro b1 b2 a3 hb1 hb2 M h; rw [fk_L_law_18] at h; cases h
  | succ n ih =>
    intro b1 b2 a3 hb1 hb2 M h
    rw [fk_L_law_18] at h
    refine ps_iloadn3 C dL_law_18 ?_
    refine ps_aloadn0 C dL_law_19 ?_
    refine ps_slen C hX hbl dL_law_20 ?_
    refine ps_iconst C dL_law_21 pi_4 ?_
    refine ps_isub C dL_law_22 ?_
    refine ps_ic_gt C 916 dL_law_23 rfl (fun c188 => ?_) (fun c188 => ?_)
    · replace h := ps_ip c188 h
      refine ps_iconst C dL_law_916 pi_1 ?_
      exact ps_end_i h hfin dL_law_917 rfl
    · replace h := ps_in0 c188 h
      refine ps_aloadn0 C dL_law_26 ?_
      refine ps_iloadn3 C dL_law_27 ?_
      obtain ⟨hi1, h⟩ := ps_gd h
      refine ps_sld C hX hbl hi1 dL_law_28 ?_
      refine ps_bipush C dL_law_29 pb_31 ?_
      refine ps_iand C dL_law_31 ?_
      refine ps_nmi (fun x2 ex2 => ?_)
      replace h := ps_lt ex2 h
      by_cases c_32_0 : x2 = nI 0
      · replace h := ps_ip c_32_0 h
        refine ps_tabI C 0 (by rw [c_32_0]; rfl) 152 dL_law_32 (by decide) (by decide) rfl rfl ?_
        refine ps_aloadn1 C dL_law_152 ?_
        refine ps_aloadn0 C dL_law_153 ?_
        refine ps_iloadn3 C dL_law_154 ?_
        refine ps_iconst C dL_law_155 pi_1 ?_
        refine ps_iadd C dL_law_156 ?_
        obtain ⟨hi180, h⟩ := ps_gd h
        refine ps_sld C hX hbl hi180 dL_law_157 ?_
        refine ps_aloadn0 C dL_law_158 ?_
        refine ps_iloadn3 C dL_law_159 ?_
        refine ps_iconst C dL_law_160 pi_2 ?_
        refine ps_iadd C dL_law_161 ?_
        obtain ⟨hi181, h⟩ := ps_gd h
        refine ps_sld C hX hbl hi181 dL_law_162 ?_
        obtain ⟨r182, M182, hM182, h⟩ := ps_bd h
        refine ps_goV_i C (rest := []) (tt_X6_set (xl X) (xb X) (xD X) hb1 hM182) cw_L_13 ps_rc0 hb1 (ps_room hRm (by decide)) rfl rfl (Nat.le_of_ble_eq_true rfl) dL_law_163 ?_
        refine ps_aloadn2 C dL_law_166 ?_
        refine ps_aloadn0 C dL_law_167 ?_
        refine ps_iloadn3 C dL_law_168 ?_
        refine ps_iconst C dL_law_169 pi_1 ?_
        refine ps_iadd C dL_law_170 ?_
        obtain ⟨hi183, h⟩ := ps_gd h
        refine ps_sld C hX hbl hi183 dL_law_171 ?_
        refine ps_aloadn0 C dL_law_172 ?_
        refine ps_iloadn3 C dL_law_173 ?_
        refine ps_iconst C dL_law_174 pi_2 ?_
        refine ps_iadd C dL_law_175 ?_
        obtain ⟨hi184, h⟩ := ps_gd h
        refine ps_sld C hX hbl hi184 dL_law_176 ?_
        obtain ⟨r185, M185, hM185, h⟩ := ps_bd h
        refine ps_goV_i C (rest := [.int r182]) (tt_X7_set (xl X) (xb X) (xD X) hb2 hM185) cw_L_17 ps_rc20 hb2 (ps_room hRm (by decide)) rfl rfl (Nat.le_of_ble_eq_true rfl) dL_law_177 ?_
        refine ps_ic_eq C 910 dL_law_180 rfl (fun c187 => ?_) (fun c187 => ?_)
        · replace h := ps_ip c187 h
          refine ps_iinc3 C rfl (nI 4) pi_4 dL_law_910 (fun x186 ex186 => ?_)
          replace h := ps_lt ex186 h
          refine ps_goto C 18 dL_law_913 rfl ?_
          exact ih b1 b2 x186 hb1 hb2 _ h
        · replace h := ps_in0 c187 h
          refine ps_iconst C dL_law_183 pi_0 ?_
          exact ps_end_i h hfin dL_law_184 rfl
      · replace h := ps_in0 c_32_0 h
        by_cases c_32_1 : x2 = nI 1
        · replace h := ps_ip c_32_1 h
          refine ps_tabI C 1 (by rw [c_32_1]; rfl) 185 dL_law_32 (by decide) (by decide) rfl rfl ?_
          refine ps_aloadn1 C dL_law_185 ?_
          obtain ⟨r176, M176, hM176, h⟩ := ps_bd h
          refine ps_goV_i C (rest := []) (tt_X6_parrot (xl X) (xb X) (xD X) hb1 hM176) cw_L_18 ps_rc0 hb1 (ps_room hRm (by decide)) rfl rfl (Nat.le_of_ble_eq_true rfl) dL_law_186 ?_
          refine ps_aloadn2 C dL_law_189 ?_
          obtain ⟨r177, M177, hM177, h⟩ := ps_bd h
          refine ps_goV_i C (rest := [.int r176]) (tt_X7_parrot (xl X) (xb X) (xD X) hb2 hM177) cw_L_22 ps_rc20 hb2 (ps_room hRm (by decide)) rfl rfl (Nat.le_of_ble_eq_true rfl) dL_law_190 ?_
          refine ps_ic_eq C 910 dL_law_193 rfl (fun c179 => ?_) (fun c179 => ?_)
          · replace h := ps_ip c179 h
            refine ps_iinc3 C rfl (nI 4) pi_4 dL_law_910 (fun x178 ex178 => ?_)
            replace h := ps_lt ex178 h
            refine ps_goto C 18 dL_law_913 rfl ?_
            exact ih b1 b2 x178 hb1 hb2 _ h
          · replace h := ps_in0 c179 h
            refine ps_iconst C dL_law_196 pi_0 ?_
            exact ps_end_i h hfin dL_law_197 rfl
        · replace h := ps_in0 c_32_1 h
          by_cases c_32_2 : x2 = nI 2
          · replace h := ps_ip c_32_2 h
            refine ps_tabI C 2 (by rw [c_32_2]; rfl) 198 dL_law_32 (by decide) (by decide) rfl rfl ?_
            refine ps_aloadn1 C dL_law_198 ?_
            refine ps_aloadn0 C dL_law_199 ?_
            refine ps_iloadn3 C dL_law_200 ?_
            refine ps_iconst C dL_law_201 pi_1 ?_
            refine ps_iadd C dL_law_202 ?_
            obtain ⟨hi166, h⟩ := ps_gd h
            refine ps_sld C hX hbl hi166 dL_law_203 ?_
            refine ps_aloadn0 C dL_law_204 ?_
            refine ps_iloadn3 C dL_law_205 ?_
            refine ps_iconst C dL_law_206 pi_2 ?_
            refine ps_iadd C dL_law_207 ?_
            obtain ⟨hi167, h⟩ := ps_gd h
            refine ps_sld C hX hbl hi167 dL_law_208 ?_
            refine ps_aloadn0 C dL_law_209 ?_
            refine ps_iloadn3 C dL_law_210 ?_
            refine ps_iconst C dL_law_211 pi_3 ?_
            refine ps_iadd C dL_law_212 ?_
            obtain ⟨hi168, h⟩ := ps_gd h
            refine ps_sld C hX hbl hi168 dL_law_213 ?_
            obtain ⟨r169, M169, hM169, h⟩ := ps_bd h
            refine ps_goV_i C (rest := []) (tt_X6_lesson (xl X) (xb X) (xD X) hb1 hM169) cw_L_23 ps_rc0 hb1 (ps_room hRm (by decide)) rfl rfl (Nat.le_of_ble_eq_true rfl) dL_law_214 ?_
            refine ps_aloadn2 C dL_law_217 ?_
            refine ps_aloadn0 C dL_law_218 ?_
            refine ps_iloadn3 C dL_law_219 ?_
            refine ps_iconst C dL_law_220 pi_1 ?_
            refine ps_iadd C dL_law_221 ?_
            obtain ⟨hi170, h⟩ := ps_gd h
            refine ps_sld C hX hbl hi170 dL_law_222 ?_
            refine ps_aloadn0 C dL_law_223 ?_
            refine ps_iloadn3 C dL_law_224 ?_
            refine ps_iconst C dL_law_225 pi_2 ?_
            refine ps_iadd C dL_law_226 ?_
            obtain ⟨hi171, h⟩ := ps_gd h
            refine ps_sld C hX hbl hi171 dL_law_227 ?_
            refine ps_aloadn0 C dL_law_228 ?_
            refine ps_iloadn3 C dL_law_229 ?_
            refine ps_iconst C dL_law_230 pi_3 ?_
            refine ps_iadd C dL_law_231 ?_
            obtain ⟨hi172, h⟩ := ps_gd h
            refine ps_sld C hX hbl hi172 dL_law_232 ?_
            obtain ⟨r173, M173, hM173, h⟩ := ps_bd h
            refine ps_goV_i C (rest := [.int r169]) (tt_X7_lesson (xl X) (xb X) (xD X) hb2 hM173) cw_L_27 ps_rc20 hb2 (ps_room hRm (by decide)) rfl rfl (Nat.le_of_ble_eq_true rfl) dL_law_233 ?_
            refine ps_ic_eq C 910 dL_law_236 rfl (fun c175 => ?_) (fun c175 => ?_)
            · replace h := ps_ip c175 h
              refine ps_iinc3 C rfl (nI 4) pi_4 dL_law_910 (fun x174 ex174 => ?_)
              replace h := ps_lt ex174 h
              refine ps_goto C 18 dL_law_913 rfl ?_
              exact ih b1 b2 x174 hb1 hb2 _ h
            · replace h := ps_in0 c175 h
              refine ps_iconst C dL_law_239 pi_0 ?_
              exact ps_end_i h hfin dL_law_240 rfl
          · replace h := ps_in0 c_32_2 h
            by_cases c_32_3 : x2 = nI 3
            · replace h := ps_ip c_32_3 h
              refine ps_tabI C 3 (by rw [c_32_3]; rfl) 241 dL_law_32 (by decide) (by decide) rfl rfl ?_
              refine ps_aloadn1 C dL_law_241 ?_
              refine ps_aloadn0 C dL_law_242 ?_
              refine ps_iloadn3 C dL_law_243 ?_
              refine ps_iconst C dL_law_244 pi_1 ?_
              refine ps_iadd C dL_law_245 ?_
              obtain ⟨hi160, h⟩ := ps_gd h
              refine ps_sld C hX hbl hi160 dL_law_246 ?_
              obtain ⟨r161, M161, hM161, h⟩ := ps_bd h
              refine ps_goV_i C (rest := []) (tt_X6_hush (xl X) (xb X) (xD X) hb1 hM161) cw_L_28 ps_rc0 hb1 (ps_room hRm (by decide)) rfl rfl (Nat.le_of_ble_eq_true rfl) dL_law_247 ?_
              refine ps_aloadn2 C dL_law_250 ?_
              refine ps_aloadn0 C dL_law_251 ?_
              refine ps_iloadn3 C dL_law_252 ?_
              refine ps_iconst C dL_law_253 pi_1 ?_
              refine ps_iadd C dL_law_254 ?_
              obtain ⟨hi162, h⟩ := ps_gd h
              refine ps_sld C hX hbl hi162 dL_law_255 ?_
              obtain ⟨r163, M163, hM163, h⟩ := ps_bd h
              refine ps_goV_i C (rest := [.int r161]) (tt_X7_hush (xl X) (xb X) (xD X) hb2 hM163) cw_L_32 ps_rc20 hb2 (ps_room hRm (by decide)) rfl rfl (Nat.le_of_ble_eq_true rfl) dL_law_256 ?_
              refine ps_ic_eq C 910 dL_law_259 rfl (fun c165 => ?_) (fun c165 => ?_)
              · replace h := ps_ip c165 h
                refine ps_iinc3 C rfl (nI 4) pi_4 dL_law_910 (fun x164 ex164 => ?_)
                replace h := ps_lt ex164 h
                refine ps_goto C 18 dL_law_913 rfl ?_
                exact ih b1 b2 x164 hb1 hb2 _ h
              · replace h := ps_in0 c165 h
                refine ps_iconst C dL_law_262 pi_0 ?_
                exact ps_end_i h hfin dL_law_263 rfl
            · replace h := ps_in0 c_32_3 h
              by_cases c_32_4 : x2 = nI 4
              · replace h := ps_ip c_32_4 h
                refine ps_tabI C 4 (by rw [c_32_4]; rfl) 264 dL_law_32 (by decide) (by decide) rfl rfl ?_
                refine ps_aloadn1 C dL_law_264 ?_
                refine ps_aloadn0 C dL_law_265 ?_
                refine ps_iloadn3 C dL_law_266 ?_
                refine ps_iconst C dL_law_267 pi_1 ?_
                refine ps_iadd C dL_law_268 ?_
                obtain ⟨hi152, h⟩ := ps_gd h
                refine ps_sld C hX hbl hi152 dL_law_269 ?_
                refine ps_aloadn0 C dL_law_270 ?_
                refine ps_iloadn3 C dL_law_271 ?_
                refine ps_iconst C dL_law_272 pi_2 ?_
                refine ps_iadd C dL_law_273 ?_
                obtain ⟨hi153, h⟩ := ps_gd h
                refine ps_sld C hX hbl hi153 dL_law_274 ?_
                obtain ⟨r154, M154, hM154, h⟩ := ps_bd h
                refine ps_goV_i C (rest := []) (tt_X6_practise (xl X) (xb X) (xD X) hb1 hM154) cw_L_33 ps_rc0 hb1 (ps_room hRm (by decide)) rfl rfl (Nat.le_of_ble_eq_true rfl) dL_law_275 ?_
                refine ps_aloadn2 C dL_law_278 ?_
                refine ps_aloadn0 C dL_law_279 ?_
                refine ps_iloadn3 C dL_law_280 ?_
                refine ps_iconst C dL_law_281 pi_1 ?_
                refine ps_iadd C dL_law_282 ?_
                obtain ⟨hi155, h⟩ := ps_gd h
                refine ps_sld C hX hbl hi155 dL_law_283 ?_
                refine ps_aloadn0 C dL_law_284 ?_
                refine ps_iloadn3 C dL_law_285 ?_
                refine ps_iconst C dL_law_286 pi_2 ?_
                refine ps_iadd C dL_law_287 ?_
                obtain ⟨hi156, h⟩ := ps_gd h
                refine ps_sld C hX hbl hi156 dL_law_288 ?_
                obtain ⟨r157, M157, hM157, h⟩ := ps_bd h
                refine ps_goV_i C (rest := [.int r154]) (tt_X7_practise (xl X) (xb X) (xD X) hb2 hM157) cw_L_36 ps_rc20 hb2 (ps_room hRm (by decide)) rfl rfl (Nat.le_of_ble_eq_true rfl) dL_law_289 ?_
                refine ps_ic_eq C 910 dL_law_292 rfl (fun c159 => ?_) (fun c159 => ?_)
                · replace h := ps_ip c159 h
                  refine ps_iinc3 C rfl (nI 4) pi_4 dL_law_910 (fun x158 ex158 => ?_)
                  replace h := ps_lt ex158 h
                  refine ps_goto C 18 dL_law_913 rfl ?_
                  exact ih b1 b2 x158 hb1 hb2 _ h
                · replace h := ps_in0 c159 h
                  refine ps_iconst C dL_law_295 pi_0 ?_
                  exact ps_end_i h hfin dL_law_296 rfl
              · replace h := ps_in0 c_32_4 h
                by_cases c_32_5 : x2 = nI 5
                · replace h := ps_ip c_32_5 h
                  refine ps_tabI C 5 (by rw [c_32_5]; rfl) 297 dL_law_32 (by decide) (by decide) rfl rfl ?_
                  refine ps_aloadn1 C dL_law_297 ?_
                  obtain ⟨r148, M148, hM148, h⟩ := ps_bd h
                  refine ps_goV_i C (rest := []) (tt_X6_night (xl X) (xb X) (xD X) hb1 hM148) cw_L_37 ps_rc0 hb1 (ps_room hRm (by decide)) rfl rfl (Nat.le_of_ble_eq_true rfl) dL_law_298 ?_
                  refine ps_aloadn2 C dL_law_301 ?_
                  obtain ⟨r149, M149, hM149, h⟩ := ps_bd h
                  refine ps_goV_i C (rest := [.int r148]) (tt_X7_night (xl X) (xb X) (xD X) hb2 hM149) cw_L_40 ps_rc20 hb2 (ps_room hRm (by decide)) rfl rfl (Nat.le_of_ble_eq_true rfl) dL_law_302 ?_
                  refine ps_ic_eq C 910 dL_law_305 rfl (fun c151 => ?_) (fun c151 => ?_)
                  · replace h := ps_ip c151 h
                    refine ps_iinc3 C rfl (nI 4) pi_4 dL_law_910 (fun x150 ex150 => ?_)
                    replace h := ps_lt ex150 h
                    refine ps_goto C 18 dL_law_913 rfl ?_
                    exact ih b1 b2 x150 hb1 hb2 _ h
                  · replace h := ps_in0 c151 h
                    refine ps_iconst C dL_law_308 pi_0 ?_
                    exact ps_end_i h hfin dL_law_309 rfl
                · replace h := ps_in0 c_32_5 h
                  by_cases c_32_6 : x2 = nI 6
                  · replace h := ps_ip c_32_6 h
                    refine ps_tabI C 6 (by rw [c_32_6]; rfl) 310 dL_law_32 (by decide) (by decide) rfl rfl ?_
                    refine ps_aloadn1 C dL_law_310 ?_
                    refine ps_aloadn0 C dL_law_311 ?_
                    refine ps_iloadn3 C dL_law_312 ?_
                    refine ps_iconst C dL_law_313 pi_1 ?_
                    refine ps_iadd C dL_law_314 ?_
                    obtain ⟨hi140, h⟩ := ps_gd h
                    refine ps_sld C hX hbl hi140 dL_law_315 ?_
                    refine ps_aloadn0 C dL_law_316 ?_
                    refine ps_iloadn3 C dL_law_317 ?_
                    refine ps_iconst C dL_law_318 pi_2 ?_
                    refine ps_iadd C dL_law_319 ?_
                    obtain ⟨hi141, h⟩ := ps_gd h
                    refine ps_sld C hX hbl hi141 dL_law_320 ?_
                    obtain ⟨r142, M142, hM142, h⟩ := ps_bd h
                    refine ps_goV_i C (rest := []) (tt_X6_ofSong (xl X) (xb X) (xD X) hb1 hM142) cw_L_41 ps_rc0 hb1 (ps_room hRm (by decide)) rfl rfl (Nat.le_of_ble_eq_true rfl) dL_law_321 ?_
                    refine ps_aloadn2 C dL_law_324 ?_
                    refine ps_aloadn0 C dL_law_325 ?_
                    refine ps_iloadn3 C dL_law_326 ?_
                    refine ps_iconst C dL_law_327 pi_1 ?_
                    refine ps_iadd C dL_law_328 ?_
                    obtain ⟨hi143, h⟩ := ps_gd h
                    refine ps_sld C hX hbl hi143 dL_law_329 ?_
                    refine ps_aloadn0 C dL_law_330 ?_
                    refine ps_iloadn3 C dL_law_331 ?_
                    refine ps_iconst C dL_law_332 pi_2 ?_
                    refine ps_iadd C dL_law_333 ?_
                    obtain ⟨hi144, h⟩ := ps_gd h
                    refine ps_sld C hX hbl hi144 dL_law_334 ?_
                    obtain ⟨r145, M145, hM145, h⟩ := ps_bd h
                    refine ps_goV_i C (rest := [.int r142]) (tt_X7_ofSong (xl X) (xb X) (xD X) hb2 hM145) cw_L_44 ps_rc20 hb2 (ps_room hRm (by decide)) rfl rfl (Nat.le_of_ble_eq_true rfl) dL_law_335 ?_
                    refine ps_ic_eq C 910 dL_law_338 rfl (fun c147 => ?_) (fun c147 => ?_)
                    · replace h := ps_ip c147 h
                      refine ps_iinc3 C rfl (nI 4) pi_4 dL_law_910 (fun x146 ex146 => ?_)
                      replace h := ps_lt ex146 h
                      refine ps_goto C 18 dL_law_913 rfl ?_
                      exact ih b1 b2 x146 hb1 hb2 _ h
                    · replace h := ps_in0 c147 h
                      refine ps_iconst C dL_law_341 pi_0 ?_
                      exact ps_end_i h hfin dL_law_342 rfl
                  · replace h := ps_in0 c_32_6 h
                    by_cases c_32_7 : x2 = nI 7
                    · replace h := ps_ip c_32_7 h
                      refine ps_tabI C 7 (by rw [c_32_7]; rfl) 343 dL_law_32 (by decide) (by decide) rfl rfl ?_
                      refine ps_aloadn1 C dL_law_343 ?_
                      refine ps_aloadn0 C dL_law_344 ?_
                      refine ps_iloadn3 C dL_law_345 ?_
                      refine ps_iconst C dL_law_346 pi_1 ?_
                      refine ps_iadd C dL_law_347 ?_
                      obtain ⟨hi132, h⟩ := ps_gd h
                      refine ps_sld C hX hbl hi132 dL_law_348 ?_
                      refine ps_aloadn0 C dL_law_349 ?_
                      refine ps_iloadn3 C dL_law_350 ?_
                      refine ps_iconst C dL_law_351 pi_2 ?_
                      refine ps_iadd C dL_law_352 ?_
                      obtain ⟨hi133, h⟩ := ps_gd h
                      refine ps_sld C hX hbl hi133 dL_law_353 ?_
                      obtain ⟨r134, M134, hM134, h⟩ := ps_bd h
                      refine ps_goV_i C (rest := []) (tt_X6_bar (xl X) (xb X) (xD X) hb1 hM134) cw_L_45 ps_rc0 hb1 (ps_room hRm (by decide)) rfl rfl (Nat.le_of_ble_eq_true rfl) dL_law_354 ?_
                      refine ps_aloadn2 C dL_law_357 ?_
                      refine ps_aloadn0 C dL_law_358 ?_
                      refine ps_iloadn3 C dL_law_359 ?_
                      refine ps_iconst C dL_law_360 pi_1 ?_
                      refine ps_iadd C dL_law_361 ?_
                      obtain ⟨hi135, h⟩ := ps_gd h
                      refine ps_sld C hX hbl hi135 dL_law_362 ?_
                      refine ps_aloadn0 C dL_law_363 ?_
                      refine ps_iloadn3 C dL_law_364 ?_
                      refine ps_iconst C dL_law_365 pi_2 ?_
                      refine ps_iadd C dL_law_366 ?_
                      obtain ⟨hi136, h⟩ := ps_gd h
                      refine ps_sld C hX hbl hi136 dL_law_367 ?_
                      obtain ⟨r137, M137, hM137, h⟩ := ps_bd h
                      refine ps_goV_i C (rest := [.int r134]) (tt_X7_bar (xl X) (xb X) (xD X) hb2 hM137) cw_L_48 ps_rc20 hb2 (ps_room hRm (by decide)) rfl rfl (Nat.le_of_ble_eq_true rfl) dL_law_368 ?_
                      refine ps_ic_eq C 910 dL_law_371 rfl (fun c139 => ?_) (fun c139 => ?_)
                      · replace h := ps_ip c139 h
                        refine ps_iinc3 C rfl (nI 4) pi_4 dL_law_910 (fun x138 ex138 => ?_)
                        replace h := ps_lt ex138 h
                        refine ps_goto C 18 dL_law_913 rfl ?_
                        exact ih b1 b2 x138 hb1 hb2 _ h
                      · replace h := ps_in0 c139 h
                        refine ps_iconst C dL_law_374 pi_0 ?_
                        exact ps_end_i h hfin dL_law_375 rfl
                    · replace h := ps_in0 c_32_7 h
                      by_cases c_32_8 : x2 = nI 8
                      · replace h := ps_ip c_32_8 h
                        refine ps_tabI C 8 (by rw [c_32_8]; rfl) 376 dL_law_32 (by decide) (by decide) rfl rfl ?_
                        refine ps_aloadn1 C dL_law_376 ?_
                        refine ps_aloadn0 C dL_law_377 ?_
                        refine ps_iloadn3 C dL_law_378 ?_
                        refine ps_iconst C dL_law_379 pi_1 ?_
                        refine ps_iadd C dL_law_380 ?_
                        obtain ⟨hi124, h⟩ := ps_gd h
                        refine ps_sld C hX hbl hi124 dL_law_381 ?_
                        refine ps_aloadn0 C dL_law_382 ?_
                        refine ps_iloadn3 C dL_law_383 ?_
                        refine ps_iconst C dL_law_384 pi_2 ?_
                        refine ps_iadd C dL_law_385 ?_
                        obtain ⟨hi125, h⟩ := ps_gd h
                        refine ps_sld C hX hbl hi125 dL_law_386 ?_
                        obtain ⟨r126, M126, hM126, h⟩ := ps_bd h
                        refine ps_goV_i C (rest := []) (tt_X6_of (xl X) (xb X) (xD X) hb1 hM126) cw_L_49 ps_rc0 hb1 (ps_room hRm (by decide)) rfl rfl (Nat.le_of_ble_eq_true rfl) dL_law_387 ?_
                        refine ps_aloadn2 C dL_law_390 ?_
                        refine ps_aloadn0 C dL_law_391 ?_
                        refine ps_iloadn3 C dL_law_392 ?_
                        refine ps_iconst C dL_law_393 pi_1 ?_
                        refine ps_iadd C dL_law_394 ?_
                        obtain ⟨hi127, h⟩ := ps_gd h
                        refine ps_sld C hX hbl hi127 dL_law_395 ?_
                        refine ps_aloadn0 C dL_law_396 ?_
                        refine ps_iloadn3 C dL_law_397 ?_
                        refine ps_iconst C dL_law_398 pi_2 ?_
                        refine ps_iadd C dL_law_399 ?_
                        obtain ⟨hi128, h⟩ := ps_gd h
                        refine ps_sld C hX hbl hi128 dL_law_400 ?_
                        obtain ⟨r129, M129, hM129, h⟩ := ps_bd h
                        refine ps_goV_i C (rest := [.int r126]) (tt_X7_of (xl X) (xb X) (xD X) hb2 hM129) cw_L_52 ps_rc20 hb2 (ps_room hRm (by decide)) rfl rfl (Nat.le_of_ble_eq_true rfl) dL_law_401 ?_
                        refine ps_ic_eq C 910 dL_law_404 rfl (fun c131 => ?_) (fun c131 => ?_)
                        · replace h := ps_ip c131 h
                          refine ps_iinc3 C rfl (nI 4) pi_4 dL_law_910 (fun x130 ex130 => ?_)
                          replace h := ps_lt ex130 h
                          refine ps_goto C 18 dL_law_913 rfl ?_
                          exact ih b1 b2 x130 hb1 hb2 _ h
                        · replace h := ps_in0 c131 h
                          refine ps_iconst C dL_law_407 pi_0 ?_
                          exact ps_end_i h hfin dL_law_408 rfl
                      · replace h := ps_in0 c_32_8 h
                        by_cases c_32_9 : x2 = nI 9
                        · replace h := ps_ip c_32_9 h
                          refine ps_tabI C 9 (by rw [c_32_9]; rfl) 409 dL_law_32 (by decide) (by decide) rfl rfl ?_
                          refine ps_aloadn1 C dL_law_409 ?_
                          refine ps_aloadn0 C dL_law_410 ?_
                          refine ps_iloadn3 C dL_law_411 ?_
                          refine ps_iconst C dL_law_412 pi_1 ?_
                          refine ps_iadd C dL_law_413 ?_
                          obtain ⟨hi114, h⟩ := ps_gd h
                          refine ps_sld C hX hbl hi114 dL_law_414 ?_
                          refine ps_aloadn0 C dL_law_415 ?_
                          refine ps_iloadn3 C dL_law_416 ?_
                          refine ps_iconst C dL_law_417 pi_2 ?_
                          refine ps_iadd C dL_law_418 ?_
                          obtain ⟨hi115, h⟩ := ps_gd h
                          refine ps_sld C hX hbl hi115 dL_law_419 ?_
                          refine ps_aloadn0 C dL_law_420 ?_
                          refine ps_iloadn3 C dL_law_421 ?_
                          refine ps_iconst C dL_law_422 pi_3 ?_
                          refine ps_iadd C dL_law_423 ?_
                          obtain ⟨hi116, h⟩ := ps_gd h
                          refine ps_sld C hX hbl hi116 dL_law_424 ?_
                          obtain ⟨r117, M117, hM117, h⟩ := ps_bd h
                          refine ps_goV_i C (rest := []) (tt_X6_link (xl X) (xb X) (xD X) hb1 hM117) cw_L_53 ps_rc0 hb1 (ps_room hRm (by decide)) rfl rfl (Nat.le_of_ble_eq_true rfl) dL_law_425 ?_
                          refine ps_aloadn2 C dL_law_428 ?_
                          refine ps_aloadn0 C dL_law_429 ?_
                          refine ps_iloadn3 C dL_law_430 ?_
                          refine ps_iconst C dL_law_431 pi_1 ?_
                          refine ps_iadd C dL_law_432 ?_
                          obtain ⟨hi118, h⟩ := ps_gd h
                          refine ps_sld C hX hbl hi118 dL_law_433 ?_
                          refine ps_aloadn0 C dL_law_434 ?_
                          refine ps_iloadn3 C dL_law_435 ?_
                          refine ps_iconst C dL_law_436 pi_2 ?_
                          refine ps_iadd C dL_law_437 ?_
                          obtain ⟨hi119, h⟩ := ps_gd h
                          refine ps_sld C hX hbl hi119 dL_law_438 ?_
                          refine ps_aloadn0 C dL_law_439 ?_
                          refine ps_iloadn3 C dL_law_440 ?_
                          refine ps_iconst C dL_law_441 pi_3 ?_
                          refine ps_iadd C dL_law_442 ?_
                          obtain ⟨hi120, h⟩ := ps_gd h
                          refine ps_sld C hX hbl hi120 dL_law_443 ?_
                          obtain ⟨r121, M121, hM121, h⟩ := ps_bd h
                          refine ps_goV_i C (rest := [.int r117]) (tt_X7_link (xl X) (xb X) (xD X) hb2 hM121) cw_L_56 ps_rc20 hb2 (ps_room hRm (by decide)) rfl rfl (Nat.le_of_ble_eq_true rfl) dL_law_444 ?_
                          refine ps_ic_eq C 910 dL_law_447 rfl (fun c123 => ?_) (fun c123 => ?_)
                          · replace h := ps_ip c123 h
                            refine ps_iinc3 C rfl (nI 4) pi_4 dL_law_910 (fun x122 ex122 => ?_)
                            replace h := ps_lt ex122 h
                            refine ps_goto C 18 dL_law_913 rfl ?_
                            exact ih b1 b2 x122 hb1 hb2 _ h
                          · replace h := ps_in0 c123 h
                            refine ps_iconst C dL_law_450 pi_0 ?_
                            exact ps_end_i h hfin dL_law_451 rfl
                        · replace h := ps_in0 c_32_9 h
                          by_cases c_32_10 : x2 = nI 10
                          · replace h := ps_ip c_32_10 h
                            refine ps_tabI C 10 (by rw [c_32_10]; rfl) 452 dL_law_32 (by decide) (by decide) rfl rfl ?_
                            refine ps_aloadn1 C dL_law_452 ?_
                            refine ps_aloadn0 C dL_law_453 ?_
                            refine ps_iloadn3 C dL_law_454 ?_
                            refine ps_iconst C dL_law_455 pi_1 ?_
                            refine ps_iadd C dL_law_456 ?_
                            obtain ⟨hi104, h⟩ := ps_gd h
                            refine ps_sld C hX hbl hi104 dL_law_457 ?_
                            refine ps_aloadn0 C dL_law_458 ?_
                            refine ps_iloadn3 C dL_law_459 ?_
                            refine ps_iconst C dL_law_460 pi_2 ?_
                            refine ps_iadd C dL_law_461 ?_
                            obtain ⟨hi105, h⟩ := ps_gd h
                            refine ps_sld C hX hbl hi105 dL_law_462 ?_
                            refine ps_aloadn0 C dL_law_463 ?_
                            refine ps_iloadn3 C dL_law_464 ?_
                            refine ps_iconst C dL_law_465 pi_3 ?_
                            refine ps_iadd C dL_law_466 ?_
                            obtain ⟨hi106, h⟩ := ps_gd h
                            refine ps_sld C hX hbl hi106 dL_law_467 ?_
                            obtain ⟨r107, M107, hM107, h⟩ := ps_bd h
                            refine ps_goV_i C (rest := []) (tt_X6_sings (xl X) (xb X) (xD X) hb1 hM107) cw_L_57 ps_rc0 hb1 (ps_room hRm (by decide)) rfl rfl (Nat.le_of_ble_eq_true rfl) dL_law_468 ?_
                            refine ps_aloadn2 C dL_law_471 ?_
                            refine ps_aloadn0 C dL_law_472 ?_
                            refine ps_iloadn3 C dL_law_473 ?_
                            refine ps_iconst C dL_law_474 pi_1 ?_
                            refine ps_iadd C dL_law_475 ?_
                            obtain ⟨hi108, h⟩ := ps_gd h
                            refine ps_sld C hX hbl hi108 dL_law_476 ?_
                            refine ps_aloadn0 C dL_law_477 ?_
                            refine ps_iloadn3 C dL_law_478 ?_
                            refine ps_iconst C dL_law_479 pi_2 ?_
                            refine ps_iadd C dL_law_480 ?_
                            obtain ⟨hi109, h⟩ := ps_gd h
                            refine ps_sld C hX hbl hi109 dL_law_481 ?_
                            refine ps_aloadn0 C dL_law_482 ?_
                            refine ps_iloadn3 C dL_law_483 ?_
                            refine ps_iconst C dL_law_484 pi_3 ?_
                            refine ps_iadd C dL_law_485 ?_
                            obtain ⟨hi110, h⟩ := ps_gd h
                            refine ps_sld C hX hbl hi110 dL_law_486 ?_
                            obtain ⟨r111, M111, hM111, h⟩ := ps_bd h
                            refine ps_goV_i C (rest := [.int r107]) (tt_X7_sings (xl X) (xb X) (xD X) hb2 hM111) cw_L_60 ps_rc20 hb2 (ps_room hRm (by decide)) rfl rfl (Nat.le_of_ble_eq_true rfl) dL_law_487 ?_
                            refine ps_ic_eq C 910 dL_law_490 rfl (fun c113 => ?_) (fun c113 => ?_)
                            · replace h := ps_ip c113 h
                              refine ps_iinc3 C rfl (nI 4) pi_4 dL_law_910 (fun x112 ex112 => ?_)
                              replace h := ps_lt ex112 h
                              refine ps_goto C 18 dL_law_913 rfl ?_
                              exact ih b1 b2 x112 hb1 hb2 _ h
                            · replace h := ps_in0 c113 h
                              refine ps_iconst C dL_law_493 pi_0 ?_
                              exact ps_end_i h hfin dL_law_494 rfl
                          · replace h := ps_in0 c_32_10 h
                            by_cases c_32_11 : x2 = nI 11
                            · replace h := ps_ip c_32_11 h
                              refine ps_tabI C 11 (by rw [c_32_11]; rfl) 495 dL_law_32 (by decide) (by decide) rfl rfl ?_
                              refine ps_aloadn1 C dL_law_495 ?_
                              refine ps_aloadn0 C dL_law_496 ?_
                              refine ps_iloadn3 C dL_law_497 ?_
                              refine ps_iconst C dL_law_498 pi_1 ?_
                              refine ps_iadd C dL_law_499 ?_
                              obtain ⟨hi96, h⟩ := ps_gd h
                              refine ps_sld C hX hbl hi96 dL_law_500 ?_
                              refine ps_aloadn0 C dL_law_501 ?_
                              refine ps_iloadn3 C dL_law_502 ?_
                              refine ps_iconst C dL_law_503 pi_2 ?_
                              refine ps_iadd C dL_law_504 ?_
                              obtain ⟨hi97, h⟩ := ps_gd h
                              refine ps_sld C hX hbl hi97 dL_law_505 ?_
                              obtain ⟨r98, M98, hM98, h⟩ := ps_bd h
                              refine ps_goV_i C (rest := []) (tt_X6_knows (xl X) (xb X) (xD X) hb1 hM98) cw_L_61 ps_rc0 hb1 (ps_room hRm (by decide)) rfl rfl (Nat.le_of_ble_eq_true rfl) dL_law_506 ?_
                              refine ps_aloadn2 C dL_law_509 ?_
                              refine ps_aloadn0 C dL_law_510 ?_
                              refine ps_iloadn3 C dL_law_511 ?_
                              refine ps_iconst C dL_law_512 pi_1 ?_
                              refine ps_iadd C dL_law_513 ?_
                              obtain ⟨hi99, h⟩ := ps_gd h
                              refine ps_sld C hX hbl hi99 dL_law_514 ?_
                              refine ps_aloadn0 C dL_law_515 ?_
                              refine ps_iloadn3 C dL_law_516 ?_
                              refine ps_iconst C dL_law_517 pi_2 ?_
                              refine ps_iadd C dL_law_518 ?_
                              obtain ⟨hi100, h⟩ := ps_gd h
                              refine ps_sld C hX hbl hi100 dL_law_519 ?_
                              obtain ⟨r101, M101, hM101, h⟩ := ps_bd h
                              refine ps_goV_i C (rest := [.int r98]) (tt_X7_knows (xl X) (xb X) (xD X) hb2 hM101) cw_L_64 ps_rc20 hb2 (ps_room hRm (by decide)) rfl rfl (Nat.le_of_ble_eq_true rfl) dL_law_520 ?_
                              refine ps_ic_eq C 910 dL_law_523 rfl (fun c103 => ?_) (fun c103 => ?_)
                              · replace h := ps_ip c103 h
                                refine ps_iinc3 C rfl (nI 4) pi_4 dL_law_910 (fun x102 ex102 => ?_)
                                replace h := ps_lt ex102 h
                                refine ps_goto C 18 dL_law_913 rfl ?_
                                exact ih b1 b2 x102 hb1 hb2 _ h
                              · replace h := ps_in0 c103 h
                                refine ps_iconst C dL_law_526 pi_0 ?_
                                exact ps_end_i h hfin dL_law_527 rfl
                            · replace h := ps_in0 c_32_11 h
                              by_cases c_32_12 : x2 = nI 12
                              · replace h := ps_ip c_32_12 h
                                refine ps_tabI C 12 (by rw [c_32_12]; rfl) 528 dL_law_32 (by decide) (by decide) rfl rfl ?_
                                refine ps_aloadn1 C dL_law_528 ?_
                                refine ps_aloadn0 C dL_law_529 ?_
                                refine ps_iloadn3 C dL_law_530 ?_
                                refine ps_iconst C dL_law_531 pi_1 ?_
                                refine ps_iadd C dL_law_532 ?_
                                obtain ⟨hi86, h⟩ := ps_gd h
                                refine ps_sld C hX hbl hi86 dL_law_533 ?_
                                refine ps_aloadn0 C dL_law_534 ?_
                                refine ps_iloadn3 C dL_law_535 ?_
                                refine ps_iconst C dL_law_536 pi_2 ?_
                                refine ps_iadd C dL_law_537 ?_
                                obtain ⟨hi87, h⟩ := ps_gd h
                                refine ps_sld C hX hbl hi87 dL_law_538 ?_
                                refine ps_aloadn0 C dL_law_539 ?_
                                refine ps_iloadn3 C dL_law_540 ?_
                                refine ps_iconst C dL_law_541 pi_3 ?_
                                refine ps_iadd C dL_law_542 ?_
                                obtain ⟨hi88, h⟩ := ps_gd h
                                refine ps_sld C hX hbl hi88 dL_law_543 ?_
                                obtain ⟨r89, M89, hM89, h⟩ := ps_bd h
                                refine ps_goV_i C (rest := []) (tt_X6_mistake (xl X) (xb X) (xD X) hb1 hM89) cw_L_65 ps_rc0 hb1 (ps_room hRm (by decide)) rfl rfl (Nat.le_of_ble_eq_true rfl) dL_law_544 ?_
                                refine ps_aloadn2 C dL_law_547 ?_
                                refine ps_aloadn0 C dL_law_548 ?_
                                refine ps_iloadn3 C dL_law_549 ?_
                                refine ps_iconst C dL_law_550 pi_1 ?_
                                refine ps_iadd C dL_law_551 ?_
                                obtain ⟨hi90, h⟩ := ps_gd h
                                refine ps_sld C hX hbl hi90 dL_law_552 ?_
                                refine ps_aloadn0 C dL_law_553 ?_
                                refine ps_iloadn3 C dL_law_554 ?_
                                refine ps_iconst C dL_law_555 pi_2 ?_
                                refine ps_iadd C dL_law_556 ?_
                                obtain ⟨hi91, h⟩ := ps_gd h
                                refine ps_sld C hX hbl hi91 dL_law_557 ?_
                                refine ps_aloadn0 C dL_law_558 ?_
                                refine ps_iloadn3 C dL_law_559 ?_
                                refine ps_iconst C dL_law_560 pi_3 ?_
                                refine ps_iadd C dL_law_561 ?_
                                obtain ⟨hi92, h⟩ := ps_gd h
                                refine ps_sld C hX hbl hi92 dL_law_562 ?_
                                obtain ⟨r93, M93, hM93, h⟩ := ps_bd h
                                refine ps_goV_i C (rest := [.int r89]) (tt_X7_mistake (xl X) (xb X) (xD X) hb2 hM93) cw_L_68 ps_rc20 hb2 (ps_room hRm (by decide)) rfl rfl (Nat.le_of_ble_eq_true rfl) dL_law_563 ?_
                                refine ps_ic_eq C 910 dL_law_566 rfl (fun c95 => ?_) (fun c95 => ?_)
                                · replace h := ps_ip c95 h
                                  refine ps_iinc3 C rfl (nI 4) pi_4 dL_law_910 (fun x94 ex94 => ?_)
                                  replace h := ps_lt ex94 h
                                  refine ps_goto C 18 dL_law_913 rfl ?_
                                  exact ih b1 b2 x94 hb1 hb2 _ h
                                · replace h := ps_in0 c95 h
                                  refine ps_iconst C dL_law_569 pi_0 ?_
                                  exact ps_end_i h hfin dL_law_570 rfl
                              · replace h := ps_in0 c_32_12 h
                                by_cases c_32_13 : x2 = nI 13
                                · replace h := ps_ip c_32_13 h
                                  refine ps_tabI C 13 (by rw [c_32_13]; rfl) 571 dL_law_32 (by decide) (by decide) rfl rfl ?_
                                  refine ps_aloadn1 C dL_law_571 ?_
                                  refine ps_aloadn0 C dL_law_572 ?_
                                  refine ps_iloadn3 C dL_law_573 ?_
                                  refine ps_iconst C dL_law_574 pi_1 ?_
                                  refine ps_iadd C dL_law_575 ?_
                                  obtain ⟨hi78, h⟩ := ps_gd h
                                  refine ps_sld C hX hbl hi78 dL_law_576 ?_
                                  refine ps_aloadn0 C dL_law_577 ?_
                                  refine ps_iloadn3 C dL_law_578 ?_
                                  refine ps_iconst C dL_law_579 pi_2 ?_
                                  refine ps_iadd C dL_law_580 ?_
                                  obtain ⟨hi79, h⟩ := ps_gd h
                                  refine ps_sld C hX hbl hi79 dL_law_581 ?_
                                  obtain ⟨r80, M80, hM80, h⟩ := ps_bd h
                                  refine ps_goV_i C (rest := []) (tt_X6_rhymes (xl X) (xb X) (xD X) hb1 hM80) cw_L_69 ps_rc0 hb1 (ps_room hRm (by decide)) rfl rfl (Nat.le_of_ble_eq_true rfl) dL_law_582 ?_
                                  refine ps_aloadn2 C dL_law_585 ?_
                                  refine ps_aloadn0 C dL_law_586 ?_
                                  refine ps_iloadn3 C dL_law_587 ?_
                                  refine ps_iconst C dL_law_588 pi_1 ?_
                                  refine ps_iadd C dL_law_589 ?_
                                  obtain ⟨hi81, h⟩ := ps_gd h
                                  refine ps_sld C hX hbl hi81 dL_law_590 ?_
                                  refine ps_aloadn0 C dL_law_591 ?_
                                  refine ps_iloadn3 C dL_law_592 ?_
                                  refine ps_iconst C dL_law_593 pi_2 ?_
                                  refine ps_iadd C dL_law_594 ?_
                                  obtain ⟨hi82, h⟩ := ps_gd h
                                  refine ps_sld C hX hbl hi82 dL_law_595 ?_
                                  obtain ⟨r83, M83, hM83, h⟩ := ps_bd h
                                  refine ps_goV_i C (rest := [.int r80]) (tt_X7_rhymes (xl X) (xb X) (xD X) hb2 hM83) cw_L_72 ps_rc20 hb2 (ps_room hRm (by decide)) rfl rfl (Nat.le_of_ble_eq_true rfl) dL_law_596 ?_
                                  refine ps_ic_eq C 910 dL_law_599 rfl (fun c85 => ?_) (fun c85 => ?_)
                                  · replace h := ps_ip c85 h
                                    refine ps_iinc3 C rfl (nI 4) pi_4 dL_law_910 (fun x84 ex84 => ?_)
                                    replace h := ps_lt ex84 h
                                    refine ps_goto C 18 dL_law_913 rfl ?_
                                    exact ih b1 b2 x84 hb1 hb2 _ h
                                  · replace h := ps_in0 c85 h
                                    refine ps_iconst C dL_law_602 pi_0 ?_
                                    exact ps_end_i h hfin dL_law_603 rfl
                                · replace h := ps_in0 c_32_13 h
                                  by_cases c_32_14 : x2 = nI 14
                                  · replace h := ps_ip c_32_14 h
                                    refine ps_tabI C 14 (by rw [c_32_14]; rfl) 604 dL_law_32 (by decide) (by decide) rfl rfl ?_
                                    refine ps_aloadn1 C dL_law_604 ?_
                                    refine ps_aloadn0 C dL_law_605 ?_
                                    refine ps_iloadn3 C dL_law_606 ?_
                                    refine ps_iconst C dL_law_607 pi_1 ?_
                                    refine ps_iadd C dL_law_608 ?_
                                    obtain ⟨hi70, h⟩ := ps_gd h
                                    refine ps_sld C hX hbl hi70 dL_law_609 ?_
                                    refine ps_aloadn0 C dL_law_610 ?_
                                    refine ps_iloadn3 C dL_law_611 ?_
                                    refine ps_iconst C dL_law_612 pi_2 ?_
                                    refine ps_iadd C dL_law_613 ?_
                                    obtain ⟨hi71, h⟩ := ps_gd h
                                    refine ps_sld C hX hbl hi71 dL_law_614 ?_
                                    obtain ⟨r72, M72, hM72, h⟩ := ps_bd h
                                    refine ps_goV_i C (rest := []) (tt_X6_follows (xl X) (xb X) (xD X) hb1 hM72) cw_L_73 ps_rc0 hb1 (ps_room hRm (by decide)) rfl rfl (Nat.le_of_ble_eq_true rfl) dL_law_615 ?_
                                    refine ps_aloadn2 C dL_law_618 ?_
                                    refine ps_aloadn0 C dL_law_619 ?_
                                    refine ps_iloadn3 C dL_law_620 ?_
                                    refine ps_iconst C dL_law_621 pi_1 ?_
                                    refine ps_iadd C dL_law_622 ?_
                                    obtain ⟨hi73, h⟩ := ps_gd h
                                    refine ps_sld C hX hbl hi73 dL_law_623 ?_
                                    refine ps_aloadn0 C dL_law_624 ?_
                                    refine ps_iloadn3 C dL_law_625 ?_
                                    refine ps_iconst C dL_law_626 pi_2 ?_
                                    refine ps_iadd C dL_law_627 ?_
                                    obtain ⟨hi74, h⟩ := ps_gd h
                                    refine ps_sld C hX hbl hi74 dL_law_628 ?_
                                    obtain ⟨r75, M75, hM75, h⟩ := ps_bd h
                                    refine ps_goV_i C (rest := [.int r72]) (tt_X7_follows (xl X) (xb X) (xD X) hb2 hM75) cw_L_76 ps_rc20 hb2 (ps_room hRm (by decide)) rfl rfl (Nat.le_of_ble_eq_true rfl) dL_law_629 ?_
                                    refine ps_ic_eq C 910 dL_law_632 rfl (fun c77 => ?_) (fun c77 => ?_)
                                    · replace h := ps_ip c77 h
                                      refine ps_iinc3 C rfl (nI 4) pi_4 dL_law_910 (fun x76 ex76 => ?_)
                                      replace h := ps_lt ex76 h
                                      refine ps_goto C 18 dL_law_913 rfl ?_
                                      exact ih b1 b2 x76 hb1 hb2 _ h
                                    · replace h := ps_in0 c77 h
                                      refine ps_iconst C dL_law_635 pi_0 ?_
                                      exact ps_end_i h hfin dL_law_636 rfl
                                  · replace h := ps_in0 c_32_14 h
                                    by_cases c_32_15 : x2 = nI 15
                                    · replace h := ps_ip c_32_15 h
                                      refine ps_tabI C 15 (by rw [c_32_15]; rfl) 637 dL_law_32 (by decide) (by decide) rfl rfl ?_
                                      refine ps_aloadn1 C dL_law_637 ?_
                                      refine ps_aloadn0 C dL_law_638 ?_
                                      refine ps_iloadn3 C dL_law_639 ?_
                                      refine ps_iconst C dL_law_640 pi_1 ?_
                                      refine ps_iadd C dL_law_641 ?_
                                      obtain ⟨hi64, h⟩ := ps_gd h
                                      refine ps_sld C hX hbl hi64 dL_law_642 ?_
                                      obtain ⟨r65, M65, hM65, h⟩ := ps_bd h
                                      refine ps_goV_i C (rest := []) (tt_X6_count (xl X) (xb X) (xD X) hb1 hM65) cw_L_77 ps_rc0 hb1 (ps_room hRm (by decide)) rfl rfl (Nat.le_of_ble_eq_true rfl) dL_law_643 ?_
                                      refine ps_aloadn2 C dL_law_646 ?_
                                      refine ps_aloadn0 C dL_law_647 ?_
                                      refine ps_iloadn3 C dL_law_648 ?_
                                      refine ps_iconst C dL_law_649 pi_1 ?_
                                      refine ps_iadd C dL_law_650 ?_
                                      obtain ⟨hi66, h⟩ := ps_gd h
                                      refine ps_sld C hX hbl hi66 dL_law_651 ?_
                                      obtain ⟨r67, M67, hM67, h⟩ := ps_bd h
                                      refine ps_goV_i C (rest := [.int r65]) (tt_X7_count (xl X) (xb X) (xD X) hb2 hM67) cw_L_80 ps_rc20 hb2 (ps_room hRm (by decide)) rfl rfl (Nat.le_of_ble_eq_true rfl) dL_law_652 ?_
                                      refine ps_ic_eq C 910 dL_law_655 rfl (fun c69 => ?_) (fun c69 => ?_)
                                      · replace h := ps_ip c69 h
                                        refine ps_iinc3 C rfl (nI 4) pi_4 dL_law_910 (fun x68 ex68 => ?_)
                                        replace h := ps_lt ex68 h
                                        refine ps_goto C 18 dL_law_913 rfl ?_
                                        exact ih b1 b2 x68 hb1 hb2 _ h
                                      · replace h := ps_in0 c69 h
                                        refine ps_iconst C dL_law_658 pi_0 ?_
                                        exact ps_end_i h hfin dL_law_659 rfl
                                    · replace h := ps_in0 c_32_15 h
                                      by_cases c_32_16 : x2 = nI 16
                                      · replace h := ps_ip c_32_16 h
                                        refine ps_tabI C 16 (by rw [c_32_16]; rfl) 660 dL_law_32 (by decide) (by decide) rfl rfl ?_
                                        refine ps_aloadn1 C dL_law_660 ?_
                                        refine ps_aloadn0 C dL_law_661 ?_
                                        refine ps_iloadn3 C dL_law_662 ?_
                                        refine ps_iconst C dL_law_663 pi_1 ?_
                                        refine ps_iadd C dL_law_664 ?_
                                        obtain ⟨hi56, h⟩ := ps_gd h
                                        refine ps_sld C hX hbl hi56 dL_law_665 ?_
                                        refine ps_aloadn0 C dL_law_666 ?_
                                        refine ps_iloadn3 C dL_law_667 ?_
                                        refine ps_iconst C dL_law_668 pi_2 ?_
                                        refine ps_iadd C dL_law_669 ?_
                                        obtain ⟨hi57, h⟩ := ps_gd h
                                        refine ps_sld C hX hbl hi57 dL_law_670 ?_
                                        obtain ⟨r58, M58, hM58, h⟩ := ps_bd h
                                        refine ps_goV_i C (rest := []) (tt_X6_lessonsFor (xl X) (xb X) (xD X) hb1 hM58) cw_L_81 ps_rc0 hb1 (ps_room hRm (by decide)) rfl rfl (Nat.le_of_ble_eq_true rfl) dL_law_671 ?_
                                        refine ps_aloadn2 C dL_law_674 ?_
                                        refine ps_aloadn0 C dL_law_675 ?_
                                        refine ps_iloadn3 C dL_law_676 ?_
                                        refine ps_iconst C dL_law_677 pi_1 ?_
                                        refine ps_iadd C dL_law_678 ?_
                                        obtain ⟨hi59, h⟩ := ps_gd h
                                        refine ps_sld C hX hbl hi59 dL_law_679 ?_
                                        refine ps_aloadn0 C dL_law_680 ?_
                                        refine ps_iloadn3 C dL_law_681 ?_
                                        refine ps_iconst C dL_law_682 pi_2 ?_
                                        refine ps_iadd C dL_law_683 ?_
                                        obtain ⟨hi60, h⟩ := ps_gd h
                                        refine ps_sld C hX hbl hi60 dL_law_684 ?_
                                        obtain ⟨r61, M61, hM61, h⟩ := ps_bd h
                                        refine ps_goV_i C (rest := [.int r58]) (tt_X7_lessonsFor (xl X) (xb X) (xD X) hb2 hM61) cw_L_84 ps_rc20 hb2 (ps_room hRm (by decide)) rfl rfl (Nat.le_of_ble_eq_true rfl) dL_law_685 ?_
                                        refine ps_ic_eq C 910 dL_law_688 rfl (fun c63 => ?_) (fun c63 => ?_)
                                        · replace h := ps_ip c63 h
                                          refine ps_iinc3 C rfl (nI 4) pi_4 dL_law_910 (fun x62 ex62 => ?_)
                                          replace h := ps_lt ex62 h
                                          refine ps_goto C 18 dL_law_913 rfl ?_
                                          exact ih b1 b2 x62 hb1 hb2 _ h
                                        · replace h := ps_in0 c63 h
                                          refine ps_iconst C dL_law_691 pi_0 ?_
                                          exact ps_end_i h hfin dL_law_692 rfl
                                      · replace h := ps_in0 c_32_16 h
                                        by_cases c_32_17 : x2 = nI 17
                                        · replace h := ps_ip c_32_17 h
                                          refine ps_tabI C 17 (by rw [c_32_17]; rfl) 693 dL_law_32 (by decide) (by decide) rfl rfl ?_
                                          refine ps_aloadn1 C dL_law_693 ?_
                                          refine ps_aloadn0 C dL_law_694 ?_
                                          refine ps_iloadn3 C dL_law_695 ?_
                                          refine ps_iconst C dL_law_696 pi_1 ?_
                                          refine ps_iadd C dL_law_697 ?_
                                          obtain ⟨hi48, h⟩ := ps_gd h
                                          refine ps_sld C hX hbl hi48 dL_law_698 ?_
                                          refine ps_aloadn0 C dL_law_699 ?_
                                          refine ps_iloadn3 C dL_law_700 ?_
                                          refine ps_iconst C dL_law_701 pi_2 ?_
                                          refine ps_iadd C dL_law_702 ?_
                                          obtain ⟨hi49, h⟩ := ps_gd h
                                          refine ps_sld C hX hbl hi49 dL_law_703 ?_
                                          obtain ⟨r50, M50, hM50, h⟩ := ps_bd h
                                          refine ps_goV_i C (rest := []) (tt_X6_bestLesson (xl X) (xb X) (xD X) hb1 hM50) cw_L_85 ps_rc0 hb1 (ps_room hRm (by decide)) rfl rfl (Nat.le_of_ble_eq_true rfl) dL_law_704 ?_
                                          refine ps_aloadn2 C dL_law_707 ?_
                                          refine ps_aloadn0 C dL_law_708 ?_
                                          refine ps_iloadn3 C dL_law_709 ?_
                                          refine ps_iconst C dL_law_710 pi_1 ?_
                                          refine ps_iadd C dL_law_711 ?_
                                          obtain ⟨hi51, h⟩ := ps_gd h
                                          refine ps_sld C hX hbl hi51 dL_law_712 ?_
                                          refine ps_aloadn0 C dL_law_713 ?_
                                          refine ps_iloadn3 C dL_law_714 ?_
                                          refine ps_iconst C dL_law_715 pi_2 ?_
                                          refine ps_iadd C dL_law_716 ?_
                                          obtain ⟨hi52, h⟩ := ps_gd h
                                          refine ps_sld C hX hbl hi52 dL_law_717 ?_
                                          obtain ⟨r53, M53, hM53, h⟩ := ps_bd h
                                          refine ps_goV_i C (rest := [.int r50]) (tt_X7_bestLesson (xl X) (xb X) (xD X) hb2 hM53) cw_L_88 ps_rc20 hb2 (ps_room hRm (by decide)) rfl rfl (Nat.le_of_ble_eq_true rfl) dL_law_718 ?_
                                          refine ps_ic_eq C 910 dL_law_721 rfl (fun c55 => ?_) (fun c55 => ?_)
                                          · replace h := ps_ip c55 h
                                            refine ps_iinc3 C rfl (nI 4) pi_4 dL_law_910 (fun x54 ex54 => ?_)
                                            replace h := ps_lt ex54 h
                                            refine ps_goto C 18 dL_law_913 rfl ?_
                                            exact ih b1 b2 x54 hb1 hb2 _ h
                                          · replace h := ps_in0 c55 h
                                            refine ps_iconst C dL_law_724 pi_0 ?_
                                            exact ps_end_i h hfin dL_law_725 rfl
                                        · replace h := ps_in0 c_32_17 h
                                          by_cases c_32_18 : x2 = nI 18
                                          · replace h := ps_ip c_32_18 h
                                            refine ps_tabI C 18 (by rw [c_32_18]; rfl) 726 dL_law_32 (by decide) (by decide) rfl rfl ?_
                                            refine ps_aloadn1 C dL_law_726 ?_
                                            refine ps_aloadn0 C dL_law_727 ?_
                                            refine ps_iloadn3 C dL_law_728 ?_
                                            refine ps_iconst C dL_law_729 pi_1 ?_
                                            refine ps_iadd C dL_law_730 ?_
                                            obtain ⟨hi40, h⟩ := ps_gd h
                                            refine ps_sld C hX hbl hi40 dL_law_731 ?_
                                            refine ps_aloadn0 C dL_law_732 ?_
                                            refine ps_iloadn3 C dL_law_733 ?_
                                            refine ps_iconst C dL_law_734 pi_2 ?_
                                            refine ps_iadd C dL_law_735 ?_
                                            obtain ⟨hi41, h⟩ := ps_gd h
                                            refine ps_sld C hX hbl hi41 dL_law_736 ?_
                                            obtain ⟨r42, M42, hM42, h⟩ := ps_bd h
                                            refine ps_goV_i C (rest := []) (tt_X6_keeps (xl X) (xb X) (xD X) hb1 hM42) cw_L_89 ps_rc0 hb1 (ps_room hRm (by decide)) rfl rfl (Nat.le_of_ble_eq_true rfl) dL_law_737 ?_
                                            refine ps_aloadn2 C dL_law_740 ?_
                                            refine ps_aloadn0 C dL_law_741 ?_
                                            refine ps_iloadn3 C dL_law_742 ?_
                                            refine ps_iconst C dL_law_743 pi_1 ?_
                                            refine ps_iadd C dL_law_744 ?_
                                            obtain ⟨hi43, h⟩ := ps_gd h
                                            refine ps_sld C hX hbl hi43 dL_law_745 ?_
                                            refine ps_aloadn0 C dL_law_746 ?_
                                            refine ps_iloadn3 C dL_law_747 ?_
                                            refine ps_iconst C dL_law_748 pi_2 ?_
                                            refine ps_iadd C dL_law_749 ?_
                                            obtain ⟨hi44, h⟩ := ps_gd h
                                            refine ps_sld C hX hbl hi44 dL_law_750 ?_
                                            obtain ⟨r45, M45, hM45, h⟩ := ps_bd h
                                            refine ps_goV_i C (rest := [.int r42]) (tt_X7_keeps (xl X) (xb X) (xD X) hb2 hM45) cw_L_92 ps_rc20 hb2 (ps_room hRm (by decide)) rfl rfl (Nat.le_of_ble_eq_true rfl) dL_law_751 ?_
                                            refine ps_ic_eq C 910 dL_law_754 rfl (fun c47 => ?_) (fun c47 => ?_)
                                            · replace h := ps_ip c47 h
                                              refine ps_iinc3 C rfl (nI 4) pi_4 dL_law_910 (fun x46 ex46 => ?_)
                                              replace h := ps_lt ex46 h
                                              refine ps_goto C 18 dL_law_913 rfl ?_
                                              exact ih b1 b2 x46 hb1 hb2 _ h
                                            · replace h := ps_in0 c47 h
                                              refine ps_iconst C dL_law_757 pi_0 ?_
                                              exact ps_end_i h hfin dL_law_758 rfl
                                          · replace h := ps_in0 c_32_18 h
                                            by_cases c_32_19 : x2 = nI 19
                                            · replace h := ps_ip c_32_19 h
                                              refine ps_tabI C 19 (by rw [c_32_19]; rfl) 759 dL_law_32 (by decide) (by decide) rfl rfl ?_
                                              refine ps_aloadn1 C dL_law_759 ?_
                                              refine ps_aloadn0 C dL_law_760 ?_
                                              refine ps_iloadn3 C dL_law_761 ?_
                                              refine ps_iconst C dL_law_762 pi_1 ?_
                                              refine ps_iadd C dL_law_763 ?_
                                              obtain ⟨hi32, h⟩ := ps_gd h
                                              refine ps_sld C hX hbl hi32 dL_law_764 ?_
                                              refine ps_i2l C dL_law_765 ?_
                                              refine ps_bipush C dL_law_766 pb_32 ?_
                                              refine ps_lshl C dL_law_768 ?_
                                              refine ps_aloadn0 C dL_law_769 ?_
                                              refine ps_iloadn3 C dL_law_770 ?_
                                              refine ps_iconst C dL_law_771 pi_2 ?_
                                              refine ps_iadd C dL_law_772 ?_
                                              obtain ⟨hi33, h⟩ := ps_gd h
                                              refine ps_sld C hX hbl hi33 dL_law_773 ?_
                                              refine ps_i2l C dL_law_774 ?_
                                              refine ps_ldc2 C pm_956 dL_law_775 ?_
                                              refine ps_land C dL_law_778 ?_
                                              refine ps_lor C dL_law_779 ?_
                                              obtain ⟨r34, M34, hM34, h⟩ := ps_bd h
                                              refine ps_goV_i C (rest := []) (tt_X6_put (xl X) (xb X) (xD X) hb1 hM34) cw_L_95 ps_rc0 hb1 (ps_room hRm (by decide)) rfl rfl (Nat.le_of_ble_eq_true rfl) dL_law_780 ?_
                                              refine ps_aloadn2 C dL_law_783 ?_
                                              refine ps_aloadn0 C dL_law_784 ?_
                                              refine ps_iloadn3 C dL_law_785 ?_
                                              refine ps_iconst C dL_law_786 pi_1 ?_
                                              refine ps_iadd C dL_law_787 ?_
                                              obtain ⟨hi35, h⟩ := ps_gd h
                                              refine ps_sld C hX hbl hi35 dL_law_788 ?_
                                              refine ps_i2l C dL_law_789 ?_
                                              refine ps_bipush C dL_law_790 pb_32 ?_
                                              refine ps_lshl C dL_law_792 ?_
                                              refine ps_aloadn0 C dL_law_793 ?_
                                              refine ps_iloadn3 C dL_law_794 ?_
                                              refine ps_iconst C dL_law_795 pi_2 ?_
                                              refine ps_iadd C dL_law_796 ?_
                                              obtain ⟨hi36, h⟩ := ps_gd h
                                              refine ps_sld C hX hbl hi36 dL_law_797 ?_
                                              refine ps_i2l C dL_law_798 ?_
                                              refine ps_ldc2 C pm_956 dL_law_799 ?_
                                              refine ps_land C dL_law_802 ?_
                                              refine ps_lor C dL_law_803 ?_
                                              obtain ⟨r37, M37, hM37, h⟩ := ps_bd h
                                              refine ps_goV_i C (rest := [.int r34]) (tt_X7_put (xl X) (xb X) (xD X) hb2 hM37) cw_L_99 ps_rc20 hb2 (ps_room hRm (by decide)) rfl rfl (Nat.le_of_ble_eq_true rfl) dL_law_804 ?_
                                              refine ps_ic_eq C 910 dL_law_807 rfl (fun c39 => ?_) (fun c39 => ?_)
                                              · replace h := ps_ip c39 h
                                                refine ps_iinc3 C rfl (nI 4) pi_4 dL_law_910 (fun x38 ex38 => ?_)
                                                replace h := ps_lt ex38 h
                                                refine ps_goto C 18 dL_law_913 rfl ?_
                                                exact ih b1 b2 x38 hb1 hb2 _ h
                                              · replace h := ps_in0 c39 h
                                                refine ps_iconst C dL_law_810 pi_0 ?_
                                                exact ps_end_i h hfin dL_law_811 rfl
                                            · replace h := ps_in0 c_32_19 h
                                              by_cases c_32_20 : x2 = nI 20
                                              · replace h := ps_ip c_32_20 h
                                                refine ps_tabI C 20 (by rw [c_32_20]; rfl) 812 dL_law_32 (by decide) (by decide) rfl rfl ?_
                                                refine ps_aloadn1 C dL_law_812 ?_
                                                obtain ⟨r28, M28, hM28, h⟩ := ps_bd h
                                                refine ps_goV_i C (rest := []) (tt_X6_wipe (xl X) (xb X) (xD X) hb1 hM28) cw_L_100 ps_rc0 hb1 (ps_room hRm (by decide)) rfl rfl (Nat.le_of_ble_eq_true rfl) dL_law_813 ?_
                                                refine ps_aloadn2 C dL_law_816 ?_
                                                obtain ⟨r29, M29, hM29, h⟩ := ps_bd h
                                                refine ps_goV_i C (rest := [.int r28]) (tt_X7_wipe (xl X) (xb X) (xD X) hb2 hM29) cw_L_103 ps_rc20 hb2 (ps_room hRm (by decide)) rfl rfl (Nat.le_of_ble_eq_true rfl) dL_law_817 ?_
                                                refine ps_ic_eq C 910 dL_law_820 rfl (fun c31 => ?_) (fun c31 => ?_)
                                                · replace h := ps_ip c31 h
                                                  refine ps_iinc3 C rfl (nI 4) pi_4 dL_law_910 (fun x30 ex30 => ?_)
                                                  replace h := ps_lt ex30 h
                                                  refine ps_goto C 18 dL_law_913 rfl ?_
                                                  exact ih b1 b2 x30 hb1 hb2 _ h
                                                · replace h := ps_in0 c31 h
                                                  refine ps_iconst C dL_law_823 pi_0 ?_
                                                  exact ps_end_i h hfin dL_law_824 rfl
                                              · replace h := ps_in0 c_32_20 h
                                                by_cases c_32_21 : x2 = nI 21
                                                · replace h := ps_ip c_32_21 h
                                                  refine ps_tabI C 21 (by rw [c_32_21]; rfl) 825 dL_law_32 (by decide) (by decide) rfl rfl ?_
                                                  refine ps_aloadn1 C dL_law_825 ?_
                                                  obtain ⟨r24, M24, hM24, h⟩ := ps_bd h
                                                  refine ps_goV_i C (rest := []) (tt_X6_fault (xl X) (xb X) (xD X) hb1 hM24) cw_L_104 ps_rc0 hb1 (ps_room hRm (by decide)) rfl rfl (Nat.le_of_ble_eq_true rfl) dL_law_826 ?_
                                                  refine ps_aloadn2 C dL_law_829 ?_
                                                  obtain ⟨r25, M25, hM25, h⟩ := ps_bd h
                                                  refine ps_goV_i C (rest := [.int r24]) (tt_X7_fault (xl X) (xb X) (xD X) hb2 hM25) cw_L_107 ps_rc20 hb2 (ps_room hRm (by decide)) rfl rfl (Nat.le_of_ble_eq_true rfl) dL_law_830 ?_
                                                  refine ps_ic_eq C 910 dL_law_833 rfl (fun c27 => ?_) (fun c27 => ?_)
                                                  · replace h := ps_ip c27 h
                                                    refine ps_iinc3 C rfl (nI 4) pi_4 dL_law_910 (fun x26 ex26 => ?_)
                                                    replace h := ps_lt ex26 h
                                                    refine ps_goto C 18 dL_law_913 rfl ?_
                                                    exact ih b1 b2 x26 hb1 hb2 _ h
                                                  · replace h := ps_in0 c27 h
                                                    refine ps_iconst C dL_law_836 pi_0 ?_
                                                    exact ps_end_i h hfin dL_law_837 rfl
                                                · replace h := ps_in0 c_32_21 h
                                                  by_cases c_32_22 : x2 = nI 22
                                                  · replace h := ps_ip c_32_22 h
                                                    refine ps_tabI C 22 (by rw [c_32_22]; rfl) 838 dL_law_32 (by decide) (by decide) rfl rfl ?_
                                                    refine ps_aloadn1 C dL_law_838 ?_
                                                    obtain ⟨r20, M20, hM20, h⟩ := ps_bd h
                                                    refine ps_goV_i C (rest := []) (tt_X6_carryOut (xl X) (xb X) (xD X) hb1 hM20) cw_L_108 ps_rc0 hb1 (ps_room hRm (by decide)) rfl rfl (Nat.le_of_ble_eq_true rfl) dL_law_839 ?_
                                                    refine ps_aloadn2 C dL_law_842 ?_
                                                    obtain ⟨r21, M21, hM21, h⟩ := ps_bd h
                                                    refine ps_goV_i C (rest := [.int r20]) (tt_X7_carryOut (xl X) (xb X) (xD X) hb2 hM21) cw_L_111 ps_rc20 hb2 (ps_room hRm (by decide)) rfl rfl (Nat.le_of_ble_eq_true rfl) dL_law_843 ?_
                                                    refine ps_ic_eq C 910 dL_law_846 rfl (fun c23 => ?_) (fun c23 => ?_)
                                                    · replace h := ps_ip c23 h
                                                      refine ps_iinc3 C rfl (nI 4) pi_4 dL_law_910 (fun x22 ex22 => ?_)
                                                      replace h := ps_lt ex22 h
                                                      refine ps_goto C 18 dL_law_913 rfl ?_
                                                      exact ih b1 b2 x22 hb1 hb2 _ h
                                                    · replace h := ps_in0 c23 h
                                                      refine ps_iconst C dL_law_849 pi_0 ?_
                                                      exact ps_end_i h hfin dL_law_850 rfl
                                                  · replace h := ps_in0 c_32_22 h
                                                    by_cases c_32_23 : x2 = nI 23
                                                    · replace h := ps_ip c_32_23 h
                                                      refine ps_tabI C 23 (by rw [c_32_23]; rfl) 851 dL_law_32 (by decide) (by decide) rfl rfl ?_
                                                      refine ps_aloadn1 C dL_law_851 ?_
                                                      obtain ⟨r16, M16, hM16, h⟩ := ps_bd h
                                                      refine ps_goV_i C (rest := []) (tt_X6_undo (xl X) (xb X) (xD X) hb1 hM16) cw_L_112 ps_rc0 hb1 (ps_room hRm (by decide)) rfl rfl (Nat.le_of_ble_eq_true rfl) dL_law_852 ?_
                                                      refine ps_aloadn2 C dL_law_855 ?_
                                                      obtain ⟨r17, M17, hM17, h⟩ := ps_bd h
                                                      refine ps_goV_i C (rest := [.int r16]) (tt_X7_undo (xl X) (xb X) (xD X) hb2 hM17) cw_L_115 ps_rc20 hb2 (ps_room hRm (by decide)) rfl rfl (Nat.le_of_ble_eq_true rfl) dL_law_856 ?_
                                                      refine ps_ic_eq C 910 dL_law_859 rfl (fun c19 => ?_) (fun c19 => ?_)
                                                      · replace h := ps_ip c19 h
                                                        refine ps_iinc3 C rfl (nI 4) pi_4 dL_law_910 (fun x18 ex18 => ?_)
                                                        replace h := ps_lt ex18 h
                                                        refine ps_goto C 18 dL_law_913 rfl ?_
                                                        exact ih b1 b2 x18 hb1 hb2 _ h
                                                      · replace h := ps_in0 c19 h
                                                        refine ps_iconst C dL_law_862 pi_0 ?_
                                                        exact ps_end_i h hfin dL_law_863 rfl
                                                    · replace h := ps_in0 c_32_23 h
                                                      by_cases c_32_24 : x2 = nI 24
                                                      · replace h := ps_ip c_32_24 h
                                                        refine ps_tabI C 24 (by rw [c_32_24]; rfl) 864 dL_law_32 (by decide) (by decide) rfl rfl ?_
                                                        refine ps_aloadn1 C dL_law_864 ?_
                                                        refine ps_aloadn0 C dL_law_865 ?_
                                                        refine ps_iloadn3 C dL_law_866 ?_
                                                        refine ps_iconst C dL_law_867 pi_1 ?_
                                                        refine ps_iadd C dL_law_868 ?_
                                                        obtain ⟨hi10, h⟩ := ps_gd h
                                                        refine ps_sld C hX hbl hi10 dL_law_869 ?_
                                                        obtain ⟨r11, M11, hM11, h⟩ := ps_bd h
                                                        refine ps_goV_i C (rest := []) (tt_X6_save (xl X) (xb X) (xD X) hb1 hM11) cw_L_116 ps_rc0 hb1 (ps_room hRm (by decide)) rfl rfl (Nat.le_of_ble_eq_true rfl) dL_law_870 ?_
                                                        refine ps_aloadn2 C dL_law_873 ?_
                                                        refine ps_aloadn0 C dL_law_874 ?_
                                                        refine ps_iloadn3 C dL_law_875 ?_
                                                        refine ps_iconst C dL_law_876 pi_1 ?_
                                                        refine ps_iadd C dL_law_877 ?_
                                                        obtain ⟨hi12, h⟩ := ps_gd h
                                                        refine ps_sld C hX hbl hi12 dL_law_878 ?_
                                                        obtain ⟨r13, M13, hM13, h⟩ := ps_bd h
                                                        refine ps_goV_i C (rest := [.int r11]) (tt_X7_save (xl X) (xb X) (xD X) hb2 hM13) cw_L_119 ps_rc20 hb2 (ps_room hRm (by decide)) rfl rfl (Nat.le_of_ble_eq_true rfl) dL_law_879 ?_
                                                        refine ps_ic_eq C 910 dL_law_882 rfl (fun c15 => ?_) (fun c15 => ?_)
                                                        · replace h := ps_ip c15 h
                                                          refine ps_iinc3 C rfl (nI 4) pi_4 dL_law_910 (fun x14 ex14 => ?_)
                                                          replace h := ps_lt ex14 h
                                                          refine ps_goto C 18 dL_law_913 rfl ?_
                                                          exact ih b1 b2 x14 hb1 hb2 _ h
                                                        · replace h := ps_in0 c15 h
                                                          refine ps_iconst C dL_law_885 pi_0 ?_
                                                          exact ps_end_i h hfin dL_law_886 rfl
                                                      · replace h := ps_in0 c_32_24 h
                                                        by_cases c_32_25 : x2 = nI 25
                                                        · replace h := ps_ip c_32_25 h
                                                          refine ps_tabI C 25 (by rw [c_32_25]; rfl) 887 dL_law_32 (by decide) (by decide) rfl rfl ?_
                                                          refine ps_aloadn1 C dL_law_887 ?_
                                                          refine ps_aloadn0 C dL_law_888 ?_
                                                          refine ps_iloadn3 C dL_law_889 ?_
                                                          refine ps_iconst C dL_law_890 pi_1 ?_
                                                          refine ps_iadd C dL_law_891 ?_
                                                          obtain ⟨hi4, h⟩ := ps_gd h
                                                          refine ps_sld C hX hbl hi4 dL_law_892 ?_
                                                          obtain ⟨r5, M5, hM5, h⟩ := ps_bd h
                                                          refine ps_goV_i C (rest := []) (tt_X6_restore (xl X) (xb X) (xD X) hb1 hM5) cw_L_120 ps_rc0 hb1 (ps_room hRm (by decide)) rfl rfl (Nat.le_of_ble_eq_true rfl) dL_law_893 ?_
                                                          refine ps_aloadn2 C dL_law_896 ?_
                                                          refine ps_aloadn0 C dL_law_897 ?_
                                                          refine ps_iloadn3 C dL_law_898 ?_
                                                          refine ps_iconst C dL_law_899 pi_1 ?_
                                                          refine ps_iadd C dL_law_900 ?_
                                                          obtain ⟨hi6, h⟩ := ps_gd h
                                                          refine ps_sld C hX hbl hi6 dL_law_901 ?_
                                                          obtain ⟨r7, M7, hM7, h⟩ := ps_bd h
                                                          refine ps_goV_i C (rest := [.int r5]) (tt_X7_restore (xl X) (xb X) (xD X) hb2 hM7) cw_L_123 ps_rc20 hb2 (ps_room hRm (by decide)) rfl rfl (Nat.le_of_ble_eq_true rfl) dL_law_902 ?_
                                                          refine ps_ic_eq C 910 dL_law_905 rfl (fun c9 => ?_) (fun c9 => ?_)
                                                          · replace h := ps_ip c9 h
                                                            refine ps_iinc3 C rfl (nI 4) pi_4 dL_law_910 (fun x8 ex8 => ?_)
                                                            replace h := ps_lt ex8 h
                                                            refine ps_goto C 18 dL_law_913 rfl ?_
                                                            exact ih b1 b2 x8 hb1 hb2 _ h
                                                          · replace h := ps_in0 c9 h
                                                            refine ps_iconst C dL_law_908 pi_0 ?_
                                                            exact ps_end_i h hfin dL_law_909 rfl
                                                        · replace h := ps_in0 c_32_25 h
                                                          have hdf : ps_G X M 910 [some (.ref b), some (.ref (xb X + b1)), some (.ref (xb X + b2)), some (.int a3)] [] := by
                                                            refine ps_iinc3 C rfl (nI 4) pi_4 dL_law_910 (fun x3 ex3 => ?_)
                                                            replace h := ps_lt ex3 h
                                                            refine ps_goto C 18 dL_law_913 rfl ?_
                                                            exact ih b1 b2 x3 hb1 hb2 _ h
                                                          by_cases q1 : x2.toInt < 0
                                                          · exact ps_tabO C 910 dL_law_32 (Or.inl q1) rfl hdf
                                                          by_cases q2 : 25 < x2.toInt
                                                          · exact ps_tabO C 910 dL_law_32 (Or.inr q2) rfl hdf
                                                          exfalso
                                                          rcases (by omega : x2.toInt = 0 ∨ x2.toInt = 1 ∨ x2.toInt = 2 ∨ x2.toInt = 3 ∨ x2.toInt = 4 ∨ x2.toInt = 5 ∨ x2.toInt = 6 ∨ x2.toInt = 7 ∨ x2.toInt = 8 ∨ x2.toInt = 9 ∨ x2.toInt = 10 ∨ x2.toInt = 11 ∨ x2.toInt = 12 ∨ x2.toInt = 13 ∨ x2.toInt = 14 ∨ x2.toInt = 15 ∨ x2.toInt = 16 ∨ x2.toInt = 17 ∨ x2.toInt = 18 ∨ x2.toInt = 19 ∨ x2.toInt = 20 ∨ x2.toInt = 21 ∨ x2.toInt = 22 ∨ x2.toInt = 23 ∨ x2.toInt = 24 ∨ x2.toInt = 25) with q3 | q3 | q3 | q3 | q3 | q3 | q3 | q3 | q3 | q3 | q3 | q3 | q3 | q3 | q3 | q3 | q3 | q3 | q3 | q3 | q3 | q3 | q3 | q3 | q3 | q3
                                                          · exact absurd (pz_0 q3) c_32_0
                                                          · exact absurd (pz_1 q3) c_32_1
                                                          · exact absurd (pz_2 q3) c_32_2
                                                          · exact absurd (pz_3 q3) c_32_3
                                                          · exact absurd (pz_4 q3) c_32_4
                                                          · exact absurd (pz_5 q3) c_32_5
                                                          · exact absurd (pz_6 q3) c_32_6
                                                          · exact absurd (pz_7 q3) c_32_7
                                                          · exact absurd (pz_8 q3) c_32_8
                                                          · exact absurd (pz_9 q3) c_32_9
                                                          · exact absurd (pz_10 q3) c_32_10
                                                          · exact absurd (pz_11 q3) c_32_11
                                                          · exact absurd (pz_12 q3) c_32_12
                                                          · exact absurd (pz_13 q3) c_32_13
                                                          · exact absurd (pz_14 q3) c_32_14
                                                          · exact absurd (pz_15 q3) c_32_15
                                                          · exact absurd (pz_16 q3) c_32_16
                                                          · exact absurd (pz_17 q3) c_32_17
                                                          · exact absurd (pz_18 q3) c_32_18
                                                          · exact absurd (pz_19 q3) c_32_19
                                                          · exact absurd (pz_20 q3) c_32_20
                                                          · exact absurd (pz_21 q3) c_32_21
                                                          · exact absurd (pz_22 q3) c_32_22
                                                          · exact absurd (pz_23 q3) c_32_23
                                                          · exact absurd (pz_24 q3) c_32_24
                                                          · exact absurd (pz_25 q3) c_32_25
