set_option maxRecDepth 10000 in
theorem tt_L_cell (l : Launch) (b : Nat) (D : va_G) {sb Ls : Nat} {sc : Nat → Int32} {a1 : Int32} {M M9 : ps_M} {r : Int32} (h : ff_L_cell Ls sc a1 M = some (r, M9)) : ps_Tc l b D sb Ls sc yL_cell cL_cell 2 .int 0 [.ref sb, .int a1] M r M9 := by
  refine ps_met_c (own := RL) (lv := [some (.ref sb), some (.int a1)]) (by decide) rfl rfl (Nat.le_of_ble_eq_true rfl) rfl (fun X eX1 eX2 eX3 hRm eX5 C hX hbl hfin => ?_)
  subst eX1 eX2 eX3
  unfold ff_L_cell at h
  refine ps_iloadn1 C dL_cell_0 ?_
  refine ps_aloadn0 C dL_cell_1 ?_
  refine ps_slen C hX hbl dL_cell_2 ?_
  refine ps_ic_ge C 12 dL_cell_3 rfl (fun c2 => ?_) (fun c2 => ?_)
  · replace h := ps_ip c2 h
    refine ps_ldc C pm_406 dL_cell_12 ?_
    refine ps_iloadn1 C dL_cell_14 ?_
    refine ps_imul C dL_cell_15 ?_
    refine ps_sipush C dL_cell_16 pj_8508 ?_
    refine ps_iadd C dL_cell_19 ?_
    refine ps_ldc C pm_407 dL_cell_20 ?_
    refine ps_iand C dL_cell_22 ?_
    exact ps_end_i h hfin dL_cell_23 rfl
  · replace h := ps_in0 c2 h
    refine ps_aloadn0 C dL_cell_6 ?_
    refine ps_iloadn1 C dL_cell_7 ?_
    obtain ⟨hi1, h⟩ := ps_gd h
    refine ps_sld C hX hbl hi1 dL_cell_8 ?_
    refine ps_goto C 20 dL_cell_9 rfl ?_
    refine ps_ldc C pm_407 dL_cell_20 ?_
    refine ps_iand C dL_cell_22 ?_
    exact ps_end_i h hfin dL_cell_23 rfl
set_option maxRecDepth 10000 in
theorem bk_L_law_224 {X : ps_X} (C : ps_C X RL cL_law) {sb Ls : Nat} {sc : Nat → Int32} (hX : va_X sb Ls sc (xs X) (xs X).heap) (hbl : sb < xb X ∧ sb < (xs X).heap.size) (hRm : xR X = room_1) {r : Int32} {M9 : ps_M} (hfin : ∀ pc lv, decode cL_law pc = .ok (.ireturn, 1) → narrow .boolean (.int r) = .int r → ps_G X M9 pc lv [.int r]) (b1 : Nat) (a2 : Int32) (a3 : Int32) (a4 : Int32) (a5 : Int32) (a6 : Int32) (a7 : Int32) (s0 : Int32) (hb1 : ps_ck 0 b1 = true) (M : ps_M) (h : fk_L_law_224 Ls sc b1 a2 a3 a4 a5 a6 a7 s0 M = some (r, M9)) : ps_G X M 224 [some (.ref sb), some (.ref (xb X + b1)), some (.int a2), some (.int a3), some (.int a4), some (.int a5), some (.int a6), some (.int a7)] [.int s0] := by
  unfold fk_L_law_224 at h
  refine ps_istoren2 C rfl dL_law_224 ?_
  refine ps_aloadn1 C dL_law_225 ?_
  refine ps_iconst C dL_law_226 pi_5 ?_
  obtain ⟨r5, M5, hM5, h⟩ := ps_bd h
  refine ps_goV_i C (rest := []) (tt_X6_count (xl X) (xb X) (xD X) hb1 hM5) cw_L_28 ps_rc0 hb1 (ps_room hRm (by decide)) rfl rfl (Nat.le_of_ble_eq_true rfl) dL_law_227 ?_
  refine ps_istore7 C rfl dL_law_230 ?_
  refine ps_iloadn2 C dL_law_232 ?_
  refine ps_if_eq C 292 dL_law_233 rfl (fun c18 => ?_) (fun c18 => ?_)
  · replace h := ps_ip c18 h
    refine ps_iconst C dL_law_292 pi_0 ?_
    exact ps_end_i h hfin dL_law_293 rfl
  · replace h := ps_in0 c18 h
    refine ps_aloadn1 C dL_law_236 ?_
    obtain ⟨r6, M6, hM6, h⟩ := ps_bd h
    refine ps_goV_i C (rest := []) (tt_X6_night (xl X) (xb X) (xD X) hb1 hM6) cw_L_93 ps_rc0 hb1 (ps_room hRm (by decide)) rfl rfl (Nat.le_of_ble_eq_true rfl) dL_law_237 ?_
    refine ps_if_lt C 292 dL_law_240 rfl (fun c17 => ?_) (fun c17 => ?_)
    · replace h := ps_ip c17 h
      refine ps_iconst C dL_law_292 pi_0 ?_
      exact ps_end_i h hfin dL_law_293 rfl
    · replace h := ps_in0 c17 h
      refine ps_aloadn1 C dL_law_243 ?_
      refine ps_iconst C dL_law_244 pi_1 ?_
      refine ps_iconst C dL_law_245 pi_3 ?_
      obtain ⟨r7, M7, hM7, h⟩ := ps_bd h
      refine ps_goV_i C (rest := []) (tt_X6_set (xl X) (xb X) (xD X) hb1 hM7) cw_L_90 ps_rc0 hb1 (ps_room hRm (by decide)) rfl rfl (Nat.le_of_ble_eq_true rfl) dL_law_246 ?_
      refine ps_if_lt C 292 dL_law_249 rfl (fun c16 => ?_) (fun c16 => ?_)
      · replace h := ps_ip c16 h
        refine ps_iconst C dL_law_292 pi_0 ?_
        exact ps_end_i h hfin dL_law_293 rfl
      · replace h := ps_in0 c16 h
        refine ps_aloadn1 C dL_law_252 ?_
        refine ps_iconst C dL_law_253 pi_1 ?_
        obtain ⟨r8, M8, hM8, h⟩ := ps_bd h
        refine ps_goV_i C (rest := []) (tt_X6_restore (xl X) (xb X) (xD X) hb1 hM8) cw_L_100 ps_rc0 hb1 (ps_room hRm (by decide)) rfl rfl (Nat.le_of_ble_eq_true rfl) dL_law_254 ?_
        refine ps_iloadn3 C dL_law_257 ?_
        refine ps_ic_ne C 292 dL_law_258 rfl (fun c15 => ?_) (fun c15 => ?_)
        · replace h := ps_in0 c15 h
          refine ps_iconst C dL_law_292 pi_0 ?_
          exact ps_end_i h hfin dL_law_293 rfl
        · replace h := ps_ip c15 h
          refine ps_aloadn1 C dL_law_261 ?_
          refine ps_iconst C dL_law_262 pi_5 ?_
          obtain ⟨r9, M9, hM9, h⟩ := ps_bd h
          refine ps_goV_i C (rest := []) (tt_X6_count (xl X) (xb X) (xD X) hb1 hM9) cw_L_28 ps_rc0 hb1 (ps_room hRm (by decide)) rfl rfl (Nat.le_of_ble_eq_true rfl) dL_law_263 ?_
          refine ps_iload7 C dL_law_266 ?_
          refine ps_ic_ne C 292 dL_law_268 rfl (fun c14 => ?_) (fun c14 => ?_)
          · replace h := ps_in0 c14 h
            refine ps_iconst C dL_law_292 pi_0 ?_
            exact ps_end_i h hfin dL_law_293 rfl
          · replace h := ps_ip c14 h
            refine ps_aloadn1 C dL_law_271 ?_
            obtain ⟨r10, M10, hM10, h⟩ := ps_bd h
            refine ps_goV_i C (rest := []) (tt_X6_undo (xl X) (xb X) (xD X) hb1 hM10) cw_L_97 ps_rc0 hb1 (ps_room hRm (by decide)) rfl rfl (Nat.le_of_ble_eq_true rfl) dL_law_272 ?_
            refine ps_if_lt C 292 dL_law_275 rfl (fun c13 => ?_) (fun c13 => ?_)
            · replace h := ps_ip c13 h
              refine ps_iconst C dL_law_292 pi_0 ?_
              exact ps_end_i h hfin dL_law_293 rfl
            · replace h := ps_in0 c13 h
              refine ps_aloadn1 C dL_law_278 ?_
              refine ps_bipush C dL_law_279 pb_9 ?_
              obtain ⟨r11, M11, hM11, h⟩ := ps_bd h
              refine ps_goV_i C (rest := []) (tt_X6_count (xl X) (xb X) (xD X) hb1 hM11) cw_L_28 ps_rc0 hb1 (ps_room hRm (by decide)) rfl rfl (Nat.le_of_ble_eq_true rfl) dL_law_281 ?_
              refine ps_iconst C dL_law_284 pi_3 ?_
              refine ps_ic_ne C 292 dL_law_285 rfl (fun c12 => ?_) (fun c12 => ?_)
              · replace h := ps_in0 c12 h
                refine ps_iconst C dL_law_292 pi_0 ?_
                exact ps_end_i h hfin dL_law_293 rfl
              · replace h := ps_ip c12 h
                refine ps_iconst C dL_law_288 pi_1 ?_
                refine ps_goto C 293 dL_law_289 rfl ?_
                exact ps_end_i h hfin dL_law_293 rfl
set_option maxRecDepth 10000 in
theorem bk_L_law_223 {X : ps_X} (C : ps_C X RL cL_law) {sb Ls : Nat} {sc : Nat → Int32} (hX : va_X sb Ls sc (xs X) (xs X).heap) (hbl : sb < xb X ∧ sb < (xs X).heap.size) (hRm : xR X = room_1) {r : Int32} {M9 : ps_M} (hfin : ∀ pc lv, decode cL_law pc = .ok (.ireturn, 1) → narrow .boolean (.int r) = .int r → ps_G X M9 pc lv [.int r]) (b1 : Nat) (a2 : Int32) (a3 : Int32) (a4 : Int32) (a5 : Int32) (a6 : Int32) (a7 : Int32) (hb1 : ps_ck 0 b1 = true) (M : ps_M) (h : fk_L_law_223 Ls sc b1 a2 a3 a4 a5 a6 a7 M = some (r, M9)) : ps_G X M 223 [some (.ref sb), some (.ref (xb X + b1)), some (.int a2), some (.int a3), some (.int a4), some (.int a5), some (.int a6), some (.int a7)] [] := by
  unfold fk_L_law_223 at h
  refine ps_iconst C dL_law_223 pi_0 ?_
  exact bk_L_law_224 C hX hbl hRm hfin b1 a2 a3 a4 a5 a6 a7 (nI 0) hb1 _ h
set_option maxRecDepth 10000 in
theorem bk_L_law_219 {X : ps_X} (C : ps_C X RL cL_law) {sb Ls : Nat} {sc : Nat → Int32} (hX : va_X sb Ls sc (xs X) (xs X).heap) (hbl : sb < xb X ∧ sb < (xs X).heap.size) (hRm : xR X = room_1) {r : Int32} {M9 : ps_M} (hfin : ∀ pc lv, decode cL_law pc = .ok (.ireturn, 1) → narrow .boolean (.int r) = .int r → ps_G X M9 pc lv [.int r]) (b1 : Nat) (a2 : Int32) (a3 : Int32) (a4 : Int32) (a5 : Int32) (a6 : Int32) (a7 : Int32) (hb1 : ps_ck 0 b1 = true) (M : ps_M) (h : fk_L_law_219 Ls sc b1 a2 a3 a4 a5 a6 a7 M = some (r, M9)) : ps_G X M 219 [some (.ref sb), some (.ref (xb X + b1)), some (.int a2), some (.int a3), some (.int a4), some (.int a5), some (.int a6), some (.int a7)] [] := by
  unfold fk_L_law_219 at h
  refine ps_iconst C dL_law_219 pi_1 ?_
  refine ps_goto C 224 dL_law_220 rfl ?_
  exact bk_L_law_224 C hX hbl hRm hfin b1 a2 a3 a4 a5 a6 a7 (nI 1) hb1 _ h
set_option maxRecDepth 10000 in
theorem bk_L_law_142 {X : ps_X} (C : ps_C X RL cL_law) {sb Ls : Nat} {sc : Nat → Int32} (hX : va_X sb Ls sc (xs X) (xs X).heap) (hbl : sb < xb X ∧ sb < (xs X).heap.size) (hRm : xR X = room_1) {r : Int32} {M9 : ps_M} (hfin : ∀ pc lv, decode cL_law pc = .ok (.ireturn, 1) → narrow .boolean (.int r) = .int r → ps_G X M9 pc lv [.int r]) : ∀ (n : Nat) (b1 : Nat) (a2 : Int32) (a3 : Int32) (a4 : Int32) (a5 : Int32) (a6 : Int32) (a7 : Int32) (hb1 : ps_ck 0 b1 = true) (M : ps_M), fk_L_law_142 Ls sc n b1 a2 a3 a4 a5 a6 a7 M = some (r, M9) → ps_G X M 142 [some (.ref sb), some (.ref (xb X + b1)), some (.int a2), some (.int a3), some (.int a4), some (.int a5), some (.int a6), some (.int a7)] [] := by
  intro n
  induction n with
  | zero => intro b1 a2 a3 a4 a5 a6 a7 hb1 M h; rw [fk_L_law_142] at h; cases h
  | succ n ih =>
    intro b1 a2 a3 a4 a5 a6 a7 hb1 M h
    rw [fk_L_law_142] at h
    refine ps_iload7 C dL_law_142 ?_
    refine ps_iloadn3 C dL_law_144 ?_
    refine ps_ic_ge C 166 dL_law_145 rfl (fun c32 => ?_) (fun c32 => ?_)
    · replace h := ps_ip c32 h
      refine ps_iloadn2 C dL_law_166 ?_
      refine ps_if_eq C 223 dL_law_167 rfl (fun c28 => ?_) (fun c28 => ?_)
      · replace h := ps_ip c28 h
        exact bk_L_law_223 C hX hbl hRm hfin b1 a2 a3 a4 a5 a6 a7 hb1 _ h
      · replace h := ps_in0 c28 h
        refine ps_aloadn1 C dL_law_170 ?_
        obtain ⟨r19, M19, hM19, h⟩ := ps_bd h
        refine ps_goS_i C (rest := []) (tt_L_areSums (xl X) (xb X) (xD X) hb1 hM19) cw_L_113 (ps_room hRm (by decide)) rfl rfl (Nat.le_of_ble_eq_true rfl) dL_law_171 ?_
        refine ps_if_eq C 223 dL_law_174 rfl (fun c27 => ?_) (fun c27 => ?_)
        · replace h := ps_ip c27 h
          exact bk_L_law_223 C hX hbl hRm hfin b1 a2 a3 a4 a5 a6 a7 hb1 _ h
        · replace h := ps_in0 c27 h
          refine ps_aloadn1 C dL_law_177 ?_
          obtain ⟨r20, M20, hM20, h⟩ := ps_bd h
          refine ps_goS_i C (rest := []) (tt_L_areSongs (xl X) (xb X) (xD X) hb1 hM20) cw_L_120 (ps_room hRm (by decide)) rfl rfl (Nat.le_of_ble_eq_true rfl) dL_law_178 ?_
          refine ps_if_eq C 223 dL_law_181 rfl (fun c26 => ?_) (fun c26 => ?_)
          · replace h := ps_ip c26 h
            exact bk_L_law_223 C hX hbl hRm hfin b1 a2 a3 a4 a5 a6 a7 hb1 _ h
          · replace h := ps_in0 c26 h
            refine ps_iload4 C dL_law_184 ?_
            refine ps_if_ge C 206 dL_law_186 rfl (fun c25 => ?_) (fun c25 => ?_)
            · replace h := ps_ip c25 h
              refine ps_iload4 C dL_law_206 ?_
              refine ps_iloadn3 C dL_law_208 ?_
              refine ps_ic_ge C 223 dL_law_209 rfl (fun c22 => ?_) (fun c22 => ?_)
              · replace h := ps_ip c22 h
                exact bk_L_law_223 C hX hbl hRm hfin b1 a2 a3 a4 a5 a6 a7 hb1 _ h
              · replace h := ps_in0 c22 h
                refine ps_iload5 C dL_law_212 ?_
                refine ps_iload6 C dL_law_214 ?_
                refine ps_ic_le C 223 dL_law_216 rfl (fun c21 => ?_) (fun c21 => ?_)
                · replace h := ps_ip c21 h
                  exact bk_L_law_223 C hX hbl hRm hfin b1 a2 a3 a4 a5 a6 a7 hb1 _ h
                · replace h := ps_in0 c21 h
                  exact bk_L_law_219 C hX hbl hRm hfin b1 a2 a3 a4 a5 a6 a7 hb1 _ h
            · replace h := ps_in0 c25 h
              refine ps_iload4 C dL_law_189 ?_
              refine ps_bipush C dL_law_191 pb_m6 ?_
              refine ps_ic_ne C 223 dL_law_193 rfl (fun c24 => ?_) (fun c24 => ?_)
              · replace h := ps_in0 c24 h
                exact bk_L_law_223 C hX hbl hRm hfin b1 a2 a3 a4 a5 a6 a7 hb1 _ h
              · replace h := ps_ip c24 h
                refine ps_iload5 C dL_law_196 ?_
                refine ps_bipush C dL_law_198 pb_m6 ?_
                refine ps_ic_ne C 223 dL_law_200 rfl (fun c23 => ?_) (fun c23 => ?_)
                · replace h := ps_in0 c23 h
                  exact bk_L_law_223 C hX hbl hRm hfin b1 a2 a3 a4 a5 a6 a7 hb1 _ h
                · replace h := ps_ip c23 h
                  refine ps_goto C 219 dL_law_203 rfl ?_
                  exact bk_L_law_219 C hX hbl hRm hfin b1 a2 a3 a4 a5 a6 a7 hb1 _ h
    · replace h := ps_in0 c32 h
      refine ps_iload6 C dL_law_148 ?_
      refine ps_aloadn1 C dL_law_150 ?_
      refine ps_iconst C dL_law_151 pi_0 ?_
      refine ps_iload7 C dL_law_152 ?_
      obtain ⟨r29, M29, hM29, h⟩ := ps_bd h
      refine ps_goV_i C (rest := [.int a6]) (tt_X6_knows (xl X) (xb X) (xD X) hb1 hM29) cw_L_41 ps_rc0 hb1 (ps_room hRm (by decide)) rfl rfl (Nat.le_of_ble_eq_true rfl) dL_law_154 ?_
      refine ps_iadd C dL_law_157 ?_
      refine ps_nmi (fun x30 ex30 => ?_)
      replace h := ps_lt ex30 h
      refine ps_istore6 C rfl dL_law_158 ?_
      refine ps_iinc7 C rfl (nI 1) pi_1 dL_law_160 (fun x31 ex31 => ?_)
      replace h := ps_lt ex31 h
      refine ps_goto C 142 dL_law_163 rfl ?_
      exact ih b1 a2 a3 a4 a5 x30 x31 hb1 _ h
set_option maxRecDepth 10000 in
theorem bk_L_law_114 {X : ps_X} (C : ps_C X RL cL_law) {sb Ls : Nat} {sc : Nat → Int32} (hX : va_X sb Ls sc (xs X) (xs X).heap) (hbl : sb < xb X ∧ sb < (xs X).heap.size) (hRm : xR X = room_1) {r : Int32} {M9 : ps_M} (hfin : ∀ pc lv, decode cL_law pc = .ok (.ireturn, 1) → narrow .boolean (.int r) = .int r → ps_G X M9 pc lv [.int r]) (b1 : Nat) (a2 : Int32) (a3 : Int32) (hb1 : ps_ck 0 b1 = true) (M : ps_M) (h : fk_L_law_114 Ls sc b1 a2 a3 M = some (r, M9)) : ps_G X M 114 [some (.ref sb), some (.ref (xb X + b1)), some (.int a2), some (.int a3), none, none, none, none] [] := by
  unfold fk_L_law_114 at h
  refine ps_aloadn1 C dL_law_114 ?_
  refine ps_iconst C dL_law_115 pi_1 ?_
  obtain ⟨r2, M2, hM2, h⟩ := ps_bd h
  refine ps_goV_i C (rest := []) (tt_X6_save (xl X) (xb X) (xD X) hb1 hM2) cw_L_117 ps_rc0 hb1 (ps_room hRm (by decide)) rfl rfl (Nat.le_of_ble_eq_true rfl) dL_law_116 ?_
  refine ps_istoren3 C rfl dL_law_119 ?_
  refine ps_aloadn1 C dL_law_120 ?_
  refine ps_iconst C dL_law_121 pi_0 ?_
  refine ps_iconst C dL_law_122 pi_0 ?_
  obtain ⟨r3, M3, hM3, h⟩ := ps_bd h
  refine ps_goV_i C (rest := []) (tt_X6_bestLesson (xl X) (xb X) (xD X) hb1 hM3) cw_L_103 ps_rc0 hb1 (ps_room hRm (by decide)) rfl rfl (Nat.le_of_ble_eq_true rfl) dL_law_123 ?_
  refine ps_istore4 C rfl dL_law_126 ?_
  refine ps_aloadn1 C dL_law_128 ?_
  refine ps_iconst C dL_law_129 pi_0 ?_
  refine ps_iconst C dL_law_130 pi_1 ?_
  obtain ⟨r4, M4, hM4, h⟩ := ps_bd h
  refine ps_goV_i C (rest := []) (tt_X6_bestLesson (xl X) (xb X) (xD X) hb1 hM4) cw_L_103 ps_rc0 hb1 (ps_room hRm (by decide)) rfl rfl (Nat.le_of_ble_eq_true rfl) dL_law_131 ?_
  refine ps_istore5 C rfl dL_law_134 ?_
  refine ps_iconst C dL_law_136 pi_0 ?_
  refine ps_istore6 C rfl dL_law_137 ?_
  refine ps_iconst C dL_law_139 pi_0 ?_
  refine ps_istore7 C rfl dL_law_140 ?_
  exact bk_L_law_142 C hX hbl hRm hfin ps_fu b1 a2 r2 r3 r4 (nI 0) (nI 0) hb1 _ h
set_option maxRecDepth 10000 in
theorem bk_L_law_66 {X : ps_X} (C : ps_C X RL cL_law) {sb Ls : Nat} {sc : Nat → Int32} (hX : va_X sb Ls sc (xs X) (xs X).heap) (hbl : sb < xb X ∧ sb < (xs X).heap.size) (hRm : xR X = room_1) {r : Int32} {M9 : ps_M} (hfin : ∀ pc lv, decode cL_law pc = .ok (.ireturn, 1) → narrow .boolean (.int r) = .int r → ps_G X M9 pc lv [.int r]) : ∀ (n : Nat) (b1 : Nat) (a2 : Int32) (a3 : Int32) (hb1 : ps_ck 0 b1 = true) (M : ps_M), fk_L_law_66 Ls sc n b1 a2 a3 M = some (r, M9) → ps_G X M 66 [some (.ref sb), some (.ref (xb X + b1)), some (.int a2), some (.int a3), none, none, none, none] [] := by
  intro n
  induction n with
  | zero => intro b1 a2 a3 hb1 M h; rw [fk_L_law_66] at h; cases h
  | succ n ih =>
    intro b1 a2 a3 hb1 M h
    rw [fk_L_law_66] at h
    refine ps_iloadn3 C dL_law_66 ?_
    refine ps_bipush C dL_law_67 pb_36 ?_
    refine ps_ic_ge C 114 dL_law_69 rfl (fun c44 => ?_) (fun c44 => ?_)
    · replace h := ps_ip c44 h
      exact bk_L_law_114 C hX hbl hRm hfin b1 a2 a3 hb1 _ h
    · replace h := ps_in0 c44 h
      refine ps_iloadn2 C dL_law_72 ?_
      refine ps_if_eq C 114 dL_law_73 rfl (fun c43 => ?_) (fun c43 => ?_)
      · replace h := ps_ip c43 h
        exact bk_L_law_114 C hX hbl hRm hfin b1 a2 a3 hb1 _ h
      · replace h := ps_in0 c43 h
        refine ps_aloadn1 C dL_law_76 ?_
        refine ps_aloadn0 C dL_law_77 ?_
        refine ps_iloadn3 C dL_law_78 ?_
        obtain ⟨r33, M33, hM33, h⟩ := ps_bd h
        refine ps_goS_c C hX hbl (rest := [.ref (xb X + b1)]) (tt_L_cell (xl X) (xb X) (xD X) hM33) cw_L_106 (ps_room hRm (by decide)) rfl rfl (Nat.le_of_ble_eq_true rfl) dL_law_79 ?_
        obtain ⟨r34, M34, hM34, h⟩ := ps_bd h
        refine ps_goS_i C (rest := []) (tt_L_acts (xl X) (xb X) (xD X) hb1 hM34) cw_L_110 (ps_room hRm (by decide)) rfl rfl (Nat.le_of_ble_eq_true rfl) dL_law_82 ?_
        refine ps_if_eq C 106 dL_law_85 rfl (fun c42 => ?_) (fun c42 => ?_)
        · replace h := ps_ip c42 h
          refine ps_iconst C dL_law_106 pi_0 ?_
          refine ps_istoren2 C rfl dL_law_107 ?_
          refine ps_iinc3 C rfl (nI 1) pi_1 dL_law_108 (fun x35 ex35 => ?_)
          replace h := ps_lt ex35 h
          refine ps_goto C 66 dL_law_111 rfl ?_
          exact ih b1 (nI 0) x35 hb1 _ h
        · replace h := ps_in0 c42 h
          refine ps_iloadn3 C dL_law_88 ?_
          refine ps_bipush C dL_law_89 pb_12 ?_
          refine ps_irem C (by decide) dL_law_91 ?_
          refine ps_if_gt C 102 dL_law_92 rfl (fun c41 => ?_) (fun c41 => ?_)
          · replace h := ps_ip c41 h
            refine ps_iconst C dL_law_102 pi_1 ?_
            refine ps_goto C 107 dL_law_103 rfl ?_
            refine ps_istoren2 C rfl dL_law_107 ?_
            refine ps_iinc3 C rfl (nI 1) pi_1 dL_law_108 (fun x36 ex36 => ?_)
            replace h := ps_lt ex36 h
            refine ps_goto C 66 dL_law_111 rfl ?_
            exact ih b1 (nI 1) x36 hb1 _ h
          · replace h := ps_in0 c41 h
            refine ps_aloadn1 C dL_law_95 ?_
            obtain ⟨r37, M37, hM37, h⟩ := ps_bd h
            refine ps_goS_i C (rest := []) (tt_L_areSums (xl X) (xb X) (xD X) hb1 hM37) cw_L_113 (ps_room hRm (by decide)) rfl rfl (Nat.le_of_ble_eq_true rfl) dL_law_96 ?_
            refine ps_if_eq C 106 dL_law_99 rfl (fun c40 => ?_) (fun c40 => ?_)
            · replace h := ps_ip c40 h
              refine ps_iconst C dL_law_106 pi_0 ?_
              refine ps_istoren2 C rfl dL_law_107 ?_
              refine ps_iinc3 C rfl (nI 1) pi_1 dL_law_108 (fun x38 ex38 => ?_)
              replace h := ps_lt ex38 h
              refine ps_goto C 66 dL_law_111 rfl ?_
              exact ih b1 (nI 0) x38 hb1 _ h
            · replace h := ps_in0 c40 h
              refine ps_iconst C dL_law_102 pi_1 ?_
              refine ps_goto C 107 dL_law_103 rfl ?_
              refine ps_istoren2 C rfl dL_law_107 ?_
              refine ps_iinc3 C rfl (nI 1) pi_1 dL_law_108 (fun x39 ex39 => ?_)
              replace h := ps_lt ex39 h
              refine ps_goto C 66 dL_law_111 rfl ?_
              exact ih b1 (nI 1) x39 hb1 _ h
set_option maxRecDepth 10000 in
theorem bk_L_law_8 {X : ps_X} (C : ps_C X RL cL_law) {sb Ls : Nat} {sc : Nat → Int32} (hX : va_X sb Ls sc (xs X) (xs X).heap) (hbl : sb < xb X ∧ sb < (xs X).heap.size) (hRm : xR X = room_1) {r : Int32} {M9 : ps_M} (hfin : ∀ pc lv, decode cL_law pc = .ok (.ireturn, 1) → narrow .boolean (.int r) = .int r → ps_G X M9 pc lv [.int r]) (b1 : Nat) (hb1 : ps_ck 0 b1 = true) (M : ps_M) (h : fk_L_law_8 Ls sc b1 M = some (r, M9)) : ps_G X M 8 [some (.ref sb), some (.ref (xb X + b1)), none, none, none, none, none, none] [] := by
  unfold fk_L_law_8 at h
  refine ps_aloadn1 C dL_law_8 ?_
  obtain ⟨r1, M1, hM1, h⟩ := ps_bd h
  refine ps_goV_i C (rest := []) (tt_X6_undo (xl X) (xb X) (xD X) hb1 hM1) cw_L_97 ps_rc0 hb1 (ps_room hRm (by decide)) rfl rfl (Nat.le_of_ble_eq_true rfl) dL_law_9 ?_
  refine ps_bipush C dL_law_12 pb_m5 ?_
  refine ps_ic_ne C 62 dL_law_14 rfl (fun c54 => ?_) (fun c54 => ?_)
  · replace h := ps_in0 c54 h
    refine ps_iconst C dL_law_62 pi_0 ?_
    refine ps_istoren2 C rfl dL_law_63 ?_
    refine ps_iconst C dL_law_64 pi_0 ?_
    refine ps_istoren3 C rfl dL_law_65 ?_
    exact bk_L_law_66 C hX hbl hRm hfin ps_fu b1 (nI 0) (nI 0) hb1 _ h
  · replace h := ps_ip c54 h
    refine ps_aloadn1 C dL_law_17 ?_
    refine ps_iconst C dL_law_18 pi_0 ?_
    obtain ⟨r45, M45, hM45, h⟩ := ps_bd h
    refine ps_goV_i C (rest := []) (tt_X6_restore (xl X) (xb X) (xD X) hb1 hM45) cw_L_100 ps_rc0 hb1 (ps_room hRm (by decide)) rfl rfl (Nat.le_of_ble_eq_true rfl) dL_law_19 ?_
    refine ps_bipush C dL_law_22 pb_m5 ?_
    refine ps_ic_ne C 62 dL_law_24 rfl (fun c53 => ?_) (fun c53 => ?_)
    · replace h := ps_in0 c53 h
      refine ps_iconst C dL_law_62 pi_0 ?_
      refine ps_istoren2 C rfl dL_law_63 ?_
      refine ps_iconst C dL_law_64 pi_0 ?_
      refine ps_istoren3 C rfl dL_law_65 ?_
      exact bk_L_law_66 C hX hbl hRm hfin ps_fu b1 (nI 0) (nI 0) hb1 _ h
    · replace h := ps_ip c53 h
      refine ps_aloadn1 C dL_law_27 ?_
      obtain ⟨r46, M46, hM46, h⟩ := ps_bd h
      refine ps_goV_i C (rest := []) (tt_X6_parrot (xl X) (xb X) (xD X) hb1 hM46) cw_L_76 ps_rc0 hb1 (ps_room hRm (by decide)) rfl rfl (Nat.le_of_ble_eq_true rfl) dL_law_28 ?_
      refine ps_if_ne C 62 dL_law_31 rfl (fun c52 => ?_) (fun c52 => ?_)
      · replace h := ps_in0 c52 h
        refine ps_iconst C dL_law_62 pi_0 ?_
        refine ps_istoren2 C rfl dL_law_63 ?_
        refine ps_iconst C dL_law_64 pi_0 ?_
        refine ps_istoren3 C rfl dL_law_65 ?_
        exact bk_L_law_66 C hX hbl hRm hfin ps_fu b1 (nI 0) (nI 0) hb1 _ h
      · replace h := ps_ip c52 h
        refine ps_aloadn1 C dL_law_34 ?_
        refine ps_iconst C dL_law_35 pi_0 ?_
        refine ps_iconst C dL_law_36 pi_0 ?_
        obtain ⟨r47, M47, hM47, h⟩ := ps_bd h
        refine ps_goV_i C (rest := []) (tt_X6_bestLesson (xl X) (xb X) (xD X) hb1 hM47) cw_L_103 ps_rc0 hb1 (ps_room hRm (by decide)) rfl rfl (Nat.le_of_ble_eq_true rfl) dL_law_37 ?_
        refine ps_bipush C dL_law_40 pb_m6 ?_
        refine ps_ic_ne C 62 dL_law_42 rfl (fun c51 => ?_) (fun c51 => ?_)
        · replace h := ps_in0 c51 h
          refine ps_iconst C dL_law_62 pi_0 ?_
          refine ps_istoren2 C rfl dL_law_63 ?_
          refine ps_iconst C dL_law_64 pi_0 ?_
          refine ps_istoren3 C rfl dL_law_65 ?_
          exact bk_L_law_66 C hX hbl hRm hfin ps_fu b1 (nI 0) (nI 0) hb1 _ h
        · replace h := ps_ip c51 h
          refine ps_aloadn1 C dL_law_45 ?_
          refine ps_aloadn0 C dL_law_46 ?_
          refine ps_bipush C dL_law_47 pb_50 ?_
          obtain ⟨r48, M48, hM48, h⟩ := ps_bd h
          refine ps_goS_c C hX hbl (rest := [.ref (xb X + b1)]) (tt_L_cell (xl X) (xb X) (xD X) hM48) cw_L_106 (ps_room hRm (by decide)) rfl rfl (Nat.le_of_ble_eq_true rfl) dL_law_49 ?_
          obtain ⟨r49, M49, hM49, h⟩ := ps_bd h
          refine ps_goS_i C (rest := []) (tt_L_sings (xl X) (xb X) (xD X) hb1 hM49) cw_L_79 (ps_room hRm (by decide)) rfl rfl (Nat.le_of_ble_eq_true rfl) dL_law_52 ?_
          refine ps_if_eq C 62 dL_law_55 rfl (fun c50 => ?_) (fun c50 => ?_)
          · replace h := ps_ip c50 h
            refine ps_iconst C dL_law_62 pi_0 ?_
            refine ps_istoren2 C rfl dL_law_63 ?_
            refine ps_iconst C dL_law_64 pi_0 ?_
            refine ps_istoren3 C rfl dL_law_65 ?_
            exact bk_L_law_66 C hX hbl hRm hfin ps_fu b1 (nI 0) (nI 0) hb1 _ h
          · replace h := ps_in0 c50 h
            refine ps_iconst C dL_law_58 pi_1 ?_
            refine ps_goto C 63 dL_law_59 rfl ?_
            refine ps_istoren2 C rfl dL_law_63 ?_
            refine ps_iconst C dL_law_64 pi_0 ?_
            refine ps_istoren3 C rfl dL_law_65 ?_
            exact bk_L_law_66 C hX hbl hRm hfin ps_fu b1 (nI 1) (nI 0) hb1 _ h
