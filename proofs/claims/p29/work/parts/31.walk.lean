set_option maxRecDepth 10000 in
theorem tt_X4_readNumber (l : Launch) (b : Nat) (D : va_G) {q : Nat} (hq : ps_ck 14 q = true) {M M9 : ps_M} {r : Int32} (h : ff_X4_readNumber q  M = some (r, M9)) : ps_Ti l b D yX4_readNumber cX4_readNumber 1 .boolean 2 [.ref (b + q)] M r M9 := by
  refine ps_met_i (own := RX4) (lv := [some (.ref (b + q))]) (by decide) rfl rfl (Nat.le_of_ble_eq_true rfl) rfl (fun X eX1 eX2 eX3 hRm eX5 C hfin => ?_)
  subst eX1 eX2 eX3
  unfold ff_X4_readNumber at h
  refine ps_aloadn0 C dX4_readNumber_0 ?_
  obtain ⟨r1, M1, hM1, h⟩ := ps_bd h
  refine ps_goV_i C (rest := []) (tt_X4_isDigit (xl X) (xb X) (xD X) hq hM1) cw_X4_79 ps_rc14 hq (ps_room hRm (by decide)) rfl rfl (Nat.le_of_ble_eq_true rfl) dX4_readNumber_1 ?_
  refine ps_if_ne C 9 dX4_readNumber_4 rfl (fun c9 => ?_) (fun c9 => ?_)
  · replace h := ps_in0 c9 h
    refine ps_aloadn0 C dX4_readNumber_9 ?_
    refine ps_aloadn0 C dX4_readNumber_10 ?_
    obtain ⟨r2, M2, hM2, h⟩ := ps_bd h
    refine ps_goV_i C (rest := [.ref (xb X + q)]) (tt_X4_takeDigit (xl X) (xb X) (xD X) hq hM2) cw_X4_82 ps_rc14 hq (ps_room hRm (by decide)) rfl rfl (Nat.le_of_ble_eq_true rfl) dX4_readNumber_11 ?_
    refine pf_X4_36 C hq dX4_readNumber_14 (fun M3 eM3 => ?_)
    replace h := ps_lt eM3 h
    refine ps_aloadn0 C dX4_readNumber_17 ?_
    refine gf_X4_36 C hq dX4_readNumber_18 ?_
    refine ps_if_le C 47 dX4_readNumber_21 rfl (fun c8 => ?_) (fun c8 => ?_)
    · replace h := ps_ip c8 h
      refine ps_iconst C dX4_readNumber_47 pi_1 ?_
      exact ps_end_i h hfin dX4_readNumber_48 rfl
    · replace h := ps_in0 c8 h
      refine ps_aloadn0 C dX4_readNumber_24 ?_
      obtain ⟨r4, M4, hM4, h⟩ := ps_bd h
      refine ps_goV_i C (rest := []) (tt_X4_isDigit (xl X) (xb X) (xD X) hq hM4) cw_X4_79 ps_rc14 hq (ps_room hRm (by decide)) rfl rfl (Nat.le_of_ble_eq_true rfl) dX4_readNumber_25 ?_
      refine ps_if_eq C 47 dX4_readNumber_28 rfl (fun c7 => ?_) (fun c7 => ?_)
      · replace h := ps_ip c7 h
        refine ps_iconst C dX4_readNumber_47 pi_1 ?_
        exact ps_end_i h hfin dX4_readNumber_48 rfl
      · replace h := ps_in0 c7 h
        refine ps_aloadn0 C dX4_readNumber_31 ?_
        refine ps_bipush C dX4_readNumber_32 pb_10 ?_
        refine ps_aloadn0 C dX4_readNumber_34 ?_
        refine gf_X4_36 C hq dX4_readNumber_35 ?_
        refine ps_imul C dX4_readNumber_38 ?_
        refine ps_aloadn0 C dX4_readNumber_39 ?_
        obtain ⟨r5, M5, hM5, h⟩ := ps_bd h
        refine ps_goV_i C (rest := [.int ((nI 10) * (ps_rd M4 q 6)), .ref (xb X + q)]) (tt_X4_takeDigit (xl X) (xb X) (xD X) hq hM5) cw_X4_82 ps_rc14 hq (ps_room hRm (by decide)) rfl rfl (Nat.le_of_ble_eq_true rfl) dX4_readNumber_40 ?_
        refine ps_iadd C dX4_readNumber_43 ?_
        refine pf_X4_36 C hq dX4_readNumber_44 (fun M6 eM6 => ?_)
        replace h := ps_lt eM6 h
        refine ps_iconst C dX4_readNumber_47 pi_1 ?_
        exact ps_end_i h hfin dX4_readNumber_48 rfl
  · replace h := ps_ip c9 h
    refine ps_iconst C dX4_readNumber_7 pi_0 ?_
    exact ps_end_i h hfin dX4_readNumber_8 rfl
set_option maxRecDepth 10000 in
theorem tt_X4_readLesson (l : Launch) (b : Nat) (D : va_G) {q : Nat} (hq : ps_ck 14 q = true) {M M9 : ps_M} {r : Int32} (h : ff_X4_readLesson q  M = some (r, M9)) : ps_Ti l b D yX4_readLesson cX4_readLesson 1 .boolean 3 [.ref (b + q)] M r M9 := by
  refine ps_met_i (own := RX4) (lv := [some (.ref (b + q))]) (by decide) rfl rfl (Nat.le_of_ble_eq_true rfl) rfl (fun X eX1 eX2 eX3 hRm eX5 C hfin => ?_)
  subst eX1 eX2 eX3
  unfold ff_X4_readLesson at h
  refine ps_aloadn0 C dX4_readLesson_0 ?_
  obtain ⟨r1, M1, hM1, h⟩ := ps_bd h
  refine ps_goV_i C (rest := []) (tt_X4_readParrot (xl X) (xb X) (xD X) hq hM1) cw_X4_73 ps_rc14 hq (ps_room hRm (by decide)) rfl rfl (Nat.le_of_ble_eq_true rfl) dX4_readLesson_1 ?_
  refine ps_if_eq C 23 dX4_readLesson_4 rfl (fun c13 => ?_) (fun c13 => ?_)
  · replace h := ps_ip c13 h
    refine ps_iconst C dX4_readLesson_23 pi_0 ?_
    exact ps_end_i h hfin dX4_readLesson_24 rfl
  · replace h := ps_in0 c13 h
    refine ps_aloadn0 C dX4_readLesson_7 ?_
    refine ps_bipush C dX4_readLesson_8 pb_46 ?_
    obtain ⟨r2, M2, hM2, h⟩ := ps_bd h
    refine ps_goV_i C (rest := []) (tt_X4_take (xl X) (xb X) (xD X) hq hM2) cw_X4_56 ps_rc14 hq (ps_room hRm (by decide)) rfl rfl (Nat.le_of_ble_eq_true rfl) dX4_readLesson_10 ?_
    refine ps_if_eq C 23 dX4_readLesson_13 rfl (fun c12 => ?_) (fun c12 => ?_)
    · replace h := ps_ip c12 h
      refine ps_iconst C dX4_readLesson_23 pi_0 ?_
      exact ps_end_i h hfin dX4_readLesson_24 rfl
    · replace h := ps_in0 c12 h
      refine ps_aloadn0 C dX4_readLesson_16 ?_
      obtain ⟨r3, M3, hM3, h⟩ := ps_bd h
      refine ps_goV_i C (rest := []) (tt_X4_isDigit (xl X) (xb X) (xD X) hq hM3) cw_X4_79 ps_rc14 hq (ps_room hRm (by decide)) rfl rfl (Nat.le_of_ble_eq_true rfl) dX4_readLesson_17 ?_
      refine ps_if_ne C 25 dX4_readLesson_20 rfl (fun c11 => ?_) (fun c11 => ?_)
      · replace h := ps_in0 c11 h
        refine ps_aloadn0 C dX4_readLesson_25 ?_
        refine ps_aloadn0 C dX4_readLesson_26 ?_
        obtain ⟨r4, M4, hM4, h⟩ := ps_bd h
        refine ps_goV_i C (rest := [.ref (xb X + q)]) (tt_X4_takeDigit (xl X) (xb X) (xD X) hq hM4) cw_X4_82 ps_rc14 hq (ps_room hRm (by decide)) rfl rfl (Nat.le_of_ble_eq_true rfl) dX4_readLesson_27 ?_
        refine pf_X4_33 C hq dX4_readLesson_30 (fun M5 eM5 => ?_)
        replace h := ps_lt eM5 h
        refine ps_aloadn0 C dX4_readLesson_33 ?_
        refine ps_iconst C dX4_readLesson_34 pi_0 ?_
        refine pf_X4_36 C hq dX4_readLesson_35 (fun M6 eM6 => ?_)
        replace h := ps_lt eM6 h
        refine ps_aloadn0 C dX4_readLesson_38 ?_
        refine ps_bipush C dX4_readLesson_39 pb_47 ?_
        obtain ⟨r7, M7, hM7, h⟩ := ps_bd h
        refine ps_goV_i C (rest := []) (tt_X4_take (xl X) (xb X) (xD X) hq hM7) cw_X4_56 ps_rc14 hq (ps_room hRm (by decide)) rfl rfl (Nat.le_of_ble_eq_true rfl) dX4_readLesson_41 ?_
        refine ps_if_eq C 54 dX4_readLesson_44 rfl (fun c10 => ?_) (fun c10 => ?_)
        · replace h := ps_ip c10 h
          refine ps_iconst C dX4_readLesson_54 pi_1 ?_
          refine ps_goto C 59 dX4_readLesson_55 rfl ?_
          exact ps_end_i h hfin dX4_readLesson_59 rfl
        · replace h := ps_in0 c10 h
          refine ps_aloadn0 C dX4_readLesson_47 ?_
          obtain ⟨r8, M8, hM8, h⟩ := ps_bd h
          refine ps_goV_i C (rest := []) (tt_X4_readNumber (xl X) (xb X) (xD X) hq hM8) cw_X4_76 ps_rc14 hq (ps_room hRm (by decide)) rfl rfl (Nat.le_of_ble_eq_true rfl) dX4_readLesson_48 ?_
          refine ps_if_eq C 58 dX4_readLesson_51 rfl (fun c9 => ?_) (fun c9 => ?_)
          · replace h := ps_ip c9 h
            refine ps_iconst C dX4_readLesson_58 pi_0 ?_
            exact ps_end_i h hfin dX4_readLesson_59 rfl
          · replace h := ps_in0 c9 h
            refine ps_iconst C dX4_readLesson_54 pi_1 ?_
            refine ps_goto C 59 dX4_readLesson_55 rfl ?_
            exact ps_end_i h hfin dX4_readLesson_59 rfl
      · replace h := ps_ip c11 h
        refine ps_iconst C dX4_readLesson_23 pi_0 ?_
        exact ps_end_i h hfin dX4_readLesson_24 rfl
set_option maxRecDepth 10000 in
theorem tt_X4_readOrder (l : Launch) (b : Nat) (D : va_G) {q : Nat} (hq : ps_ck 14 q = true) {M M9 : ps_M} {r : Int32} (h : ff_X4_readOrder q  M = some (r, M9)) : ps_Ti l b D yX4_readOrder cX4_readOrder 1 .boolean 4 [.ref (b + q)] M r M9 := by
  refine ps_met_i (own := RX4) (lv := [some (.ref (b + q))]) (by decide) rfl rfl (Nat.le_of_ble_eq_true rfl) rfl (fun X eX1 eX2 eX3 hRm eX5 C hfin => ?_)
  subst eX1 eX2 eX3
  unfold ff_X4_readOrder at h
  refine ps_aloadn0 C dX4_readOrder_0 ?_
  refine ps_aloadn0 C dX4_readOrder_1 ?_
  refine gf_X4_12 C hq dX4_readOrder_2 ?_
  refine ps_aloadn0 C dX4_readOrder_5 ?_
  refine gf_X4_18 C hq dX4_readOrder_6 ?_
  obtain ⟨r1, M1, hM1, h⟩ := ps_bd h
  refine ps_goV_i C (rest := [.ref (xb X + q)]) (tt_X2_signAt (xl X) (xb X) (xD X) (kf_14_1 hq) hM1) cw_X4_63 ps_rc15 (kf_14_1 hq) (ps_room hRm (by decide)) rfl rfl (Nat.le_of_ble_eq_true rfl) dX4_readOrder_9 ?_
  obtain ⟨hc3, h⟩ := ps_gd h
  refine pf_X4_26 C hq hc3 dX4_readOrder_12 (fun M2 eM2 => ?_)
  replace h := ps_lt eM2 h
  refine ps_aloadn0 C dX4_readOrder_15 ?_
  refine gf_X4_26 C hq dX4_readOrder_16 ?_
  refine ps_nmi (fun x4 ex4 => ?_)
  replace h := ps_lt ex4 h
  by_cases c_19_66 : x4 = nI 66
  · replace h := ps_ip c_19_66 h
    refine ps_tabI C 66 (by rw [c_19_66]; rfl) 119 dX4_readOrder_19 (by decide) (by decide) rfl rfl ?_
    refine ps_aloadn0 C dX4_readOrder_119 ?_
    refine ps_dup C rfl dX4_readOrder_120 ?_
    refine gf_X4_18 C hq dX4_readOrder_121 ?_
    refine ps_iconst C dX4_readOrder_124 pi_1 ?_
    refine ps_iadd C dX4_readOrder_125 ?_
    refine pf_X4_18 C hq dX4_readOrder_126 (fun M22 eM22 => ?_)
    replace h := ps_lt eM22 h
    refine ps_iconst C dX4_readOrder_129 pi_1 ?_
    exact ps_end_i h hfin dX4_readOrder_130 rfl
  · replace h := ps_in0 c_19_66 h
    by_cases c_19_72 : x4 = nI 72
    · replace h := ps_ip c_19_72 h
      refine ps_tabI C 72 (by rw [c_19_72]; rfl) 146 dX4_readOrder_19 (by decide) (by decide) rfl rfl ?_
      refine ps_aloadn0 C dX4_readOrder_146 ?_
      refine ps_dup C rfl dX4_readOrder_147 ?_
      refine gf_X4_18 C hq dX4_readOrder_148 ?_
      refine ps_iconst C dX4_readOrder_151 pi_1 ?_
      refine ps_iadd C dX4_readOrder_152 ?_
      refine pf_X4_18 C hq dX4_readOrder_153 (fun M19 eM19 => ?_)
      replace h := ps_lt eM19 h
      refine ps_aloadn0 C dX4_readOrder_156 ?_
      obtain ⟨r20, M20, hM20, h⟩ := ps_bd h
      refine ps_goV_i C (rest := []) (tt_X4_readParrot (xl X) (xb X) (xD X) hq hM20) cw_X4_73 ps_rc14 hq (ps_room hRm (by decide)) rfl rfl (Nat.le_of_ble_eq_true rfl) dX4_readOrder_157 ?_
      obtain ⟨hc21, h⟩ := ps_gd h
      exact ps_end_i h hfin dX4_readOrder_160 (ps_isB_n hc21)
    · replace h := ps_in0 c_19_72 h
      by_cases c_19_76 : x4 = nI 76
      · replace h := ps_ip c_19_76 h
        refine ps_tabI C 76 (by rw [c_19_76]; rfl) 131 dX4_readOrder_19 (by decide) (by decide) rfl rfl ?_
        refine ps_aloadn0 C dX4_readOrder_131 ?_
        refine ps_dup C rfl dX4_readOrder_132 ?_
        refine gf_X4_18 C hq dX4_readOrder_133 ?_
        refine ps_iconst C dX4_readOrder_136 pi_1 ?_
        refine ps_iadd C dX4_readOrder_137 ?_
        refine pf_X4_18 C hq dX4_readOrder_138 (fun M16 eM16 => ?_)
        replace h := ps_lt eM16 h
        refine ps_aloadn0 C dX4_readOrder_141 ?_
        obtain ⟨r17, M17, hM17, h⟩ := ps_bd h
        refine ps_goV_i C (rest := []) (tt_X4_readLesson (xl X) (xb X) (xD X) hq hM17) cw_X4_70 ps_rc14 hq (ps_room hRm (by decide)) rfl rfl (Nat.le_of_ble_eq_true rfl) dX4_readOrder_142 ?_
        obtain ⟨hc18, h⟩ := ps_gd h
        exact ps_end_i h hfin dX4_readOrder_145 (ps_isB_n hc18)
      · replace h := ps_in0 c_19_76 h
        by_cases c_19_78 : x4 = nI 78
        · replace h := ps_ip c_19_78 h
          refine ps_tabI C 78 (by rw [c_19_78]; rfl) 119 dX4_readOrder_19 (by decide) (by decide) rfl rfl ?_
          refine ps_aloadn0 C dX4_readOrder_119 ?_
          refine ps_dup C rfl dX4_readOrder_120 ?_
          refine gf_X4_18 C hq dX4_readOrder_121 ?_
          refine ps_iconst C dX4_readOrder_124 pi_1 ?_
          refine ps_iadd C dX4_readOrder_125 ?_
          refine pf_X4_18 C hq dX4_readOrder_126 (fun M15 eM15 => ?_)
          replace h := ps_lt eM15 h
          refine ps_iconst C dX4_readOrder_129 pi_1 ?_
          exact ps_end_i h hfin dX4_readOrder_130 rfl
        · replace h := ps_in0 c_19_78 h
          by_cases c_19_80 : x4 = nI 80
          · replace h := ps_ip c_19_80 h
            refine ps_tabI C 80 (by rw [c_19_80]; rfl) 161 dX4_readOrder_19 (by decide) (by decide) rfl rfl ?_
            refine ps_aloadn0 C dX4_readOrder_161 ?_
            refine ps_dup C rfl dX4_readOrder_162 ?_
            refine gf_X4_18 C hq dX4_readOrder_163 ?_
            refine ps_iconst C dX4_readOrder_166 pi_1 ?_
            refine ps_iadd C dX4_readOrder_167 ?_
            refine pf_X4_18 C hq dX4_readOrder_168 (fun M8 eM8 => ?_)
            replace h := ps_lt eM8 h
            refine ps_aloadn0 C dX4_readOrder_171 ?_
            obtain ⟨r9, M9, hM9, h⟩ := ps_bd h
            refine ps_goV_i C (rest := []) (tt_X4_readParrot (xl X) (xb X) (xD X) hq hM9) cw_X4_73 ps_rc14 hq (ps_room hRm (by decide)) rfl rfl (Nat.le_of_ble_eq_true rfl) dX4_readOrder_172 ?_
            refine ps_if_eq C 198 dX4_readOrder_175 rfl (fun c14 => ?_) (fun c14 => ?_)
            · replace h := ps_ip c14 h
              refine ps_iconst C dX4_readOrder_198 pi_0 ?_
              exact ps_end_i h hfin dX4_readOrder_199 rfl
            · replace h := ps_in0 c14 h
              refine ps_aloadn0 C dX4_readOrder_178 ?_
              refine ps_bipush C dX4_readOrder_179 pb_42 ?_
              obtain ⟨r10, M10, hM10, h⟩ := ps_bd h
              refine ps_goV_i C (rest := []) (tt_X4_take (xl X) (xb X) (xD X) hq hM10) cw_X4_56 ps_rc14 hq (ps_room hRm (by decide)) rfl rfl (Nat.le_of_ble_eq_true rfl) dX4_readOrder_181 ?_
              refine ps_if_eq C 198 dX4_readOrder_184 rfl (fun c13 => ?_) (fun c13 => ?_)
              · replace h := ps_ip c13 h
                refine ps_iconst C dX4_readOrder_198 pi_0 ?_
                exact ps_end_i h hfin dX4_readOrder_199 rfl
              · replace h := ps_in0 c13 h
                refine ps_aloadn0 C dX4_readOrder_187 ?_
                obtain ⟨r11, M11, hM11, h⟩ := ps_bd h
                refine ps_goV_i C (rest := []) (tt_X4_readNumber (xl X) (xb X) (xD X) hq hM11) cw_X4_76 ps_rc14 hq (ps_room hRm (by decide)) rfl rfl (Nat.le_of_ble_eq_true rfl) dX4_readOrder_188 ?_
                refine ps_if_eq C 198 dX4_readOrder_191 rfl (fun c12 => ?_) (fun c12 => ?_)
                · replace h := ps_ip c12 h
                  refine ps_iconst C dX4_readOrder_198 pi_0 ?_
                  exact ps_end_i h hfin dX4_readOrder_199 rfl
                · replace h := ps_in0 c12 h
                  refine ps_iconst C dX4_readOrder_194 pi_1 ?_
                  refine ps_goto C 199 dX4_readOrder_195 rfl ?_
                  exact ps_end_i h hfin dX4_readOrder_199 rfl
          · replace h := ps_in0 c_19_80 h
            by_cases c_19_83 : x4 = nI 83
            · replace h := ps_ip c_19_83 h
              refine ps_tabI C 83 (by rw [c_19_83]; rfl) 104 dX4_readOrder_19 (by decide) (by decide) rfl rfl ?_
              refine ps_aloadn0 C dX4_readOrder_104 ?_
              refine ps_dup C rfl dX4_readOrder_105 ?_
              refine gf_X4_18 C hq dX4_readOrder_106 ?_
              refine ps_iconst C dX4_readOrder_109 pi_1 ?_
              refine ps_iadd C dX4_readOrder_110 ?_
              refine pf_X4_18 C hq dX4_readOrder_111 (fun M5 eM5 => ?_)
              replace h := ps_lt eM5 h
              refine ps_aloadn0 C dX4_readOrder_114 ?_
              obtain ⟨r6, M6, hM6, h⟩ := ps_bd h
              refine ps_goV_i C (rest := []) (tt_X4_readBars (xl X) (xb X) (xD X) hq hM6) cw_X4_67 ps_rc14 hq (ps_room hRm (by decide)) rfl rfl (Nat.le_of_ble_eq_true rfl) dX4_readOrder_115 ?_
              obtain ⟨hc7, h⟩ := ps_gd h
              exact ps_end_i h hfin dX4_readOrder_118 (ps_isB_n hc7)
            · replace h := ps_in0 c_19_83 h
              have hdf : ps_G X M2 200 [some (.ref (xb X + q))] [] := by
                refine ps_iconst C dX4_readOrder_200 pi_0 ?_
                exact ps_end_i h hfin dX4_readOrder_201 rfl
              by_cases q1 : x4.toInt < 66
              · exact ps_tabO C 200 dX4_readOrder_19 (Or.inl q1) rfl hdf
              by_cases q2 : 83 < x4.toInt
              · exact ps_tabO C 200 dX4_readOrder_19 (Or.inr q2) rfl hdf
              rcases (by omega : x4.toInt = 66 ∨ x4.toInt = 67 ∨ x4.toInt = 68 ∨ x4.toInt = 69 ∨ x4.toInt = 70 ∨ x4.toInt = 71 ∨ x4.toInt = 72 ∨ x4.toInt = 73 ∨ x4.toInt = 74 ∨ x4.toInt = 75 ∨ x4.toInt = 76 ∨ x4.toInt = 77 ∨ x4.toInt = 78 ∨ x4.toInt = 79 ∨ x4.toInt = 80 ∨ x4.toInt = 81 ∨ x4.toInt = 82 ∨ x4.toInt = 83) with q3 | q3 | q3 | q3 | q3 | q3 | q3 | q3 | q3 | q3 | q3 | q3 | q3 | q3 | q3 | q3 | q3 | q3
              · exact absurd (pz_66 q3) c_19_66
              · exact ps_tabI C 67 q3 200 dX4_readOrder_19 (by decide) (by decide) rfl rfl hdf
              · exact ps_tabI C 68 q3 200 dX4_readOrder_19 (by decide) (by decide) rfl rfl hdf
              · exact ps_tabI C 69 q3 200 dX4_readOrder_19 (by decide) (by decide) rfl rfl hdf
              · exact ps_tabI C 70 q3 200 dX4_readOrder_19 (by decide) (by decide) rfl rfl hdf
              · exact ps_tabI C 71 q3 200 dX4_readOrder_19 (by decide) (by decide) rfl rfl hdf
              · exact absurd (pz_72 q3) c_19_72
              · exact ps_tabI C 73 q3 200 dX4_readOrder_19 (by decide) (by decide) rfl rfl hdf
              · exact ps_tabI C 74 q3 200 dX4_readOrder_19 (by decide) (by decide) rfl rfl hdf
              · exact ps_tabI C 75 q3 200 dX4_readOrder_19 (by decide) (by decide) rfl rfl hdf
              · exact absurd (pz_76 q3) c_19_76
              · exact ps_tabI C 77 q3 200 dX4_readOrder_19 (by decide) (by decide) rfl rfl hdf
              · exact absurd (pz_78 q3) c_19_78
              · exact ps_tabI C 79 q3 200 dX4_readOrder_19 (by decide) (by decide) rfl rfl hdf
              · exact absurd (pz_80 q3) c_19_80
              · exact ps_tabI C 81 q3 200 dX4_readOrder_19 (by decide) (by decide) rfl rfl hdf
              · exact ps_tabI C 82 q3 200 dX4_readOrder_19 (by decide) (by decide) rfl rfl hdf
              · exact absurd (pz_83 q3) c_19_83
set_option maxRecDepth 10000 in
theorem tt_X4_readNext (l : Launch) (b : Nat) (D : va_G) {q : Nat} (hq : ps_ck 14 q = true) {M M9 : ps_M} {r : Int32} (h : ff_X4_readNext q  M = some (r, M9)) : ps_Ti l b D yX4_readNext cX4_readNext 1 .boolean 5 [.ref (b + q)] M r M9 := by
  refine ps_met_i (own := RX4) (lv := [some (.ref (b + q))]) (by decide) rfl rfl (Nat.le_of_ble_eq_true rfl) rfl (fun X eX1 eX2 eX3 hRm eX5 C hfin => ?_)
  subst eX1 eX2 eX3
  unfold ff_X4_readNext at h
  refine ps_aloadn0 C dX4_readNext_0 ?_
  refine gf_X4_22 C hq dX4_readNext_1 ?_
  refine ps_if_eq C 14 dX4_readNext_4 rfl (fun c8 => ?_) (fun c8 => ?_)
  · replace h := ps_ip c8 h
    refine ps_iconst C dX4_readNext_14 pi_0 ?_
    exact ps_end_i h hfin dX4_readNext_15 rfl
  · replace h := ps_in0 c8 h
    refine ps_aloadn0 C dX4_readNext_7 ?_
    obtain ⟨r1, M1, hM1, h⟩ := ps_bd h
    refine ps_goV_i C (rest := []) (tt_X4_readOrder (xl X) (xb X) (xD X) hq hM1) cw_X4_53 ps_rc14 hq (ps_room hRm (by decide)) rfl rfl (Nat.le_of_ble_eq_true rfl) dX4_readNext_8 ?_
    refine ps_if_ne C 16 dX4_readNext_11 rfl (fun c7 => ?_) (fun c7 => ?_)
    · replace h := ps_in0 c7 h
      refine ps_aloadn0 C dX4_readNext_16 ?_
      refine ps_aloadn0 C dX4_readNext_17 ?_
      refine ps_bipush C dX4_readNext_18 pb_59 ?_
      obtain ⟨r2, M2, hM2, h⟩ := ps_bd h
      refine ps_goV_i C (rest := [.ref (xb X + q)]) (tt_X4_take (xl X) (xb X) (xD X) hq hM2) cw_X4_56 ps_rc14 hq (ps_room hRm (by decide)) rfl rfl (Nat.le_of_ble_eq_true rfl) dX4_readNext_20 ?_
      obtain ⟨hc4, h⟩ := ps_gd h
      refine pf_X4_22 C hq hc4 dX4_readNext_23 (fun M3 eM3 => ?_)
      replace h := ps_lt eM3 h
      refine ps_aloadn0 C dX4_readNext_26 ?_
      refine gf_X4_22 C hq dX4_readNext_27 ?_
      refine ps_if_ne C 47 dX4_readNext_30 rfl (fun c6 => ?_) (fun c6 => ?_)
      · replace h := ps_in0 c6 h
        refine ps_iconst C dX4_readNext_47 pi_1 ?_
        refine ps_goto C 52 dX4_readNext_48 rfl ?_
        exact ps_end_i h hfin dX4_readNext_52 rfl
      · replace h := ps_ip c6 h
        refine ps_aloadn0 C dX4_readNext_33 ?_
        refine gf_X4_18 C hq dX4_readNext_34 ?_
        refine ps_aloadn0 C dX4_readNext_37 ?_
        refine gf_X4_12 C hq dX4_readNext_38 ?_
        refine gf_X4_60 C (kf_14_1 hq) dX4_readNext_41 ?_
        refine ps_ic_lt C 51 dX4_readNext_44 rfl (fun c5 => ?_) (fun c5 => ?_)
        · replace h := ps_ip c5 h
          refine ps_iconst C dX4_readNext_51 pi_0 ?_
          exact ps_end_i h hfin dX4_readNext_52 rfl
        · replace h := ps_in0 c5 h
          refine ps_iconst C dX4_readNext_47 pi_1 ?_
          refine ps_goto C 52 dX4_readNext_48 rfl ?_
          exact ps_end_i h hfin dX4_readNext_52 rfl
    · replace h := ps_ip c7 h
      refine ps_iconst C dX4_readNext_14 pi_0 ?_
      exact ps_end_i h hfin dX4_readNext_15 rfl
set_option maxRecDepth 10000 in
theorem bk_X4_findFault_6 {X : ps_X} (C : ps_C X RX4 cX4_findFault) (hRm : xR X = ps_lvl 6) {r : Int32} {M9 : ps_M} (hfin : ∀ pc lv, decode cX4_findFault pc = .ok (.ireturn, 1) → narrow .int (.int r) = .int r → ps_G X M9 pc lv [.int r]) {q : Nat} (hq : ps_ck 14 q = true) : ∀ (n : Nat) (a1 : Int32) (M : ps_M), fk_X4_findFault_6 q n a1 M = some (r, M9) → ps_G X M 6 [some (.ref (xb X + q)), some (.int a1)] [] := by
  intro n
  induction n with
  | zero => intro a1 M h; rw [fk_X4_findFault_6] at h; cases h
  | succ n ih =>
    intro a1 M h
    rw [fk_X4_findFault_6] at h
    refine ps_iloadn1 C dX4_findFault_6 ?_
    refine ps_bipush C dX4_findFault_7 pb_80 ?_
    refine ps_ic_ge C 37 dX4_findFault_9 rfl (fun c6 => ?_) (fun c6 => ?_)
    · replace h := ps_ip c6 h
      refine ps_bipush C dX4_findFault_37 pb_m6 ?_
      exact ps_end_i h hfin dX4_findFault_39 rfl
    · replace h := ps_in0 c6 h
      refine ps_aloadn0 C dX4_findFault_12 ?_
      refine gf_X4_22 C hq dX4_findFault_13 ?_
      refine ps_if_eq C 37 dX4_findFault_16 rfl (fun c5 => ?_) (fun c5 => ?_)
      · replace h := ps_ip c5 h
        refine ps_bipush C dX4_findFault_37 pb_m6 ?_
        exact ps_end_i h hfin dX4_findFault_39 rfl
      · replace h := ps_in0 c5 h
        refine ps_aloadn0 C dX4_findFault_19 ?_
        obtain ⟨r2, M2, hM2, h⟩ := ps_bd h
        refine ps_goV_i C (rest := []) (tt_X4_readNext (xl X) (xb X) (xD X) hq hM2) cw_X4_49 ps_rc14 hq (ps_room hRm (by decide)) rfl rfl (Nat.le_of_ble_eq_true rfl) dX4_findFault_20 ?_
        refine ps_if_ne C 31 dX4_findFault_23 rfl (fun c4 => ?_) (fun c4 => ?_)
        · replace h := ps_in0 c4 h
          refine ps_iinc1 C rfl (nI 1) pi_1 dX4_findFault_31 (fun x3 ex3 => ?_)
          replace h := ps_lt ex3 h
          refine ps_goto C 6 dX4_findFault_34 rfl ?_
          exact ih x3 _ h
        · replace h := ps_ip c4 h
          refine ps_aloadn0 C dX4_findFault_26 ?_
          refine gf_X4_18 C hq dX4_findFault_27 ?_
          exact ps_end_i h hfin dX4_findFault_30 rfl
set_option maxRecDepth 10000 in
theorem tt_X4_findFault (l : Launch) (b : Nat) (D : va_G) {q : Nat} (hq : ps_ck 14 q = true) {M M9 : ps_M} {r : Int32} (h : ff_X4_findFault q  M = some (r, M9)) : ps_Ti l b D yX4_findFault cX4_findFault 2 .int 6 [.ref (b + q)] M r M9 := by
  refine ps_met_i (own := RX4) (lv := [some (.ref (b + q)), none]) (by decide) rfl rfl (Nat.le_of_ble_eq_true rfl) rfl (fun X eX1 eX2 eX3 hRm eX5 C hfin => ?_)
  subst eX1 eX2 eX3
  unfold ff_X4_findFault at h
  refine ps_aloadn0 C dX4_findFault_0 ?_
  obtain ⟨r1, M1, hM1, h⟩ := ps_bd h
  refine ps_goV_v C (rest := []) (tt_X4_start (xl X) (xb X) (xD X) hq hM1) cw_X4_46 ps_rc14 hq (ps_room hRm (by decide)) rfl rfl (Nat.le_of_ble_eq_true rfl) dX4_findFault_1 ?_
  refine ps_iconst C dX4_findFault_4 pi_0 ?_
  refine ps_istoren1 C rfl dX4_findFault_5 ?_
  exact bk_X4_findFault_6 C hRm hfin hq ps_fu (nI 0) _ h
set_option maxRecDepth 10000 in
theorem tt_X5_add (l : Launch) (b : Nat) (D : va_G) {q : Nat} (hq : ps_ck 3 q = true) {b1 : Nat} (hb1 : ps_ck 17 b1 = true) {a2 : Int32} {M M9 : ps_M} {r : Int32} (h : ff_X5_add q b1 a2 M = some (r, M9)) : ps_Ti l b D yX5_add cX5_add 4 .int 1 [.ref (b + q), .ref (b + b1), .int a2] M r M9 := by
  refine ps_met_i (own := RX5) (lv := [some (.ref (b + q)), some (.ref (b + b1)), some (.int a2), none]) (by decide) rfl rfl (Nat.le_of_ble_eq_true rfl) rfl (fun X eX1 eX2 eX3 hRm eX5 C hfin => ?_)
  subst eX1 eX2 eX3
  unfold ff_X5_add at h
  refine ps_aloadn0 C dX5_add_0 ?_
  refine gf_X5_23 C hq dX5_add_1 ?_
  refine ps_bipush C dX5_add_4 pb_8 ?_
  refine ps_ic_lt C 12 dX5_add_6 rfl (fun c10 => ?_) (fun c10 => ?_)
  · replace h := ps_ip c10 h
    refine ps_iconst C dX5_add_12 pi_0 ?_
    refine ps_iloadn2 C dX5_add_13 ?_
    refine ps_aloadn1 C dX5_add_14 ?_
    refine ps_alen C hb1 (fun _ _ => rfl) rfl dX5_add_15 ?_
    refine ps_bipush C dX5_add_16 pb_20 ?_
    refine ps_mmin C cw_X5_33 (by rw [hRm]; exact Nat.le_of_ble_eq_true rfl) (by rw [hRm]; exact Nat.le_of_ble_eq_true rfl) dX5_add_18 ?_
    refine ps_mmin C cw_X5_33 (by rw [hRm]; exact Nat.le_of_ble_eq_true rfl) (by rw [hRm]; exact Nat.le_of_ble_eq_true rfl) dX5_add_21 ?_
    refine ps_mmax C cw_X5_39 (by rw [hRm]; exact Nat.le_of_ble_eq_true rfl) (by rw [hRm]; exact Nat.le_of_ble_eq_true rfl) dX5_add_24 ?_
    refine ps_nmi (fun x1 ex1 => ?_)
    replace h := ps_lt ex1 h
    refine ps_istoren3 C rfl dX5_add_27 ?_
    refine ps_aloadn1 C dX5_add_28 ?_
    refine ps_iconst C dX5_add_29 pi_0 ?_
    refine ps_aloadn0 C dX5_add_30 ?_
    refine gf_X5_11 C hq dX5_add_31 ?_
    refine ps_aloadn0 C dX5_add_34 ?_
    refine gf_X5_23 C hq dX5_add_35 ?_
    obtain ⟨hi2, h⟩ := ps_gd h
    refine ps_ald4 C (kf_3_1 hq) hi2 dX5_add_38 ?_
    refine ps_iconst C dX5_add_39 pi_0 ?_
    refine ps_iloadn3 C dX5_add_40 ?_
    obtain ⟨ho3, h⟩ := ps_gd h
    refine ps_copy C hb1 (fun _ _ => rfl) (ke_4 (kf_3_1 hq) hi2) (fun _ _ => rfl) cw_X5_27 ho3 (by rw [hRm]; exact Nat.le_of_ble_eq_true rfl) (by rw [hRm]; exact Nat.le_of_ble_eq_true rfl) dX5_add_41 (fun M4 eM4 => ?_)
    replace h := ps_lt eM4 h
    refine ps_aloadn0 C dX5_add_44 ?_
    refine gf_X5_16 C hq dX5_add_45 ?_
    refine ps_aloadn0 C dX5_add_48 ?_
    refine gf_X5_23 C hq dX5_add_49 ?_
    refine ps_iloadn3 C dX5_add_52 ?_
    obtain ⟨hi5, h⟩ := ps_gd h
    refine ps_iast C (kf_3_10 hq) (fun _ _ => rfl) hi5 dX5_add_53 (fun M6 eM6 => ?_)
    replace h := ps_lt eM6 h
    refine ps_aloadn0 C dX5_add_54 ?_
    refine gf_X5_20 C hq dX5_add_55 ?_
    refine ps_aloadn0 C dX5_add_58 ?_
    refine gf_X5_23 C hq dX5_add_59 ?_
    refine ps_iconst C dX5_add_62 pi_0 ?_
    obtain ⟨hi7, h⟩ := ps_gd h
    refine ps_iast C (kf_3_11 hq) (fun _ _ => rfl) hi7 dX5_add_63 (fun M8 eM8 => ?_)
    replace h := ps_lt eM8 h
    refine ps_aloadn0 C dX5_add_64 ?_
    refine ps_dup C rfl dX5_add_65 ?_
    refine gf_X5_23 C hq dX5_add_66 ?_
    refine ps_iconst C dX5_add_69 pi_1 ?_
    refine ps_iadd C dX5_add_70 ?_
    refine pf_X5_23 C hq dX5_add_71 (fun M9 eM9 => ?_)
    replace h := ps_lt eM9 h
    refine ps_aloadn0 C dX5_add_74 ?_
    refine gf_X5_23 C hq dX5_add_75 ?_
    refine ps_iconst C dX5_add_78 pi_1 ?_
    refine ps_isub C dX5_add_79 ?_
    exact ps_end_i h hfin dX5_add_80 rfl
  · replace h := ps_in0 c10 h
    refine ps_bipush C dX5_add_9 pb_m4 ?_
    exact ps_end_i h hfin dX5_add_11 rfl
set_option maxRecDepth 10000 in
theorem tt_X5_lastBar (l : Launch) (b : Nat) (D : va_G) {q : Nat} (hq : ps_ck 3 q = true) {a1 : Int32} {M M9 : ps_M} {r : Int32} (h : ff_X5_lastBar q a1 M = some (r, M9)) : ps_Ti l b D yX5_lastBar cX5_lastBar 2 .int 3 [.ref (b + q), .int a1] M r M9 := by
  refine ps_met_i (own := RX5) (lv := [some (.ref (b + q)), some (.int a1)]) (by decide) rfl rfl (Nat.le_of_ble_eq_true rfl) rfl (fun X eX1 eX2 eX3 hRm eX5 C hfin => ?_)
  subst eX1 eX2 eX3
  unfold ff_X5_lastBar at h
  refine ps_aloadn0 C dX5_lastBar_0 ?_
  refine ps_iloadn1 C dX5_lastBar_1 ?_
  refine ps_aloadn0 C dX5_lastBar_2 ?_
  refine ps_iloadn1 C dX5_lastBar_3 ?_
  obtain ⟨r1, M1, hM1, h⟩ := ps_bd h
  refine ps_goV_i C (rest := [.int a1, .ref (xb X + q)]) (tt_X5_lengthOf (xl X) (xb X) (xD X) hq hM1) cw_X5_50 ps_rc3 hq (ps_room hRm (by decide)) rfl rfl (Nat.le_of_ble_eq_true rfl) dX5_lastBar_4 ?_
  refine ps_iconst C dX5_lastBar_7 pi_1 ?_
  refine ps_isub C dX5_lastBar_8 ?_
  obtain ⟨r2, M2, hM2, h⟩ := ps_bd h
  refine ps_goV_i C (rest := []) (tt_X5_barAt (xl X) (xb X) (xD X) hq hM2) cw_X5_54 ps_rc3 hq (ps_room hRm (by decide)) rfl rfl (Nat.le_of_ble_eq_true rfl) dX5_lastBar_9 ?_
  exact ps_end_i h hfin dX5_lastBar_12 rfl
set_option maxRecDepth 10000 in
theorem tt_J6_bitCount_0f7a4 (l : Launch) (b : Nat) (D : va_G) {a0 : Int32} {M M9 : ps_M} {r : Int32} (h : ff_J6_bitCount_0f7a4 a0 M = some (r, M9)) : ps_Ti l b D yJ6_bitCount_0f7a4 cJ6_bitCount_0f7a4 1 .int 0 [.int a0] M r M9 := by
  refine ps_met_i (own := RJ6) (lv := [some (.int a0)]) (by decide) rfl rfl (Nat.le_of_ble_eq_true rfl) rfl (fun X eX1 eX2 eX3 hRm eX5 C hfin => ?_)
  subst eX1 eX2 eX3
  unfold ff_J6_bitCount_0f7a4 at h
  refine ps_iloadn0 C dJ6_bitCount_0f7a4_0 ?_
  refine ps_iloadn0 C dJ6_bitCount_0f7a4_1 ?_
  refine ps_iconst C dJ6_bitCount_0f7a4_2 pi_1 ?_
  refine ps_iushr C dJ6_bitCount_0f7a4_3 ?_
  refine ps_ldcw C pm_423 dJ6_bitCount_0f7a4_4 ?_
  refine ps_iand C dJ6_bitCount_0f7a4_7 ?_
  refine ps_isub C dJ6_bitCount_0f7a4_8 ?_
  refine ps_nmi (fun x1 ex1 => ?_)
  replace h := ps_lt ex1 h
  refine ps_istoren0 C dJ6_bitCount_0f7a4_9 ?_
  refine ps_iloadn0 C dJ6_bitCount_0f7a4_10 ?_
  refine ps_ldcw C pm_424 dJ6_bitCount_0f7a4_11 ?_
  refine ps_iand C dJ6_bitCount_0f7a4_14 ?_
  refine ps_iloadn0 C dJ6_bitCount_0f7a4_15 ?_
  refine ps_iconst C dJ6_bitCount_0f7a4_16 pi_2 ?_
  refine ps_iushr C dJ6_bitCount_0f7a4_17 ?_
  refine ps_ldcw C pm_424 dJ6_bitCount_0f7a4_18 ?_
  refine ps_iand C dJ6_bitCount_0f7a4_21 ?_
  refine ps_iadd C dJ6_bitCount_0f7a4_22 ?_
  refine ps_nmi (fun x2 ex2 => ?_)
  replace h := ps_lt ex2 h
  refine ps_istoren0 C dJ6_bitCount_0f7a4_23 ?_
  refine ps_iloadn0 C dJ6_bitCount_0f7a4_24 ?_
  refine ps_iloadn0 C dJ6_bitCount_0f7a4_25 ?_
  refine ps_iconst C dJ6_bitCount_0f7a4_26 pi_4 ?_
  refine ps_iushr C dJ6_bitCount_0f7a4_27 ?_
  refine ps_iadd C dJ6_bitCount_0f7a4_28 ?_
  refine ps_ldcw C pm_425 dJ6_bitCount_0f7a4_29 ?_
  refine ps_iand C dJ6_bitCount_0f7a4_32 ?_
  refine ps_nmi (fun x3 ex3 => ?_)
  replace h := ps_lt ex3 h
  refine ps_istoren0 C dJ6_bitCount_0f7a4_33 ?_
  refine ps_iloadn0 C dJ6_bitCount_0f7a4_34 ?_
  refine ps_iloadn0 C dJ6_bitCount_0f7a4_35 ?_
  refine ps_bipush C dJ6_bitCount_0f7a4_36 pb_8 ?_
  refine ps_iushr C dJ6_bitCount_0f7a4_38 ?_
  refine ps_iadd C dJ6_bitCount_0f7a4_39 ?_
  refine ps_nmi (fun x4 ex4 => ?_)
  replace h := ps_lt ex4 h
  refine ps_istoren0 C dJ6_bitCount_0f7a4_40 ?_
  refine ps_iloadn0 C dJ6_bitCount_0f7a4_41 ?_
  refine ps_iloadn0 C dJ6_bitCount_0f7a4_42 ?_
  refine ps_bipush C dJ6_bitCount_0f7a4_43 pb_16 ?_
  refine ps_iushr C dJ6_bitCount_0f7a4_45 ?_
  refine ps_iadd C dJ6_bitCount_0f7a4_46 ?_
  refine ps_nmi (fun x5 ex5 => ?_)
  replace h := ps_lt ex5 h
  refine ps_istoren0 C dJ6_bitCount_0f7a4_47 ?_
  refine ps_iloadn0 C dJ6_bitCount_0f7a4_48 ?_
  refine ps_bipush C dJ6_bitCount_0f7a4_49 pb_63 ?_
  refine ps_iand C dJ6_bitCount_0f7a4_51 ?_
  exact ps_end_i h hfin dJ6_bitCount_0f7a4_52 rfl
set_option maxRecDepth 10000 in
theorem bk_X5_unlikeBars_4 {X : ps_X} (C : ps_C X RX5 cX5_unlikeBars) (hRm : xR X = ps_lvl 3) {r : Int32} {M9 : ps_M} (hfin : ∀ pc lv, decode cX5_unlikeBars pc = .ok (.ireturn, 1) → narrow .int (.int r) = .int r → ps_G X M9 pc lv [.int r]) {q : Nat} (hq : ps_ck 3 q = true) : ∀ (n : Nat) (a1 : Int32) (a2 : Int32) (a3 : Int32) (M : ps_M), fk_X5_unlikeBars_4 q n a1 a2 a3 M = some (r, M9) → ps_G X M 4 [some (.ref (xb X + q)), some (.int a1), some (.int a2), some (.int a3)] [] := by
  intro n
  induction n with
  | zero => intro a1 a2 a3 M h; rw [fk_X5_unlikeBars_4] at h; cases h
  | succ n ih =>
    intro a1 a2 a3 M h
    rw [fk_X5_unlikeBars_4] at h
    refine ps_iloadn3 C dX5_unlikeBars_4 ?_
    refine ps_aloadn0 C dX5_unlikeBars_5 ?_
    refine ps_iloadn1 C dX5_unlikeBars_6 ?_
    obtain ⟨r1, M1, hM1, h⟩ := ps_bd h
    refine ps_goV_i C (rest := [.int a3]) (tt_X5_lengthOf (xl X) (xb X) (xD X) hq hM1) cw_X5_50 ps_rc3 hq (ps_room hRm (by decide)) rfl rfl (Nat.le_of_ble_eq_true rfl) dX5_unlikeBars_7 ?_
    refine ps_ic_ge C 30 dX5_unlikeBars_10 rfl (fun c6 => ?_) (fun c6 => ?_)
    · replace h := ps_ip c6 h
      refine ps_iloadn2 C dX5_unlikeBars_30 ?_
      obtain ⟨r2, M2, hM2, h⟩ := ps_bd h
      refine ps_goS_i C (rest := []) (tt_J6_bitCount_0f7a4 (xl X) (xb X) (xD X) hM2) cw_X5_57 (ps_room hRm (by decide)) rfl rfl (Nat.le_of_ble_eq_true rfl) dX5_unlikeBars_31 ?_
      exact ps_end_i h hfin dX5_unlikeBars_34 rfl
    · replace h := ps_in0 c6 h
      refine ps_iloadn2 C dX5_unlikeBars_13 ?_
      refine ps_iconst C dX5_unlikeBars_14 pi_1 ?_
      refine ps_aloadn0 C dX5_unlikeBars_15 ?_
      refine ps_iloadn1 C dX5_unlikeBars_16 ?_
      refine ps_iloadn3 C dX5_unlikeBars_17 ?_
      obtain ⟨r3, M3, hM3, h⟩ := ps_bd h
      refine ps_goV_i C (rest := [.int (nI 1), .int a2]) (tt_X5_barAt (xl X) (xb X) (xD X) hq hM3) cw_X5_54 ps_rc3 hq (ps_room hRm (by decide)) rfl rfl (Nat.le_of_ble_eq_true rfl) dX5_unlikeBars_18 ?_
      refine ps_ishl C dX5_unlikeBars_21 ?_
      refine ps_ior C dX5_unlikeBars_22 ?_
      refine ps_nmi (fun x4 ex4 => ?_)
      replace h := ps_lt ex4 h
      refine ps_istoren2 C rfl dX5_unlikeBars_23 ?_
      refine ps_iinc3 C rfl (nI 1) pi_1 dX5_unlikeBars_24 (fun x5 ex5 => ?_)
      replace h := ps_lt ex5 h
      refine ps_goto C 4 dX5_unlikeBars_27 rfl ?_
      exact ih a1 x4 x5 _ h
set_option maxRecDepth 10000 in
theorem tt_X5_unlikeBars (l : Launch) (b : Nat) (D : va_G) {q : Nat} (hq : ps_ck 3 q = true) {a1 : Int32} {M M9 : ps_M} {r : Int32} (h : ff_X5_unlikeBars q a1 M = some (r, M9)) : ps_Ti l b D yX5_unlikeBars cX5_unlikeBars 4 .int 3 [.ref (b + q), .int a1] M r M9 := by
  refine ps_met_i (own := RX5) (lv := [some (.ref (b + q)), some (.int a1), none, none]) (by decide) rfl rfl (Nat.le_of_ble_eq_true rfl) rfl (fun X eX1 eX2 eX3 hRm eX5 C hfin => ?_)
  subst eX1 eX2 eX3
  unfold ff_X5_unlikeBars at h
  refine ps_iconst C dX5_unlikeBars_0 pi_0 ?_
  refine ps_istoren2 C rfl dX5_unlikeBars_1 ?_
  refine ps_iconst C dX5_unlikeBars_2 pi_0 ?_
  refine ps_istoren3 C rfl dX5_unlikeBars_3 ?_
  exact bk_X5_unlikeBars_4 C hRm hfin hq ps_fu a1 (nI 0) (nI 0) _ h
set_option maxRecDepth 10000 in
theorem tt_X5_lessonsWith (l : Launch) (b : Nat) (D : va_G) {q : Nat} (hq : ps_ck 3 q = true) {a1 : Int32} {M M9 : ps_M} {r : Int32} (h : ff_X5_lessonsWith q a1 M = some (r, M9)) : ps_Ti l b D yX5_lessonsWith cX5_lessonsWith 2 .int 1 [.ref (b + q), .int a1] M r M9 := by
  refine ps_met_i (own := RX5) (lv := [some (.ref (b + q)), some (.int a1)]) (by decide) rfl rfl (Nat.le_of_ble_eq_true rfl) rfl (fun X eX1 eX2 eX3 hRm eX5 C hfin => ?_)
  subst eX1 eX2 eX3
  unfold ff_X5_lessonsWith at h
  refine ps_aloadn0 C dX5_lessonsWith_0 ?_
  refine ps_iloadn1 C dX5_lessonsWith_1 ?_
  obtain ⟨r1, M1, hM1, h⟩ := ps_bd h
  refine ps_goV_i C (rest := []) (tt_X5_has (xl X) (xb X) (xD X) hq hM1) cw_X5_42 ps_rc3 hq (ps_room hRm (by decide)) rfl rfl (Nat.le_of_ble_eq_true rfl) dX5_lessonsWith_2 ?_
  refine ps_if_eq C 17 dX5_lessonsWith_5 rfl (fun c3 => ?_) (fun c3 => ?_)
  · replace h := ps_ip c3 h
    refine ps_iconst C dX5_lessonsWith_17 pi_0 ?_
    exact ps_end_i h hfin dX5_lessonsWith_18 rfl
  · replace h := ps_in0 c3 h
    refine ps_aloadn0 C dX5_lessonsWith_8 ?_
    refine gf_X5_20 C hq dX5_lessonsWith_9 ?_
    refine ps_iloadn1 C dX5_lessonsWith_12 ?_
    obtain ⟨hi2, h⟩ := ps_gd h
    refine ps_iald C (kf_3_11 hq) (fun _ _ => rfl) hi2 dX5_lessonsWith_13 ?_
    refine ps_goto C 18 dX5_lessonsWith_14 rfl ?_
    exact ps_end_i h hfin dX5_lessonsWith_18 rfl
set_option maxRecDepth 10000 in
theorem bk_X5_lessonsInAll_4 {X : ps_X} (C : ps_C X RX5 cX5_lessonsInAll) (hRm : xR X = ps_lvl 0) {r : Int32} {M9 : ps_M} (hfin : ∀ pc lv, decode cX5_lessonsInAll pc = .ok (.ireturn, 1) → narrow .int (.int r) = .int r → ps_G X M9 pc lv [.int r]) {q : Nat} (hq : ps_ck 3 q = true) : ∀ (n : Nat) (a1 : Int32) (a2 : Int32) (M : ps_M), fk_X5_lessonsInAll_4 q n a1 a2 M = some (r, M9) → ps_G X M 4 [some (.ref (xb X + q)), some (.int a1), some (.int a2)] [] := by
  intro n
  induction n with
  | zero => intro a1 a2 M h; rw [fk_X5_lessonsInAll_4] at h; cases h
  | succ n ih =>
    intro a1 a2 M h
    rw [fk_X5_lessonsInAll_4] at h
    refine ps_iloadn2 C dX5_lessonsInAll_4 ?_
    refine ps_aloadn0 C dX5_lessonsInAll_5 ?_
    refine gf_X5_23 C hq dX5_lessonsInAll_6 ?_
    refine ps_ic_ge C 27 dX5_lessonsInAll_9 rfl (fun c4 => ?_) (fun c4 => ?_)
    · replace h := ps_ip c4 h
      refine ps_iloadn1 C dX5_lessonsInAll_27 ?_
      exact ps_end_i h hfin dX5_lessonsInAll_28 rfl
    · replace h := ps_in0 c4 h
      refine ps_iloadn1 C dX5_lessonsInAll_12 ?_
      refine ps_aloadn0 C dX5_lessonsInAll_13 ?_
      refine gf_X5_20 C hq dX5_lessonsInAll_14 ?_
      refine ps_iloadn2 C dX5_lessonsInAll_17 ?_
      obtain ⟨hi1, h⟩ := ps_gd h
      refine ps_iald C (kf_3_11 hq) (fun _ _ => rfl) hi1 dX5_lessonsInAll_18 ?_
      refine ps_iadd C dX5_lessonsInAll_19 ?_
      refine ps_nmi (fun x2 ex2 => ?_)
      replace h := ps_lt ex2 h
      refine ps_istoren1 C rfl dX5_lessonsInAll_20 ?_
      refine ps_iinc2 C rfl (nI 1) pi_1 dX5_lessonsInAll_21 (fun x3 ex3 => ?_)
      replace h := ps_lt ex3 h
      refine ps_goto C 4 dX5_lessonsInAll_24 rfl ?_
      exact ih x2 x3 _ h
set_option maxRecDepth 10000 in
theorem tt_X5_lessonsInAll (l : Launch) (b : Nat) (D : va_G) {q : Nat} (hq : ps_ck 3 q = true) {M M9 : ps_M} {r : Int32} (h : ff_X5_lessonsInAll q  M = some (r, M9)) : ps_Ti l b D yX5_lessonsInAll cX5_lessonsInAll 3 .int 0 [.ref (b + q)] M r M9 := by
  refine ps_met_i (own := RX5) (lv := [some (.ref (b + q)), none, none]) (by decide) rfl rfl (Nat.le_of_ble_eq_true rfl) rfl (fun X eX1 eX2 eX3 hRm eX5 C hfin => ?_)
  subst eX1 eX2 eX3
  unfold ff_X5_lessonsInAll at h
  refine ps_iconst C dX5_lessonsInAll_0 pi_0 ?_
  refine ps_istoren1 C rfl dX5_lessonsInAll_1 ?_
  refine ps_iconst C dX5_lessonsInAll_2 pi_0 ?_
  refine ps_istoren2 C rfl dX5_lessonsInAll_3 ?_
  exact bk_X5_lessonsInAll_4 C hRm hfin hq ps_fu (nI 0) (nI 0) _ h
set_option maxRecDepth 10000 in
theorem tt_X5_hundredths (l : Launch) (b : Nat) (D : va_G) {q : Nat} (hq : ps_ck 3 q = true) {b1 : Nat} (hb1 : ps_ck 9 b1 = true) {a2 : Int32} {M M9 : ps_M} {r : Int32} (h : ff_X5_hundredths q b1 a2 M = some (r, M9)) : ps_Ti l b D yX5_hundredths cX5_hundredths 4 .int 4 [.ref (b + q), .ref (b + b1), .int a2] M r M9 := by
  refine ps_met_i (own := RX5) (lv := [some (.ref (b + q)), some (.ref (b + b1)), some (.int a2), none]) (by decide) rfl rfl (Nat.le_of_ble_eq_true rfl) rfl (fun X eX1 eX2 eX3 hRm eX5 C hfin => ?_)
  subst eX1 eX2 eX3
  unfold ff_X5_hundredths at h
  refine ps_aloadn0 C dX5_hundredths_0 ?_
  refine ps_iloadn2 C dX5_hundredths_1 ?_
  obtain ⟨r1, M1, hM1, h⟩ := ps_bd h
  refine ps_goV_i C (rest := []) (tt_X5_lengthOf (xl X) (xb X) (xD X) hq hM1) cw_X5_50 ps_rc3 hq (ps_room hRm (by decide)) rfl rfl (Nat.le_of_ble_eq_true rfl) dX5_hundredths_2 ?_
  refine ps_iconst C dX5_hundredths_5 pi_1 ?_
  refine ps_isub C dX5_hundredths_6 ?_
  refine ps_nmi (fun x2 ex2 => ?_)
  replace h := ps_lt ex2 h
  refine ps_istoren3 C rfl dX5_hundredths_7 ?_
  refine ps_iloadn3 C dX5_hundredths_8 ?_
  refine ps_iconst C dX5_hundredths_9 pi_1 ?_
  refine ps_ic_ge C 16 dX5_hundredths_10 rfl (fun c5 => ?_) (fun c5 => ?_)
  · replace h := ps_ip c5 h
    refine ps_bipush C dX5_hundredths_16 pb_100 ?_
    refine ps_aloadn0 C dX5_hundredths_18 ?_
    refine ps_aloadn1 C dX5_hundredths_19 ?_
    refine ps_iloadn2 C dX5_hundredths_20 ?_
    obtain ⟨r3, M3, hM3, h⟩ := ps_bd h
    refine ps_goV_i C (rest := [.int (nI 100)]) (tt_X5_firstWrong (xl X) (xb X) (xD X) hq hb1 hM3) cw_X5_67 ps_rc3 hq (ps_room hRm (by decide)) rfl rfl (Nat.le_of_ble_eq_true rfl) dX5_hundredths_21 ?_
    refine ps_iconst C dX5_hundredths_24 pi_1 ?_
    refine ps_isub C dX5_hundredths_25 ?_
    refine ps_imul C dX5_hundredths_26 ?_
    refine ps_iloadn3 C dX5_hundredths_27 ?_
    obtain ⟨hz4, h⟩ := ps_gd h
    refine ps_idiv C hz4 dX5_hundredths_28 ?_
    exact ps_end_i h hfin dX5_hundredths_29 rfl
  · replace h := ps_in0 c5 h
    refine ps_bipush C dX5_hundredths_13 pb_100 ?_
    exact ps_end_i h hfin dX5_hundredths_15 rfl
set_option maxRecDepth 10000 in
theorem bk_X5_hundredthsInAll_4 {X : ps_X} (C : ps_C X RX5 cX5_hundredthsInAll) (hRm : xR X = ps_lvl 5) {r : Int32} {M9 : ps_M} (hfin : ∀ pc lv, decode cX5_hundredthsInAll pc = .ok (.ireturn, 1) → narrow .int (.int r) = .int r → ps_G X M9 pc lv [.int r]) {q : Nat} (hq : ps_ck 3 q = true) : ∀ (n : Nat) (b1 : Nat) (a2 : Int32) (a3 : Int32) (hb1 : ps_ck 9 b1 = true) (M : ps_M), fk_X5_hundredthsInAll_4 q n b1 a2 a3 M = some (r, M9) → ps_G X M 4 [some (.ref (xb X + q)), some (.ref (xb X + b1)), some (.int a2), some (.int a3)] [] := by
  intro n
  induction n with
  | zero => intro b1 a2 a3 hb1 M h; rw [fk_X5_hundredthsInAll_4] at h; cases h
  | succ n ih =>
    intro b1 a2 a3 hb1 M h
    rw [fk_X5_hundredthsInAll_4] at h
    refine ps_iloadn3 C dX5_hundredthsInAll_4 ?_
    refine ps_aloadn0 C dX5_hundredthsInAll_5 ?_
    refine gf_X5_23 C hq dX5_hundredthsInAll_6 ?_
    refine ps_ic_ge C 27 dX5_hundredthsInAll_9 rfl (fun c4 => ?_) (fun c4 => ?_)
    · replace h := ps_ip c4 h
      refine ps_iloadn2 C dX5_hundredthsInAll_27 ?_
      exact ps_end_i h hfin dX5_hundredthsInAll_28 rfl
    · replace h := ps_in0 c4 h
      refine ps_iloadn2 C dX5_hundredthsInAll_12 ?_
      refine ps_aloadn0 C dX5_hundredthsInAll_13 ?_
      refine ps_aloadn1 C dX5_hundredthsInAll_14 ?_
      refine ps_iloadn3 C dX5_hundredthsInAll_15 ?_
      obtain ⟨r1, M1, hM1, h⟩ := ps_bd h
      refine ps_goV_i C (rest := [.int a2]) (tt_X5_hundredths (xl X) (xb X) (xD X) hq hb1 hM1) cw_X5_71 ps_rc3 hq (ps_room hRm (by decide)) rfl rfl (Nat.le_of_ble_eq_true rfl) dX5_hundredthsInAll_16 ?_
      refine ps_iadd C dX5_hundredthsInAll_19 ?_
      refine ps_nmi (fun x2 ex2 => ?_)
      replace h := ps_lt ex2 h
      refine ps_istoren2 C rfl dX5_hundredthsInAll_20 ?_
      refine ps_iinc3 C rfl (nI 1) pi_1 dX5_hundredthsInAll_21 (fun x3 ex3 => ?_)
      replace h := ps_lt ex3 h
      refine ps_goto C 4 dX5_hundredthsInAll_24 rfl ?_
      exact ih b1 x2 x3 hb1 _ h
set_option maxRecDepth 10000 in
theorem tt_X5_hundredthsInAll (l : Launch) (b : Nat) (D : va_G) {q : Nat} (hq : ps_ck 3 q = true) {b1 : Nat} (hb1 : ps_ck 9 b1 = true) {M M9 : ps_M} {r : Int32} (h : ff_X5_hundredthsInAll q b1 M = some (r, M9)) : ps_Ti l b D yX5_hundredthsInAll cX5_hundredthsInAll 4 .int 5 [.ref (b + q), .ref (b + b1)] M r M9 := by
  refine ps_met_i (own := RX5) (lv := [some (.ref (b + q)), some (.ref (b + b1)), none, none]) (by decide) rfl rfl (Nat.le_of_ble_eq_true rfl) rfl (fun X eX1 eX2 eX3 hRm eX5 C hfin => ?_)
  subst eX1 eX2 eX3
  unfold ff_X5_hundredthsInAll at h
  refine ps_iconst C dX5_hundredthsInAll_0 pi_0 ?_
  refine ps_istoren2 C rfl dX5_hundredthsInAll_1 ?_
  refine ps_iconst C dX5_hundredthsInAll_2 pi_0 ?_
  refine ps_istoren3 C rfl dX5_hundredthsInAll_3 ?_
  exact bk_X5_hundredthsInAll_4 C hRm hfin hq ps_fu b1 (nI 0) (nI 0) hb1 _ h
set_option maxRecDepth 10000 in
theorem bk_X5_knownBy_4 {X : ps_X} (C : ps_C X RX5 cX5_knownBy) (hRm : xR X = ps_lvl 5) {r : Int32} {M9 : ps_M} (hfin : ∀ pc lv, decode cX5_knownBy pc = .ok (.ireturn, 1) → narrow .int (.int r) = .int r → ps_G X M9 pc lv [.int r]) {q : Nat} (hq : ps_ck 3 q = true) : ∀ (n : Nat) (b1 : Nat) (a2 : Int32) (a3 : Int32) (hb1 : ps_ck 9 b1 = true) (M : ps_M), fk_X5_knownBy_4 q n b1 a2 a3 M = some (r, M9) → ps_G X M 4 [some (.ref (xb X + q)), some (.ref (xb X + b1)), some (.int a2), some (.int a3)] [] := by
  intro n
  induction n with
  | zero => intro b1 a2 a3 hb1 M h; rw [fk_X5_knownBy_4] at h; cases h
  | succ n ih =>
    intro b1 a2 a3 hb1 M h
    rw [fk_X5_knownBy_4] at h
    refine ps_iloadn3 C dX5_knownBy_4 ?_
    refine ps_aloadn0 C dX5_knownBy_5 ?_
    refine gf_X5_23 C hq dX5_knownBy_6 ?_
    refine ps_ic_ge C 33 dX5_knownBy_9 rfl (fun c6 => ?_) (fun c6 => ?_)
    · replace h := ps_ip c6 h
      refine ps_iloadn2 C dX5_knownBy_33 ?_
      exact ps_end_i h hfin dX5_knownBy_34 rfl
    · replace h := ps_in0 c6 h
      refine ps_aloadn0 C dX5_knownBy_12 ?_
      refine ps_aloadn1 C dX5_knownBy_13 ?_
      refine ps_iloadn3 C dX5_knownBy_14 ?_
      obtain ⟨r1, M1, hM1, h⟩ := ps_bd h
      refine ps_goV_i C (rest := []) (tt_X5_isKnownBy (xl X) (xb X) (xD X) hq hb1 hM1) cw_X5_74 ps_rc3 hq (ps_room hRm (by decide)) rfl rfl (Nat.le_of_ble_eq_true rfl) dX5_knownBy_15 ?_
      refine ps_if_eq C 27 dX5_knownBy_18 rfl (fun c5 => ?_) (fun c5 => ?_)
      · replace h := ps_ip c5 h
        refine ps_iinc3 C rfl (nI 1) pi_1 dX5_knownBy_27 (fun x2 ex2 => ?_)
        replace h := ps_lt ex2 h
        refine ps_goto C 4 dX5_knownBy_30 rfl ?_
        exact ih b1 a2 x2 hb1 _ h
      · replace h := ps_in0 c5 h
        refine ps_iloadn2 C dX5_knownBy_21 ?_
        refine ps_iconst C dX5_knownBy_22 pi_1 ?_
        refine ps_iloadn3 C dX5_knownBy_23 ?_
        refine ps_ishl C dX5_knownBy_24 ?_
        refine ps_ior C dX5_knownBy_25 ?_
        refine ps_nmi (fun x3 ex3 => ?_)
        replace h := ps_lt ex3 h
        refine ps_istoren2 C rfl dX5_knownBy_26 ?_
        refine ps_iinc3 C rfl (nI 1) pi_1 dX5_knownBy_27 (fun x4 ex4 => ?_)
        replace h := ps_lt ex4 h
        refine ps_goto C 4 dX5_knownBy_30 rfl ?_
        exact ih b1 x3 x4 hb1 _ h
set_option maxRecDepth 10000 in
theorem tt_X5_knownBy (l : Launch) (b : Nat) (D : va_G) {q : Nat} (hq : ps_ck 3 q = true) {b1 : Nat} (hb1 : ps_ck 9 b1 = true) {M M9 : ps_M} {r : Int32} (h : ff_X5_knownBy q b1 M = some (r, M9)) : ps_Ti l b D yX5_knownBy cX5_knownBy 4 .int 5 [.ref (b + q), .ref (b + b1)] M r M9 := by
  refine ps_met_i (own := RX5) (lv := [some (.ref (b + q)), some (.ref (b + b1)), none, none]) (by decide) rfl rfl (Nat.le_of_ble_eq_true rfl) rfl (fun X eX1 eX2 eX3 hRm eX5 C hfin => ?_)
  subst eX1 eX2 eX3
  unfold ff_X5_knownBy at h
  refine ps_iconst C dX5_knownBy_0 pi_0 ?_
  refine ps_istoren2 C rfl dX5_knownBy_1 ?_
  refine ps_iconst C dX5_knownBy_2 pi_0 ?_
  refine ps_istoren3 C rfl dX5_knownBy_3 ?_
  exact bk_X5_knownBy_4 C hRm hfin hq ps_fu b1 (nI 0) (nI 0) hb1 _ h
set_option maxRecDepth 10000 in
theorem bk_X5_songsFrom_4 {X : ps_X} (C : ps_C X RX5 cX5_songsFrom) (hRm : xR X = ps_lvl 3) {r : Int32} {M9 : ps_M} (hfin : ∀ pc lv, decode cX5_songsFrom pc = .ok (.ireturn, 1) → narrow .int (.int r) = .int r → ps_G X M9 pc lv [.int r]) {q : Nat} (hq : ps_ck 3 q = true) : ∀ (n : Nat) (a1 : Int32) (a2 : Int32) (a3 : Int32) (M : ps_M), fk_X5_songsFrom_4 q n a1 a2 a3 M = some (r, M9) → ps_G X M 4 [some (.ref (xb X + q)), some (.int a1), some (.int a2), some (.int a3)] [] := by
  intro n
  induction n with
  | zero => intro a1 a2 a3 M h; rw [fk_X5_songsFrom_4] at h; cases h
  | succ n ih =>
    intro a1 a2 a3 M h
    rw [fk_X5_songsFrom_4] at h
    refine ps_iloadn3 C dX5_songsFrom_4 ?_
    refine ps_aloadn0 C dX5_songsFrom_5 ?_
    refine gf_X5_23 C hq dX5_songsFrom_6 ?_
    refine ps_ic_ge C 34 dX5_songsFrom_9 rfl (fun c6 => ?_) (fun c6 => ?_)
    · replace h := ps_ip c6 h
      refine ps_iloadn2 C dX5_songsFrom_34 ?_
      exact ps_end_i h hfin dX5_songsFrom_35 rfl
    · replace h := ps_in0 c6 h
      refine ps_aloadn0 C dX5_songsFrom_12 ?_
      refine ps_iloadn3 C dX5_songsFrom_13 ?_
      refine ps_iconst C dX5_songsFrom_14 pi_0 ?_
      obtain ⟨r1, M1, hM1, h⟩ := ps_bd h
      refine ps_goV_i C (rest := []) (tt_X5_barAt (xl X) (xb X) (xD X) hq hM1) cw_X5_54 ps_rc3 hq (ps_room hRm (by decide)) rfl rfl (Nat.le_of_ble_eq_true rfl) dX5_songsFrom_15 ?_
      refine ps_iloadn1 C dX5_songsFrom_18 ?_
      refine ps_ic_ne C 28 dX5_songsFrom_19 rfl (fun c5 => ?_) (fun c5 => ?_)
      · replace h := ps_in0 c5 h
        refine ps_iinc3 C rfl (nI 1) pi_1 dX5_songsFrom_28 (fun x2 ex2 => ?_)
        replace h := ps_lt ex2 h
        refine ps_goto C 4 dX5_songsFrom_31 rfl ?_
        exact ih a1 a2 x2 _ h
      · replace h := ps_ip c5 h
        refine ps_iloadn2 C dX5_songsFrom_22 ?_
        refine ps_iconst C dX5_songsFrom_23 pi_1 ?_
        refine ps_iloadn3 C dX5_songsFrom_24 ?_
        refine ps_ishl C dX5_songsFrom_25 ?_
        refine ps_ior C dX5_songsFrom_26 ?_
        refine ps_nmi (fun x3 ex3 => ?_)
        replace h := ps_lt ex3 h
        refine ps_istoren2 C rfl dX5_songsFrom_27 ?_
        refine ps_iinc3 C rfl (nI 1) pi_1 dX5_songsFrom_28 (fun x4 ex4 => ?_)
        replace h := ps_lt ex4 h
        refine ps_goto C 4 dX5_songsFrom_31 rfl ?_
        exact ih a1 x3 x4 _ h
set_option maxRecDepth 10000 in
theorem tt_X5_songsFrom (l : Launch) (b : Nat) (D : va_G) {q : Nat} (hq : ps_ck 3 q = true) {a1 : Int32} {M M9 : ps_M} {r : Int32} (h : ff_X5_songsFrom q a1 M = some (r, M9)) : ps_Ti l b D yX5_songsFrom cX5_songsFrom 4 .int 3 [.ref (b + q), .int a1] M r M9 := by
  refine ps_met_i (own := RX5) (lv := [some (.ref (b + q)), some (.int a1), none, none]) (by decide) rfl rfl (Nat.le_of_ble_eq_true rfl) rfl (fun X eX1 eX2 eX3 hRm eX5 C hfin => ?_)
  subst eX1 eX2 eX3
  unfold ff_X5_songsFrom at h
  refine ps_iconst C dX5_songsFrom_0 pi_0 ?_
  refine ps_istoren2 C rfl dX5_songsFrom_1 ?_
  refine ps_iconst C dX5_songsFrom_2 pi_0 ?_
  refine ps_istoren3 C rfl dX5_songsFrom_3 ?_
  exact bk_X5_songsFrom_4 C hRm hfin hq ps_fu a1 (nI 0) (nI 0) _ h
set_option maxRecDepth 10000 in
theorem bk_X5_hasPair_3 {X : ps_X} (C : ps_C X RX5 cX5_hasPair) (hRm : xR X = ps_lvl 3) {r : Int32} {M9 : ps_M} (hfin : ∀ pc lv, decode cX5_hasPair pc = .ok (.ireturn, 1) → narrow .boolean (.int r) = .int r → ps_G X M9 pc lv [.int r]) {q : Nat} (hq : ps_ck 3 q = true) : ∀ (n : Nat) (a1 : Int32) (a2 : Int32) (a3 : Int32) (a4 : Int32) (M : ps_M), fk_X5_hasPair_3 q n a1 a2 a3 a4 M = some (r, M9) → ps_G X M 3 [some (.ref (xb X + q)), some (.int a1), some (.int a2), some (.int a3), some (.int a4)] [] := by
  intro n
  induction n with
  | zero => intro a1 a2 a3 a4 M h; rw [fk_X5_hasPair_3] at h; cases h
  | succ n ih =>
    intro a1 a2 a3 a4 M h
    rw [fk_X5_hasPair_3] at h
    refine ps_iload4 C dX5_hasPair_3 ?_
    refine ps_aloadn0 C dX5_hasPair_5 ?_
    refine ps_iloadn1 C dX5_hasPair_6 ?_
    obtain ⟨r1, M1, hM1, h⟩ := ps_bd h
    refine ps_goV_i C (rest := [.int a4]) (tt_X5_lengthOf (xl X) (xb X) (xD X) hq hM1) cw_X5_50 ps_rc3 hq (ps_room hRm (by decide)) rfl rfl (Nat.le_of_ble_eq_true rfl) dX5_hasPair_7 ?_
    refine ps_ic_ge C 45 dX5_hasPair_10 rfl (fun c8 => ?_) (fun c8 => ?_)
    · replace h := ps_ip c8 h
      refine ps_iconst C dX5_hasPair_45 pi_0 ?_
      exact ps_end_i h hfin dX5_hasPair_46 rfl
    · replace h := ps_in0 c8 h
      refine ps_aloadn0 C dX5_hasPair_13 ?_
      refine ps_iloadn1 C dX5_hasPair_14 ?_
      refine ps_iload4 C dX5_hasPair_15 ?_
      refine ps_iconst C dX5_hasPair_17 pi_1 ?_
      refine ps_isub C dX5_hasPair_18 ?_
      obtain ⟨r2, M2, hM2, h⟩ := ps_bd h
      refine ps_goV_i C (rest := []) (tt_X5_barAt (xl X) (xb X) (xD X) hq hM2) cw_X5_54 ps_rc3 hq (ps_room hRm (by decide)) rfl rfl (Nat.le_of_ble_eq_true rfl) dX5_hasPair_19 ?_
      refine ps_iloadn2 C dX5_hasPair_22 ?_
      refine ps_ic_ne C 39 dX5_hasPair_23 rfl (fun c7 => ?_) (fun c7 => ?_)
      · replace h := ps_in0 c7 h
        refine ps_iinc4 C rfl (nI 1) pi_1 dX5_hasPair_39 (fun x3 ex3 => ?_)
        replace h := ps_lt ex3 h
        refine ps_goto C 3 dX5_hasPair_42 rfl ?_
        exact ih a1 a2 a3 x3 _ h
      · replace h := ps_ip c7 h
        refine ps_aloadn0 C dX5_hasPair_26 ?_
        refine ps_iloadn1 C dX5_hasPair_27 ?_
        refine ps_iload4 C dX5_hasPair_28 ?_
        obtain ⟨r4, M4, hM4, h⟩ := ps_bd h
        refine ps_goV_i C (rest := []) (tt_X5_barAt (xl X) (xb X) (xD X) hq hM4) cw_X5_54 ps_rc3 hq (ps_room hRm (by decide)) rfl rfl (Nat.le_of_ble_eq_true rfl) dX5_hasPair_30 ?_
        refine ps_iloadn3 C dX5_hasPair_33 ?_
        refine ps_ic_ne C 39 dX5_hasPair_34 rfl (fun c6 => ?_) (fun c6 => ?_)
        · replace h := ps_in0 c6 h
          refine ps_iinc4 C rfl (nI 1) pi_1 dX5_hasPair_39 (fun x5 ex5 => ?_)
          replace h := ps_lt ex5 h
          refine ps_goto C 3 dX5_hasPair_42 rfl ?_
          exact ih a1 a2 a3 x5 _ h
        · replace h := ps_ip c6 h
          refine ps_iconst C dX5_hasPair_37 pi_1 ?_
          exact ps_end_i h hfin dX5_hasPair_38 rfl
set_option maxRecDepth 10000 in
theorem tt_X5_hasPair (l : Launch) (b : Nat) (D : va_G) {q : Nat} (hq : ps_ck 3 q = true) {a1 : Int32} {a2 : Int32} {a3 : Int32} {M M9 : ps_M} {r : Int32} (h : ff_X5_hasPair q a1 a2 a3 M = some (r, M9)) : ps_Ti l b D yX5_hasPair cX5_hasPair 5 .boolean 3 [.ref (b + q), .int a1, .int a2, .int a3] M r M9 := by
  refine ps_met_i (own := RX5) (lv := [some (.ref (b + q)), some (.int a1), some (.int a2), some (.int a3), none]) (by decide) rfl rfl (Nat.le_of_ble_eq_true rfl) rfl (fun X eX1 eX2 eX3 hRm eX5 C hfin => ?_)
  subst eX1 eX2 eX3
  unfold ff_X5_hasPair at h
  refine ps_iconst C dX5_hasPair_0 pi_1 ?_
  refine ps_istore4 C rfl dX5_hasPair_1 ?_
  exact bk_X5_hasPair_3 C hRm hfin hq ps_fu a1 a2 a3 (nI 1) _ h
set_option maxRecDepth 10000 in
theorem bk_X5_songsWithPair_5 {X : ps_X} (C : ps_C X RX5 cX5_songsWithPair) (hRm : xR X = ps_lvl 4) {r : Int32} {M9 : ps_M} (hfin : ∀ pc lv, decode cX5_songsWithPair pc = .ok (.ireturn, 1) → narrow .int (.int r) = .int r → ps_G X M9 pc lv [.int r]) {q : Nat} (hq : ps_ck 3 q = true) : ∀ (n : Nat) (a1 : Int32) (a2 : Int32) (a3 : Int32) (a4 : Int32) (M : ps_M), fk_X5_songsWithPair_5 q n a1 a2 a3 a4 M = some (r, M9) → ps_G X M 5 [some (.ref (xb X + q)), some (.int a1), some (.int a2), some (.int a3), some (.int a4)] [] := by
  intro n
  induction n with
  | zero => intro a1 a2 a3 a4 M h; rw [fk_X5_songsWithPair_5] at h; cases h
  | succ n ih =>
    intro a1 a2 a3 a4 M h
    rw [fk_X5_songsWithPair_5] at h
    refine ps_iload4 C dX5_songsWithPair_5 ?_
    refine ps_aloadn0 C dX5_songsWithPair_7 ?_
    refine gf_X5_23 C hq dX5_songsWithPair_8 ?_
    refine ps_ic_ge C 38 dX5_songsWithPair_11 rfl (fun c6 => ?_) (fun c6 => ?_)
    · replace h := ps_ip c6 h
      refine ps_iloadn3 C dX5_songsWithPair_38 ?_
      exact ps_end_i h hfin dX5_songsWithPair_39 rfl
    · replace h := ps_in0 c6 h
      refine ps_aloadn0 C dX5_songsWithPair_14 ?_
      refine ps_iload4 C dX5_songsWithPair_15 ?_
      refine ps_iloadn1 C dX5_songsWithPair_17 ?_
      refine ps_iloadn2 C dX5_songsWithPair_18 ?_
      obtain ⟨r1, M1, hM1, h⟩ := ps_bd h
      refine ps_goV_i C (rest := []) (tt_X5_hasPair (xl X) (xb X) (xD X) hq hM1) cw_X5_78 ps_rc3 hq (ps_room hRm (by decide)) rfl rfl (Nat.le_of_ble_eq_true rfl) dX5_songsWithPair_19 ?_
      refine ps_if_eq C 32 dX5_songsWithPair_22 rfl (fun c5 => ?_) (fun c5 => ?_)
      · replace h := ps_ip c5 h
        refine ps_iinc4 C rfl (nI 1) pi_1 dX5_songsWithPair_32 (fun x2 ex2 => ?_)
        replace h := ps_lt ex2 h
        refine ps_goto C 5 dX5_songsWithPair_35 rfl ?_
        exact ih a1 a2 a3 x2 _ h
      · replace h := ps_in0 c5 h
        refine ps_iloadn3 C dX5_songsWithPair_25 ?_
        refine ps_iconst C dX5_songsWithPair_26 pi_1 ?_
        refine ps_iload4 C dX5_songsWithPair_27 ?_
        refine ps_ishl C dX5_songsWithPair_29 ?_
        refine ps_ior C dX5_songsWithPair_30 ?_
        refine ps_nmi (fun x3 ex3 => ?_)
        replace h := ps_lt ex3 h
        refine ps_istoren3 C rfl dX5_songsWithPair_31 ?_
        refine ps_iinc4 C rfl (nI 1) pi_1 dX5_songsWithPair_32 (fun x4 ex4 => ?_)
        replace h := ps_lt ex4 h
        refine ps_goto C 5 dX5_songsWithPair_35 rfl ?_
        exact ih a1 a2 x3 x4 _ h
set_option maxRecDepth 10000 in
theorem tt_X5_songsWithPair (l : Launch) (b : Nat) (D : va_G) {q : Nat} (hq : ps_ck 3 q = true) {a1 : Int32} {a2 : Int32} {M M9 : ps_M} {r : Int32} (h : ff_X5_songsWithPair q a1 a2 M = some (r, M9)) : ps_Ti l b D yX5_songsWithPair cX5_songsWithPair 5 .int 4 [.ref (b + q), .int a1, .int a2] M r M9 := by
  refine ps_met_i (own := RX5) (lv := [some (.ref (b + q)), some (.int a1), some (.int a2), none, none]) (by decide) rfl rfl (Nat.le_of_ble_eq_true rfl) rfl (fun X eX1 eX2 eX3 hRm eX5 C hfin => ?_)
  subst eX1 eX2 eX3
  unfold ff_X5_songsWithPair at h
  refine ps_iconst C dX5_songsWithPair_0 pi_0 ?_
  refine ps_istoren3 C rfl dX5_songsWithPair_1 ?_
  refine ps_iconst C dX5_songsWithPair_2 pi_0 ?_
  refine ps_istore4 C rfl dX5_songsWithPair_3 ?_
  exact bk_X5_songsWithPair_5 C hRm hfin hq ps_fu a1 a2 (nI 0) (nI 0) _ h
set_option maxRecDepth 10000 in
theorem bk_X5_sameAtEnd_17 {X : ps_X} (C : ps_C X RX5 cX5_sameAtEnd) (hRm : xR X = ps_lvl 3) {r : Int32} {M9 : ps_M} (hfin : ∀ pc lv, decode cX5_sameAtEnd pc = .ok (.ireturn, 1) → narrow .int (.int r) = .int r → ps_G X M9 pc lv [.int r]) {q : Nat} (hq : ps_ck 3 q = true) : ∀ (n : Nat) (a1 : Int32) (a2 : Int32) (a3 : Int32) (a4 : Int32) (M : ps_M), fk_X5_sameAtEnd_17 q n a1 a2 a3 a4 M = some (r, M9) → ps_G X M 17 [some (.ref (xb X + q)), some (.int a1), some (.int a2), some (.int a3), some (.int a4)] [] := by
  intro n
  induction n with
  | zero => intro a1 a2 a3 a4 M h; rw [fk_X5_sameAtEnd_17] at h; cases h
  | succ n ih =>
    intro a1 a2 a3 a4 M h
    rw [fk_X5_sameAtEnd_17] at h
    refine ps_iload4 C dX5_sameAtEnd_17 ?_
    refine ps_iloadn3 C dX5_sameAtEnd_19 ?_
    refine ps_ic_ge C 62 dX5_sameAtEnd_20 rfl (fun c10 => ?_) (fun c10 => ?_)
    · replace h := ps_ip c10 h
      refine ps_iload4 C dX5_sameAtEnd_62 ?_
      exact ps_end_i h hfin dX5_sameAtEnd_64 rfl
    · replace h := ps_in0 c10 h
      refine ps_aloadn0 C dX5_sameAtEnd_23 ?_
      refine ps_iloadn1 C dX5_sameAtEnd_24 ?_
      refine ps_aloadn0 C dX5_sameAtEnd_25 ?_
      refine ps_iloadn1 C dX5_sameAtEnd_26 ?_
      obtain ⟨r4, M4, hM4, h⟩ := ps_bd h
      refine ps_goV_i C (rest := [.int a1, .ref (xb X + q)]) (tt_X5_lengthOf (xl X) (xb X) (xD X) hq hM4) cw_X5_50 ps_rc3 hq (ps_room hRm (by decide)) rfl rfl (Nat.le_of_ble_eq_true rfl) dX5_sameAtEnd_27 ?_
      refine ps_iconst C dX5_sameAtEnd_30 pi_1 ?_
      refine ps_isub C dX5_sameAtEnd_31 ?_
      refine ps_iload4 C dX5_sameAtEnd_32 ?_
      refine ps_isub C dX5_sameAtEnd_34 ?_
      obtain ⟨r5, M5, hM5, h⟩ := ps_bd h
      refine ps_goV_i C (rest := []) (tt_X5_barAt (xl X) (xb X) (xD X) hq hM5) cw_X5_54 ps_rc3 hq (ps_room hRm (by decide)) rfl rfl (Nat.le_of_ble_eq_true rfl) dX5_sameAtEnd_35 ?_
      refine ps_aloadn0 C dX5_sameAtEnd_38 ?_
      refine ps_iloadn2 C dX5_sameAtEnd_39 ?_
      refine ps_aloadn0 C dX5_sameAtEnd_40 ?_
      refine ps_iloadn2 C dX5_sameAtEnd_41 ?_
      obtain ⟨r6, M6, hM6, h⟩ := ps_bd h
      refine ps_goV_i C (rest := [.int a2, .ref (xb X + q), .int r5]) (tt_X5_lengthOf (xl X) (xb X) (xD X) hq hM6) cw_X5_50 ps_rc3 hq (ps_room hRm (by decide)) rfl rfl (Nat.le_of_ble_eq_true rfl) dX5_sameAtEnd_42 ?_
      refine ps_iconst C dX5_sameAtEnd_45 pi_1 ?_
      refine ps_isub C dX5_sameAtEnd_46 ?_
      refine ps_iload4 C dX5_sameAtEnd_47 ?_
      refine ps_isub C dX5_sameAtEnd_49 ?_
      obtain ⟨r7, M7, hM7, h⟩ := ps_bd h
      refine ps_goV_i C (rest := [.int r5]) (tt_X5_barAt (xl X) (xb X) (xD X) hq hM7) cw_X5_54 ps_rc3 hq (ps_room hRm (by decide)) rfl rfl (Nat.le_of_ble_eq_true rfl) dX5_sameAtEnd_50 ?_
      refine ps_ic_ne C 62 dX5_sameAtEnd_53 rfl (fun c9 => ?_) (fun c9 => ?_)
      · replace h := ps_in0 c9 h
        refine ps_iload4 C dX5_sameAtEnd_62 ?_
        exact ps_end_i h hfin dX5_sameAtEnd_64 rfl
      · replace h := ps_ip c9 h
        refine ps_iinc4 C rfl (nI 1) pi_1 dX5_sameAtEnd_56 (fun x8 ex8 => ?_)
        replace h := ps_lt ex8 h
        refine ps_goto C 17 dX5_sameAtEnd_59 rfl ?_
        exact ih a1 a2 a3 x8 _ h
set_option maxRecDepth 10000 in
theorem tt_X5_sameAtEnd (l : Launch) (b : Nat) (D : va_G) {q : Nat} (hq : ps_ck 3 q = true) {a1 : Int32} {a2 : Int32} {M M9 : ps_M} {r : Int32} (h : ff_X5_sameAtEnd q a1 a2 M = some (r, M9)) : ps_Ti l b D yX5_sameAtEnd cX5_sameAtEnd 5 .int 3 [.ref (b + q), .int a1, .int a2] M r M9 := by
  refine ps_met_i (own := RX5) (lv := [some (.ref (b + q)), some (.int a1), some (.int a2), none, none]) (by decide) rfl rfl (Nat.le_of_ble_eq_true rfl) rfl (fun X eX1 eX2 eX3 hRm eX5 C hfin => ?_)
  subst eX1 eX2 eX3
  unfold ff_X5_sameAtEnd at h
  refine ps_aloadn0 C dX5_sameAtEnd_0 ?_
  refine ps_iloadn1 C dX5_sameAtEnd_1 ?_
  obtain ⟨r1, M1, hM1, h⟩ := ps_bd h
  refine ps_goV_i C (rest := []) (tt_X5_lengthOf (xl X) (xb X) (xD X) hq hM1) cw_X5_50 ps_rc3 hq (ps_room hRm (by decide)) rfl rfl (Nat.le_of_ble_eq_true rfl) dX5_sameAtEnd_2 ?_
  refine ps_aloadn0 C dX5_sameAtEnd_5 ?_
  refine ps_iloadn2 C dX5_sameAtEnd_6 ?_
  obtain ⟨r2, M2, hM2, h⟩ := ps_bd h
  refine ps_goV_i C (rest := [.int r1]) (tt_X5_lengthOf (xl X) (xb X) (xD X) hq hM2) cw_X5_50 ps_rc3 hq (ps_room hRm (by decide)) rfl rfl (Nat.le_of_ble_eq_true rfl) dX5_sameAtEnd_7 ?_
  refine ps_mmin C cw_X5_33 (by rw [hRm]; exact Nat.le_of_ble_eq_true rfl) (by rw [hRm]; exact Nat.le_of_ble_eq_true rfl) dX5_sameAtEnd_10 ?_
  refine ps_nmi (fun x3 ex3 => ?_)
  replace h := ps_lt ex3 h
  refine ps_istoren3 C rfl dX5_sameAtEnd_13 ?_
  refine ps_iconst C dX5_sameAtEnd_14 pi_0 ?_
  refine ps_istore4 C rfl dX5_sameAtEnd_15 ?_
  exact bk_X5_sameAtEnd_17 C hRm hfin hq ps_fu a1 a2 x3 (nI 0) _ h
set_option maxRecDepth 10000 in
theorem tt_X6_set (l : Launch) (b : Nat) (D : va_G) {q : Nat} (hq : ps_ck 0 q = true) {a1 : Int32} {a2 : Int32} {M M9 : ps_M} {r : Int32} (h : ff_X6_set q a1 a2 M = some (r, M9)) : ps_Ti l b D yX6_set cX6_set 3 .int 4 [.ref (b + q), .int a1, .int a2] M r M9 := by
  refine ps_met_i (own := RX6) (lv := [some (.ref (b + q)), some (.int a1), some (.int a2)]) (by decide) rfl rfl (Nat.le_of_ble_eq_true rfl) rfl (fun X eX1 eX2 eX3 hRm eX5 C hfin => ?_)
  subst eX1 eX2 eX3
  unfold ff_X6_set at h
  refine ps_aloadn0 C dX6_set_0 ?_
  refine gf_X6_19 C hq dX6_set_1 ?_
  refine ps_aloadn0 C dX6_set_4 ?_
  refine gf_X6_10 C hq dX6_set_5 ?_
  obtain ⟨r1, M1, hM1, h⟩ := ps_bd h
  refine ps_goV_v C (rest := []) (tt_X0_noteBefore (xl X) (xb X) (xD X) (kf_0_41 hq) (kf_0_1 hq) hM1) cw_X6_45 ps_rc12 (kf_0_41 hq) (ps_room hRm (by decide)) rfl rfl (Nat.le_of_ble_eq_true rfl) dX6_set_8 ?_
  refine ps_aloadn0 C dX6_set_11 ?_
  refine gf_X6_19 C hq dX6_set_12 ?_
  refine ps_aloadn0 C dX6_set_15 ?_
  refine gf_X6_10 C hq dX6_set_16 ?_
  refine ps_iloadn1 C dX6_set_19 ?_
  refine ps_iloadn2 C dX6_set_20 ?_
  obtain ⟨r2, M2, hM2, h⟩ := ps_bd h
  refine ps_goV_i C (rest := [.ref (xb X + (q + 41))]) (tt_X1_changeSetting (xl X) (xb X) (xD X) (kf_0_1 hq) hM2) cw_X6_49 ps_rc1 (kf_0_1 hq) (ps_room hRm (by decide)) rfl rfl (Nat.le_of_ble_eq_true rfl) dX6_set_21 ?_
  obtain ⟨r3, M3, hM3, h⟩ := ps_bd h
  refine ps_goV_i C (rest := []) (tt_X0_keepUnlessError (xl X) (xb X) (xD X) (kf_0_41 hq) hM3) cw_X6_53 ps_rc12 (kf_0_41 hq) (ps_room hRm (by decide)) rfl rfl (Nat.le_of_ble_eq_true rfl) dX6_set_24 ?_
  exact ps_end_i h hfin dX6_set_27 rfl
set_option maxRecDepth 10000 in
theorem tt_X6_parrot (l : Launch) (b : Nat) (D : va_G) {q : Nat} (hq : ps_ck 0 q = true) {M M9 : ps_M} {r : Int32} (h : ff_X6_parrot q  M = some (r, M9)) : ps_Ti l b D yX6_parrot cX6_parrot 1 .int 4 [.ref (b + q)] M r M9 := by
  refine ps_met_i (own := RX6) (lv := [some (.ref (b + q))]) (by decide) rfl rfl (Nat.le_of_ble_eq_true rfl) rfl (fun X eX1 eX2 eX3 hRm eX5 C hfin => ?_)
  subst eX1 eX2 eX3
  unfold ff_X6_parrot at h
  refine ps_aloadn0 C dX6_parrot_0 ?_
  refine gf_X6_19 C hq dX6_parrot_1 ?_
  refine ps_aloadn0 C dX6_parrot_4 ?_
  refine gf_X6_10 C hq dX6_parrot_5 ?_
  obtain ⟨r1, M1, hM1, h⟩ := ps_bd h
  refine ps_goV_v C (rest := []) (tt_X0_noteBefore (xl X) (xb X) (xD X) (kf_0_41 hq) (kf_0_1 hq) hM1) cw_X6_45 ps_rc12 (kf_0_41 hq) (ps_room hRm (by decide)) rfl rfl (Nat.le_of_ble_eq_true rfl) dX6_parrot_8 ?_
  refine ps_aloadn0 C dX6_parrot_11 ?_
  refine gf_X6_19 C hq dX6_parrot_12 ?_
  refine ps_aloadn0 C dX6_parrot_15 ?_
  refine gf_X6_10 C hq dX6_parrot_16 ?_
  obtain ⟨r2, M2, hM2, h⟩ := ps_bd h
  refine ps_goV_i C (rest := [.ref (xb X + (q + 41))]) (tt_X1_addParrot (xl X) (xb X) (xD X) (kf_0_1 hq) hM2) cw_X6_57 ps_rc1 (kf_0_1 hq) (ps_room hRm (by decide)) rfl rfl (Nat.le_of_ble_eq_true rfl) dX6_parrot_19 ?_
  obtain ⟨r3, M3, hM3, h⟩ := ps_bd h
  refine ps_goV_i C (rest := []) (tt_X0_keepUnlessError (xl X) (xb X) (xD X) (kf_0_41 hq) hM3) cw_X6_53 ps_rc12 (kf_0_41 hq) (ps_room hRm (by decide)) rfl rfl (Nat.le_of_ble_eq_true rfl) dX6_parrot_22 ?_
  exact ps_end_i h hfin dX6_parrot_25 rfl
set_option maxRecDepth 10000 in
theorem tt_X6_lesson (l : Launch) (b : Nat) (D : va_G) {q : Nat} (hq : ps_ck 0 q = true) {a1 : Int32} {a2 : Int32} {a3 : Int32} {M M9 : ps_M} {r : Int32} (h : ff_X6_lesson q a1 a2 a3 M = some (r, M9)) : ps_Ti l b D yX6_lesson cX6_lesson 4 .int 5 [.ref (b + q), .int a1, .int a2, .int a3] M r M9 := by
  refine ps_met_i (own := RX6) (lv := [some (.ref (b + q)), some (.int a1), some (.int a2), some (.int a3)]) (by decide) rfl rfl (Nat.le_of_ble_eq_true rfl) rfl (fun X eX1 eX2 eX3 hRm eX5 C hfin => ?_)
  subst eX1 eX2 eX3
  unfold ff_X6_lesson at h
  refine ps_aloadn0 C dX6_lesson_0 ?_
  refine gf_X6_19 C hq dX6_lesson_1 ?_
  refine ps_aloadn0 C dX6_lesson_4 ?_
  refine gf_X6_10 C hq dX6_lesson_5 ?_
  obtain ⟨r1, M1, hM1, h⟩ := ps_bd h
  refine ps_goV_v C (rest := []) (tt_X0_noteBefore (xl X) (xb X) (xD X) (kf_0_41 hq) (kf_0_1 hq) hM1) cw_X6_45 ps_rc12 (kf_0_41 hq) (ps_room hRm (by decide)) rfl rfl (Nat.le_of_ble_eq_true rfl) dX6_lesson_8 ?_
  refine ps_aloadn0 C dX6_lesson_11 ?_
  refine gf_X6_19 C hq dX6_lesson_12 ?_
  refine ps_aloadn0 C dX6_lesson_15 ?_
  refine gf_X6_10 C hq dX6_lesson_16 ?_
  refine ps_iloadn1 C dX6_lesson_19 ?_
  refine ps_iloadn2 C dX6_lesson_20 ?_
  refine ps_iloadn3 C dX6_lesson_21 ?_
  obtain ⟨r2, M2, hM2, h⟩ := ps_bd h
  refine ps_goV_i C (rest := [.ref (xb X + (q + 41))]) (tt_X1_teach (xl X) (xb X) (xD X) (kf_0_1 hq) hM2) cw_X6_61 ps_rc1 (kf_0_1 hq) (ps_room hRm (by decide)) rfl rfl (Nat.le_of_ble_eq_true rfl) dX6_lesson_22 ?_
  obtain ⟨r3, M3, hM3, h⟩ := ps_bd h
  refine ps_goV_i C (rest := []) (tt_X0_keepUnlessError (xl X) (xb X) (xD X) (kf_0_41 hq) hM3) cw_X6_53 ps_rc12 (kf_0_41 hq) (ps_room hRm (by decide)) rfl rfl (Nat.le_of_ble_eq_true rfl) dX6_lesson_25 ?_
  exact ps_end_i h hfin dX6_lesson_28 rfl
set_option maxRecDepth 10000 in
theorem tt_X6_hush (l : Launch) (b : Nat) (D : va_G) {q : Nat} (hq : ps_ck 0 q = true) {a1 : Int32} {M M9 : ps_M} {r : Int32} (h : ff_X6_hush q a1 M = some (r, M9)) : ps_Ti l b D yX6_hush cX6_hush 2 .int 4 [.ref (b + q), .int a1] M r M9 := by
  refine ps_met_i (own := RX6) (lv := [some (.ref (b + q)), some (.int a1)]) (by decide) rfl rfl (Nat.le_of_ble_eq_true rfl) rfl (fun X eX1 eX2 eX3 hRm eX5 C hfin => ?_)
  subst eX1 eX2 eX3
  unfold ff_X6_hush at h
  refine ps_aloadn0 C dX6_hush_0 ?_
  refine gf_X6_19 C hq dX6_hush_1 ?_
  refine ps_aloadn0 C dX6_hush_4 ?_
  refine gf_X6_10 C hq dX6_hush_5 ?_
  obtain ⟨r1, M1, hM1, h⟩ := ps_bd h
  refine ps_goV_v C (rest := []) (tt_X0_noteBefore (xl X) (xb X) (xD X) (kf_0_41 hq) (kf_0_1 hq) hM1) cw_X6_45 ps_rc12 (kf_0_41 hq) (ps_room hRm (by decide)) rfl rfl (Nat.le_of_ble_eq_true rfl) dX6_hush_8 ?_
  refine ps_aloadn0 C dX6_hush_11 ?_
  refine gf_X6_19 C hq dX6_hush_12 ?_
  refine ps_aloadn0 C dX6_hush_15 ?_
  refine gf_X6_10 C hq dX6_hush_16 ?_
  refine ps_iloadn1 C dX6_hush_19 ?_
  obtain ⟨r2, M2, hM2, h⟩ := ps_bd h
  refine ps_goV_i C (rest := [.ref (xb X + (q + 41))]) (tt_X1_silence (xl X) (xb X) (xD X) (kf_0_1 hq) hM2) cw_X6_65 ps_rc1 (kf_0_1 hq) (ps_room hRm (by decide)) rfl rfl (Nat.le_of_ble_eq_true rfl) dX6_hush_20 ?_
  obtain ⟨r3, M3, hM3, h⟩ := ps_bd h
  refine ps_goV_i C (rest := []) (tt_X0_keepUnlessError (xl X) (xb X) (xD X) (kf_0_41 hq) hM3) cw_X6_53 ps_rc12 (kf_0_41 hq) (ps_room hRm (by decide)) rfl rfl (Nat.le_of_ble_eq_true rfl) dX6_hush_23 ?_
  exact ps_end_i h hfin dX6_hush_26 rfl
set_option maxRecDepth 10000 in
theorem tt_X6_practise (l : Launch) (b : Nat) (D : va_G) {q : Nat} (hq : ps_ck 0 q = true) {a1 : Int32} {a2 : Int32} {M M9 : ps_M} {r : Int32} (h : ff_X6_practise q a1 a2 M = some (r, M9)) : ps_Ti l b D yX6_practise cX6_practise 3 .int 6 [.ref (b + q), .int a1, .int a2] M r M9 := by
  refine ps_met_i (own := RX6) (lv := [some (.ref (b + q)), some (.int a1), some (.int a2)]) (by decide) rfl rfl (Nat.le_of_ble_eq_true rfl) rfl (fun X eX1 eX2 eX3 hRm eX5 C hfin => ?_)
  subst eX1 eX2 eX3
  unfold ff_X6_practise at h
  refine ps_aloadn0 C dX6_practise_0 ?_
  refine gf_X6_19 C hq dX6_practise_1 ?_
  refine ps_aloadn0 C dX6_practise_4 ?_
  refine gf_X6_10 C hq dX6_practise_5 ?_
  obtain ⟨r1, M1, hM1, h⟩ := ps_bd h
  refine ps_goV_v C (rest := []) (tt_X0_noteBefore (xl X) (xb X) (xD X) (kf_0_41 hq) (kf_0_1 hq) hM1) cw_X6_45 ps_rc12 (kf_0_41 hq) (ps_room hRm (by decide)) rfl rfl (Nat.le_of_ble_eq_true rfl) dX6_practise_8 ?_
  refine ps_aloadn0 C dX6_practise_11 ?_
  refine gf_X6_19 C hq dX6_practise_12 ?_
  refine ps_aloadn0 C dX6_practise_15 ?_
  refine gf_X6_10 C hq dX6_practise_16 ?_
  refine ps_iloadn1 C dX6_practise_19 ?_
  refine ps_iloadn2 C dX6_practise_20 ?_
  obtain ⟨r2, M2, hM2, h⟩ := ps_bd h
  refine ps_goV_i C (rest := [.ref (xb X + (q + 41))]) (tt_X1_letPractise (xl X) (xb X) (xD X) (kf_0_1 hq) hM2) cw_X6_68 ps_rc1 (kf_0_1 hq) (ps_room hRm (by decide)) rfl rfl (Nat.le_of_ble_eq_true rfl) dX6_practise_21 ?_
  obtain ⟨r3, M3, hM3, h⟩ := ps_bd h
  refine ps_goV_i C (rest := []) (tt_X0_keepUnlessError (xl X) (xb X) (xD X) (kf_0_41 hq) hM3) cw_X6_53 ps_rc12 (kf_0_41 hq) (ps_room hRm (by decide)) rfl rfl (Nat.le_of_ble_eq_true rfl) dX6_practise_24 ?_
  exact ps_end_i h hfin dX6_practise_27 rfl
set_option maxRecDepth 10000 in
theorem tt_X6_night (l : Launch) (b : Nat) (D : va_G) {q : Nat} (hq : ps_ck 0 q = true) {M M9 : ps_M} {r : Int32} (h : ff_X6_night q  M = some (r, M9)) : ps_Ti l b D yX6_night cX6_night 1 .int 4 [.ref (b + q)] M r M9 := by
  refine ps_met_i (own := RX6) (lv := [some (.ref (b + q))]) (by decide) rfl rfl (Nat.le_of_ble_eq_true rfl) rfl (fun X eX1 eX2 eX3 hRm eX5 C hfin => ?_)
  subst eX1 eX2 eX3
  unfold ff_X6_night at h
  refine ps_aloadn0 C dX6_night_0 ?_
  refine gf_X6_19 C hq dX6_night_1 ?_
  refine ps_aloadn0 C dX6_night_4 ?_
  refine gf_X6_10 C hq dX6_night_5 ?_
  obtain ⟨r1, M1, hM1, h⟩ := ps_bd h
  refine ps_goV_v C (rest := []) (tt_X0_noteBefore (xl X) (xb X) (xD X) (kf_0_41 hq) (kf_0_1 hq) hM1) cw_X6_45 ps_rc12 (kf_0_41 hq) (ps_room hRm (by decide)) rfl rfl (Nat.le_of_ble_eq_true rfl) dX6_night_8 ?_
  refine ps_aloadn0 C dX6_night_11 ?_
  refine gf_X6_19 C hq dX6_night_12 ?_
  refine ps_aloadn0 C dX6_night_15 ?_
  refine gf_X6_10 C hq dX6_night_16 ?_
  obtain ⟨r2, M2, hM2, h⟩ := ps_bd h
  refine ps_goV_i C (rest := [.ref (xb X + (q + 41))]) (tt_X1_passNight (xl X) (xb X) (xD X) (kf_0_1 hq) hM2) cw_X6_71 ps_rc1 (kf_0_1 hq) (ps_room hRm (by decide)) rfl rfl (Nat.le_of_ble_eq_true rfl) dX6_night_19 ?_
  obtain ⟨r3, M3, hM3, h⟩ := ps_bd h
  refine ps_goV_i C (rest := []) (tt_X0_keepUnlessError (xl X) (xb X) (xD X) (kf_0_41 hq) hM3) cw_X6_53 ps_rc12 (kf_0_41 hq) (ps_room hRm (by decide)) rfl rfl (Nat.le_of_ble_eq_true rfl) dX6_night_22 ?_
  exact ps_end_i h hfin dX6_night_25 rfl
set_option maxRecDepth 10000 in
theorem tt_X6_ofSong (l : Launch) (b : Nat) (D : va_G) {q : Nat} (hq : ps_ck 0 q = true) {a1 : Int32} {a2 : Int32} {M M9 : ps_M} {r : Int32} (h : ff_X6_ofSong q a1 a2 M = some (r, M9)) : ps_Ti l b D yX6_ofSong cX6_ofSong 4 .int 6 [.ref (b + q), .int a1, .int a2] M r M9 := by
  refine ps_met_i (own := RX6) (lv := [some (.ref (b + q)), some (.int a1), some (.int a2), none]) (by decide) rfl rfl (Nat.le_of_ble_eq_true rfl) rfl (fun X eX1 eX2 eX3 hRm eX5 C hfin => ?_)
  subst eX1 eX2 eX3
  unfold ff_X6_ofSong at h
  refine ps_aloadn0 C dX6_ofSong_0 ?_
  refine gf_X6_10 C hq dX6_ofSong_1 ?_
  refine gf_X6_74 C (kf_0_1 hq) dX6_ofSong_4 ?_
  refine ps_astoren3 C rfl dX6_ofSong_7 ?_
  refine ps_aloadn3 C dX6_ofSong_8 ?_
  refine ps_iloadn1 C dX6_ofSong_9 ?_
  obtain ⟨r1, M1, hM1, h⟩ := ps_bd h
  refine ps_goV_i C (rest := []) (tt_X5_has (xl X) (xb X) (xD X) (kf_1_2 (kf_0_1 hq)) hM1) cw_X6_78 ps_rc3 (kf_1_2 (kf_0_1 hq)) (ps_room hRm (by decide)) rfl rfl (Nat.le_of_ble_eq_true rfl) dX6_ofSong_10 ?_
  refine ps_if_ne C 18 dX6_ofSong_13 rfl (fun c8 => ?_) (fun c8 => ?_)
  · replace h := ps_in0 c8 h
    refine ps_iloadn2 C dX6_ofSong_18 ?_
    by_cases c_19_0 : a2 = nI 0
    · replace h := ps_ip c_19_0 h
      refine ps_tabI C 0 (by rw [c_19_0]; rfl) 56 dX6_ofSong_19 (by decide) (by decide) rfl rfl ?_
      refine ps_aloadn3 C dX6_ofSong_56 ?_
      refine ps_iloadn1 C dX6_ofSong_57 ?_
      obtain ⟨r7, M7, hM7, h⟩ := ps_bd h
      refine ps_goV_i C (rest := []) (tt_X5_lengthOf (xl X) (xb X) (xD X) (kf_1_2 (kf_0_1 hq)) hM7) cw_X6_84 ps_rc3 (kf_1_2 (kf_0_1 hq)) (ps_room hRm (by decide)) rfl rfl (Nat.le_of_ble_eq_true rfl) dX6_ofSong_58 ?_
      exact ps_end_i h hfin dX6_ofSong_61 rfl
    · replace h := ps_in0 c_19_0 h
      by_cases c_19_1 : a2 = nI 1
      · replace h := ps_ip c_19_1 h
        refine ps_tabI C 1 (by rw [c_19_1]; rfl) 62 dX6_ofSong_19 (by decide) (by decide) rfl rfl ?_
        refine ps_aloadn3 C dX6_ofSong_62 ?_
        refine ps_iloadn1 C dX6_ofSong_63 ?_
        obtain ⟨r6, M6, hM6, h⟩ := ps_bd h
        refine ps_goV_i C (rest := []) (tt_X5_unlikeBars (xl X) (xb X) (xD X) (kf_1_2 (kf_0_1 hq)) hM6) cw_X6_87 ps_rc3 (kf_1_2 (kf_0_1 hq)) (ps_room hRm (by decide)) rfl rfl (Nat.le_of_ble_eq_true rfl) dX6_ofSong_64 ?_
        exact ps_end_i h hfin dX6_ofSong_67 rfl
      · replace h := ps_in0 c_19_1 h
        by_cases c_19_2 : a2 = nI 2
        · replace h := ps_ip c_19_2 h
          refine ps_tabI C 2 (by rw [c_19_2]; rfl) 68 dX6_ofSong_19 (by decide) (by decide) rfl rfl ?_
          refine ps_aloadn3 C dX6_ofSong_68 ?_
          refine ps_iloadn1 C dX6_ofSong_69 ?_
          refine ps_iconst C dX6_ofSong_70 pi_0 ?_
          obtain ⟨r5, M5, hM5, h⟩ := ps_bd h
          refine ps_goV_i C (rest := []) (tt_X5_barAt (xl X) (xb X) (xD X) (kf_1_2 (kf_0_1 hq)) hM5) cw_X6_90 ps_rc3 (kf_1_2 (kf_0_1 hq)) (ps_room hRm (by decide)) rfl rfl (Nat.le_of_ble_eq_true rfl) dX6_ofSong_71 ?_
          exact ps_end_i h hfin dX6_ofSong_74 rfl
        · replace h := ps_in0 c_19_2 h
          by_cases c_19_3 : a2 = nI 3
          · replace h := ps_ip c_19_3 h
            refine ps_tabI C 3 (by rw [c_19_3]; rfl) 75 dX6_ofSong_19 (by decide) (by decide) rfl rfl ?_
            refine ps_aloadn3 C dX6_ofSong_75 ?_
            refine ps_iloadn1 C dX6_ofSong_76 ?_
            obtain ⟨r4, M4, hM4, h⟩ := ps_bd h
            refine ps_goV_i C (rest := []) (tt_X5_lastBar (xl X) (xb X) (xD X) (kf_1_2 (kf_0_1 hq)) hM4) cw_X6_93 ps_rc3 (kf_1_2 (kf_0_1 hq)) (ps_room hRm (by decide)) rfl rfl (Nat.le_of_ble_eq_true rfl) dX6_ofSong_77 ?_
            exact ps_end_i h hfin dX6_ofSong_80 rfl
          · replace h := ps_in0 c_19_3 h
            by_cases c_19_4 : a2 = nI 4
            · replace h := ps_ip c_19_4 h
              refine ps_tabI C 4 (by rw [c_19_4]; rfl) 81 dX6_ofSong_19 (by decide) (by decide) rfl rfl ?_
              refine ps_aloadn3 C dX6_ofSong_81 ?_
              refine ps_iloadn1 C dX6_ofSong_82 ?_
              obtain ⟨r3, M3, hM3, h⟩ := ps_bd h
              refine ps_goV_i C (rest := []) (tt_X5_lessonsWith (xl X) (xb X) (xD X) (kf_1_2 (kf_0_1 hq)) hM3) cw_X6_96 ps_rc3 (kf_1_2 (kf_0_1 hq)) (ps_room hRm (by decide)) rfl rfl (Nat.le_of_ble_eq_true rfl) dX6_ofSong_83 ?_
              exact ps_end_i h hfin dX6_ofSong_86 rfl
            · replace h := ps_in0 c_19_4 h
              by_cases c_19_5 : a2 = nI 5
              · replace h := ps_ip c_19_5 h
                refine ps_tabI C 5 (by rw [c_19_5]; rfl) 87 dX6_ofSong_19 (by decide) (by decide) rfl rfl ?_
                refine ps_aloadn0 C dX6_ofSong_87 ?_
                refine gf_X6_10 C hq dX6_ofSong_88 ?_
                refine ps_iloadn1 C dX6_ofSong_91 ?_
                obtain ⟨r2, M2, hM2, h⟩ := ps_bd h
                refine ps_goV_i C (rest := []) (tt_X1_parrotsKnowing (xl X) (xb X) (xD X) (kf_0_1 hq) hM2) cw_X6_99 ps_rc1 (kf_0_1 hq) (ps_room hRm (by decide)) rfl rfl (Nat.le_of_ble_eq_true rfl) dX6_ofSong_92 ?_
                exact ps_end_i h hfin dX6_ofSong_95 rfl
              · replace h := ps_in0 c_19_5 h
                have hdf : ps_G X M1 96 [some (.ref (xb X + q)), some (.int a1), some (.int a2), some (.ref (xb X + ((q + 1) + 2)))] [] := by
                  refine ps_bipush C dX6_ofSong_96 pb_m2 ?_
                  exact ps_end_i h hfin dX6_ofSong_98 rfl
                by_cases q1 : a2.toInt < 0
                · exact ps_tabO C 96 dX6_ofSong_19 (Or.inl q1) rfl hdf
                by_cases q2 : 5 < a2.toInt
                · exact ps_tabO C 96 dX6_ofSong_19 (Or.inr q2) rfl hdf
                exfalso
                rcases (by omega : a2.toInt = 0 ∨ a2.toInt = 1 ∨ a2.toInt = 2 ∨ a2.toInt = 3 ∨ a2.toInt = 4 ∨ a2.toInt = 5) with q3 | q3 | q3 | q3 | q3 | q3
                · exact absurd (pz_0 q3) c_19_0
                · exact absurd (pz_1 q3) c_19_1
                · exact absurd (pz_2 q3) c_19_2
                · exact absurd (pz_3 q3) c_19_3
                · exact absurd (pz_4 q3) c_19_4
                · exact absurd (pz_5 q3) c_19_5
  · replace h := ps_ip c8 h
    refine ps_iconst C dX6_ofSong_16 pi_m1 ?_
    exact ps_end_i h hfin dX6_ofSong_17 rfl
set_option maxRecDepth 10000 in
theorem tt_X6_bar (l : Launch) (b : Nat) (D : va_G) {q : Nat} (hq : ps_ck 0 q = true) {a1 : Int32} {a2 : Int32} {M M9 : ps_M} {r : Int32} (h : ff_X6_bar q a1 a2 M = some (r, M9)) : ps_Ti l b D yX6_bar cX6_bar 3 .int 3 [.ref (b + q), .int a1, .int a2] M r M9 := by
  refine ps_met_i (own := RX6) (lv := [some (.ref (b + q)), some (.int a1), some (.int a2)]) (by decide) rfl rfl (Nat.le_of_ble_eq_true rfl) rfl (fun X eX1 eX2 eX3 hRm eX5 C hfin => ?_)
  subst eX1 eX2 eX3
  unfold ff_X6_bar at h
  refine ps_aloadn0 C dX6_bar_0 ?_
  refine gf_X6_10 C hq dX6_bar_1 ?_
  refine gf_X6_74 C (kf_0_1 hq) dX6_bar_4 ?_
  refine ps_iloadn1 C dX6_bar_7 ?_
  refine ps_iloadn2 C dX6_bar_8 ?_
  obtain ⟨r1, M1, hM1, h⟩ := ps_bd h
  refine ps_goV_i C (rest := []) (tt_X5_hasBar (xl X) (xb X) (xD X) (kf_1_2 (kf_0_1 hq)) hM1) cw_X6_102 ps_rc3 (kf_1_2 (kf_0_1 hq)) (ps_room hRm (by decide)) rfl rfl (Nat.le_of_ble_eq_true rfl) dX6_bar_9 ?_
  refine ps_if_ne C 17 dX6_bar_12 rfl (fun c3 => ?_) (fun c3 => ?_)
  · replace h := ps_in0 c3 h
    refine ps_aloadn0 C dX6_bar_17 ?_
    refine gf_X6_10 C hq dX6_bar_18 ?_
    refine gf_X6_74 C (kf_0_1 hq) dX6_bar_21 ?_
    refine ps_iloadn1 C dX6_bar_24 ?_
    refine ps_iloadn2 C dX6_bar_25 ?_
    obtain ⟨r2, M2, hM2, h⟩ := ps_bd h
    refine ps_goV_i C (rest := []) (tt_X5_barAt (xl X) (xb X) (xD X) (kf_1_2 (kf_0_1 hq)) hM2) cw_X6_90 ps_rc3 (kf_1_2 (kf_0_1 hq)) (ps_room hRm (by decide)) rfl rfl (Nat.le_of_ble_eq_true rfl) dX6_bar_26 ?_
    exact ps_end_i h hfin dX6_bar_29 rfl
  · replace h := ps_ip c3 h
    refine ps_iconst C dX6_bar_15 pi_m1 ?_
    exact ps_end_i h hfin dX6_bar_16 rfl
set_option maxRecDepth 10000 in
theorem tt_X6_of (l : Launch) (b : Nat) (D : va_G) {q : Nat} (hq : ps_ck 0 q = true) {a1 : Int32} {a2 : Int32} {M M9 : ps_M} {r : Int32} (h : ff_X6_of q a1 a2 M = some (r, M9)) : ps_Ti l b D yX6_of cX6_of 4 .int 6 [.ref (b + q), .int a1, .int a2] M r M9 := by
  refine ps_met_i (own := RX6) (lv := [some (.ref (b + q)), some (.int a1), some (.int a2), none]) (by decide) rfl rfl (Nat.le_of_ble_eq_true rfl) rfl (fun X eX1 eX2 eX3 hRm eX5 C hfin => ?_)
  subst eX1 eX2 eX3
  unfold ff_X6_of at h
  refine ps_aloadn0 C dX6_of_0 ?_
  refine gf_X6_10 C hq dX6_of_1 ?_
  refine ps_iloadn1 C dX6_of_4 ?_
  obtain ⟨r1, M1, hM1, h⟩ := ps_bd h
  refine ps_goV_i C (rest := []) (tt_X1_hasParrot (xl X) (xb X) (xD X) (kf_0_1 hq) hM1) cw_X6_106 ps_rc1 (kf_0_1 hq) (ps_room hRm (by decide)) rfl rfl (Nat.le_of_ble_eq_true rfl) dX6_of_5 ?_
  refine ps_if_ne C 13 dX6_of_8 rfl (fun c5 => ?_) (fun c5 => ?_)
  · replace h := ps_in0 c5 h
    refine ps_aloadn0 C dX6_of_13 ?_
    refine gf_X6_10 C hq dX6_of_14 ?_
    refine gf_X6_109 C (kf_0_1 hq) dX6_of_17 ?_
    refine ps_iloadn1 C dX6_of_20 ?_
    obtain ⟨hi2, h⟩ := ps_gd h
    refine ps_ald7 C (kf_1_14 (kf_0_1 hq)) hi2 dX6_of_21 ?_
    refine ps_astoren3 C rfl dX6_of_22 ?_
    refine ps_iloadn2 C dX6_of_23 ?_
    by_cases c_24_0 : a2 = nI 0
    · replace h := ps_ip c_24_0 h
      refine ps_tabI C 0 (by rw [c_24_0]; rfl) 68 dX6_of_24 (by decide) (by decide) rfl rfl ?_
      refine ps_aloadn3 C dX6_of_68 ?_
      refine gf_X6_113 C (ke_7 (kf_1_14 (kf_0_1 hq)) hi2) dX6_of_69 ?_
      exact ps_end_i h hfin dX6_of_72 rfl
    · replace h := ps_in0 c_24_0 h
      by_cases c_24_1 : a2 = nI 1
      · replace h := ps_ip c_24_1 h
        refine ps_tabI C 1 (by rw [c_24_1]; rfl) 73 dX6_of_24 (by decide) (by decide) rfl rfl ?_
        refine ps_aloadn3 C dX6_of_73 ?_
        obtain ⟨r4, M4, hM4, h⟩ := ps_bd h
        refine ps_goV_i C (rest := []) (tt_X3_strengthInAll (xl X) (xb X) (xD X) (ke_7 (kf_1_14 (kf_0_1 hq)) hi2) hM4) cw_X6_117 ps_rc9 (ke_7 (kf_1_14 (kf_0_1 hq)) hi2) (ps_room hRm (by decide)) rfl rfl (Nat.le_of_ble_eq_true rfl) dX6_of_74 ?_
        exact ps_end_i h hfin dX6_of_77 rfl
      · replace h := ps_in0 c_24_1 h
        by_cases c_24_2 : a2 = nI 2
        · replace h := ps_ip c_24_2 h
          refine ps_tabI C 2 (by rw [c_24_2]; rfl) 78 dX6_of_24 (by decide) (by decide) rfl rfl ?_
          refine ps_aloadn3 C dX6_of_78 ?_
          refine gf_X6_120 C (ke_7 (kf_1_14 (kf_0_1 hq)) hi2) dX6_of_79 ?_
          exact ps_end_i h hfin dX6_of_82 rfl
        · replace h := ps_in0 c_24_2 h
          by_cases c_24_3 : a2 = nI 3
          · replace h := ps_ip c_24_3 h
            refine ps_tabI C 3 (by rw [c_24_3]; rfl) 83 dX6_of_24 (by decide) (by decide) rfl rfl ?_
            refine ps_aloadn3 C dX6_of_83 ?_
            refine gf_X6_123 C (ke_7 (kf_1_14 (kf_0_1 hq)) hi2) dX6_of_84 ?_
            exact ps_end_i h hfin dX6_of_87 rfl
          · replace h := ps_in0 c_24_3 h
            by_cases c_24_4 : a2 = nI 4
            · replace h := ps_ip c_24_4 h
              refine ps_tabI C 4 (by rw [c_24_4]; rfl) 88 dX6_of_24 (by decide) (by decide) rfl rfl ?_
              refine ps_aloadn3 C dX6_of_88 ?_
              refine gf_X6_126 C (ke_7 (kf_1_14 (kf_0_1 hq)) hi2) dX6_of_89 ?_
              exact ps_end_i h hfin dX6_of_92 rfl
            · replace h := ps_in0 c_24_4 h
              by_cases c_24_5 : a2 = nI 5
              · replace h := ps_ip c_24_5 h
                refine ps_tabI C 5 (by rw [c_24_5]; rfl) 93 dX6_of_24 (by decide) (by decide) rfl rfl ?_
                refine ps_aloadn3 C dX6_of_93 ?_
                refine gf_X6_129 C (ke_7 (kf_1_14 (kf_0_1 hq)) hi2) dX6_of_94 ?_
                exact ps_end_i h hfin dX6_of_97 rfl
              · replace h := ps_in0 c_24_5 h
                by_cases c_24_6 : a2 = nI 6
                · replace h := ps_ip c_24_6 h
                  refine ps_tabI C 6 (by rw [c_24_6]; rfl) 98 dX6_of_24 (by decide) (by decide) rfl rfl ?_
                  refine ps_aloadn0 C dX6_of_98 ?_
                  refine gf_X6_10 C hq dX6_of_99 ?_
                  refine gf_X6_74 C (kf_0_1 hq) dX6_of_102 ?_
                  refine ps_aloadn3 C dX6_of_105 ?_
                  obtain ⟨r3, M3, hM3, h⟩ := ps_bd h
                  refine ps_goV_i C (rest := []) (tt_X5_knownBy (xl X) (xb X) (xD X) (kf_1_2 (kf_0_1 hq)) (ke_7 (kf_1_14 (kf_0_1 hq)) hi2) hM3) cw_X6_132 ps_rc3 (kf_1_2 (kf_0_1 hq)) (ps_room hRm (by decide)) rfl rfl (Nat.le_of_ble_eq_true rfl) dX6_of_106 ?_
                  exact ps_end_i h hfin dX6_of_109 rfl
                · replace h := ps_in0 c_24_6 h
                  have hdf : ps_G X M1 110 [some (.ref (xb X + q)), some (.int a1), some (.int a2), some (.ref (xb X + (((q + 1) + 14) + 2 + 6 * a1.toNatClampNeg)))] [] := by
                    refine ps_bipush C dX6_of_110 pb_m2 ?_
                    exact ps_end_i h hfin dX6_of_112 rfl
                  by_cases q1 : a2.toInt < 0
                  · exact ps_tabO C 110 dX6_of_24 (Or.inl q1) rfl hdf
                  by_cases q2 : 6 < a2.toInt
                  · exact ps_tabO C 110 dX6_of_24 (Or.inr q2) rfl hdf
                  exfalso
                  rcases (by omega : a2.toInt = 0 ∨ a2.toInt = 1 ∨ a2.toInt = 2 ∨ a2.toInt = 3 ∨ a2.toInt = 4 ∨ a2.toInt = 5 ∨ a2.toInt = 6) with q3 | q3 | q3 | q3 | q3 | q3 | q3
                  · exact absurd (pz_0 q3) c_24_0
                  · exact absurd (pz_1 q3) c_24_1
                  · exact absurd (pz_2 q3) c_24_2
                  · exact absurd (pz_3 q3) c_24_3
                  · exact absurd (pz_4 q3) c_24_4
                  · exact absurd (pz_5 q3) c_24_5
                  · exact absurd (pz_6 q3) c_24_6
  · replace h := ps_ip c5 h
    refine ps_iconst C dX6_of_11 pi_m1 ?_
    exact ps_end_i h hfin dX6_of_12 rfl
set_option maxRecDepth 10000 in
theorem tt_X6_link (l : Launch) (b : Nat) (D : va_G) {q : Nat} (hq : ps_ck 0 q = true) {a1 : Int32} {a2 : Int32} {a3 : Int32} {M M9 : ps_M} {r : Int32} (h : ff_X6_link q a1 a2 a3 M = some (r, M9)) : ps_Ti l b D yX6_link cX6_link 4 .int 1 [.ref (b + q), .int a1, .int a2, .int a3] M r M9 := by
  refine ps_met_i (own := RX6) (lv := [some (.ref (b + q)), some (.int a1), some (.int a2), some (.int a3)]) (by decide) rfl rfl (Nat.le_of_ble_eq_true rfl) rfl (fun X eX1 eX2 eX3 hRm eX5 C hfin => ?_)
  subst eX1 eX2 eX3
  unfold ff_X6_link at h
  refine ps_aloadn0 C dX6_link_0 ?_
  refine gf_X6_10 C hq dX6_link_1 ?_
  refine ps_iloadn1 C dX6_link_4 ?_
  obtain ⟨r1, M1, hM1, h⟩ := ps_bd h
  refine ps_goV_i C (rest := []) (tt_X1_hasParrot (xl X) (xb X) (xD X) (kf_0_1 hq) hM1) cw_X6_106 ps_rc1 (kf_0_1 hq) (ps_room hRm (by decide)) rfl rfl (Nat.le_of_ble_eq_true rfl) dX6_link_5 ?_
  refine ps_if_eq C 31 dX6_link_8 rfl (fun c9 => ?_) (fun c9 => ?_)
  · replace h := ps_ip c9 h
    refine ps_iconst C dX6_link_31 pi_m1 ?_
    exact ps_end_i h hfin dX6_link_32 rfl
  · replace h := ps_in0 c9 h
    refine ps_iloadn2 C dX6_link_11 ?_
    refine ps_if_lt C 31 dX6_link_12 rfl (fun c8 => ?_) (fun c8 => ?_)
    · replace h := ps_ip c8 h
      refine ps_iconst C dX6_link_31 pi_m1 ?_
      exact ps_end_i h hfin dX6_link_32 rfl
    · replace h := ps_in0 c8 h
      refine ps_iloadn2 C dX6_link_15 ?_
      refine ps_aloadn0 C dX6_link_16 ?_
      refine gf_X6_10 C hq dX6_link_17 ?_
      refine gf_X6_109 C (kf_0_1 hq) dX6_link_20 ?_
      refine ps_iloadn1 C dX6_link_23 ?_
      obtain ⟨hi2, h⟩ := ps_gd h
      refine ps_ald7 C (kf_1_14 (kf_0_1 hq)) hi2 dX6_link_24 ?_
      refine gf_X6_113 C (ke_7 (kf_1_14 (kf_0_1 hq)) hi2) dX6_link_25 ?_
      refine ps_ic_lt C 33 dX6_link_28 rfl (fun c7 => ?_) (fun c7 => ?_)
      · replace h := ps_ip c7 h
        refine ps_iloadn3 C dX6_link_33 ?_
        refine ps_if_lt C 42 dX6_link_34 rfl (fun c6 => ?_) (fun c6 => ?_)
        · replace h := ps_ip c6 h
          refine ps_bipush C dX6_link_42 pb_m2 ?_
          exact ps_end_i h hfin dX6_link_44 rfl
        · replace h := ps_in0 c6 h
          refine ps_iloadn3 C dX6_link_37 ?_
          refine ps_iconst C dX6_link_38 pi_4 ?_
          refine ps_ic_lt C 45 dX6_link_39 rfl (fun c5 => ?_) (fun c5 => ?_)
          · replace h := ps_ip c5 h
            refine ps_aloadn0 C dX6_link_45 ?_
            refine gf_X6_10 C hq dX6_link_46 ?_
            refine gf_X6_109 C (kf_0_1 hq) dX6_link_49 ?_
            refine ps_iloadn1 C dX6_link_52 ?_
            obtain ⟨hi3, h⟩ := ps_gd h
            refine ps_ald7 C (kf_1_14 (kf_0_1 hq)) hi3 dX6_link_53 ?_
            refine ps_iloadn2 C dX6_link_54 ?_
            refine ps_iloadn3 C dX6_link_55 ?_
            obtain ⟨r4, M4, hM4, h⟩ := ps_bd h
            refine ps_goV_i C (rest := []) (tt_X3_ofLink (xl X) (xb X) (xD X) (ke_7 (kf_1_14 (kf_0_1 hq)) hi3) hM4) cw_X6_136 ps_rc9 (ke_7 (kf_1_14 (kf_0_1 hq)) hi3) (ps_room hRm (by decide)) rfl rfl (Nat.le_of_ble_eq_true rfl) dX6_link_56 ?_
            exact ps_end_i h hfin dX6_link_59 rfl
          · replace h := ps_in0 c5 h
            refine ps_bipush C dX6_link_42 pb_m2 ?_
            exact ps_end_i h hfin dX6_link_44 rfl
      · replace h := ps_in0 c7 h
        refine ps_iconst C dX6_link_31 pi_m1 ?_
        exact ps_end_i h hfin dX6_link_32 rfl
set_option maxRecDepth 10000 in
theorem bk_X6_sings_42 {X : ps_X} (C : ps_C X RX6 cX6_sings) (hRm : xR X = ps_lvl 1) {r : Int32} {M9 : ps_M} (hfin : ∀ pc lv, decode cX6_sings pc = .ok (.ireturn, 1) → narrow .int (.int r) = .int r → ps_G X M9 pc lv [.int r]) {q : Nat} (hq : ps_ck 0 q = true) : ∀ (n : Nat) (a1 : Int32) (a2 : Int32) (a3 : Int32) (a4 : Int32) (a5 : Int32) (M : ps_M), fk_X6_sings_42 q n a1 a2 a3 a4 a5 M = some (r, M9) → ps_G X M 42 [some (.ref (xb X + q)), some (.int a1), some (.int a2), some (.int a3), some (.int a4), some (.int a5)] [] := by
  intro n
  induction n with
  | zero => intro a1 a2 a3 a4 a5 M h; rw [fk_X6_sings_42] at h; cases h
  | succ n ih =>
    intro a1 a2 a3 a4 a5 M h
    rw [fk_X6_sings_42] at h
    refine ps_iload5 C dX6_sings_42 ?_
    refine ps_iloadn3 C dX6_sings_44 ?_
    refine ps_ic_ge C 77 dX6_sings_45 rfl (fun c6 => ?_) (fun c6 => ?_)
    · replace h := ps_ip c6 h
      refine ps_iload4 C dX6_sings_77 ?_
      exact ps_end_i h hfin dX6_sings_79 rfl
    · replace h := ps_in0 c6 h
      refine ps_iload4 C dX6_sings_48 ?_
      refine ps_bipush C dX6_sings_50 pb_m6 ?_
      refine ps_ic_eq C 77 dX6_sings_52 rfl (fun c5 => ?_) (fun c5 => ?_)
      · replace h := ps_ip c5 h
        refine ps_iload4 C dX6_sings_77 ?_
        exact ps_end_i h hfin dX6_sings_79 rfl
      · replace h := ps_in0 c5 h
        refine ps_aloadn0 C dX6_sings_55 ?_
        refine gf_X6_10 C hq dX6_sings_56 ?_
        refine gf_X6_109 C (kf_0_1 hq) dX6_sings_59 ?_
        refine ps_iloadn1 C dX6_sings_62 ?_
        obtain ⟨hi2, h⟩ := ps_gd h
        refine ps_ald7 C (kf_1_14 (kf_0_1 hq)) hi2 dX6_sings_63 ?_
        refine ps_iload4 C dX6_sings_64 ?_
        obtain ⟨r3, M3, hM3, h⟩ := ps_bd h
        refine ps_goV_i C (rest := []) (tt_X3_nextBehind (xl X) (xb X) (xD X) (ke_7 (kf_1_14 (kf_0_1 hq)) hi2) hM3) cw_X6_139 ps_rc9 (ke_7 (kf_1_14 (kf_0_1 hq)) hi2) (ps_room hRm (by decide)) rfl rfl (Nat.le_of_ble_eq_true rfl) dX6_sings_66 ?_
        refine ps_istore4 C rfl dX6_sings_69 ?_
        refine ps_iinc5 C rfl (nI 1) pi_1 dX6_sings_71 (fun x4 ex4 => ?_)
        replace h := ps_lt ex4 h
        refine ps_goto C 42 dX6_sings_74 rfl ?_
        exact ih a1 a2 a3 r3 x4 _ h
set_option maxRecDepth 10000 in
theorem tt_X6_sings (l : Launch) (b : Nat) (D : va_G) {q : Nat} (hq : ps_ck 0 q = true) {a1 : Int32} {a2 : Int32} {a3 : Int32} {M M9 : ps_M} {r : Int32} (h : ff_X6_sings q a1 a2 a3 M = some (r, M9)) : ps_Ti l b D yX6_sings cX6_sings 6 .int 1 [.ref (b + q), .int a1, .int a2, .int a3] M r M9 := by
  refine ps_met_i (own := RX6) (lv := [some (.ref (b + q)), some (.int a1), some (.int a2), some (.int a3), none, none]) (by decide) rfl rfl (Nat.le_of_ble_eq_true rfl) rfl (fun X eX1 eX2 eX3 hRm eX5 C hfin => ?_)
  subst eX1 eX2 eX3
  unfold ff_X6_sings at h
  refine ps_aloadn0 C dX6_sings_0 ?_
  refine gf_X6_10 C hq dX6_sings_1 ?_
  refine ps_iloadn1 C dX6_sings_4 ?_
  obtain ⟨r1, M1, hM1, h⟩ := ps_bd h
  refine ps_goV_i C (rest := []) (tt_X1_hasParrot (xl X) (xb X) (xD X) (kf_0_1 hq) hM1) cw_X6_106 ps_rc1 (kf_0_1 hq) (ps_room hRm (by decide)) rfl rfl (Nat.le_of_ble_eq_true rfl) dX6_sings_5 ?_
  refine ps_if_ne C 13 dX6_sings_8 rfl (fun c11 => ?_) (fun c11 => ?_)
  · replace h := ps_in0 c11 h
    refine ps_iloadn2 C dX6_sings_13 ?_
    refine ps_if_lt C 33 dX6_sings_14 rfl (fun c10 => ?_) (fun c10 => ?_)
    · replace h := ps_ip c10 h
      refine ps_bipush C dX6_sings_33 pb_m2 ?_
      exact ps_end_i h hfin dX6_sings_35 rfl
    · replace h := ps_in0 c10 h
      refine ps_iloadn2 C dX6_sings_17 ?_
      refine ps_bipush C dX6_sings_18 pb_26 ?_
      refine ps_ic_ge C 33 dX6_sings_20 rfl (fun c9 => ?_) (fun c9 => ?_)
      · replace h := ps_ip c9 h
        refine ps_bipush C dX6_sings_33 pb_m2 ?_
        exact ps_end_i h hfin dX6_sings_35 rfl
      · replace h := ps_in0 c9 h
        refine ps_iloadn3 C dX6_sings_23 ?_
        refine ps_if_lt C 33 dX6_sings_24 rfl (fun c8 => ?_) (fun c8 => ?_)
        · replace h := ps_ip c8 h
          refine ps_bipush C dX6_sings_33 pb_m2 ?_
          exact ps_end_i h hfin dX6_sings_35 rfl
        · replace h := ps_in0 c8 h
          refine ps_iloadn3 C dX6_sings_27 ?_
          refine ps_bipush C dX6_sings_28 pb_99 ?_
          refine ps_ic_le C 36 dX6_sings_30 rfl (fun c7 => ?_) (fun c7 => ?_)
          · replace h := ps_ip c7 h
            refine ps_iloadn2 C dX6_sings_36 ?_
            refine ps_istore4 C rfl dX6_sings_37 ?_
            refine ps_iconst C dX6_sings_39 pi_0 ?_
            refine ps_istore5 C rfl dX6_sings_40 ?_
            exact bk_X6_sings_42 C hRm hfin hq ps_fu a1 a2 a3 a2 (nI 0) _ h
          · replace h := ps_in0 c7 h
            refine ps_bipush C dX6_sings_33 pb_m2 ?_
            exact ps_end_i h hfin dX6_sings_35 rfl
  · replace h := ps_ip c11 h
    refine ps_iconst C dX6_sings_11 pi_m1 ?_
    exact ps_end_i h hfin dX6_sings_12 rfl
set_option maxRecDepth 10000 in
theorem tt_X6_knows (l : Launch) (b : Nat) (D : va_G) {q : Nat} (hq : ps_ck 0 q = true) {a1 : Int32} {a2 : Int32} {M M9 : ps_M} {r : Int32} (h : ff_X6_knows q a1 a2 M = some (r, M9)) : ps_Ti l b D yX6_knows cX6_knows 3 .int 5 [.ref (b + q), .int a1, .int a2] M r M9 := by
  refine ps_met_i (own := RX6) (lv := [some (.ref (b + q)), some (.int a1), some (.int a2)]) (by decide) rfl rfl (Nat.le_of_ble_eq_true rfl) rfl (fun X eX1 eX2 eX3 hRm eX5 C hfin => ?_)
  subst eX1 eX2 eX3
  unfold ff_X6_knows at h
  refine ps_aloadn0 C dX6_knows_0 ?_
  refine gf_X6_10 C hq dX6_knows_1 ?_
  refine ps_iloadn1 C dX6_knows_4 ?_
  obtain ⟨r1, M1, hM1, h⟩ := ps_bd h
  refine ps_goV_i C (rest := []) (tt_X1_hasParrot (xl X) (xb X) (xD X) (kf_0_1 hq) hM1) cw_X6_106 ps_rc1 (kf_0_1 hq) (ps_room hRm (by decide)) rfl rfl (Nat.le_of_ble_eq_true rfl) dX6_knows_5 ?_
  refine ps_if_eq C 25 dX6_knows_8 rfl (fun c6 => ?_) (fun c6 => ?_)
  · replace h := ps_ip c6 h
    refine ps_iconst C dX6_knows_25 pi_m1 ?_
    exact ps_end_i h hfin dX6_knows_26 rfl
  · replace h := ps_in0 c6 h
    refine ps_aloadn0 C dX6_knows_11 ?_
    refine gf_X6_10 C hq dX6_knows_12 ?_
    refine gf_X6_74 C (kf_0_1 hq) dX6_knows_15 ?_
    refine ps_iloadn2 C dX6_knows_18 ?_
    obtain ⟨r2, M2, hM2, h⟩ := ps_bd h
    refine ps_goV_i C (rest := []) (tt_X5_has (xl X) (xb X) (xD X) (kf_1_2 (kf_0_1 hq)) hM2) cw_X6_78 ps_rc3 (kf_1_2 (kf_0_1 hq)) (ps_room hRm (by decide)) rfl rfl (Nat.le_of_ble_eq_true rfl) dX6_knows_19 ?_
    refine ps_if_ne C 27 dX6_knows_22 rfl (fun c5 => ?_) (fun c5 => ?_)
    · replace h := ps_in0 c5 h
      refine ps_aloadn0 C dX6_knows_27 ?_
      refine gf_X6_10 C hq dX6_knows_28 ?_
      refine gf_X6_74 C (kf_0_1 hq) dX6_knows_31 ?_
      refine ps_aloadn0 C dX6_knows_34 ?_
      refine gf_X6_10 C hq dX6_knows_35 ?_
      refine gf_X6_109 C (kf_0_1 hq) dX6_knows_38 ?_
      refine ps_iloadn1 C dX6_knows_41 ?_
      obtain ⟨hi3, h⟩ := ps_gd h
      refine ps_ald7 C (kf_1_14 (kf_0_1 hq)) hi3 dX6_knows_42 ?_
      refine ps_iloadn2 C dX6_knows_43 ?_
      obtain ⟨r4, M4, hM4, h⟩ := ps_bd h
      refine ps_goV_i C (rest := []) (tt_X5_hundredths (xl X) (xb X) (xD X) (kf_1_2 (kf_0_1 hq)) (ke_7 (kf_1_14 (kf_0_1 hq)) hi3) hM4) cw_X6_142 ps_rc3 (kf_1_2 (kf_0_1 hq)) (ps_room hRm (by decide)) rfl rfl (Nat.le_of_ble_eq_true rfl) dX6_knows_44 ?_
      exact ps_end_i h hfin dX6_knows_47 rfl
    · replace h := ps_ip c5 h
      refine ps_iconst C dX6_knows_25 pi_m1 ?_
      exact ps_end_i h hfin dX6_knows_26 rfl
set_option maxRecDepth 10000 in
theorem tt_X6_mistake (l : Launch) (b : Nat) (D : va_G) {q : Nat} (hq : ps_ck 0 q = true) {a1 : Int32} {a2 : Int32} {a3 : Int32} {M M9 : ps_M} {r : Int32} (h : ff_X6_mistake q a1 a2 a3 M = some (r, M9)) : ps_Ti l b D yX6_mistake cX6_mistake 9 .int 5 [.ref (b + q), .int a1, .int a2, .int a3] M r M9 := by
  refine ps_met_i (own := RX6) (lv := [some (.ref (b + q)), some (.int a1), some (.int a2), some (.int a3), none, none, none, none, none]) (by decide) rfl rfl (Nat.le_of_ble_eq_true rfl) rfl (fun X eX1 eX2 eX3 hRm eX5 C hfin => ?_)
  subst eX1 eX2 eX3
  unfold ff_X6_mistake at h
  refine ps_aloadn0 C dX6_mistake_0 ?_
  refine gf_X6_10 C hq dX6_mistake_1 ?_
  refine gf_X6_74 C (kf_0_1 hq) dX6_mistake_4 ?_
  refine ps_astore4 C rfl dX6_mistake_7 ?_
  refine ps_aloadn0 C dX6_mistake_9 ?_
  refine gf_X6_10 C hq dX6_mistake_10 ?_
  refine ps_iloadn1 C dX6_mistake_13 ?_
  obtain ⟨r1, M1, hM1, h⟩ := ps_bd h
  refine ps_goV_i C (rest := []) (tt_X1_hasParrot (xl X) (xb X) (xD X) (kf_0_1 hq) hM1) cw_X6_106 ps_rc1 (kf_0_1 hq) (ps_room hRm (by decide)) rfl rfl (Nat.le_of_ble_eq_true rfl) dX6_mistake_14 ?_
  refine ps_if_eq C 29 dX6_mistake_17 rfl (fun c15 => ?_) (fun c15 => ?_)
  · replace h := ps_ip c15 h
    refine ps_iconst C dX6_mistake_29 pi_m1 ?_
    exact ps_end_i h hfin dX6_mistake_30 rfl
  · replace h := ps_in0 c15 h
    refine ps_aload4 C dX6_mistake_20 ?_
    refine ps_iloadn2 C dX6_mistake_22 ?_
    obtain ⟨r2, M2, hM2, h⟩ := ps_bd h
    refine ps_goV_i C (rest := []) (tt_X5_has (xl X) (xb X) (xD X) (kf_1_2 (kf_0_1 hq)) hM2) cw_X6_78 ps_rc3 (kf_1_2 (kf_0_1 hq)) (ps_room hRm (by decide)) rfl rfl (Nat.le_of_ble_eq_true rfl) dX6_mistake_23 ?_
    refine ps_if_ne C 31 dX6_mistake_26 rfl (fun c14 => ?_) (fun c14 => ?_)
    · replace h := ps_in0 c14 h
      refine ps_iloadn3 C dX6_mistake_31 ?_
      refine ps_if_lt C 40 dX6_mistake_32 rfl (fun c13 => ?_) (fun c13 => ?_)
      · replace h := ps_ip c13 h
        refine ps_bipush C dX6_mistake_40 pb_m2 ?_
        exact ps_end_i h hfin dX6_mistake_42 rfl
      · replace h := ps_in0 c13 h
        refine ps_iloadn3 C dX6_mistake_35 ?_
        refine ps_iconst C dX6_mistake_36 pi_2 ?_
        refine ps_ic_le C 43 dX6_mistake_37 rfl (fun c12 => ?_) (fun c12 => ?_)
        · replace h := ps_ip c12 h
          refine ps_aloadn0 C dX6_mistake_43 ?_
          refine gf_X6_10 C hq dX6_mistake_44 ?_
          refine gf_X6_109 C (kf_0_1 hq) dX6_mistake_47 ?_
          refine ps_iloadn1 C dX6_mistake_50 ?_
          obtain ⟨hi3, h⟩ := ps_gd h
          refine ps_ald7 C (kf_1_14 (kf_0_1 hq)) hi3 dX6_mistake_51 ?_
          refine ps_astore5 C rfl dX6_mistake_52 ?_
          refine ps_aload4 C dX6_mistake_54 ?_
          refine ps_aload5 C dX6_mistake_56 ?_
          refine ps_iloadn2 C dX6_mistake_58 ?_
          obtain ⟨r4, M4, hM4, h⟩ := ps_bd h
          refine ps_goV_i C (rest := []) (tt_X5_firstWrong (xl X) (xb X) (xD X) (kf_1_2 (kf_0_1 hq)) (ke_7 (kf_1_14 (kf_0_1 hq)) hi3) hM4) cw_X6_146 ps_rc3 (kf_1_2 (kf_0_1 hq)) (ps_room hRm (by decide)) rfl rfl (Nat.le_of_ble_eq_true rfl) dX6_mistake_59 ?_
          refine ps_istore6 C rfl dX6_mistake_62 ?_
          refine ps_iload6 C dX6_mistake_64 ?_
          refine ps_aload4 C dX6_mistake_66 ?_
          refine ps_iloadn2 C dX6_mistake_68 ?_
          obtain ⟨r5, M5, hM5, h⟩ := ps_bd h
          refine ps_goV_i C (rest := [.int r4]) (tt_X5_lengthOf (xl X) (xb X) (xD X) (kf_1_2 (kf_0_1 hq)) hM5) cw_X6_84 ps_rc3 (kf_1_2 (kf_0_1 hq)) (ps_room hRm (by decide)) rfl rfl (Nat.le_of_ble_eq_true rfl) dX6_mistake_69 ?_
          refine ps_ic_lt C 78 dX6_mistake_72 rfl (fun c11 => ?_) (fun c11 => ?_)
          · replace h := ps_ip c11 h
            refine ps_iloadn3 C dX6_mistake_78 ?_
            refine ps_if_ne C 85 dX6_mistake_79 rfl (fun c10 => ?_) (fun c10 => ?_)
            · replace h := ps_in0 c10 h
              refine ps_aload4 C dX6_mistake_85 ?_
              refine ps_iloadn2 C dX6_mistake_87 ?_
              refine ps_iload6 C dX6_mistake_88 ?_
              refine ps_iconst C dX6_mistake_90 pi_1 ?_
              refine ps_isub C dX6_mistake_91 ?_
              obtain ⟨r6, M6, hM6, h⟩ := ps_bd h
              refine ps_goV_i C (rest := []) (tt_X5_barAt (xl X) (xb X) (xD X) (kf_1_2 (kf_0_1 hq)) hM6) cw_X6_90 ps_rc3 (kf_1_2 (kf_0_1 hq)) (ps_room hRm (by decide)) rfl rfl (Nat.le_of_ble_eq_true rfl) dX6_mistake_92 ?_
              refine ps_istore7 C rfl dX6_mistake_95 ?_
              refine ps_aload5 C dX6_mistake_97 ?_
              refine ps_iload7 C dX6_mistake_99 ?_
              obtain ⟨r7, M7, hM7, h⟩ := ps_bd h
              refine ps_goV_i C (rest := []) (tt_X3_nextBehind (xl X) (xb X) (xD X) (ke_7 (kf_1_14 (kf_0_1 hq)) hi3) hM7) cw_X6_139 ps_rc9 (ke_7 (kf_1_14 (kf_0_1 hq)) hi3) (ps_room hRm (by decide)) rfl rfl (Nat.le_of_ble_eq_true rfl) dX6_mistake_101 ?_
              refine ps_istore8 C rfl dX6_mistake_104 ?_
              refine ps_iloadn3 C dX6_mistake_106 ?_
              refine ps_iconst C dX6_mistake_107 pi_1 ?_
              refine ps_ic_ne C 116 dX6_mistake_108 rfl (fun c9 => ?_) (fun c9 => ?_)
              · replace h := ps_in0 c9 h
                refine ps_aload4 C dX6_mistake_116 ?_
                refine ps_iload7 C dX6_mistake_118 ?_
                refine ps_iload8 C dX6_mistake_120 ?_
                obtain ⟨r8, M8, hM8, h⟩ := ps_bd h
                refine ps_goV_i C (rest := []) (tt_X5_songsWithPair (xl X) (xb X) (xD X) (kf_1_2 (kf_0_1 hq)) hM8) cw_X6_149 ps_rc3 (kf_1_2 (kf_0_1 hq)) (ps_room hRm (by decide)) rfl rfl (Nat.le_of_ble_eq_true rfl) dX6_mistake_122 ?_
                exact ps_end_i h hfin dX6_mistake_125 rfl
              · replace h := ps_ip c9 h
                refine ps_iload8 C dX6_mistake_111 ?_
                refine ps_goto C 125 dX6_mistake_113 rfl ?_
                exact ps_end_i h hfin dX6_mistake_125 rfl
            · replace h := ps_ip c10 h
              refine ps_iload6 C dX6_mistake_82 ?_
              exact ps_end_i h hfin dX6_mistake_84 rfl
          · replace h := ps_in0 c11 h
            refine ps_bipush C dX6_mistake_75 pb_m5 ?_
            exact ps_end_i h hfin dX6_mistake_77 rfl
        · replace h := ps_in0 c12 h
          refine ps_bipush C dX6_mistake_40 pb_m2 ?_
          exact ps_end_i h hfin dX6_mistake_42 rfl
    · replace h := ps_ip c14 h
      refine ps_iconst C dX6_mistake_29 pi_m1 ?_
      exact ps_end_i h hfin dX6_mistake_30 rfl
set_option maxRecDepth 10000 in
theorem tt_X6_rhymes (l : Launch) (b : Nat) (D : va_G) {q : Nat} (hq : ps_ck 0 q = true) {a1 : Int32} {a2 : Int32} {M M9 : ps_M} {r : Int32} (h : ff_X6_rhymes q a1 a2 M = some (r, M9)) : ps_Ti l b D yX6_rhymes cX6_rhymes 3 .int 4 [.ref (b + q), .int a1, .int a2] M r M9 := by
  refine ps_met_i (own := RX6) (lv := [some (.ref (b + q)), some (.int a1), some (.int a2)]) (by decide) rfl rfl (Nat.le_of_ble_eq_true rfl) rfl (fun X eX1 eX2 eX3 hRm eX5 C hfin => ?_)
  subst eX1 eX2 eX3
  unfold ff_X6_rhymes at h
  refine ps_aloadn0 C dX6_rhymes_0 ?_
  refine gf_X6_10 C hq dX6_rhymes_1 ?_
  refine gf_X6_74 C (kf_0_1 hq) dX6_rhymes_4 ?_
  refine ps_iloadn1 C dX6_rhymes_7 ?_
  obtain ⟨r1, M1, hM1, h⟩ := ps_bd h
  refine ps_goV_i C (rest := []) (tt_X5_has (xl X) (xb X) (xD X) (kf_1_2 (kf_0_1 hq)) hM1) cw_X6_78 ps_rc3 (kf_1_2 (kf_0_1 hq)) (ps_room hRm (by decide)) rfl rfl (Nat.le_of_ble_eq_true rfl) dX6_rhymes_8 ?_
  refine ps_if_eq C 28 dX6_rhymes_11 rfl (fun c5 => ?_) (fun c5 => ?_)
  · replace h := ps_ip c5 h
    refine ps_iconst C dX6_rhymes_28 pi_m1 ?_
    exact ps_end_i h hfin dX6_rhymes_29 rfl
  · replace h := ps_in0 c5 h
    refine ps_aloadn0 C dX6_rhymes_14 ?_
    refine gf_X6_10 C hq dX6_rhymes_15 ?_
    refine gf_X6_74 C (kf_0_1 hq) dX6_rhymes_18 ?_
    refine ps_iloadn2 C dX6_rhymes_21 ?_
    obtain ⟨r2, M2, hM2, h⟩ := ps_bd h
    refine ps_goV_i C (rest := []) (tt_X5_has (xl X) (xb X) (xD X) (kf_1_2 (kf_0_1 hq)) hM2) cw_X6_78 ps_rc3 (kf_1_2 (kf_0_1 hq)) (ps_room hRm (by decide)) rfl rfl (Nat.le_of_ble_eq_true rfl) dX6_rhymes_22 ?_
    refine ps_if_ne C 30 dX6_rhymes_25 rfl (fun c4 => ?_) (fun c4 => ?_)
    · replace h := ps_in0 c4 h
      refine ps_aloadn0 C dX6_rhymes_30 ?_
      refine gf_X6_10 C hq dX6_rhymes_31 ?_
      refine gf_X6_74 C (kf_0_1 hq) dX6_rhymes_34 ?_
      refine ps_iloadn1 C dX6_rhymes_37 ?_
      refine ps_iloadn2 C dX6_rhymes_38 ?_
      obtain ⟨r3, M3, hM3, h⟩ := ps_bd h
      refine ps_goV_i C (rest := []) (tt_X5_sameAtEnd (xl X) (xb X) (xD X) (kf_1_2 (kf_0_1 hq)) hM3) cw_X6_152 ps_rc3 (kf_1_2 (kf_0_1 hq)) (ps_room hRm (by decide)) rfl rfl (Nat.le_of_ble_eq_true rfl) dX6_rhymes_39 ?_
      exact ps_end_i h hfin dX6_rhymes_42 rfl
    · replace h := ps_ip c4 h
      refine ps_iconst C dX6_rhymes_28 pi_m1 ?_
      exact ps_end_i h hfin dX6_rhymes_29 rfl
set_option maxRecDepth 10000 in
theorem tt_X6_follows (l : Launch) (b : Nat) (D : va_G) {q : Nat} (hq : ps_ck 0 q = true) {a1 : Int32} {a2 : Int32} {M M9 : ps_M} {r : Int32} (h : ff_X6_follows q a1 a2 M = some (r, M9)) : ps_Ti l b D yX6_follows cX6_follows 4 .int 4 [.ref (b + q), .int a1, .int a2] M r M9 := by
  refine ps_met_i (own := RX6) (lv := [some (.ref (b + q)), some (.int a1), some (.int a2), none]) (by decide) rfl rfl (Nat.le_of_ble_eq_true rfl) rfl (fun X eX1 eX2 eX3 hRm eX5 C hfin => ?_)
  subst eX1 eX2 eX3
  unfold ff_X6_follows at h
  refine ps_aloadn0 C dX6_follows_0 ?_
  refine gf_X6_10 C hq dX6_follows_1 ?_
  refine ps_iloadn1 C dX6_follows_4 ?_
  obtain ⟨r1, M1, hM1, h⟩ := ps_bd h
  refine ps_goV_i C (rest := []) (tt_X1_hasParrot (xl X) (xb X) (xD X) (kf_0_1 hq) hM1) cw_X6_106 ps_rc1 (kf_0_1 hq) (ps_room hRm (by decide)) rfl rfl (Nat.le_of_ble_eq_true rfl) dX6_follows_5 ?_
  refine ps_if_eq C 25 dX6_follows_8 rfl (fun c8 => ?_) (fun c8 => ?_)
  · replace h := ps_ip c8 h
    refine ps_iconst C dX6_follows_25 pi_m1 ?_
    exact ps_end_i h hfin dX6_follows_26 rfl
  · replace h := ps_in0 c8 h
    refine ps_aloadn0 C dX6_follows_11 ?_
    refine gf_X6_10 C hq dX6_follows_12 ?_
    refine gf_X6_74 C (kf_0_1 hq) dX6_follows_15 ?_
    refine ps_iloadn2 C dX6_follows_18 ?_
    obtain ⟨r2, M2, hM2, h⟩ := ps_bd h
    refine ps_goV_i C (rest := []) (tt_X5_has (xl X) (xb X) (xD X) (kf_1_2 (kf_0_1 hq)) hM2) cw_X6_78 ps_rc3 (kf_1_2 (kf_0_1 hq)) (ps_room hRm (by decide)) rfl rfl (Nat.le_of_ble_eq_true rfl) dX6_follows_19 ?_
    refine ps_if_ne C 27 dX6_follows_22 rfl (fun c7 => ?_) (fun c7 => ?_)
    · replace h := ps_in0 c7 h
      refine ps_aloadn0 C dX6_follows_27 ?_
      refine gf_X6_10 C hq dX6_follows_28 ?_
      refine gf_X6_109 C (kf_0_1 hq) dX6_follows_31 ?_
      refine ps_iloadn1 C dX6_follows_34 ?_
      obtain ⟨hi3, h⟩ := ps_gd h
      refine ps_ald7 C (kf_1_14 (kf_0_1 hq)) hi3 dX6_follows_35 ?_
      refine ps_aloadn0 C dX6_follows_36 ?_
      refine gf_X6_10 C hq dX6_follows_37 ?_
      refine gf_X6_74 C (kf_0_1 hq) dX6_follows_40 ?_
      refine ps_iloadn2 C dX6_follows_43 ?_
      obtain ⟨r4, M4, hM4, h⟩ := ps_bd h
      refine ps_goV_i C (rest := [.ref (xb X + (((q + 1) + 14) + 2 + 6 * a1.toNatClampNeg))]) (tt_X5_lastBar (xl X) (xb X) (xD X) (kf_1_2 (kf_0_1 hq)) hM4) cw_X6_93 ps_rc3 (kf_1_2 (kf_0_1 hq)) (ps_room hRm (by decide)) rfl rfl (Nat.le_of_ble_eq_true rfl) dX6_follows_44 ?_
      obtain ⟨r5, M5, hM5, h⟩ := ps_bd h
      refine ps_goV_i C (rest := []) (tt_X3_nextBehind (xl X) (xb X) (xD X) (ke_7 (kf_1_14 (kf_0_1 hq)) hi3) hM5) cw_X6_139 ps_rc9 (ke_7 (kf_1_14 (kf_0_1 hq)) hi3) (ps_room hRm (by decide)) rfl rfl (Nat.le_of_ble_eq_true rfl) dX6_follows_47 ?_
      refine ps_istoren3 C rfl dX6_follows_50 ?_
      refine ps_aloadn0 C dX6_follows_51 ?_
      refine gf_X6_10 C hq dX6_follows_52 ?_
      refine gf_X6_74 C (kf_0_1 hq) dX6_follows_55 ?_
      refine ps_iloadn3 C dX6_follows_58 ?_
      obtain ⟨r6, M6, hM6, h⟩ := ps_bd h
      refine ps_goV_i C (rest := []) (tt_X5_songsFrom (xl X) (xb X) (xD X) (kf_1_2 (kf_0_1 hq)) hM6) cw_X6_155 ps_rc3 (kf_1_2 (kf_0_1 hq)) (ps_room hRm (by decide)) rfl rfl (Nat.le_of_ble_eq_true rfl) dX6_follows_59 ?_
      exact ps_end_i h hfin dX6_follows_62 rfl
    · replace h := ps_ip c7 h
      refine ps_iconst C dX6_follows_25 pi_m1 ?_
      exact ps_end_i h hfin dX6_follows_26 rfl
set_option maxRecDepth 10000 in
theorem tt_X6_count (l : Launch) (b : Nat) (D : va_G) {q : Nat} (hq : ps_ck 0 q = true) {a1 : Int32} {M M9 : ps_M} {r : Int32} (h : ff_X6_count q a1 M = some (r, M9)) : ps_Ti l b D yX6_count cX6_count 2 .int 2 [.ref (b + q), .int a1] M r M9 := by
  refine ps_met_i (own := RX6) (lv := [some (.ref (b + q)), some (.int a1)]) (by decide) rfl rfl (Nat.le_of_ble_eq_true rfl) rfl (fun X eX1 eX2 eX3 hRm eX5 C hfin => ?_)
  subst eX1 eX2 eX3
  unfold ff_X6_count at h
  refine ps_iloadn1 C dX6_count_0 ?_
  by_cases c_1_0 : a1 = nI 0
  · replace h := ps_ip c_1_0 h
    refine ps_tabI C 0 (by rw [c_1_0]; rfl) 72 dX6_count_1 (by decide) (by decide) rfl rfl ?_
    refine ps_aloadn0 C dX6_count_72 ?_
    refine gf_X6_10 C hq dX6_count_73 ?_
    refine gf_X6_158 C (kf_0_1 hq) dX6_count_76 ?_
    exact ps_end_i h hfin dX6_count_79 rfl
  · replace h := ps_in0 c_1_0 h
    by_cases c_1_1 : a1 = nI 1
    · replace h := ps_ip c_1_1 h
      refine ps_tabI C 1 (by rw [c_1_1]; rfl) 80 dX6_count_1 (by decide) (by decide) rfl rfl ?_
      refine ps_aloadn0 C dX6_count_80 ?_
      refine gf_X6_10 C hq dX6_count_81 ?_
      refine gf_X6_74 C (kf_0_1 hq) dX6_count_84 ?_
      refine gf_X6_161 C (kf_1_2 (kf_0_1 hq)) dX6_count_87 ?_
      exact ps_end_i h hfin dX6_count_90 rfl
    · replace h := ps_in0 c_1_1 h
      by_cases c_1_2 : a1 = nI 2
      · replace h := ps_ip c_1_2 h
        refine ps_tabI C 2 (by rw [c_1_2]; rfl) 91 dX6_count_1 (by decide) (by decide) rfl rfl ?_
        refine ps_aloadn0 C dX6_count_91 ?_
        refine gf_X6_10 C hq dX6_count_92 ?_
        refine gf_X6_162 C (kf_0_1 hq) dX6_count_95 ?_
        exact ps_end_i h hfin dX6_count_98 rfl
      · replace h := ps_in0 c_1_2 h
        by_cases c_1_3 : a1 = nI 3
        · replace h := ps_ip c_1_3 h
          refine ps_tabI C 3 (by rw [c_1_3]; rfl) 99 dX6_count_1 (by decide) (by decide) rfl rfl ?_
          refine ps_aloadn0 C dX6_count_99 ?_
          refine gf_X6_10 C hq dX6_count_100 ?_
          refine gf_X6_74 C (kf_0_1 hq) dX6_count_103 ?_
          obtain ⟨r9, M9, hM9, h⟩ := ps_bd h
          refine ps_goV_i C (rest := []) (tt_X5_lessonsInAll (xl X) (xb X) (xD X) (kf_1_2 (kf_0_1 hq)) hM9) cw_X6_165 ps_rc3 (kf_1_2 (kf_0_1 hq)) (ps_room hRm (by decide)) rfl rfl (Nat.le_of_ble_eq_true rfl) dX6_count_106 ?_
          exact ps_end_i h hfin dX6_count_109 rfl
        · replace h := ps_in0 c_1_3 h
          by_cases c_1_4 : a1 = nI 4
          · replace h := ps_ip c_1_4 h
            refine ps_tabI C 4 (by rw [c_1_4]; rfl) 110 dX6_count_1 (by decide) (by decide) rfl rfl ?_
            refine ps_aloadn0 C dX6_count_110 ?_
            refine gf_X6_10 C hq dX6_count_111 ?_
            obtain ⟨r8, M8, hM8, h⟩ := ps_bd h
            refine ps_goV_i C (rest := []) (tt_X1_heardByAll (xl X) (xb X) (xD X) (kf_0_1 hq) hM8) cw_X6_168 ps_rc1 (kf_0_1 hq) (ps_room hRm (by decide)) rfl rfl (Nat.le_of_ble_eq_true rfl) dX6_count_114 ?_
            exact ps_end_i h hfin dX6_count_117 rfl
          · replace h := ps_in0 c_1_4 h
            by_cases c_1_5 : a1 = nI 5
            · replace h := ps_ip c_1_5 h
              refine ps_tabI C 5 (by rw [c_1_5]; rfl) 118 dX6_count_1 (by decide) (by decide) rfl rfl ?_
              refine ps_aloadn0 C dX6_count_118 ?_
              refine gf_X6_10 C hq dX6_count_119 ?_
              obtain ⟨r7, M7, hM7, h⟩ := ps_bd h
              refine ps_goV_i C (rest := []) (tt_X1_linksOfAll (xl X) (xb X) (xD X) (kf_0_1 hq) hM7) cw_X6_171 ps_rc1 (kf_0_1 hq) (ps_room hRm (by decide)) rfl rfl (Nat.le_of_ble_eq_true rfl) dX6_count_122 ?_
              exact ps_end_i h hfin dX6_count_125 rfl
            · replace h := ps_in0 c_1_5 h
              by_cases c_1_6 : a1 = nI 6
              · replace h := ps_ip c_1_6 h
                refine ps_tabI C 6 (by rw [c_1_6]; rfl) 126 dX6_count_1 (by decide) (by decide) rfl rfl ?_
                refine ps_aloadn0 C dX6_count_126 ?_
                refine gf_X6_10 C hq dX6_count_127 ?_
                obtain ⟨r6, M6, hM6, h⟩ := ps_bd h
                refine ps_goV_i C (rest := []) (tt_X1_forgottenByAll (xl X) (xb X) (xD X) (kf_0_1 hq) hM6) cw_X6_174 ps_rc1 (kf_0_1 hq) (ps_room hRm (by decide)) rfl rfl (Nat.le_of_ble_eq_true rfl) dX6_count_130 ?_
                exact ps_end_i h hfin dX6_count_133 rfl
              · replace h := ps_in0 c_1_6 h
                by_cases c_1_7 : a1 = nI 7
                · replace h := ps_ip c_1_7 h
                  refine ps_tabI C 7 (by rw [c_1_7]; rfl) 134 dX6_count_1 (by decide) (by decide) rfl rfl ?_
                  refine ps_aloadn0 C dX6_count_134 ?_
                  refine gf_X6_10 C hq dX6_count_135 ?_
                  obtain ⟨r5, M5, hM5, h⟩ := ps_bd h
                  refine ps_goV_i C (rest := []) (tt_X1_tiredParrots (xl X) (xb X) (xD X) (kf_0_1 hq) hM5) cw_X6_177 ps_rc1 (kf_0_1 hq) (ps_room hRm (by decide)) rfl rfl (Nat.le_of_ble_eq_true rfl) dX6_count_138 ?_
                  exact ps_end_i h hfin dX6_count_141 rfl
                · replace h := ps_in0 c_1_7 h
                  by_cases c_1_8 : a1 = nI 8
                  · replace h := ps_ip c_1_8 h
                    refine ps_tabI C 8 (by rw [c_1_8]; rfl) 142 dX6_count_1 (by decide) (by decide) rfl rfl ?_
                    refine ps_aloadn0 C dX6_count_142 ?_
                    refine gf_X6_10 C hq dX6_count_143 ?_
                    refine gf_X6_180 C (kf_0_1 hq) dX6_count_146 ?_
                    refine ps_iconst C dX6_count_149 pi_0 ?_
                    obtain ⟨hi4, h⟩ := ps_gd h
                    refine ps_iald C (kf_1_1 (kf_0_1 hq)) (fun _ _ => rfl) hi4 dX6_count_150 ?_
                    exact ps_end_i h hfin dX6_count_151 rfl
                  · replace h := ps_in0 c_1_8 h
                    by_cases c_1_9 : a1 = nI 9
                    · replace h := ps_ip c_1_9 h
                      refine ps_tabI C 9 (by rw [c_1_9]; rfl) 152 dX6_count_1 (by decide) (by decide) rfl rfl ?_
                      refine ps_aloadn0 C dX6_count_152 ?_
                      refine gf_X6_10 C hq dX6_count_153 ?_
                      refine gf_X6_180 C (kf_0_1 hq) dX6_count_156 ?_
                      refine ps_iconst C dX6_count_159 pi_1 ?_
                      obtain ⟨hi3, h⟩ := ps_gd h
                      refine ps_iald C (kf_1_1 (kf_0_1 hq)) (fun _ _ => rfl) hi3 dX6_count_160 ?_
                      exact ps_end_i h hfin dX6_count_161 rfl
                    · replace h := ps_in0 c_1_9 h
                      by_cases c_1_10 : a1 = nI 10
                      · replace h := ps_ip c_1_10 h
                        refine ps_tabI C 10 (by rw [c_1_10]; rfl) 162 dX6_count_1 (by decide) (by decide) rfl rfl ?_
                        refine ps_aloadn0 C dX6_count_162 ?_
                        refine gf_X6_10 C hq dX6_count_163 ?_
                        refine gf_X6_180 C (kf_0_1 hq) dX6_count_166 ?_
                        refine ps_iconst C dX6_count_169 pi_2 ?_
                        obtain ⟨hi2, h⟩ := ps_gd h
                        refine ps_iald C (kf_1_1 (kf_0_1 hq)) (fun _ _ => rfl) hi2 dX6_count_170 ?_
                        exact ps_end_i h hfin dX6_count_171 rfl
                      · replace h := ps_in0 c_1_10 h
                        by_cases c_1_11 : a1 = nI 11
                        · replace h := ps_ip c_1_11 h
                          refine ps_tabI C 11 (by rw [c_1_11]; rfl) 172 dX6_count_1 (by decide) (by decide) rfl rfl ?_
                          refine ps_aloadn0 C dX6_count_172 ?_
                          refine gf_X6_10 C hq dX6_count_173 ?_
                          refine gf_X6_180 C (kf_0_1 hq) dX6_count_176 ?_
                          refine ps_iconst C dX6_count_179 pi_3 ?_
                          obtain ⟨hi1, h⟩ := ps_gd h
                          refine ps_iald C (kf_1_1 (kf_0_1 hq)) (fun _ _ => rfl) hi1 dX6_count_180 ?_
                          exact ps_end_i h hfin dX6_count_181 rfl
                        · replace h := ps_in0 c_1_11 h
                          by_cases c_1_12 : a1 = nI 12
                          · replace h := ps_ip c_1_12 h
                            refine ps_tabI C 12 (by rw [c_1_12]; rfl) 182 dX6_count_1 (by decide) (by decide) rfl rfl ?_
                            refine ps_aloadn0 C dX6_count_182 ?_
                            refine gf_X6_26 C hq dX6_count_183 ?_
                            refine gf_X6_184 C (kf_0_323 hq) dX6_count_186 ?_
                            refine gf_X6_188 C (kf_14_1 (kf_0_323 hq)) dX6_count_189 ?_
                            exact ps_end_i h hfin dX6_count_192 rfl
                          · replace h := ps_in0 c_1_12 h
                            by_cases c_1_13 : a1 = nI 13
                            · replace h := ps_ip c_1_13 h
                              refine ps_tabI C 13 (by rw [c_1_13]; rfl) 193 dX6_count_1 (by decide) (by decide) rfl rfl ?_
                              refine ps_aloadn0 C dX6_count_193 ?_
                              refine gf_X6_19 C hq dX6_count_194 ?_
                              refine gf_X6_193 C (kf_0_41 hq) dX6_count_197 ?_
                              exact ps_end_i h hfin dX6_count_200 rfl
                            · replace h := ps_in0 c_1_13 h
                              have hdf : ps_G X M 201 [some (.ref (xb X + q)), some (.int a1)] [] := by
                                refine ps_bipush C dX6_count_201 pb_m2 ?_
                                exact ps_end_i h hfin dX6_count_203 rfl
                              by_cases q1 : a1.toInt < 0
                              · exact ps_tabO C 201 dX6_count_1 (Or.inl q1) rfl hdf
                              by_cases q2 : 13 < a1.toInt
                              · exact ps_tabO C 201 dX6_count_1 (Or.inr q2) rfl hdf
                              exfalso
                              rcases (by omega : a1.toInt = 0 ∨ a1.toInt = 1 ∨ a1.toInt = 2 ∨ a1.toInt = 3 ∨ a1.toInt = 4 ∨ a1.toInt = 5 ∨ a1.toInt = 6 ∨ a1.toInt = 7 ∨ a1.toInt = 8 ∨ a1.toInt = 9 ∨ a1.toInt = 10 ∨ a1.toInt = 11 ∨ a1.toInt = 12 ∨ a1.toInt = 13) with q3 | q3 | q3 | q3 | q3 | q3 | q3 | q3 | q3 | q3 | q3 | q3 | q3 | q3
                              · exact absurd (pz_0 q3) c_1_0
                              · exact absurd (pz_1 q3) c_1_1
                              · exact absurd (pz_2 q3) c_1_2
                              · exact absurd (pz_3 q3) c_1_3
                              · exact absurd (pz_4 q3) c_1_4
                              · exact absurd (pz_5 q3) c_1_5
                              · exact absurd (pz_6 q3) c_1_6
                              · exact absurd (pz_7 q3) c_1_7
                              · exact absurd (pz_8 q3) c_1_8
                              · exact absurd (pz_9 q3) c_1_9
                              · exact absurd (pz_10 q3) c_1_10
                              · exact absurd (pz_11 q3) c_1_11
                              · exact absurd (pz_12 q3) c_1_12
                              · exact absurd (pz_13 q3) c_1_13
set_option maxRecDepth 10000 in
theorem bk_X6_lessonsFor_45 {X : ps_X} (C : ps_C X RX6 cX6_lessonsFor) (hRm : xR X = ps_lvl 5) {r : Int32} {M9 : ps_M} (hfin : ∀ pc lv, decode cX6_lessonsFor pc = .ok (.ireturn, 1) → narrow .int (.int r) = .int r → ps_G X M9 pc lv [.int r]) {q : Nat} (hq : ps_ck 0 q = true) : ∀ (n : Nat) (a1 : Int32) (a2 : Int32) (a3 : Int32) (M : ps_M), fk_X6_lessonsFor_45 q n a1 a2 a3 M = some (r, M9) → ps_G X M 45 [some (.ref (xb X + q)), some (.int a1), some (.int a2), some (.int a3)] [] := by
  intro n
  induction n with
  | zero => intro a1 a2 a3 M h; rw [fk_X6_lessonsFor_45] at h; cases h
  | succ n ih =>
    intro a1 a2 a3 M h
    rw [fk_X6_lessonsFor_45] at h
    refine ps_iloadn3 C dX6_lessonsFor_45 ?_
    refine ps_bipush C dX6_lessonsFor_46 pb_30 ?_
    refine ps_ic_gt C 98 dX6_lessonsFor_48 rfl (fun c10 => ?_) (fun c10 => ?_)
    · replace h := ps_ip c10 h
      refine ps_bipush C dX6_lessonsFor_98 pb_m6 ?_
      exact ps_end_i h hfin dX6_lessonsFor_100 rfl
    · replace h := ps_in0 c10 h
      refine ps_aloadn0 C dX6_lessonsFor_51 ?_
      refine gf_X6_10 C hq dX6_lessonsFor_52 ?_
      refine gf_X6_74 C (kf_0_1 hq) dX6_lessonsFor_55 ?_
      refine ps_aloadn0 C dX6_lessonsFor_58 ?_
      refine gf_X6_41 C hq dX6_lessonsFor_59 ?_
      refine ps_iloadn2 C dX6_lessonsFor_62 ?_
      obtain ⟨r5, M5, hM5, h⟩ := ps_bd h
      refine ps_goV_i C (rest := []) (tt_X5_isKnownBy (xl X) (xb X) (xD X) (kf_1_2 (kf_0_1 hq)) (kf_0_329 hq) hM5) cw_X6_198 ps_rc3 (kf_1_2 (kf_0_1 hq)) (ps_room hRm (by decide)) rfl rfl (Nat.le_of_ble_eq_true rfl) dX6_lessonsFor_63 ?_
      refine ps_if_eq C 71 dX6_lessonsFor_66 rfl (fun c9 => ?_) (fun c9 => ?_)
      · replace h := ps_ip c9 h
        refine ps_aloadn0 C dX6_lessonsFor_71 ?_
        refine gf_X6_41 C hq dX6_lessonsFor_72 ?_
        refine ps_bipush C dX6_lessonsFor_75 pb_m6 ?_
        refine pf_X6_120 C (kf_0_329 hq) dX6_lessonsFor_77 (fun M6 eM6 => ?_)
        replace h := ps_lt eM6 h
        refine ps_aloadn0 C dX6_lessonsFor_80 ?_
        refine gf_X6_10 C hq dX6_lessonsFor_81 ?_
        refine ps_aloadn0 C dX6_lessonsFor_84 ?_
        refine gf_X6_41 C hq dX6_lessonsFor_85 ?_
        refine ps_iloadn2 C dX6_lessonsFor_88 ?_
        obtain ⟨r7, M7, hM7, h⟩ := ps_bd h
        refine ps_goV_v C (rest := []) (tt_X1_singWholeTo (xl X) (xb X) (xD X) (kf_0_1 hq) (kf_0_329 hq) hM7) cw_X6_202 ps_rc1 (kf_0_1 hq) (ps_room hRm (by decide)) rfl rfl (Nat.le_of_ble_eq_true rfl) dX6_lessonsFor_89 ?_
        refine ps_iinc3 C rfl (nI 1) pi_1 dX6_lessonsFor_92 (fun x8 ex8 => ?_)
        replace h := ps_lt ex8 h
        refine ps_goto C 45 dX6_lessonsFor_95 rfl ?_
        exact ih a1 a2 x8 _ h
      · replace h := ps_in0 c9 h
        refine ps_iloadn3 C dX6_lessonsFor_69 ?_
        exact ps_end_i h hfin dX6_lessonsFor_70 rfl
set_option maxRecDepth 10000 in
theorem tt_X6_lessonsFor (l : Launch) (b : Nat) (D : va_G) {q : Nat} (hq : ps_ck 0 q = true) {a1 : Int32} {a2 : Int32} {M M9 : ps_M} {r : Int32} (h : ff_X6_lessonsFor q a1 a2 M = some (r, M9)) : ps_Ti l b D yX6_lessonsFor cX6_lessonsFor 4 .int 5 [.ref (b + q), .int a1, .int a2] M r M9 := by
  refine ps_met_i (own := RX6) (lv := [some (.ref (b + q)), some (.int a1), some (.int a2), none]) (by decide) rfl rfl (Nat.le_of_ble_eq_true rfl) rfl (fun X eX1 eX2 eX3 hRm eX5 C hfin => ?_)
  subst eX1 eX2 eX3
  unfold ff_X6_lessonsFor at h
  refine ps_aloadn0 C dX6_lessonsFor_0 ?_
  refine gf_X6_10 C hq dX6_lessonsFor_1 ?_
  refine ps_iloadn1 C dX6_lessonsFor_4 ?_
  obtain ⟨r1, M1, hM1, h⟩ := ps_bd h
  refine ps_goV_i C (rest := []) (tt_X1_hasParrot (xl X) (xb X) (xD X) (kf_0_1 hq) hM1) cw_X6_106 ps_rc1 (kf_0_1 hq) (ps_room hRm (by decide)) rfl rfl (Nat.le_of_ble_eq_true rfl) dX6_lessonsFor_5 ?_
  refine ps_if_eq C 25 dX6_lessonsFor_8 rfl (fun c12 => ?_) (fun c12 => ?_)
  · replace h := ps_ip c12 h
    refine ps_iconst C dX6_lessonsFor_25 pi_m1 ?_
    exact ps_end_i h hfin dX6_lessonsFor_26 rfl
  · replace h := ps_in0 c12 h
    refine ps_aloadn0 C dX6_lessonsFor_11 ?_
    refine gf_X6_10 C hq dX6_lessonsFor_12 ?_
    refine gf_X6_74 C (kf_0_1 hq) dX6_lessonsFor_15 ?_
    refine ps_iloadn2 C dX6_lessonsFor_18 ?_
    obtain ⟨r2, M2, hM2, h⟩ := ps_bd h
    refine ps_goV_i C (rest := []) (tt_X5_has (xl X) (xb X) (xD X) (kf_1_2 (kf_0_1 hq)) hM2) cw_X6_78 ps_rc3 (kf_1_2 (kf_0_1 hq)) (ps_room hRm (by decide)) rfl rfl (Nat.le_of_ble_eq_true rfl) dX6_lessonsFor_19 ?_
    refine ps_if_ne C 27 dX6_lessonsFor_22 rfl (fun c11 => ?_) (fun c11 => ?_)
    · replace h := ps_in0 c11 h
      refine ps_aloadn0 C dX6_lessonsFor_27 ?_
      refine gf_X6_41 C hq dX6_lessonsFor_28 ?_
      refine ps_aloadn0 C dX6_lessonsFor_31 ?_
      refine gf_X6_10 C hq dX6_lessonsFor_32 ?_
      refine gf_X6_109 C (kf_0_1 hq) dX6_lessonsFor_35 ?_
      refine ps_iloadn1 C dX6_lessonsFor_38 ?_
      obtain ⟨hi3, h⟩ := ps_gd h
      refine ps_ald7 C (kf_1_14 (kf_0_1 hq)) hi3 dX6_lessonsFor_39 ?_
      obtain ⟨r4, M4, hM4, h⟩ := ps_bd h
      refine ps_goV_v C (rest := []) (tt_X3_copyFrom (xl X) (xb X) (xD X) (kf_0_329 hq) (ke_7 (kf_1_14 (kf_0_1 hq)) hi3) hM4) cw_X6_194 ps_rc9 (kf_0_329 hq) (ps_room hRm (by decide)) rfl rfl (Nat.le_of_ble_eq_true rfl) dX6_lessonsFor_40 ?_
      refine ps_iconst C dX6_lessonsFor_43 pi_0 ?_
      refine ps_istoren3 C rfl dX6_lessonsFor_44 ?_
      exact bk_X6_lessonsFor_45 C hRm hfin hq ps_fu a1 a2 (nI 0) _ h
    · replace h := ps_ip c11 h
      refine ps_iconst C dX6_lessonsFor_25 pi_m1 ?_
      exact ps_end_i h hfin dX6_lessonsFor_26 rfl
set_option maxRecDepth 10000 in
theorem bk_X6_bestLesson_55 {X : ps_X} (C : ps_C X RX6 cX6_bestLesson) (hRm : xR X = ps_lvl 6) {r : Int32} {M9 : ps_M} (hfin : ∀ pc lv, decode cX6_bestLesson pc = .ok (.ireturn, 1) → narrow .int (.int r) = .int r → ps_G X M9 pc lv [.int r]) {q : Nat} (hq : ps_ck 0 q = true) : ∀ (n : Nat) (a1 : Int32) (a2 : Int32) (b3 : Nat) (a4 : Int32) (a5 : Int32) (a6 : Int32) (hb3 : ps_ck 9 b3 = true) (M : ps_M), fk_X6_bestLesson_55 q n a1 a2 b3 a4 a5 a6 M = some (r, M9) → ps_G X M 55 [some (.ref (xb X + q)), some (.int a1), some (.int a2), some (.ref (xb X + b3)), some (.int a4), some (.int a5), some (.int a6), none] [] := by
  intro n
  induction n with
  | zero => intro a1 a2 b3 a4 a5 a6 hb3 M h; rw [fk_X6_bestLesson_55] at h; cases h
  | succ n ih =>
    intro a1 a2 b3 a4 a5 a6 hb3 M h
    rw [fk_X6_bestLesson_55] at h
    refine ps_iload6 C dX6_bestLesson_55 ?_
    refine ps_aloadn0 C dX6_bestLesson_57 ?_
    refine gf_X6_10 C hq dX6_bestLesson_58 ?_
    refine gf_X6_74 C (kf_0_1 hq) dX6_bestLesson_61 ?_
    refine gf_X6_161 C (kf_1_2 (kf_0_1 hq)) dX6_bestLesson_64 ?_
    refine ps_ic_ge C 128 dX6_bestLesson_67 rfl (fun c12 => ?_) (fun c12 => ?_)
    · replace h := ps_ip c12 h
      refine ps_iload4 C dX6_bestLesson_128 ?_
      refine ps_bipush C dX6_bestLesson_130 pb_m6 ?_
      refine ps_ic_ne C 138 dX6_bestLesson_132 rfl (fun c5 => ?_) (fun c5 => ?_)
      · replace h := ps_in0 c5 h
        refine ps_iloadn2 C dX6_bestLesson_138 ?_
        refine ps_if_ne C 147 dX6_bestLesson_139 rfl (fun c4 => ?_) (fun c4 => ?_)
        · replace h := ps_in0 c4 h
          refine ps_iload5 C dX6_bestLesson_147 ?_
          exact ps_end_i h hfin dX6_bestLesson_149 rfl
        · replace h := ps_ip c4 h
          refine ps_iload4 C dX6_bestLesson_142 ?_
          refine ps_goto C 149 dX6_bestLesson_144 rfl ?_
          exact ps_end_i h hfin dX6_bestLesson_149 rfl
      · replace h := ps_ip c5 h
        refine ps_bipush C dX6_bestLesson_135 pb_m6 ?_
        exact ps_end_i h hfin dX6_bestLesson_137 rfl
    · replace h := ps_in0 c12 h
      refine ps_aloadn0 C dX6_bestLesson_70 ?_
      refine gf_X6_41 C hq dX6_bestLesson_71 ?_
      refine ps_aloadn3 C dX6_bestLesson_74 ?_
      obtain ⟨r6, M6, hM6, h⟩ := ps_bd h
      refine ps_goV_v C (rest := []) (tt_X3_copyFrom (xl X) (xb X) (xD X) (kf_0_329 hq) hb3 hM6) cw_X6_194 ps_rc9 (kf_0_329 hq) (ps_room hRm (by decide)) rfl rfl (Nat.le_of_ble_eq_true rfl) dX6_bestLesson_75 ?_
      refine ps_aloadn0 C dX6_bestLesson_78 ?_
      refine gf_X6_10 C hq dX6_bestLesson_79 ?_
      refine ps_aloadn0 C dX6_bestLesson_82 ?_
      refine gf_X6_41 C hq dX6_bestLesson_83 ?_
      refine ps_iload6 C dX6_bestLesson_86 ?_
      obtain ⟨r7, M7, hM7, h⟩ := ps_bd h
      refine ps_goV_v C (rest := []) (tt_X1_singWholeTo (xl X) (xb X) (xD X) (kf_0_1 hq) (kf_0_329 hq) hM7) cw_X6_202 ps_rc1 (kf_0_1 hq) (ps_room hRm (by decide)) rfl rfl (Nat.le_of_ble_eq_true rfl) dX6_bestLesson_88 ?_
      refine ps_aloadn0 C dX6_bestLesson_91 ?_
      refine gf_X6_10 C hq dX6_bestLesson_92 ?_
      refine gf_X6_74 C (kf_0_1 hq) dX6_bestLesson_95 ?_
      refine ps_aloadn0 C dX6_bestLesson_98 ?_
      refine gf_X6_41 C hq dX6_bestLesson_99 ?_
      obtain ⟨r8, M8, hM8, h⟩ := ps_bd h
      refine ps_goV_i C (rest := []) (tt_X5_hundredthsInAll (xl X) (xb X) (xD X) (kf_1_2 (kf_0_1 hq)) (kf_0_329 hq) hM8) cw_X6_206 ps_rc3 (kf_1_2 (kf_0_1 hq)) (ps_room hRm (by decide)) rfl rfl (Nat.le_of_ble_eq_true rfl) dX6_bestLesson_102 ?_
      refine ps_istore7 C rfl dX6_bestLesson_105 ?_
      refine ps_iload7 C dX6_bestLesson_107 ?_
      refine ps_iload5 C dX6_bestLesson_109 ?_
      refine ps_ic_le C 122 dX6_bestLesson_111 rfl (fun c11 => ?_) (fun c11 => ?_)
      · replace h := ps_ip c11 h
        refine ps_iinc6 C rfl (nI 1) pi_1 dX6_bestLesson_122 (fun x9 ex9 => ?_)
        replace h := ps_lt ex9 h
        refine ps_goto C 55 dX6_bestLesson_125 rfl ?_
        refine ps_wk (lv' := [some (.ref (xb X + q)), some (.int a1), some (.int a2), some (.ref (xb X + b3)), some (.int a4), some (.int a5), some (.int x9), none]) (ps_le_s rfl (ps_le_s rfl (ps_le_s rfl (ps_le_s rfl (ps_le_s rfl (ps_le_s rfl (ps_le_s rfl (ps_le_n ps_le_0)))))))) ?_
        exact ih a1 a2 b3 a4 a5 x9 hb3 _ h
      · replace h := ps_in0 c11 h
        refine ps_iload6 C dX6_bestLesson_114 ?_
        refine ps_istore4 C rfl dX6_bestLesson_116 ?_
        refine ps_iload7 C dX6_bestLesson_118 ?_
        refine ps_istore5 C rfl dX6_bestLesson_120 ?_
        refine ps_iinc6 C rfl (nI 1) pi_1 dX6_bestLesson_122 (fun x10 ex10 => ?_)
        replace h := ps_lt ex10 h
        refine ps_goto C 55 dX6_bestLesson_125 rfl ?_
        refine ps_wk (lv' := [some (.ref (xb X + q)), some (.int a1), some (.int a2), some (.ref (xb X + b3)), some (.int a6), some (.int r8), some (.int x10), none]) (ps_le_s rfl (ps_le_s rfl (ps_le_s rfl (ps_le_s rfl (ps_le_s rfl (ps_le_s rfl (ps_le_s rfl (ps_le_n ps_le_0)))))))) ?_
        exact ih a1 a2 b3 a6 r8 x10 hb3 _ h
set_option maxRecDepth 10000 in
theorem bk_X6_bestLesson_25 {X : ps_X} (C : ps_C X RX6 cX6_bestLesson) (hRm : xR X = ps_lvl 6) {r : Int32} {M9 : ps_M} (hfin : ∀ pc lv, decode cX6_bestLesson pc = .ok (.ireturn, 1) → narrow .int (.int r) = .int r → ps_G X M9 pc lv [.int r]) {q : Nat} (hq : ps_ck 0 q = true) (a1 : Int32) (a2 : Int32) (M : ps_M) (h : fk_X6_bestLesson_25 q a1 a2 M = some (r, M9)) : ps_G X M 25 [some (.ref (xb X + q)), some (.int a1), some (.int a2), none, none, none, none, none] [] := by
  unfold fk_X6_bestLesson_25 at h
  refine ps_aloadn0 C dX6_bestLesson_25 ?_
  refine gf_X6_10 C hq dX6_bestLesson_26 ?_
  refine gf_X6_109 C (kf_0_1 hq) dX6_bestLesson_29 ?_
  refine ps_iloadn1 C dX6_bestLesson_32 ?_
  obtain ⟨hi2, h⟩ := ps_gd h
  refine ps_ald7 C (kf_1_14 (kf_0_1 hq)) hi2 dX6_bestLesson_33 ?_
  refine ps_astoren3 C rfl dX6_bestLesson_34 ?_
  refine ps_bipush C dX6_bestLesson_35 pb_m6 ?_
  refine ps_istore4 C rfl dX6_bestLesson_37 ?_
  refine ps_aloadn0 C dX6_bestLesson_39 ?_
  refine gf_X6_10 C hq dX6_bestLesson_40 ?_
  refine gf_X6_74 C (kf_0_1 hq) dX6_bestLesson_43 ?_
  refine ps_aloadn3 C dX6_bestLesson_46 ?_
  obtain ⟨r3, M3, hM3, h⟩ := ps_bd h
  refine ps_goV_i C (rest := []) (tt_X5_hundredthsInAll (xl X) (xb X) (xD X) (kf_1_2 (kf_0_1 hq)) (ke_7 (kf_1_14 (kf_0_1 hq)) hi2) hM3) cw_X6_206 ps_rc3 (kf_1_2 (kf_0_1 hq)) (ps_room hRm (by decide)) rfl rfl (Nat.le_of_ble_eq_true rfl) dX6_bestLesson_47 ?_
  refine ps_istore5 C rfl dX6_bestLesson_50 ?_
  refine ps_iconst C dX6_bestLesson_52 pi_0 ?_
  refine ps_istore6 C rfl dX6_bestLesson_53 ?_
  exact bk_X6_bestLesson_55 C hRm hfin hq ps_fu a1 a2 (((q + 1) + 14) + 2 + 6 * a1.toNatClampNeg) (ps_m 6) r3 (nI 0) (ke_7 (kf_1_14 (kf_0_1 hq)) hi2) _ h
set_option maxRecDepth 10000 in
theorem tt_X6_bestLesson (l : Launch) (b : Nat) (D : va_G) {q : Nat} (hq : ps_ck 0 q = true) {a1 : Int32} {a2 : Int32} {M M9 : ps_M} {r : Int32} (h : ff_X6_bestLesson q a1 a2 M = some (r, M9)) : ps_Ti l b D yX6_bestLesson cX6_bestLesson 8 .int 6 [.ref (b + q), .int a1, .int a2] M r M9 := by
  refine ps_met_i (own := RX6) (lv := [some (.ref (b + q)), some (.int a1), some (.int a2), none, none, none, none, none]) (by decide) rfl rfl (Nat.le_of_ble_eq_true rfl) rfl (fun X eX1 eX2 eX3 hRm eX5 C hfin => ?_)
  subst eX1 eX2 eX3
  unfold ff_X6_bestLesson at h
  refine ps_aloadn0 C dX6_bestLesson_0 ?_
  refine gf_X6_10 C hq dX6_bestLesson_1 ?_
  refine ps_iloadn1 C dX6_bestLesson_4 ?_
  obtain ⟨r1, M1, hM1, h⟩ := ps_bd h
  refine ps_goV_i C (rest := []) (tt_X1_hasParrot (xl X) (xb X) (xD X) (kf_0_1 hq) hM1) cw_X6_106 ps_rc1 (kf_0_1 hq) (ps_room hRm (by decide)) rfl rfl (Nat.le_of_ble_eq_true rfl) dX6_bestLesson_5 ?_
  refine ps_if_ne C 13 dX6_bestLesson_8 rfl (fun c15 => ?_) (fun c15 => ?_)
  · replace h := ps_in0 c15 h
    refine ps_iloadn2 C dX6_bestLesson_13 ?_
    refine ps_if_eq C 25 dX6_bestLesson_14 rfl (fun c14 => ?_) (fun c14 => ?_)
    · replace h := ps_ip c14 h
      exact bk_X6_bestLesson_25 C hRm hfin hq a1 a2 _ h
    · replace h := ps_in0 c14 h
      refine ps_iloadn2 C dX6_bestLesson_17 ?_
      refine ps_iconst C dX6_bestLesson_18 pi_1 ?_
      refine ps_ic_eq C 25 dX6_bestLesson_19 rfl (fun c13 => ?_) (fun c13 => ?_)
      · replace h := ps_ip c13 h
        exact bk_X6_bestLesson_25 C hRm hfin hq a1 a2 _ h
      · replace h := ps_in0 c13 h
        refine ps_bipush C dX6_bestLesson_22 pb_m2 ?_
        exact ps_end_i h hfin dX6_bestLesson_24 rfl
  · replace h := ps_ip c15 h
    refine ps_iconst C dX6_bestLesson_11 pi_m1 ?_
    exact ps_end_i h hfin dX6_bestLesson_12 rfl
set_option maxRecDepth 10000 in
theorem bk_X6_keeps_45 {X : ps_X} (C : ps_C X RX6 cX6_keeps) (hRm : xR X = ps_lvl 5) {r : Int32} {M9 : ps_M} (hfin : ∀ pc lv, decode cX6_keeps pc = .ok (.ireturn, 1) → narrow .int (.int r) = .int r → ps_G X M9 pc lv [.int r]) {q : Nat} (hq : ps_ck 0 q = true) : ∀ (n : Nat) (a1 : Int32) (a2 : Int32) (a3 : Int32) (M : ps_M), fk_X6_keeps_45 q n a1 a2 a3 M = some (r, M9) → ps_G X M 45 [some (.ref (xb X + q)), some (.int a1), some (.int a2), some (.int a3)] [] := by
  intro n
  induction n with
  | zero => intro a1 a2 a3 M h; rw [fk_X6_keeps_45] at h; cases h
  | succ n ih =>
    intro a1 a2 a3 M h
    rw [fk_X6_keeps_45] at h
    refine ps_iloadn3 C dX6_keeps_45 ?_
    refine ps_bipush C dX6_keeps_46 pb_30 ?_
    refine ps_ic_gt C 94 dX6_keeps_48 rfl (fun c10 => ?_) (fun c10 => ?_)
    · replace h := ps_ip c10 h
      refine ps_bipush C dX6_keeps_94 pb_m6 ?_
      exact ps_end_i h hfin dX6_keeps_96 rfl
    · replace h := ps_in0 c10 h
      refine ps_aloadn0 C dX6_keeps_51 ?_
      refine gf_X6_10 C hq dX6_keeps_52 ?_
      refine gf_X6_74 C (kf_0_1 hq) dX6_keeps_55 ?_
      refine ps_aloadn0 C dX6_keeps_58 ?_
      refine gf_X6_41 C hq dX6_keeps_59 ?_
      refine ps_iloadn2 C dX6_keeps_62 ?_
      obtain ⟨r5, M5, hM5, h⟩ := ps_bd h
      refine ps_goV_i C (rest := []) (tt_X5_isKnownBy (xl X) (xb X) (xD X) (kf_1_2 (kf_0_1 hq)) (kf_0_329 hq) hM5) cw_X6_198 ps_rc3 (kf_1_2 (kf_0_1 hq)) (ps_room hRm (by decide)) rfl rfl (Nat.le_of_ble_eq_true rfl) dX6_keeps_63 ?_
      refine ps_if_ne C 71 dX6_keeps_66 rfl (fun c9 => ?_) (fun c9 => ?_)
      · replace h := ps_in0 c9 h
        refine ps_aloadn0 C dX6_keeps_71 ?_
        refine gf_X6_41 C hq dX6_keeps_72 ?_
        refine ps_aloadn0 C dX6_keeps_75 ?_
        refine gf_X6_10 C hq dX6_keeps_76 ?_
        refine gf_X6_180 C (kf_0_1 hq) dX6_keeps_79 ?_
        refine ps_iconst C dX6_keeps_82 pi_1 ?_
        obtain ⟨hi6, h⟩ := ps_gd h
        refine ps_iald C (kf_1_1 (kf_0_1 hq)) (fun _ _ => rfl) hi6 dX6_keeps_83 ?_
        obtain ⟨r7, M7, hM7, h⟩ := ps_bd h
        refine ps_goV_i C (rest := []) (tt_X3_sleep (xl X) (xb X) (xD X) (kf_0_329 hq) hM7) cw_X6_209 ps_rc9 (kf_0_329 hq) (ps_room hRm (by decide)) rfl rfl (Nat.le_of_ble_eq_true rfl) dX6_keeps_84 ?_
        refine ps_pop C rfl dX6_keeps_87 ?_
        refine ps_iinc3 C rfl (nI 1) pi_1 dX6_keeps_88 (fun x8 ex8 => ?_)
        replace h := ps_lt ex8 h
        refine ps_goto C 45 dX6_keeps_91 rfl ?_
        exact ih a1 a2 x8 _ h
      · replace h := ps_ip c9 h
        refine ps_iloadn3 C dX6_keeps_69 ?_
        exact ps_end_i h hfin dX6_keeps_70 rfl
set_option maxRecDepth 10000 in
theorem tt_X6_keeps (l : Launch) (b : Nat) (D : va_G) {q : Nat} (hq : ps_ck 0 q = true) {a1 : Int32} {a2 : Int32} {M M9 : ps_M} {r : Int32} (h : ff_X6_keeps q a1 a2 M = some (r, M9)) : ps_Ti l b D yX6_keeps cX6_keeps 4 .int 5 [.ref (b + q), .int a1, .int a2] M r M9 := by
  refine ps_met_i (own := RX6) (lv := [some (.ref (b + q)), some (.int a1), some (.int a2), none]) (by decide) rfl rfl (Nat.le_of_ble_eq_true rfl) rfl (fun X eX1 eX2 eX3 hRm eX5 C hfin => ?_)
  subst eX1 eX2 eX3
  unfold ff_X6_keeps at h
  refine ps_aloadn0 C dX6_keeps_0 ?_
  refine gf_X6_10 C hq dX6_keeps_1 ?_
  refine ps_iloadn1 C dX6_keeps_4 ?_
  obtain ⟨r1, M1, hM1, h⟩ := ps_bd h
  refine ps_goV_i C (rest := []) (tt_X1_hasParrot (xl X) (xb X) (xD X) (kf_0_1 hq) hM1) cw_X6_106 ps_rc1 (kf_0_1 hq) (ps_room hRm (by decide)) rfl rfl (Nat.le_of_ble_eq_true rfl) dX6_keeps_5 ?_
  refine ps_if_eq C 25 dX6_keeps_8 rfl (fun c12 => ?_) (fun c12 => ?_)
  · replace h := ps_ip c12 h
    refine ps_iconst C dX6_keeps_25 pi_m1 ?_
    exact ps_end_i h hfin dX6_keeps_26 rfl
  · replace h := ps_in0 c12 h
    refine ps_aloadn0 C dX6_keeps_11 ?_
    refine gf_X6_10 C hq dX6_keeps_12 ?_
    refine gf_X6_74 C (kf_0_1 hq) dX6_keeps_15 ?_
    refine ps_iloadn2 C dX6_keeps_18 ?_
    obtain ⟨r2, M2, hM2, h⟩ := ps_bd h
    refine ps_goV_i C (rest := []) (tt_X5_has (xl X) (xb X) (xD X) (kf_1_2 (kf_0_1 hq)) hM2) cw_X6_78 ps_rc3 (kf_1_2 (kf_0_1 hq)) (ps_room hRm (by decide)) rfl rfl (Nat.le_of_ble_eq_true rfl) dX6_keeps_19 ?_
    refine ps_if_ne C 27 dX6_keeps_22 rfl (fun c11 => ?_) (fun c11 => ?_)
    · replace h := ps_in0 c11 h
      refine ps_aloadn0 C dX6_keeps_27 ?_
      refine gf_X6_41 C hq dX6_keeps_28 ?_
      refine ps_aloadn0 C dX6_keeps_31 ?_
      refine gf_X6_10 C hq dX6_keeps_32 ?_
      refine gf_X6_109 C (kf_0_1 hq) dX6_keeps_35 ?_
      refine ps_iloadn1 C dX6_keeps_38 ?_
      obtain ⟨hi3, h⟩ := ps_gd h
      refine ps_ald7 C (kf_1_14 (kf_0_1 hq)) hi3 dX6_keeps_39 ?_
      obtain ⟨r4, M4, hM4, h⟩ := ps_bd h
      refine ps_goV_v C (rest := []) (tt_X3_copyFrom (xl X) (xb X) (xD X) (kf_0_329 hq) (ke_7 (kf_1_14 (kf_0_1 hq)) hi3) hM4) cw_X6_194 ps_rc9 (kf_0_329 hq) (ps_room hRm (by decide)) rfl rfl (Nat.le_of_ble_eq_true rfl) dX6_keeps_40 ?_
      refine ps_iconst C dX6_keeps_43 pi_0 ?_
      refine ps_istoren3 C rfl dX6_keeps_44 ?_
      exact bk_X6_keeps_45 C hRm hfin hq ps_fu a1 a2 (nI 0) _ h
    · replace h := ps_ip c11 h
      refine ps_iconst C dX6_keeps_25 pi_m1 ?_
      exact ps_end_i h hfin dX6_keeps_26 rfl
set_option maxRecDepth 10000 in
theorem tt_X6_put (l : Launch) (b : Nat) (D : va_G) {q : Nat} (hq : ps_ck 0 q = true) {a1 : Int64} {M M9 : ps_M} {r : Int32} (h : ff_X6_put q a1 M = some (r, M9)) : ps_Ti l b D yX6_put cX6_put 3 .int 2 [.ref (b + q), .long a1] M r M9 := by
  refine ps_met_i (own := RX6) (lv := [some (.ref (b + q)), some (.long a1), none]) (by decide) rfl rfl (Nat.le_of_ble_eq_true rfl) rfl (fun X eX1 eX2 eX3 hRm eX5 C hfin => ?_)
  subst eX1 eX2 eX3
  unfold ff_X6_put at h
  refine ps_aloadn0 C dX6_put_0 ?_
  refine gf_X6_26 C hq dX6_put_1 ?_
  refine gf_X6_184 C (kf_0_323 hq) dX6_put_4 ?_
  refine ps_lloadn1 C dX6_put_7 ?_
  obtain ⟨r1, M1, hM1, h⟩ := ps_bd h
  refine ps_goV_i C (rest := []) (tt_X2_append (xl X) (xb X) (xD X) (kf_14_1 (kf_0_323 hq)) hM1) cw_X6_212 ps_rc15 (kf_14_1 (kf_0_323 hq)) (ps_room hRm (by decide)) rfl rfl (Nat.le_of_ble_eq_true rfl) dX6_put_8 ?_
  exact ps_end_i h hfin dX6_put_11 rfl
set_option maxRecDepth 10000 in
theorem tt_X6_wipe (l : Launch) (b : Nat) (D : va_G) {q : Nat} (hq : ps_ck 0 q = true) {M M9 : ps_M} {r : Int32} (h : ff_X6_wipe q  M = some (r, M9)) : ps_Ti l b D yX6_wipe cX6_wipe 2 .int 0 [.ref (b + q)] M r M9 := by
  refine ps_met_i (own := RX6) (lv := [some (.ref (b + q)), none]) (by decide) rfl rfl (Nat.le_of_ble_eq_true rfl) rfl (fun X eX1 eX2 eX3 hRm eX5 C hfin => ?_)
  subst eX1 eX2 eX3
  unfold ff_X6_wipe at h
  refine ps_aloadn0 C dX6_wipe_0 ?_
  refine gf_X6_26 C hq dX6_wipe_1 ?_
  refine gf_X6_184 C (kf_0_323 hq) dX6_wipe_4 ?_
  refine gf_X6_188 C (kf_14_1 (kf_0_323 hq)) dX6_wipe_7 ?_
  refine ps_nmi (fun x1 ex1 => ?_)
  replace h := ps_lt ex1 h
  refine ps_istoren1 C rfl dX6_wipe_10 ?_
  refine ps_aloadn0 C dX6_wipe_11 ?_
  refine gf_X6_26 C hq dX6_wipe_12 ?_
  refine gf_X6_184 C (kf_0_323 hq) dX6_wipe_15 ?_
  refine ps_iconst C dX6_wipe_18 pi_0 ?_
  refine pf_X6_188 C (kf_14_1 (kf_0_323 hq)) dX6_wipe_19 (fun M2 eM2 => ?_)
  replace h := ps_lt eM2 h
  refine ps_iloadn1 C dX6_wipe_22 ?_
  exact ps_end_i h hfin dX6_wipe_23 rfl
set_option maxRecDepth 10000 in
theorem tt_X6_fault (l : Launch) (b : Nat) (D : va_G) {q : Nat} (hq : ps_ck 0 q = true) {M M9 : ps_M} {r : Int32} (h : ff_X6_fault q  M = some (r, M9)) : ps_Ti l b D yX6_fault cX6_fault 1 .int 7 [.ref (b + q)] M r M9 := by
  refine ps_met_i (own := RX6) (lv := [some (.ref (b + q))]) (by decide) rfl rfl (Nat.le_of_ble_eq_true rfl) rfl (fun X eX1 eX2 eX3 hRm eX5 C hfin => ?_)
  subst eX1 eX2 eX3
  unfold ff_X6_fault at h
  refine ps_aloadn0 C dX6_fault_0 ?_
  refine gf_X6_26 C hq dX6_fault_1 ?_
  obtain ⟨r1, M1, hM1, h⟩ := ps_bd h
  refine ps_goV_i C (rest := []) (tt_X4_findFault (xl X) (xb X) (xD X) (kf_0_323 hq) hM1) cw_X6_216 ps_rc14 (kf_0_323 hq) (ps_room hRm (by decide)) rfl rfl (Nat.le_of_ble_eq_true rfl) dX6_fault_4 ?_
  exact ps_end_i h hfin dX6_fault_7 rfl
set_option maxRecDepth 10000 in
theorem tt_X6_carryOrder (l : Launch) (b : Nat) (D : va_G) {q : Nat} (hq : ps_ck 0 q = true) {M M9 : ps_M} {r : Int32} (h : ff_X6_carryOrder q  M = some (r, M9)) : ps_Ti l b D yX6_carryOrder cX6_carryOrder 1 .int 6 [.ref (b + q)] M r M9 := by
  refine ps_met_i (own := RX6) (lv := [some (.ref (b + q))]) (by decide) rfl rfl (Nat.le_of_ble_eq_true rfl) rfl (fun X eX1 eX2 eX3 hRm eX5 C hfin => ?_)
  subst eX1 eX2 eX3
  unfold ff_X6_carryOrder at h
  refine ps_aloadn0 C dX6_carryOrder_0 ?_
  refine gf_X6_26 C hq dX6_carryOrder_1 ?_
  refine gf_X6_238 C (kf_0_323 hq) dX6_carryOrder_4 ?_
  refine ps_nmi (fun x1 ex1 => ?_)
  replace h := ps_lt ex1 h
  by_cases c_7_66 : x1 = nI 66
  · replace h := ps_ip c_7_66 h
    refine ps_tabI C 66 (by rw [c_7_66]; rfl) 117 dX6_carryOrder_7 (by decide) (by decide) rfl rfl ?_
    refine ps_aloadn0 C dX6_carryOrder_117 ?_
    refine gf_X6_10 C hq dX6_carryOrder_118 ?_
    obtain ⟨r7, M7, hM7, h⟩ := ps_bd h
    refine ps_goV_i C (rest := []) (tt_X1_addParrot (xl X) (xb X) (xD X) (kf_0_1 hq) hM7) cw_X6_57 ps_rc1 (kf_0_1 hq) (ps_room hRm (by decide)) rfl rfl (Nat.le_of_ble_eq_true rfl) dX6_carryOrder_121 ?_
    exact ps_end_i h hfin dX6_carryOrder_124 rfl
  · replace h := ps_in0 c_7_66 h
    by_cases c_7_72 : x1 = nI 72
    · replace h := ps_ip c_7_72 h
      refine ps_tabI C 72 (by rw [c_7_72]; rfl) 154 dX6_carryOrder_7 (by decide) (by decide) rfl rfl ?_
      refine ps_aloadn0 C dX6_carryOrder_154 ?_
      refine gf_X6_10 C hq dX6_carryOrder_155 ?_
      refine ps_aloadn0 C dX6_carryOrder_158 ?_
      refine gf_X6_26 C hq dX6_carryOrder_159 ?_
      refine gf_X6_252 C (kf_0_323 hq) dX6_carryOrder_162 ?_
      obtain ⟨r6, M6, hM6, h⟩ := ps_bd h
      refine ps_goV_i C (rest := []) (tt_X1_silence (xl X) (xb X) (xD X) (kf_0_1 hq) hM6) cw_X6_65 ps_rc1 (kf_0_1 hq) (ps_room hRm (by decide)) rfl rfl (Nat.le_of_ble_eq_true rfl) dX6_carryOrder_165 ?_
      exact ps_end_i h hfin dX6_carryOrder_168 rfl
    · replace h := ps_in0 c_7_72 h
      by_cases c_7_76 : x1 = nI 76
      · replace h := ps_ip c_7_76 h
        refine ps_tabI C 76 (by rw [c_7_76]; rfl) 125 dX6_carryOrder_7 (by decide) (by decide) rfl rfl ?_
        refine ps_aloadn0 C dX6_carryOrder_125 ?_
        refine gf_X6_10 C hq dX6_carryOrder_126 ?_
        refine ps_aloadn0 C dX6_carryOrder_129 ?_
        refine gf_X6_26 C hq dX6_carryOrder_130 ?_
        refine gf_X6_252 C (kf_0_323 hq) dX6_carryOrder_133 ?_
        refine ps_aloadn0 C dX6_carryOrder_136 ?_
        refine gf_X6_26 C hq dX6_carryOrder_137 ?_
        refine gf_X6_255 C (kf_0_323 hq) dX6_carryOrder_140 ?_
        refine ps_aloadn0 C dX6_carryOrder_143 ?_
        refine gf_X6_26 C hq dX6_carryOrder_144 ?_
        refine gf_X6_258 C (kf_0_323 hq) dX6_carryOrder_147 ?_
        obtain ⟨r5, M5, hM5, h⟩ := ps_bd h
        refine ps_goV_i C (rest := []) (tt_X1_teach (xl X) (xb X) (xD X) (kf_0_1 hq) hM5) cw_X6_61 ps_rc1 (kf_0_1 hq) (ps_room hRm (by decide)) rfl rfl (Nat.le_of_ble_eq_true rfl) dX6_carryOrder_150 ?_
        exact ps_end_i h hfin dX6_carryOrder_153 rfl
      · replace h := ps_in0 c_7_76 h
        by_cases c_7_78 : x1 = nI 78
        · replace h := ps_ip c_7_78 h
          refine ps_tabI C 78 (by rw [c_7_78]; rfl) 191 dX6_carryOrder_7 (by decide) (by decide) rfl rfl ?_
          refine ps_aloadn0 C dX6_carryOrder_191 ?_
          refine gf_X6_10 C hq dX6_carryOrder_192 ?_
          obtain ⟨r4, M4, hM4, h⟩ := ps_bd h
          refine ps_goV_i C (rest := []) (tt_X1_passNight (xl X) (xb X) (xD X) (kf_0_1 hq) hM4) cw_X6_71 ps_rc1 (kf_0_1 hq) (ps_room hRm (by decide)) rfl rfl (Nat.le_of_ble_eq_true rfl) dX6_carryOrder_195 ?_
          exact ps_end_i h hfin dX6_carryOrder_198 rfl
        · replace h := ps_in0 c_7_78 h
          by_cases c_7_80 : x1 = nI 80
          · replace h := ps_ip c_7_80 h
            refine ps_tabI C 80 (by rw [c_7_80]; rfl) 169 dX6_carryOrder_7 (by decide) (by decide) rfl rfl ?_
            refine ps_aloadn0 C dX6_carryOrder_169 ?_
            refine gf_X6_10 C hq dX6_carryOrder_170 ?_
            refine ps_aloadn0 C dX6_carryOrder_173 ?_
            refine gf_X6_26 C hq dX6_carryOrder_174 ?_
            refine gf_X6_252 C (kf_0_323 hq) dX6_carryOrder_177 ?_
            refine ps_aloadn0 C dX6_carryOrder_180 ?_
            refine gf_X6_26 C hq dX6_carryOrder_181 ?_
            refine gf_X6_258 C (kf_0_323 hq) dX6_carryOrder_184 ?_
            obtain ⟨r3, M3, hM3, h⟩ := ps_bd h
            refine ps_goV_i C (rest := []) (tt_X1_letPractise (xl X) (xb X) (xD X) (kf_0_1 hq) hM3) cw_X6_68 ps_rc1 (kf_0_1 hq) (ps_room hRm (by decide)) rfl rfl (Nat.le_of_ble_eq_true rfl) dX6_carryOrder_187 ?_
            exact ps_end_i h hfin dX6_carryOrder_190 rfl
          · replace h := ps_in0 c_7_80 h
            by_cases c_7_83 : x1 = nI 83
            · replace h := ps_ip c_7_83 h
              refine ps_tabI C 83 (by rw [c_7_83]; rfl) 92 dX6_carryOrder_7 (by decide) (by decide) rfl rfl ?_
              refine ps_aloadn0 C dX6_carryOrder_92 ?_
              refine gf_X6_10 C hq dX6_carryOrder_93 ?_
              refine gf_X6_74 C (kf_0_1 hq) dX6_carryOrder_96 ?_
              refine ps_aloadn0 C dX6_carryOrder_99 ?_
              refine gf_X6_26 C hq dX6_carryOrder_100 ?_
              refine gf_X6_242 C (kf_0_323 hq) dX6_carryOrder_103 ?_
              refine ps_aloadn0 C dX6_carryOrder_106 ?_
              refine gf_X6_26 C hq dX6_carryOrder_107 ?_
              refine gf_X6_245 C (kf_0_323 hq) dX6_carryOrder_110 ?_
              obtain ⟨r2, M2, hM2, h⟩ := ps_bd h
              refine ps_goV_i C (rest := []) (tt_X5_add (xl X) (xb X) (xD X) (kf_1_2 (kf_0_1 hq)) (kf_14_3 (kf_0_323 hq)) hM2) cw_X6_248 ps_rc3 (kf_1_2 (kf_0_1 hq)) (ps_room hRm (by decide)) rfl rfl (Nat.le_of_ble_eq_true rfl) dX6_carryOrder_113 ?_
              exact ps_end_i h hfin dX6_carryOrder_116 rfl
            · replace h := ps_in0 c_7_83 h
              have hdf : ps_G X M 199 [some (.ref (xb X + q))] [] := by
                refine ps_bipush C dX6_carryOrder_199 pb_m3 ?_
                exact ps_end_i h hfin dX6_carryOrder_201 rfl
              by_cases q1 : x1.toInt < 66
              · exact ps_tabO C 199 dX6_carryOrder_7 (Or.inl q1) rfl hdf
              by_cases q2 : 83 < x1.toInt
              · exact ps_tabO C 199 dX6_carryOrder_7 (Or.inr q2) rfl hdf
              rcases (by omega : x1.toInt = 66 ∨ x1.toInt = 67 ∨ x1.toInt = 68 ∨ x1.toInt = 69 ∨ x1.toInt = 70 ∨ x1.toInt = 71 ∨ x1.toInt = 72 ∨ x1.toInt = 73 ∨ x1.toInt = 74 ∨ x1.toInt = 75 ∨ x1.toInt = 76 ∨ x1.toInt = 77 ∨ x1.toInt = 78 ∨ x1.toInt = 79 ∨ x1.toInt = 80 ∨ x1.toInt = 81 ∨ x1.toInt = 82 ∨ x1.toInt = 83) with q3 | q3 | q3 | q3 | q3 | q3 | q3 | q3 | q3 | q3 | q3 | q3 | q3 | q3 | q3 | q3 | q3 | q3
              · exact absurd (pz_66 q3) c_7_66
              · exact ps_tabI C 67 q3 199 dX6_carryOrder_7 (by decide) (by decide) rfl rfl hdf
              · exact ps_tabI C 68 q3 199 dX6_carryOrder_7 (by decide) (by decide) rfl rfl hdf
              · exact ps_tabI C 69 q3 199 dX6_carryOrder_7 (by decide) (by decide) rfl rfl hdf
              · exact ps_tabI C 70 q3 199 dX6_carryOrder_7 (by decide) (by decide) rfl rfl hdf
              · exact ps_tabI C 71 q3 199 dX6_carryOrder_7 (by decide) (by decide) rfl rfl hdf
              · exact absurd (pz_72 q3) c_7_72
              · exact ps_tabI C 73 q3 199 dX6_carryOrder_7 (by decide) (by decide) rfl rfl hdf
              · exact ps_tabI C 74 q3 199 dX6_carryOrder_7 (by decide) (by decide) rfl rfl hdf
              · exact ps_tabI C 75 q3 199 dX6_carryOrder_7 (by decide) (by decide) rfl rfl hdf
              · exact absurd (pz_76 q3) c_7_76
              · exact ps_tabI C 77 q3 199 dX6_carryOrder_7 (by decide) (by decide) rfl rfl hdf
              · exact absurd (pz_78 q3) c_7_78
              · exact ps_tabI C 79 q3 199 dX6_carryOrder_7 (by decide) (by decide) rfl rfl hdf
              · exact absurd (pz_80 q3) c_7_80
              · exact ps_tabI C 81 q3 199 dX6_carryOrder_7 (by decide) (by decide) rfl rfl hdf
              · exact ps_tabI C 82 q3 199 dX6_carryOrder_7 (by decide) (by decide) rfl rfl hdf
              · exact absurd (pz_83 q3) c_7_83
set_option maxRecDepth 10000 in
theorem bk_X6_carryOut_35 {X : ps_X} (C : ps_C X RX6 cX6_carryOut) (hRm : xR X = ps_lvl 7) {r : Int32} {M9 : ps_M} (hfin : ∀ pc lv, decode cX6_carryOut pc = .ok (.ireturn, 1) → narrow .int (.int r) = .int r → ps_G X M9 pc lv [.int r]) {q : Nat} (hq : ps_ck 0 q = true) : ∀ (n : Nat) (a1 : Int32) (M : ps_M), fk_X6_carryOut_35 q n a1 M = some (r, M9) → ps_G X M 35 [some (.ref (xb X + q)), some (.int a1)] [] := by
  intro n
  induction n with
  | zero => intro a1 M h; rw [fk_X6_carryOut_35] at h; cases h
  | succ n ih =>
    intro a1 M h
    rw [fk_X6_carryOut_35] at h
    refine ps_iloadn1 C dX6_carryOut_35 ?_
    refine ps_bipush C dX6_carryOut_36 pb_80 ?_
    refine ps_ic_ge C 67 dX6_carryOut_38 rfl (fun c16 => ?_) (fun c16 => ?_)
    · replace h := ps_ip c16 h
      refine ps_aloadn0 C dX6_carryOut_67 ?_
      refine gf_X6_26 C hq dX6_carryOut_68 ?_
      refine gf_X6_184 C (kf_0_323 hq) dX6_carryOut_71 ?_
      refine ps_iconst C dX6_carryOut_74 pi_0 ?_
      refine pf_X6_188 C (kf_14_1 (kf_0_323 hq)) dX6_carryOut_75 (fun M4 eM4 => ?_)
      replace h := ps_lt eM4 h
      refine ps_aloadn0 C dX6_carryOut_78 ?_
      refine gf_X6_19 C hq dX6_carryOut_79 ?_
      refine ps_iloadn1 C dX6_carryOut_82 ?_
      obtain ⟨r5, M5, hM5, h⟩ := ps_bd h
      refine ps_goV_i C (rest := []) (tt_X0_keepUnlessError (xl X) (xb X) (xD X) (kf_0_41 hq) hM5) cw_X6_53 ps_rc12 (kf_0_41 hq) (ps_room hRm (by decide)) rfl rfl (Nat.le_of_ble_eq_true rfl) dX6_carryOut_83 ?_
      exact ps_end_i h hfin dX6_carryOut_86 rfl
    · replace h := ps_in0 c16 h
      refine ps_aloadn0 C dX6_carryOut_41 ?_
      refine gf_X6_26 C hq dX6_carryOut_42 ?_
      obtain ⟨r6, M6, hM6, h⟩ := ps_bd h
      refine ps_goV_i C (rest := []) (tt_X4_readNext (xl X) (xb X) (xD X) (kf_0_323 hq) hM6) cw_X6_222 ps_rc14 (kf_0_323 hq) (ps_room hRm (by decide)) rfl rfl (Nat.le_of_ble_eq_true rfl) dX6_carryOut_45 ?_
      refine ps_if_eq C 67 dX6_carryOut_48 rfl (fun c15 => ?_) (fun c15 => ?_)
      · replace h := ps_ip c15 h
        refine ps_aloadn0 C dX6_carryOut_67 ?_
        refine gf_X6_26 C hq dX6_carryOut_68 ?_
        refine gf_X6_184 C (kf_0_323 hq) dX6_carryOut_71 ?_
        refine ps_iconst C dX6_carryOut_74 pi_0 ?_
        refine pf_X6_188 C (kf_14_1 (kf_0_323 hq)) dX6_carryOut_75 (fun M7 eM7 => ?_)
        replace h := ps_lt eM7 h
        refine ps_aloadn0 C dX6_carryOut_78 ?_
        refine gf_X6_19 C hq dX6_carryOut_79 ?_
        refine ps_iloadn1 C dX6_carryOut_82 ?_
        obtain ⟨r8, M8, hM8, h⟩ := ps_bd h
        refine ps_goV_i C (rest := []) (tt_X0_keepUnlessError (xl X) (xb X) (xD X) (kf_0_41 hq) hM8) cw_X6_53 ps_rc12 (kf_0_41 hq) (ps_room hRm (by decide)) rfl rfl (Nat.le_of_ble_eq_true rfl) dX6_carryOut_83 ?_
        exact ps_end_i h hfin dX6_carryOut_86 rfl
      · replace h := ps_in0 c15 h
        refine ps_aloadn0 C dX6_carryOut_51 ?_
        obtain ⟨r9, M9, hM9, h⟩ := ps_bd h
        refine ps_goV_i C (rest := []) (tt_X6_carryOrder (xl X) (xb X) (xD X) hq hM9) cw_X6_226 ps_rc0 hq (ps_room hRm (by decide)) rfl rfl (Nat.le_of_ble_eq_true rfl) dX6_carryOut_52 ?_
        obtain ⟨r10, M10, hM10, h⟩ := ps_bd h
        refine ps_goS_i C (rest := []) (tt_X6_isError (xl X) (xb X) (xD X) hM10) cw_X6_229 (ps_room hRm (by decide)) rfl rfl (Nat.le_of_ble_eq_true rfl) dX6_carryOut_55 ?_
        refine ps_if_ne C 67 dX6_carryOut_58 rfl (fun c14 => ?_) (fun c14 => ?_)
        · replace h := ps_in0 c14 h
          refine ps_aloadn0 C dX6_carryOut_67 ?_
          refine gf_X6_26 C hq dX6_carryOut_68 ?_
          refine gf_X6_184 C (kf_0_323 hq) dX6_carryOut_71 ?_
          refine ps_iconst C dX6_carryOut_74 pi_0 ?_
          refine pf_X6_188 C (kf_14_1 (kf_0_323 hq)) dX6_carryOut_75 (fun M11 eM11 => ?_)
          replace h := ps_lt eM11 h
          refine ps_aloadn0 C dX6_carryOut_78 ?_
          refine gf_X6_19 C hq dX6_carryOut_79 ?_
          refine ps_iloadn1 C dX6_carryOut_82 ?_
          obtain ⟨r12, M12, hM12, h⟩ := ps_bd h
          refine ps_goV_i C (rest := []) (tt_X0_keepUnlessError (xl X) (xb X) (xD X) (kf_0_41 hq) hM12) cw_X6_53 ps_rc12 (kf_0_41 hq) (ps_room hRm (by decide)) rfl rfl (Nat.le_of_ble_eq_true rfl) dX6_carryOut_83 ?_
          exact ps_end_i h hfin dX6_carryOut_86 rfl
        · replace h := ps_ip c14 h
          refine ps_iinc1 C rfl (nI 1) pi_1 dX6_carryOut_61 (fun x13 ex13 => ?_)
          replace h := ps_lt ex13 h
          refine ps_goto C 35 dX6_carryOut_64 rfl ?_
          exact ih x13 _ h
set_option maxRecDepth 10000 in
theorem tt_X6_carryOut (l : Launch) (b : Nat) (D : va_G) {q : Nat} (hq : ps_ck 0 q = true) {M M9 : ps_M} {r : Int32} (h : ff_X6_carryOut q  M = some (r, M9)) : ps_Ti l b D yX6_carryOut cX6_carryOut 2 .int 7 [.ref (b + q)] M r M9 := by
  refine ps_met_i (own := RX6) (lv := [some (.ref (b + q)), none]) (by decide) rfl rfl (Nat.le_of_ble_eq_true rfl) rfl (fun X eX1 eX2 eX3 hRm eX5 C hfin => ?_)
  subst eX1 eX2 eX3
  unfold ff_X6_carryOut at h
  refine ps_aloadn0 C dX6_carryOut_0 ?_
  refine gf_X6_26 C hq dX6_carryOut_1 ?_
  obtain ⟨r1, M1, hM1, h⟩ := ps_bd h
  refine ps_goV_i C (rest := []) (tt_X4_findFault (xl X) (xb X) (xD X) (kf_0_323 hq) hM1) cw_X6_216 ps_rc14 (kf_0_323 hq) (ps_room hRm (by decide)) rfl rfl (Nat.le_of_ble_eq_true rfl) dX6_carryOut_4 ?_
  refine ps_bipush C dX6_carryOut_7 pb_m6 ?_
  refine ps_ic_eq C 15 dX6_carryOut_9 rfl (fun c17 => ?_) (fun c17 => ?_)
  · replace h := ps_ip c17 h
    refine ps_aloadn0 C dX6_carryOut_15 ?_
    refine gf_X6_19 C hq dX6_carryOut_16 ?_
    refine ps_aloadn0 C dX6_carryOut_19 ?_
    refine gf_X6_10 C hq dX6_carryOut_20 ?_
    obtain ⟨r2, M2, hM2, h⟩ := ps_bd h
    refine ps_goV_v C (rest := []) (tt_X0_noteBefore (xl X) (xb X) (xD X) (kf_0_41 hq) (kf_0_1 hq) hM2) cw_X6_45 ps_rc12 (kf_0_41 hq) (ps_room hRm (by decide)) rfl rfl (Nat.le_of_ble_eq_true rfl) dX6_carryOut_23 ?_
    refine ps_iconst C dX6_carryOut_26 pi_0 ?_
    refine ps_istoren1 C rfl dX6_carryOut_27 ?_
    refine ps_aloadn0 C dX6_carryOut_28 ?_
    refine gf_X6_26 C hq dX6_carryOut_29 ?_
    obtain ⟨r3, M3, hM3, h⟩ := ps_bd h
    refine ps_goV_v C (rest := []) (tt_X4_start (xl X) (xb X) (xD X) (kf_0_323 hq) hM3) cw_X6_219 ps_rc14 (kf_0_323 hq) (ps_room hRm (by decide)) rfl rfl (Nat.le_of_ble_eq_true rfl) dX6_carryOut_32 ?_
    exact bk_X6_carryOut_35 C hRm hfin hq ps_fu (nI 0) _ h
  · replace h := ps_in0 c17 h
    refine ps_bipush C dX6_carryOut_12 pb_m3 ?_
    exact ps_end_i h hfin dX6_carryOut_14 rfl
