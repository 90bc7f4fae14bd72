set_option maxRecDepth 10000 in
theorem bk_X7_songsOf_4 {X : ps_X} (C : ps_C X RX7 cX7_songsOf) (hRm : xR X = ps_lvl 4) {r : Int32} {M9 : ps_M} (hfin : ∀ pc lv, decode cX7_songsOf pc = .ok (.ireturn, 1) → narrow .int (.int r) = .int r → ps_G X M9 pc lv [.int r]) {q : Nat} (hq : ps_ck 20 q = true) : ∀ (n : Nat) (a1 : Int32) (a2 : Int32) (a3 : Int32) (M : ps_M), fk_X7_songsOf_4 q n a1 a2 a3 M = some (r, M9) → ps_G X M 4 [some (.ref (xb X + q)), some (.int a1), some (.int a2), some (.int a3)] [] := by
  intro n
  induction n with
  | zero => intro a1 a2 a3 M h; rw [fk_X7_songsOf_4] at h; cases h
  | succ n ih =>
    intro a1 a2 a3 M h
    rw [fk_X7_songsOf_4] at h
    refine ps_iloadn3 C dX7_songsOf_4 ?_
    refine ps_aloadn0 C dX7_songsOf_5 ?_
    refine gf_X7_7 C hq dX7_songsOf_6 ?_
    refine ps_iconst C dX7_songsOf_9 pi_5 ?_
    obtain ⟨hi1, h⟩ := ps_gd h
    refine ps_iald C (kf_20_1 hq) (fun _ _ => rfl) hi1 dX7_songsOf_10 ?_
    refine ps_ic_ge C 41 dX7_songsOf_11 rfl (fun c8 => ?_) (fun c8 => ?_)
    · replace h := ps_ip c8 h
      refine ps_iloadn2 C dX7_songsOf_41 ?_
      exact ps_end_i h hfin dX7_songsOf_42 rfl
    · replace h := ps_in0 c8 h
      refine ps_iloadn2 C dX7_songsOf_14 ?_
      refine ps_aloadn0 C dX7_songsOf_15 ?_
      refine ps_iloadn1 C dX7_songsOf_16 ?_
      refine ps_iloadn3 C dX7_songsOf_17 ?_
      obtain ⟨r2, M2, hM2, h⟩ := ps_bd h
      refine ps_goV_i C (rest := [.int a2]) (tt_X7_hundredths (xl X) (xb X) (xD X) hq hM2) cw_X7_77 ps_rc20 hq (ps_room hRm (by decide)) rfl rfl (Nat.le_of_ble_eq_true rfl) dX7_songsOf_18 ?_
      refine ps_bipush C dX7_songsOf_21 pb_100 ?_
      refine ps_ic_ne C 32 dX7_songsOf_23 rfl (fun c7 => ?_) (fun c7 => ?_)
      · replace h := ps_in0 c7 h
        refine ps_iconst C dX7_songsOf_32 pi_0 ?_
        refine ps_ior C dX7_songsOf_33 ?_
        refine ps_nmi (fun x3 ex3 => ?_)
        replace h := ps_lt ex3 h
        refine ps_istoren2 C rfl dX7_songsOf_34 ?_
        refine ps_iinc3 C rfl (nI 1) pi_1 dX7_songsOf_35 (fun x4 ex4 => ?_)
        replace h := ps_lt ex4 h
        refine ps_goto C 4 dX7_songsOf_38 rfl ?_
        exact ih a1 x3 x4 _ h
      · replace h := ps_ip c7 h
        refine ps_iconst C dX7_songsOf_26 pi_1 ?_
        refine ps_iloadn3 C dX7_songsOf_27 ?_
        refine ps_ishl C dX7_songsOf_28 ?_
        refine ps_goto C 33 dX7_songsOf_29 rfl ?_
        refine ps_ior C dX7_songsOf_33 ?_
        refine ps_nmi (fun x5 ex5 => ?_)
        replace h := ps_lt ex5 h
        refine ps_istoren2 C rfl dX7_songsOf_34 ?_
        refine ps_iinc3 C rfl (nI 1) pi_1 dX7_songsOf_35 (fun x6 ex6 => ?_)
        replace h := ps_lt ex6 h
        refine ps_goto C 4 dX7_songsOf_38 rfl ?_
        exact ih a1 x5 x6 _ h
set_option maxRecDepth 10000 in
theorem tt_X7_songsOf (l : Launch) (b : Nat) (D : va_G) {q : Nat} (hq : ps_ck 20 q = true) {a1 : Int32} {M M9 : ps_M} {r : Int32} (h : ff_X7_songsOf q a1 M = some (r, M9)) : ps_Ti l b D yX7_songsOf cX7_songsOf 4 .int 4 [.ref (b + q), .int a1] M r M9 := by
  refine ps_met_i (own := RX7) (lv := [some (.ref (b + q)), some (.int a1), none, none]) (by decide) rfl rfl (Nat.le_of_ble_eq_true rfl) rfl (fun X eX1 eX2 eX3 hRm eX5 C hfin => ?_)
  subst eX1 eX2 eX3
  unfold ff_X7_songsOf at h
  refine ps_iconst C dX7_songsOf_0 pi_0 ?_
  refine ps_istoren2 C rfl dX7_songsOf_1 ?_
  refine ps_iconst C dX7_songsOf_2 pi_0 ?_
  refine ps_istoren3 C rfl dX7_songsOf_3 ?_
  exact bk_X7_songsOf_4 C hRm hfin hq ps_fu a1 (nI 0) (nI 0) _ h
set_option maxRecDepth 10000 in
theorem tt_X7_of (l : Launch) (b : Nat) (D : va_G) {q : Nat} (hq : ps_ck 20 q = true) {a1 : Int32} {a2 : Int32} {M M9 : ps_M} {r : Int32} (h : ff_X7_of q a1 a2 M = some (r, M9)) : ps_Ti l b D yX7_of cX7_of 4 .int 5 [.ref (b + q), .int a1, .int a2] M r M9 := by
  refine ps_met_i (own := RX7) (lv := [some (.ref (b + q)), some (.int a1), some (.int a2), none]) (by decide) rfl rfl (Nat.le_of_ble_eq_true rfl) rfl (fun X eX1 eX2 eX3 hRm eX5 C hfin => ?_)
  subst eX1 eX2 eX3
  unfold ff_X7_of at h
  refine ps_aloadn0 C dX7_of_0 ?_
  refine ps_iloadn1 C dX7_of_1 ?_
  obtain ⟨r1, M1, hM1, h⟩ := ps_bd h
  refine ps_goV_i C (rest := []) (tt_X7_isParrot (xl X) (xb X) (xD X) hq hM1) cw_X7_80 ps_rc20 hq (ps_room hRm (by decide)) rfl rfl (Nat.le_of_ble_eq_true rfl) dX7_of_2 ?_
  refine ps_if_ne C 10 dX7_of_5 rfl (fun c12 => ?_) (fun c12 => ?_)
  · replace h := ps_in0 c12 h
    refine ps_iloadn1 C dX7_of_10 ?_
    obtain ⟨r2, M2, hM2, h⟩ := ps_bd h
    refine ps_goS_i C (rest := []) (tt_X7_p (xl X) (xb X) (xD X) hM2) cw_X7_47 (ps_room hRm (by decide)) rfl rfl (Nat.le_of_ble_eq_true rfl) dX7_of_11 ?_
    refine ps_istoren3 C rfl dX7_of_14 ?_
    refine ps_iloadn2 C dX7_of_15 ?_
    by_cases c_16_0 : a2 = nI 0
    · replace h := ps_ip c_16_0 h
      refine ps_tabI C 0 (by rw [c_16_0]; rfl) 60 dX7_of_16 (by decide) (by decide) rfl rfl ?_
      refine ps_aloadn0 C dX7_of_60 ?_
      refine gf_X7_7 C hq dX7_of_61 ?_
      refine ps_iloadn3 C dX7_of_64 ?_
      obtain ⟨hi11, h⟩ := ps_gd h
      refine ps_iald C (kf_20_1 hq) (fun _ _ => rfl) hi11 dX7_of_65 ?_
      exact ps_end_i h hfin dX7_of_66 rfl
    · replace h := ps_in0 c_16_0 h
      by_cases c_16_1 : a2 = nI 1
      · replace h := ps_ip c_16_1 h
        refine ps_tabI C 1 (by rw [c_16_1]; rfl) 67 dX7_of_16 (by decide) (by decide) rfl rfl ?_
        refine ps_aloadn0 C dX7_of_67 ?_
        refine ps_iloadn1 C dX7_of_68 ?_
        obtain ⟨r10, M10, hM10, h⟩ := ps_bd h
        refine ps_goV_i C (rest := []) (tt_X7_strengths (xl X) (xb X) (xD X) hq hM10) cw_X7_128 ps_rc20 hq (ps_room hRm (by decide)) rfl rfl (Nat.le_of_ble_eq_true rfl) dX7_of_69 ?_
        exact ps_end_i h hfin dX7_of_72 rfl
      · replace h := ps_in0 c_16_1 h
        by_cases c_16_2 : a2 = nI 2
        · replace h := ps_ip c_16_2 h
          refine ps_tabI C 2 (by rw [c_16_2]; rfl) 73 dX7_of_16 (by decide) (by decide) rfl rfl ?_
          refine ps_aloadn0 C dX7_of_73 ?_
          refine gf_X7_7 C hq dX7_of_74 ?_
          refine ps_iloadn3 C dX7_of_77 ?_
          refine ps_iconst C dX7_of_78 pi_1 ?_
          refine ps_iadd C dX7_of_79 ?_
          obtain ⟨hi7, h⟩ := ps_gd h
          refine ps_iald C (kf_20_1 hq) (fun _ _ => rfl) hi7 dX7_of_80 ?_
          refine ps_if_ge C 89 dX7_of_81 rfl (fun c9 => ?_) (fun c9 => ?_)
          · replace h := ps_ip c9 h
            refine ps_aloadn0 C dX7_of_89 ?_
            refine gf_X7_7 C hq dX7_of_90 ?_
            refine ps_iloadn3 C dX7_of_93 ?_
            refine ps_iconst C dX7_of_94 pi_1 ?_
            refine ps_iadd C dX7_of_95 ?_
            obtain ⟨hi8, h⟩ := ps_gd h
            refine ps_iald C (kf_20_1 hq) (fun _ _ => rfl) hi8 dX7_of_96 ?_
            exact ps_end_i h hfin dX7_of_97 rfl
          · replace h := ps_in0 c9 h
            refine ps_bipush C dX7_of_84 pb_m6 ?_
            refine ps_goto C 97 dX7_of_86 rfl ?_
            exact ps_end_i h hfin dX7_of_97 rfl
        · replace h := ps_in0 c_16_2 h
          by_cases c_16_3 : a2 = nI 3
          · replace h := ps_ip c_16_3 h
            refine ps_tabI C 3 (by rw [c_16_3]; rfl) 98 dX7_of_16 (by decide) (by decide) rfl rfl ?_
            refine ps_aloadn0 C dX7_of_98 ?_
            refine gf_X7_7 C hq dX7_of_99 ?_
            refine ps_iloadn3 C dX7_of_102 ?_
            refine ps_iloadn2 C dX7_of_103 ?_
            refine ps_iadd C dX7_of_104 ?_
            refine ps_iconst C dX7_of_105 pi_1 ?_
            refine ps_isub C dX7_of_106 ?_
            obtain ⟨hi6, h⟩ := ps_gd h
            refine ps_iald C (kf_20_1 hq) (fun _ _ => rfl) hi6 dX7_of_107 ?_
            exact ps_end_i h hfin dX7_of_108 rfl
          · replace h := ps_in0 c_16_3 h
            by_cases c_16_4 : a2 = nI 4
            · replace h := ps_ip c_16_4 h
              refine ps_tabI C 4 (by rw [c_16_4]; rfl) 98 dX7_of_16 (by decide) (by decide) rfl rfl ?_
              refine ps_aloadn0 C dX7_of_98 ?_
              refine gf_X7_7 C hq dX7_of_99 ?_
              refine ps_iloadn3 C dX7_of_102 ?_
              refine ps_iloadn2 C dX7_of_103 ?_
              refine ps_iadd C dX7_of_104 ?_
              refine ps_iconst C dX7_of_105 pi_1 ?_
              refine ps_isub C dX7_of_106 ?_
              obtain ⟨hi5, h⟩ := ps_gd h
              refine ps_iald C (kf_20_1 hq) (fun _ _ => rfl) hi5 dX7_of_107 ?_
              exact ps_end_i h hfin dX7_of_108 rfl
            · replace h := ps_in0 c_16_4 h
              by_cases c_16_5 : a2 = nI 5
              · replace h := ps_ip c_16_5 h
                refine ps_tabI C 5 (by rw [c_16_5]; rfl) 98 dX7_of_16 (by decide) (by decide) rfl rfl ?_
                refine ps_aloadn0 C dX7_of_98 ?_
                refine gf_X7_7 C hq dX7_of_99 ?_
                refine ps_iloadn3 C dX7_of_102 ?_
                refine ps_iloadn2 C dX7_of_103 ?_
                refine ps_iadd C dX7_of_104 ?_
                refine ps_iconst C dX7_of_105 pi_1 ?_
                refine ps_isub C dX7_of_106 ?_
                obtain ⟨hi4, h⟩ := ps_gd h
                refine ps_iald C (kf_20_1 hq) (fun _ _ => rfl) hi4 dX7_of_107 ?_
                exact ps_end_i h hfin dX7_of_108 rfl
              · replace h := ps_in0 c_16_5 h
                by_cases c_16_6 : a2 = nI 6
                · replace h := ps_ip c_16_6 h
                  refine ps_tabI C 6 (by rw [c_16_6]; rfl) 109 dX7_of_16 (by decide) (by decide) rfl rfl ?_
                  refine ps_aloadn0 C dX7_of_109 ?_
                  refine ps_iloadn1 C dX7_of_110 ?_
                  obtain ⟨r3, M3, hM3, h⟩ := ps_bd h
                  refine ps_goV_i C (rest := []) (tt_X7_songsOf (xl X) (xb X) (xD X) hq hM3) cw_X7_131 ps_rc20 hq (ps_room hRm (by decide)) rfl rfl (Nat.le_of_ble_eq_true rfl) dX7_of_111 ?_
                  exact ps_end_i h hfin dX7_of_114 rfl
                · replace h := ps_in0 c_16_6 h
                  have hdf : ps_G X M2 115 [some (.ref (xb X + q)), some (.int a1), some (.int a2), some (.int r2)] [] := by
                    refine ps_bipush C dX7_of_115 pb_m2 ?_
                    exact ps_end_i h hfin dX7_of_117 rfl
                  by_cases q1 : a2.toInt < 0
                  · exact ps_tabO C 115 dX7_of_16 (Or.inl q1) rfl hdf
                  by_cases q2 : 6 < a2.toInt
                  · exact ps_tabO C 115 dX7_of_16 (Or.inr q2) rfl hdf
                  exfalso
                  rcases (by omega : a2.toInt = 0 ∨ a2.toInt = 1 ∨ a2.toInt = 2 ∨ a2.toInt = 3 ∨ a2.toInt = 4 ∨ a2.toInt = 5 ∨ a2.toInt = 6) with q3 | q3 | q3 | q3 | q3 | q3 | q3
                  · exact absurd (pz_0 q3) c_16_0
                  · exact absurd (pz_1 q3) c_16_1
                  · exact absurd (pz_2 q3) c_16_2
                  · exact absurd (pz_3 q3) c_16_3
                  · exact absurd (pz_4 q3) c_16_4
                  · exact absurd (pz_5 q3) c_16_5
                  · exact absurd (pz_6 q3) c_16_6
  · replace h := ps_ip c12 h
    refine ps_iconst C dX7_of_8 pi_m1 ?_
    exact ps_end_i h hfin dX7_of_9 rfl
set_option maxRecDepth 10000 in
theorem tt_X7_link (l : Launch) (b : Nat) (D : va_G) {q : Nat} (hq : ps_ck 20 q = true) {a1 : Int32} {a2 : Int32} {a3 : Int32} {M M9 : ps_M} {r : Int32} (h : ff_X7_link q a1 a2 a3 M = some (r, M9)) : ps_Ti l b D yX7_link cX7_link 5 .int 2 [.ref (b + q), .int a1, .int a2, .int a3] M r M9 := by
  refine ps_met_i (own := RX7) (lv := [some (.ref (b + q)), some (.int a1), some (.int a2), some (.int a3), none]) (by decide) rfl rfl (Nat.le_of_ble_eq_true rfl) rfl (fun X eX1 eX2 eX3 hRm eX5 C hfin => ?_)
  subst eX1 eX2 eX3
  unfold ff_X7_link at h
  refine ps_aloadn0 C dX7_link_0 ?_
  refine ps_iloadn1 C dX7_link_1 ?_
  obtain ⟨r1, M1, hM1, h⟩ := ps_bd h
  refine ps_goV_i C (rest := []) (tt_X7_isParrot (xl X) (xb X) (xD X) hq hM1) cw_X7_80 ps_rc20 hq (ps_room hRm (by decide)) rfl rfl (Nat.le_of_ble_eq_true rfl) dX7_link_2 ?_
  refine ps_if_eq C 27 dX7_link_5 rfl (fun c13 => ?_) (fun c13 => ?_)
  · replace h := ps_ip c13 h
    refine ps_iconst C dX7_link_27 pi_m1 ?_
    exact ps_end_i h hfin dX7_link_28 rfl
  · replace h := ps_in0 c13 h
    refine ps_iloadn2 C dX7_link_8 ?_
    refine ps_iconst C dX7_link_9 pi_0 ?_
    refine ps_aloadn0 C dX7_link_10 ?_
    refine gf_X7_7 C hq dX7_link_11 ?_
    refine ps_iloadn1 C dX7_link_14 ?_
    obtain ⟨r2, M2, hM2, h⟩ := ps_bd h
    refine ps_goS_i C (rest := [.ref (xb X + (q + 1)), .int (nI 0), .int a2]) (tt_X7_p (xl X) (xb X) (xD X) hM2) cw_X7_47 (ps_room hRm (by decide)) rfl rfl (Nat.le_of_ble_eq_true rfl) dX7_link_15 ?_
    obtain ⟨hi3, h⟩ := ps_gd h
    refine ps_iald C (kf_20_1 hq) (fun _ _ => rfl) hi3 dX7_link_18 ?_
    refine ps_iconst C dX7_link_19 pi_1 ?_
    refine ps_isub C dX7_link_20 ?_
    obtain ⟨r4, M4, hM4, h⟩ := ps_bd h
    refine ps_goS_i C (rest := []) (tt_X7_in (xl X) (xb X) (xD X) hM4) cw_X7_39 (ps_room hRm (by decide)) rfl rfl (Nat.le_of_ble_eq_true rfl) dX7_link_21 ?_
    refine ps_if_ne C 29 dX7_link_24 rfl (fun c12 => ?_) (fun c12 => ?_)
    · replace h := ps_in0 c12 h
      refine ps_iloadn1 C dX7_link_29 ?_
      refine ps_aloadn0 C dX7_link_30 ?_
      refine gf_X7_7 C hq dX7_link_31 ?_
      refine ps_iloadn1 C dX7_link_34 ?_
      obtain ⟨r5, M5, hM5, h⟩ := ps_bd h
      refine ps_goS_i C (rest := [.ref (xb X + (q + 1)), .int a1]) (tt_X7_p (xl X) (xb X) (xD X) hM5) cw_X7_47 (ps_room hRm (by decide)) rfl rfl (Nat.le_of_ble_eq_true rfl) dX7_link_35 ?_
      obtain ⟨hi6, h⟩ := ps_gd h
      refine ps_iald C (kf_20_1 hq) (fun _ _ => rfl) hi6 dX7_link_38 ?_
      refine ps_iconst C dX7_link_39 pi_1 ?_
      refine ps_isub C dX7_link_40 ?_
      refine ps_iloadn2 C dX7_link_41 ?_
      refine ps_isub C dX7_link_42 ?_
      obtain ⟨r7, M7, hM7, h⟩ := ps_bd h
      refine ps_goS_i C (rest := []) (tt_X7_l (xl X) (xb X) (xD X) hM7) cw_X7_51 (ps_room hRm (by decide)) rfl rfl (Nat.le_of_ble_eq_true rfl) dX7_link_43 ?_
      refine ps_istore4 C rfl dX7_link_46 ?_
      refine ps_iloadn3 C dX7_link_48 ?_
      by_cases c_49_0 : a3 = nI 0
      · replace h := ps_ip c_49_0 h
        refine ps_tabI C 0 (by rw [c_49_0]; rfl) 80 dX7_link_49 (by decide) (by decide) rfl rfl ?_
        refine ps_aloadn0 C dX7_link_80 ?_
        refine gf_X7_7 C hq dX7_link_81 ?_
        refine ps_iload4 C dX7_link_84 ?_
        obtain ⟨hi11, h⟩ := ps_gd h
        refine ps_iald C (kf_20_1 hq) (fun _ _ => rfl) hi11 dX7_link_86 ?_
        refine ps_bipush C dX7_link_87 pb_26 ?_
        refine ps_idiv C (by decide) dX7_link_89 ?_
        exact ps_end_i h hfin dX7_link_90 rfl
      · replace h := ps_in0 c_49_0 h
        by_cases c_49_1 : a3 = nI 1
        · replace h := ps_ip c_49_1 h
          refine ps_tabI C 1 (by rw [c_49_1]; rfl) 91 dX7_link_49 (by decide) (by decide) rfl rfl ?_
          refine ps_aloadn0 C dX7_link_91 ?_
          refine gf_X7_7 C hq dX7_link_92 ?_
          refine ps_iload4 C dX7_link_95 ?_
          obtain ⟨hi10, h⟩ := ps_gd h
          refine ps_iald C (kf_20_1 hq) (fun _ _ => rfl) hi10 dX7_link_97 ?_
          refine ps_bipush C dX7_link_98 pb_26 ?_
          refine ps_irem C (by decide) dX7_link_100 ?_
          exact ps_end_i h hfin dX7_link_101 rfl
        · replace h := ps_in0 c_49_1 h
          by_cases c_49_2 : a3 = nI 2
          · replace h := ps_ip c_49_2 h
            refine ps_tabI C 2 (by rw [c_49_2]; rfl) 102 dX7_link_49 (by decide) (by decide) rfl rfl ?_
            refine ps_aloadn0 C dX7_link_102 ?_
            refine gf_X7_7 C hq dX7_link_103 ?_
            refine ps_iload4 C dX7_link_106 ?_
            refine ps_iloadn3 C dX7_link_108 ?_
            refine ps_iadd C dX7_link_109 ?_
            refine ps_iconst C dX7_link_110 pi_1 ?_
            refine ps_isub C dX7_link_111 ?_
            obtain ⟨hi9, h⟩ := ps_gd h
            refine ps_iald C (kf_20_1 hq) (fun _ _ => rfl) hi9 dX7_link_112 ?_
            exact ps_end_i h hfin dX7_link_113 rfl
          · replace h := ps_in0 c_49_2 h
            by_cases c_49_3 : a3 = nI 3
            · replace h := ps_ip c_49_3 h
              refine ps_tabI C 3 (by rw [c_49_3]; rfl) 102 dX7_link_49 (by decide) (by decide) rfl rfl ?_
              refine ps_aloadn0 C dX7_link_102 ?_
              refine gf_X7_7 C hq dX7_link_103 ?_
              refine ps_iload4 C dX7_link_106 ?_
              refine ps_iloadn3 C dX7_link_108 ?_
              refine ps_iadd C dX7_link_109 ?_
              refine ps_iconst C dX7_link_110 pi_1 ?_
              refine ps_isub C dX7_link_111 ?_
              obtain ⟨hi8, h⟩ := ps_gd h
              refine ps_iald C (kf_20_1 hq) (fun _ _ => rfl) hi8 dX7_link_112 ?_
              exact ps_end_i h hfin dX7_link_113 rfl
            · replace h := ps_in0 c_49_3 h
              have hdf : ps_G X M7 114 [some (.ref (xb X + q)), some (.int a1), some (.int a2), some (.int a3), some (.int r7)] [] := by
                refine ps_bipush C dX7_link_114 pb_m2 ?_
                exact ps_end_i h hfin dX7_link_116 rfl
              by_cases q1 : a3.toInt < 0
              · exact ps_tabO C 114 dX7_link_49 (Or.inl q1) rfl hdf
              by_cases q2 : 3 < a3.toInt
              · exact ps_tabO C 114 dX7_link_49 (Or.inr q2) rfl hdf
              exfalso
              rcases (by omega : a3.toInt = 0 ∨ a3.toInt = 1 ∨ a3.toInt = 2 ∨ a3.toInt = 3) with q3 | q3 | q3 | q3
              · exact absurd (pz_0 q3) c_49_0
              · exact absurd (pz_1 q3) c_49_1
              · exact absurd (pz_2 q3) c_49_2
              · exact absurd (pz_3 q3) c_49_3
    · replace h := ps_ip c12 h
      refine ps_iconst C dX7_link_27 pi_m1 ?_
      exact ps_end_i h hfin dX7_link_28 rfl
set_option maxRecDepth 10000 in
theorem bk_X7_sings_39 {X : ps_X} (C : ps_C X RX7 cX7_sings) (hRm : xR X = ps_lvl 2) {r : Int32} {M9 : ps_M} (hfin : ∀ pc lv, decode cX7_sings pc = .ok (.ireturn, 1) → narrow .int (.int r) = .int r → ps_G X M9 pc lv [.int r]) {q : Nat} (hq : ps_ck 20 q = true) : ∀ (n : Nat) (a1 : Int32) (a2 : Int32) (a3 : Int32) (a4 : Int32) (a5 : Int32) (M : ps_M), fk_X7_sings_39 q n a1 a2 a3 a4 a5 M = some (r, M9) → ps_G X M 39 [some (.ref (xb X + q)), some (.int a1), some (.int a2), some (.int a3), some (.int a4), some (.int a5)] [] := by
  intro n
  induction n with
  | zero => intro a1 a2 a3 a4 a5 M h; rw [fk_X7_sings_39] at h; cases h
  | succ n ih =>
    intro a1 a2 a3 a4 a5 M h
    rw [fk_X7_sings_39] at h
    refine ps_iload5 C dX7_sings_39 ?_
    refine ps_iloadn3 C dX7_sings_41 ?_
    refine ps_ic_ge C 65 dX7_sings_42 rfl (fun c9 => ?_) (fun c9 => ?_)
    · replace h := ps_ip c9 h
      refine ps_iload4 C dX7_sings_65 ?_
      refine ps_if_ge C 75 dX7_sings_67 rfl (fun c4 => ?_) (fun c4 => ?_)
      · replace h := ps_ip c4 h
        refine ps_iload4 C dX7_sings_75 ?_
        exact ps_end_i h hfin dX7_sings_77 rfl
      · replace h := ps_in0 c4 h
        refine ps_bipush C dX7_sings_70 pb_m6 ?_
        refine ps_goto C 77 dX7_sings_72 rfl ?_
        exact ps_end_i h hfin dX7_sings_77 rfl
    · replace h := ps_in0 c9 h
      refine ps_iload4 C dX7_sings_45 ?_
      refine ps_if_lt C 65 dX7_sings_47 rfl (fun c8 => ?_) (fun c8 => ?_)
      · replace h := ps_ip c8 h
        refine ps_iload4 C dX7_sings_65 ?_
        refine ps_if_ge C 75 dX7_sings_67 rfl (fun c5 => ?_) (fun c5 => ?_)
        · replace h := ps_ip c5 h
          refine ps_iload4 C dX7_sings_75 ?_
          exact ps_end_i h hfin dX7_sings_77 rfl
        · replace h := ps_in0 c5 h
          refine ps_bipush C dX7_sings_70 pb_m6 ?_
          refine ps_goto C 77 dX7_sings_72 rfl ?_
          exact ps_end_i h hfin dX7_sings_77 rfl
      · replace h := ps_in0 c8 h
        refine ps_aloadn0 C dX7_sings_50 ?_
        refine ps_iloadn1 C dX7_sings_51 ?_
        refine ps_iload4 C dX7_sings_52 ?_
        obtain ⟨r6, M6, hM6, h⟩ := ps_bd h
        refine ps_goV_i C (rest := []) (tt_X7_goesOn (xl X) (xb X) (xD X) hq hM6) cw_X7_71 ps_rc20 hq (ps_room hRm (by decide)) rfl rfl (Nat.le_of_ble_eq_true rfl) dX7_sings_54 ?_
        refine ps_istore4 C rfl dX7_sings_57 ?_
        refine ps_iinc5 C rfl (nI 1) pi_1 dX7_sings_59 (fun x7 ex7 => ?_)
        replace h := ps_lt ex7 h
        refine ps_goto C 39 dX7_sings_62 rfl ?_
        exact ih a1 a2 a3 r6 x7 _ h
set_option maxRecDepth 10000 in
theorem tt_X7_sings (l : Launch) (b : Nat) (D : va_G) {q : Nat} (hq : ps_ck 20 q = true) {a1 : Int32} {a2 : Int32} {a3 : Int32} {M M9 : ps_M} {r : Int32} (h : ff_X7_sings q a1 a2 a3 M = some (r, M9)) : ps_Ti l b D yX7_sings cX7_sings 6 .int 2 [.ref (b + q), .int a1, .int a2, .int a3] M r M9 := by
  refine ps_met_i (own := RX7) (lv := [some (.ref (b + q)), some (.int a1), some (.int a2), some (.int a3), none, none]) (by decide) rfl rfl (Nat.le_of_ble_eq_true rfl) rfl (fun X eX1 eX2 eX3 hRm eX5 C hfin => ?_)
  subst eX1 eX2 eX3
  unfold ff_X7_sings at h
  refine ps_aloadn0 C dX7_sings_0 ?_
  refine ps_iloadn1 C dX7_sings_1 ?_
  obtain ⟨r1, M1, hM1, h⟩ := ps_bd h
  refine ps_goV_i C (rest := []) (tt_X7_isParrot (xl X) (xb X) (xD X) hq hM1) cw_X7_80 ps_rc20 hq (ps_room hRm (by decide)) rfl rfl (Nat.le_of_ble_eq_true rfl) dX7_sings_2 ?_
  refine ps_if_ne C 10 dX7_sings_5 rfl (fun c12 => ?_) (fun c12 => ?_)
  · replace h := ps_in0 c12 h
    refine ps_iloadn2 C dX7_sings_10 ?_
    refine ps_iconst C dX7_sings_11 pi_0 ?_
    refine ps_bipush C dX7_sings_12 pb_25 ?_
    obtain ⟨r2, M2, hM2, h⟩ := ps_bd h
    refine ps_goS_i C (rest := []) (tt_X7_in (xl X) (xb X) (xD X) hM2) cw_X7_39 (ps_room hRm (by decide)) rfl rfl (Nat.le_of_ble_eq_true rfl) dX7_sings_14 ?_
    refine ps_if_eq C 30 dX7_sings_17 rfl (fun c11 => ?_) (fun c11 => ?_)
    · replace h := ps_ip c11 h
      refine ps_bipush C dX7_sings_30 pb_m2 ?_
      exact ps_end_i h hfin dX7_sings_32 rfl
    · replace h := ps_in0 c11 h
      refine ps_iloadn3 C dX7_sings_20 ?_
      refine ps_iconst C dX7_sings_21 pi_0 ?_
      refine ps_bipush C dX7_sings_22 pb_99 ?_
      obtain ⟨r3, M3, hM3, h⟩ := ps_bd h
      refine ps_goS_i C (rest := []) (tt_X7_in (xl X) (xb X) (xD X) hM3) cw_X7_39 (ps_room hRm (by decide)) rfl rfl (Nat.le_of_ble_eq_true rfl) dX7_sings_24 ?_
      refine ps_if_ne C 33 dX7_sings_27 rfl (fun c10 => ?_) (fun c10 => ?_)
      · replace h := ps_in0 c10 h
        refine ps_iloadn2 C dX7_sings_33 ?_
        refine ps_istore4 C rfl dX7_sings_34 ?_
        refine ps_iconst C dX7_sings_36 pi_0 ?_
        refine ps_istore5 C rfl dX7_sings_37 ?_
        exact bk_X7_sings_39 C hRm hfin hq ps_fu a1 a2 a3 a2 (nI 0) _ h
      · replace h := ps_ip c10 h
        refine ps_bipush C dX7_sings_30 pb_m2 ?_
        exact ps_end_i h hfin dX7_sings_32 rfl
  · replace h := ps_ip c12 h
    refine ps_iconst C dX7_sings_8 pi_m1 ?_
    exact ps_end_i h hfin dX7_sings_9 rfl
set_option maxRecDepth 10000 in
theorem tt_X7_knows (l : Launch) (b : Nat) (D : va_G) {q : Nat} (hq : ps_ck 20 q = true) {a1 : Int32} {a2 : Int32} {M M9 : ps_M} {r : Int32} (h : ff_X7_knows q a1 a2 M = some (r, M9)) : ps_Ti l b D yX7_knows cX7_knows 3 .int 4 [.ref (b + q), .int a1, .int a2] M r M9 := by
  refine ps_met_i (own := RX7) (lv := [some (.ref (b + q)), some (.int a1), some (.int a2)]) (by decide) rfl rfl (Nat.le_of_ble_eq_true rfl) rfl (fun X eX1 eX2 eX3 hRm eX5 C hfin => ?_)
  subst eX1 eX2 eX3
  unfold ff_X7_knows at h
  refine ps_aloadn0 C dX7_knows_0 ?_
  refine ps_iloadn1 C dX7_knows_1 ?_
  obtain ⟨r1, M1, hM1, h⟩ := ps_bd h
  refine ps_goV_i C (rest := []) (tt_X7_isParrot (xl X) (xb X) (xD X) hq hM1) cw_X7_80 ps_rc20 hq (ps_room hRm (by decide)) rfl rfl (Nat.le_of_ble_eq_true rfl) dX7_knows_2 ?_
  refine ps_if_eq C 25 dX7_knows_5 rfl (fun c5 => ?_) (fun c5 => ?_)
  · replace h := ps_ip c5 h
    refine ps_iconst C dX7_knows_25 pi_m1 ?_
    exact ps_end_i h hfin dX7_knows_26 rfl
  · replace h := ps_in0 c5 h
    refine ps_aloadn0 C dX7_knows_8 ?_
    refine ps_iloadn2 C dX7_knows_9 ?_
    obtain ⟨r2, M2, hM2, h⟩ := ps_bd h
    refine ps_goV_i C (rest := []) (tt_X7_isSong (xl X) (xb X) (xD X) hq hM2) cw_X7_84 ps_rc20 hq (ps_room hRm (by decide)) rfl rfl (Nat.le_of_ble_eq_true rfl) dX7_knows_10 ?_
    refine ps_if_eq C 25 dX7_knows_13 rfl (fun c4 => ?_) (fun c4 => ?_)
    · replace h := ps_ip c4 h
      refine ps_iconst C dX7_knows_25 pi_m1 ?_
      exact ps_end_i h hfin dX7_knows_26 rfl
    · replace h := ps_in0 c4 h
      refine ps_aloadn0 C dX7_knows_16 ?_
      refine ps_iloadn1 C dX7_knows_17 ?_
      refine ps_iloadn2 C dX7_knows_18 ?_
      obtain ⟨r3, M3, hM3, h⟩ := ps_bd h
      refine ps_goV_i C (rest := []) (tt_X7_hundredths (xl X) (xb X) (xD X) hq hM3) cw_X7_77 ps_rc20 hq (ps_room hRm (by decide)) rfl rfl (Nat.le_of_ble_eq_true rfl) dX7_knows_19 ?_
      refine ps_goto C 26 dX7_knows_22 rfl ?_
      exact ps_end_i h hfin dX7_knows_26 rfl
set_option maxRecDepth 10000 in
theorem bk_X7_songsWith_26 {X : ps_X} (C : ps_C X RX7 cX7_songsWith) (hRm : xR X = ps_lvl 1) {r : Int32} {M9 : ps_M} (hfin : ∀ pc lv, decode cX7_songsWith pc = .ok (.ireturn, 1) → narrow .int (.int r) = .int r → ps_G X M9 pc lv [.int r]) {q : Nat} (hq : ps_ck 20 q = true) {K : Int32 → Int32 → Int32 → Int32 → ps_M → Option (Int32 × ps_M)} (hK : ∀ (a1 : Int32) (a2 : Int32) (a3 : Int32) (a4 : Int32) (M : ps_M), K a1 a2 a3 a4 M = some (r, M9) → ps_G X M 5 [some (.ref (xb X + q)), some (.int a1), some (.int a2), some (.int a3), some (.int a4), none, none] []) : ∀ (n : Nat) (a1 : Int32) (a2 : Int32) (a3 : Int32) (a4 : Int32) (a5 : Int32) (a6 : Int32) (M : ps_M), fk_X7_songsWith_26 q K n a1 a2 a3 a4 a5 a6 M = some (r, M9) → ps_G X M 26 [some (.ref (xb X + q)), some (.int a1), some (.int a2), some (.int a3), some (.int a4), some (.int a5), some (.int a6)] [] := by
  intro n
  induction n with
  | zero => intro a1 a2 a3 a4 a5 a6 M h; rw [fk_X7_songsWith_26] at h; cases h
  | succ n ih =>
    intro a1 a2 a3 a4 a5 a6 M h
    rw [fk_X7_songsWith_26] at h
    refine ps_iload6 C dX7_songsWith_26 ?_
    refine ps_aloadn0 C dX7_songsWith_28 ?_
    refine gf_X7_7 C hq dX7_songsWith_29 ?_
    refine ps_iload5 C dX7_songsWith_32 ?_
    obtain ⟨hi3, h⟩ := ps_gd h
    refine ps_iald C (kf_20_1 hq) (fun _ _ => rfl) hi3 dX7_songsWith_34 ?_
    refine ps_ic_ge C 87 dX7_songsWith_35 rfl (fun c15 => ?_) (fun c15 => ?_)
    · replace h := ps_ip c15 h
      refine ps_iinc4 C rfl (nI 1) pi_1 dX7_songsWith_87 (fun x4 ex4 => ?_)
      replace h := ps_lt ex4 h
      refine ps_goto C 5 dX7_songsWith_90 rfl ?_
      refine ps_wk (lv' := [some (.ref (xb X + q)), some (.int a1), some (.int a2), some (.int a3), some (.int x4), none, none]) (ps_le_s rfl (ps_le_s rfl (ps_le_s rfl (ps_le_s rfl (ps_le_s rfl (ps_le_n (ps_le_n ps_le_0))))))) ?_
      exact hK a1 a2 a3 x4 _ h
    · replace h := ps_in0 c15 h
      refine ps_iloadn3 C dX7_songsWith_38 ?_
      refine ps_aloadn0 C dX7_songsWith_39 ?_
      refine gf_X7_7 C hq dX7_songsWith_40 ?_
      refine ps_iload5 C dX7_songsWith_43 ?_
      refine ps_iconst C dX7_songsWith_45 pi_1 ?_
      refine ps_iadd C dX7_songsWith_46 ?_
      refine ps_iload6 C dX7_songsWith_47 ?_
      refine ps_iadd C dX7_songsWith_49 ?_
      obtain ⟨hi5, h⟩ := ps_gd h
      refine ps_iald C (kf_20_1 hq) (fun _ _ => rfl) hi5 dX7_songsWith_50 ?_
      refine ps_iloadn1 C dX7_songsWith_51 ?_
      refine ps_ic_ne C 78 dX7_songsWith_52 rfl (fun c14 => ?_) (fun c14 => ?_)
      · replace h := ps_in0 c14 h
        refine ps_iconst C dX7_songsWith_78 pi_0 ?_
        refine ps_ior C dX7_songsWith_79 ?_
        refine ps_nmi (fun x6 ex6 => ?_)
        replace h := ps_lt ex6 h
        refine ps_istoren3 C rfl dX7_songsWith_80 ?_
        refine ps_iinc6 C rfl (nI 1) pi_1 dX7_songsWith_81 (fun x7 ex7 => ?_)
        replace h := ps_lt ex7 h
        refine ps_goto C 26 dX7_songsWith_84 rfl ?_
        exact ih a1 a2 x6 a4 a5 x7 _ h
      · replace h := ps_ip c14 h
        refine ps_aloadn0 C dX7_songsWith_55 ?_
        refine gf_X7_7 C hq dX7_songsWith_56 ?_
        refine ps_iload5 C dX7_songsWith_59 ?_
        refine ps_iconst C dX7_songsWith_61 pi_2 ?_
        refine ps_iadd C dX7_songsWith_62 ?_
        refine ps_iload6 C dX7_songsWith_63 ?_
        refine ps_iadd C dX7_songsWith_65 ?_
        obtain ⟨hi8, h⟩ := ps_gd h
        refine ps_iald C (kf_20_1 hq) (fun _ _ => rfl) hi8 dX7_songsWith_66 ?_
        refine ps_iloadn2 C dX7_songsWith_67 ?_
        refine ps_ic_ne C 78 dX7_songsWith_68 rfl (fun c13 => ?_) (fun c13 => ?_)
        · replace h := ps_in0 c13 h
          refine ps_iconst C dX7_songsWith_78 pi_0 ?_
          refine ps_ior C dX7_songsWith_79 ?_
          refine ps_nmi (fun x9 ex9 => ?_)
          replace h := ps_lt ex9 h
          refine ps_istoren3 C rfl dX7_songsWith_80 ?_
          refine ps_iinc6 C rfl (nI 1) pi_1 dX7_songsWith_81 (fun x10 ex10 => ?_)
          replace h := ps_lt ex10 h
          refine ps_goto C 26 dX7_songsWith_84 rfl ?_
          exact ih a1 a2 x9 a4 a5 x10 _ h
        · replace h := ps_ip c13 h
          refine ps_iconst C dX7_songsWith_71 pi_1 ?_
          refine ps_iload4 C dX7_songsWith_72 ?_
          refine ps_ishl C dX7_songsWith_74 ?_
          refine ps_goto C 79 dX7_songsWith_75 rfl ?_
          refine ps_ior C dX7_songsWith_79 ?_
          refine ps_nmi (fun x11 ex11 => ?_)
          replace h := ps_lt ex11 h
          refine ps_istoren3 C rfl dX7_songsWith_80 ?_
          refine ps_iinc6 C rfl (nI 1) pi_1 dX7_songsWith_81 (fun x12 ex12 => ?_)
          replace h := ps_lt ex12 h
          refine ps_goto C 26 dX7_songsWith_84 rfl ?_
          exact ih a1 a2 x11 a4 a5 x12 _ h
set_option maxRecDepth 10000 in
theorem bk_X7_songsWith_5 {X : ps_X} (C : ps_C X RX7 cX7_songsWith) (hRm : xR X = ps_lvl 1) {r : Int32} {M9 : ps_M} (hfin : ∀ pc lv, decode cX7_songsWith pc = .ok (.ireturn, 1) → narrow .int (.int r) = .int r → ps_G X M9 pc lv [.int r]) {q : Nat} (hq : ps_ck 20 q = true) : ∀ (n : Nat) (a1 : Int32) (a2 : Int32) (a3 : Int32) (a4 : Int32) (M : ps_M), fk_X7_songsWith_5 q n a1 a2 a3 a4 M = some (r, M9) → ps_G X M 5 [some (.ref (xb X + q)), some (.int a1), some (.int a2), some (.int a3), some (.int a4), none, none] [] := by
  intro n
  induction n with
  | zero => intro a1 a2 a3 a4 M h; rw [fk_X7_songsWith_5] at h; cases h
  | succ n ih =>
    intro a1 a2 a3 a4 M h
    rw [fk_X7_songsWith_5] at h
    refine ps_iload4 C dX7_songsWith_5 ?_
    refine ps_aloadn0 C dX7_songsWith_7 ?_
    refine gf_X7_7 C hq dX7_songsWith_8 ?_
    refine ps_iconst C dX7_songsWith_11 pi_5 ?_
    obtain ⟨hi1, h⟩ := ps_gd h
    refine ps_iald C (kf_20_1 hq) (fun _ _ => rfl) hi1 dX7_songsWith_12 ?_
    refine ps_ic_ge C 93 dX7_songsWith_13 rfl (fun c16 => ?_) (fun c16 => ?_)
    · replace h := ps_ip c16 h
      refine ps_iloadn3 C dX7_songsWith_93 ?_
      exact ps_end_i h hfin dX7_songsWith_94 rfl
    · replace h := ps_in0 c16 h
      refine ps_iload4 C dX7_songsWith_16 ?_
      obtain ⟨r2, M2, hM2, h⟩ := ps_bd h
      refine ps_goS_i C (rest := []) (tt_X7_n (xl X) (xb X) (xD X) hM2) cw_X7_68 (ps_room hRm (by decide)) rfl rfl (Nat.le_of_ble_eq_true rfl) dX7_songsWith_18 ?_
      refine ps_istore5 C rfl dX7_songsWith_21 ?_
      refine ps_iconst C dX7_songsWith_23 pi_1 ?_
      refine ps_istore6 C rfl dX7_songsWith_24 ?_
      exact bk_X7_songsWith_26 C hRm hfin hq (fun a1' a2' a3' a4' M' h' => ih a1' a2' a3' a4' M' h') ps_fu a1 a2 a3 a4 r2 (nI 1) _ h
set_option maxRecDepth 10000 in
theorem tt_X7_songsWith (l : Launch) (b : Nat) (D : va_G) {q : Nat} (hq : ps_ck 20 q = true) {a1 : Int32} {a2 : Int32} {M M9 : ps_M} {r : Int32} (h : ff_X7_songsWith q a1 a2 M = some (r, M9)) : ps_Ti l b D yX7_songsWith cX7_songsWith 7 .int 1 [.ref (b + q), .int a1, .int a2] M r M9 := by
  refine ps_met_i (own := RX7) (lv := [some (.ref (b + q)), some (.int a1), some (.int a2), none, none, none, none]) (by decide) rfl rfl (Nat.le_of_ble_eq_true rfl) rfl (fun X eX1 eX2 eX3 hRm eX5 C hfin => ?_)
  subst eX1 eX2 eX3
  unfold ff_X7_songsWith at h
  refine ps_iconst C dX7_songsWith_0 pi_0 ?_
  refine ps_istoren3 C rfl dX7_songsWith_1 ?_
  refine ps_iconst C dX7_songsWith_2 pi_0 ?_
  refine ps_istore4 C rfl dX7_songsWith_3 ?_
  exact bk_X7_songsWith_5 C hRm hfin hq ps_fu a1 a2 (nI 0) (nI 0) _ h
set_option maxRecDepth 10000 in
theorem tt_X7_mistake (l : Launch) (b : Nat) (D : va_G) {q : Nat} (hq : ps_ck 20 q = true) {a1 : Int32} {a2 : Int32} {a3 : Int32} {M M9 : ps_M} {r : Int32} (h : ff_X7_mistake q a1 a2 a3 M = some (r, M9)) : ps_Ti l b D yX7_mistake cX7_mistake 7 .int 3 [.ref (b + q), .int a1, .int a2, .int a3] M r M9 := by
  refine ps_met_i (own := RX7) (lv := [some (.ref (b + q)), some (.int a1), some (.int a2), some (.int a3), none, none, none]) (by decide) rfl rfl (Nat.le_of_ble_eq_true rfl) rfl (fun X eX1 eX2 eX3 hRm eX5 C hfin => ?_)
  subst eX1 eX2 eX3
  unfold ff_X7_mistake at h
  refine ps_aloadn0 C dX7_mistake_0 ?_
  refine ps_iloadn1 C dX7_mistake_1 ?_
  obtain ⟨r1, M1, hM1, h⟩ := ps_bd h
  refine ps_goV_i C (rest := []) (tt_X7_isParrot (xl X) (xb X) (xD X) hq hM1) cw_X7_80 ps_rc20 hq (ps_room hRm (by decide)) rfl rfl (Nat.le_of_ble_eq_true rfl) dX7_mistake_2 ?_
  refine ps_if_eq C 16 dX7_mistake_5 rfl (fun c19 => ?_) (fun c19 => ?_)
  · replace h := ps_ip c19 h
    refine ps_iconst C dX7_mistake_16 pi_m1 ?_
    exact ps_end_i h hfin dX7_mistake_17 rfl
  · replace h := ps_in0 c19 h
    refine ps_aloadn0 C dX7_mistake_8 ?_
    refine ps_iloadn2 C dX7_mistake_9 ?_
    obtain ⟨r2, M2, hM2, h⟩ := ps_bd h
    refine ps_goV_i C (rest := []) (tt_X7_isSong (xl X) (xb X) (xD X) hq hM2) cw_X7_84 ps_rc20 hq (ps_room hRm (by decide)) rfl rfl (Nat.le_of_ble_eq_true rfl) dX7_mistake_10 ?_
    refine ps_if_ne C 18 dX7_mistake_13 rfl (fun c18 => ?_) (fun c18 => ?_)
    · replace h := ps_in0 c18 h
      refine ps_iloadn3 C dX7_mistake_18 ?_
      refine ps_iconst C dX7_mistake_19 pi_0 ?_
      refine ps_iconst C dX7_mistake_20 pi_2 ?_
      obtain ⟨r3, M3, hM3, h⟩ := ps_bd h
      refine ps_goS_i C (rest := []) (tt_X7_in (xl X) (xb X) (xD X) hM3) cw_X7_39 (ps_room hRm (by decide)) rfl rfl (Nat.le_of_ble_eq_true rfl) dX7_mistake_21 ?_
      refine ps_if_ne C 30 dX7_mistake_24 rfl (fun c17 => ?_) (fun c17 => ?_)
      · replace h := ps_in0 c17 h
        refine ps_aloadn0 C dX7_mistake_30 ?_
        refine ps_iloadn1 C dX7_mistake_31 ?_
        refine ps_iloadn2 C dX7_mistake_32 ?_
        obtain ⟨r4, M4, hM4, h⟩ := ps_bd h
        refine ps_goV_i C (rest := []) (tt_X7_right (xl X) (xb X) (xD X) hq hM4) cw_X7_74 ps_rc20 hq (ps_room hRm (by decide)) rfl rfl (Nat.le_of_ble_eq_true rfl) dX7_mistake_33 ?_
        refine ps_istore4 C rfl dX7_mistake_36 ?_
        refine ps_iload4 C dX7_mistake_38 ?_
        refine ps_iconst C dX7_mistake_40 pi_1 ?_
        refine ps_iadd C dX7_mistake_41 ?_
        refine ps_aloadn0 C dX7_mistake_42 ?_
        refine gf_X7_7 C hq dX7_mistake_43 ?_
        refine ps_iloadn2 C dX7_mistake_46 ?_
        obtain ⟨r5, M5, hM5, h⟩ := ps_bd h
        refine ps_goS_i C (rest := [.ref (xb X + (q + 1)), .int (r4 + (nI 1))]) (tt_X7_n (xl X) (xb X) (xD X) hM5) cw_X7_68 (ps_room hRm (by decide)) rfl rfl (Nat.le_of_ble_eq_true rfl) dX7_mistake_47 ?_
        obtain ⟨hi6, h⟩ := ps_gd h
        refine ps_iald C (kf_20_1 hq) (fun _ _ => rfl) hi6 dX7_mistake_50 ?_
        refine ps_ic_lt C 57 dX7_mistake_51 rfl (fun c16 => ?_) (fun c16 => ?_)
        · replace h := ps_ip c16 h
          refine ps_aloadn0 C dX7_mistake_57 ?_
          refine gf_X7_7 C hq dX7_mistake_58 ?_
          refine ps_iloadn2 C dX7_mistake_61 ?_
          obtain ⟨r7, M7, hM7, h⟩ := ps_bd h
          refine ps_goS_i C (rest := [.ref (xb X + (q + 1))]) (tt_X7_n (xl X) (xb X) (xD X) hM7) cw_X7_68 (ps_room hRm (by decide)) rfl rfl (Nat.le_of_ble_eq_true rfl) dX7_mistake_62 ?_
          refine ps_iconst C dX7_mistake_65 pi_2 ?_
          refine ps_iadd C dX7_mistake_66 ?_
          refine ps_iload4 C dX7_mistake_67 ?_
          refine ps_iadd C dX7_mistake_69 ?_
          obtain ⟨hi8, h⟩ := ps_gd h
          refine ps_iald C (kf_20_1 hq) (fun _ _ => rfl) hi8 dX7_mistake_70 ?_
          refine ps_nmi (fun x9 ex9 => ?_)
          replace h := ps_lt ex9 h
          refine ps_istore5 C rfl dX7_mistake_71 ?_
          refine ps_aloadn0 C dX7_mistake_73 ?_
          refine ps_iloadn1 C dX7_mistake_74 ?_
          refine ps_iload5 C dX7_mistake_75 ?_
          obtain ⟨r10, M10, hM10, h⟩ := ps_bd h
          refine ps_goV_i C (rest := []) (tt_X7_goesOn (xl X) (xb X) (xD X) hq hM10) cw_X7_71 ps_rc20 hq (ps_room hRm (by decide)) rfl rfl (Nat.le_of_ble_eq_true rfl) dX7_mistake_77 ?_
          refine ps_istore6 C rfl dX7_mistake_80 ?_
          refine ps_iloadn3 C dX7_mistake_82 ?_
          refine ps_if_ne C 93 dX7_mistake_83 rfl (fun c15 => ?_) (fun c15 => ?_)
          · replace h := ps_in0 c15 h
            refine ps_iloadn3 C dX7_mistake_93 ?_
            refine ps_iconst C dX7_mistake_94 pi_1 ?_
            refine ps_ic_ne C 113 dX7_mistake_95 rfl (fun c14 => ?_) (fun c14 => ?_)
            · replace h := ps_in0 c14 h
              refine ps_iload6 C dX7_mistake_113 ?_
              refine ps_if_ge C 122 dX7_mistake_115 rfl (fun c12 => ?_) (fun c12 => ?_)
              · replace h := ps_ip c12 h
                refine ps_aloadn0 C dX7_mistake_122 ?_
                refine ps_iload5 C dX7_mistake_123 ?_
                refine ps_iload6 C dX7_mistake_125 ?_
                obtain ⟨r11, M11, hM11, h⟩ := ps_bd h
                refine ps_goV_i C (rest := []) (tt_X7_songsWith (xl X) (xb X) (xD X) hq hM11) cw_X7_134 ps_rc20 hq (ps_room hRm (by decide)) rfl rfl (Nat.le_of_ble_eq_true rfl) dX7_mistake_127 ?_
                exact ps_end_i h hfin dX7_mistake_130 rfl
              · replace h := ps_in0 c12 h
                refine ps_iconst C dX7_mistake_118 pi_0 ?_
                refine ps_goto C 130 dX7_mistake_119 rfl ?_
                exact ps_end_i h hfin dX7_mistake_130 rfl
            · replace h := ps_ip c14 h
              refine ps_iload6 C dX7_mistake_98 ?_
              refine ps_if_ge C 108 dX7_mistake_100 rfl (fun c13 => ?_) (fun c13 => ?_)
              · replace h := ps_ip c13 h
                refine ps_iload6 C dX7_mistake_108 ?_
                refine ps_goto C 130 dX7_mistake_110 rfl ?_
                exact ps_end_i h hfin dX7_mistake_130 rfl
              · replace h := ps_in0 c13 h
                refine ps_bipush C dX7_mistake_103 pb_m6 ?_
                refine ps_goto C 130 dX7_mistake_105 rfl ?_
                exact ps_end_i h hfin dX7_mistake_130 rfl
          · replace h := ps_ip c15 h
            refine ps_iload4 C dX7_mistake_86 ?_
            refine ps_iconst C dX7_mistake_88 pi_1 ?_
            refine ps_iadd C dX7_mistake_89 ?_
            refine ps_goto C 130 dX7_mistake_90 rfl ?_
            exact ps_end_i h hfin dX7_mistake_130 rfl
        · replace h := ps_in0 c16 h
          refine ps_bipush C dX7_mistake_54 pb_m5 ?_
          exact ps_end_i h hfin dX7_mistake_56 rfl
      · replace h := ps_ip c17 h
        refine ps_bipush C dX7_mistake_27 pb_m2 ?_
        exact ps_end_i h hfin dX7_mistake_29 rfl
    · replace h := ps_ip c18 h
      refine ps_iconst C dX7_mistake_16 pi_m1 ?_
      exact ps_end_i h hfin dX7_mistake_17 rfl
set_option maxRecDepth 10000 in
theorem bk_X7_rhymes_56 {X : ps_X} (C : ps_C X RX7 cX7_rhymes) (hRm : xR X = ps_lvl 2) {r : Int32} {M9 : ps_M} (hfin : ∀ pc lv, decode cX7_rhymes pc = .ok (.ireturn, 1) → narrow .int (.int r) = .int r → ps_G X M9 pc lv [.int r]) {q : Nat} (hq : ps_ck 20 q = true) : ∀ (n : Nat) (a1 : Int32) (a2 : Int32) (a3 : Int32) (a4 : Int32) (a5 : Int32) (M : ps_M), fk_X7_rhymes_56 q n a1 a2 a3 a4 a5 M = some (r, M9) → ps_G X M 56 [some (.ref (xb X + q)), some (.int a1), some (.int a2), some (.int a3), some (.int a4), some (.int a5)] [] := by
  intro n
  induction n with
  | zero => intro a1 a2 a3 a4 a5 M h; rw [fk_X7_rhymes_56] at h; cases h
  | succ n ih =>
    intro a1 a2 a3 a4 a5 M h
    rw [fk_X7_rhymes_56] at h
    refine ps_iloadn3 C dX7_rhymes_56 ?_
    refine ps_aloadn0 C dX7_rhymes_57 ?_
    refine gf_X7_7 C hq dX7_rhymes_58 ?_
    refine ps_iloadn1 C dX7_rhymes_61 ?_
    obtain ⟨r11, M11, hM11, h⟩ := ps_bd h
    refine ps_goS_i C (rest := [.ref (xb X + (q + 1)), .int a3]) (tt_X7_n (xl X) (xb X) (xD X) hM11) cw_X7_68 (ps_room hRm (by decide)) rfl rfl (Nat.le_of_ble_eq_true rfl) dX7_rhymes_62 ?_
    obtain ⟨hi12, h⟩ := ps_gd h
    refine ps_iald C (kf_20_1 hq) (fun _ _ => rfl) hi12 dX7_rhymes_65 ?_
    refine ps_ic_ge C 109 dX7_rhymes_66 rfl (fun c20 => ?_) (fun c20 => ?_)
    · replace h := ps_ip c20 h
      refine ps_iloadn3 C dX7_rhymes_109 ?_
      exact ps_end_i h hfin dX7_rhymes_110 rfl
    · replace h := ps_in0 c20 h
      refine ps_iloadn3 C dX7_rhymes_69 ?_
      refine ps_aloadn0 C dX7_rhymes_70 ?_
      refine gf_X7_7 C hq dX7_rhymes_71 ?_
      refine ps_iloadn2 C dX7_rhymes_74 ?_
      obtain ⟨r13, M13, hM13, h⟩ := ps_bd h
      refine ps_goS_i C (rest := [.ref (xb X + (q + 1)), .int a3]) (tt_X7_n (xl X) (xb X) (xD X) hM13) cw_X7_68 (ps_room hRm (by decide)) rfl rfl (Nat.le_of_ble_eq_true rfl) dX7_rhymes_75 ?_
      obtain ⟨hi14, h⟩ := ps_gd h
      refine ps_iald C (kf_20_1 hq) (fun _ _ => rfl) hi14 dX7_rhymes_78 ?_
      refine ps_ic_ge C 109 dX7_rhymes_79 rfl (fun c19 => ?_) (fun c19 => ?_)
      · replace h := ps_ip c19 h
        refine ps_iloadn3 C dX7_rhymes_109 ?_
        exact ps_end_i h hfin dX7_rhymes_110 rfl
      · replace h := ps_in0 c19 h
        refine ps_aloadn0 C dX7_rhymes_82 ?_
        refine gf_X7_7 C hq dX7_rhymes_83 ?_
        refine ps_iload4 C dX7_rhymes_86 ?_
        refine ps_iloadn3 C dX7_rhymes_88 ?_
        refine ps_isub C dX7_rhymes_89 ?_
        obtain ⟨hi15, h⟩ := ps_gd h
        refine ps_iald C (kf_20_1 hq) (fun _ _ => rfl) hi15 dX7_rhymes_90 ?_
        refine ps_aloadn0 C dX7_rhymes_91 ?_
        refine gf_X7_7 C hq dX7_rhymes_92 ?_
        refine ps_iload5 C dX7_rhymes_95 ?_
        refine ps_iloadn3 C dX7_rhymes_97 ?_
        refine ps_isub C dX7_rhymes_98 ?_
        obtain ⟨hi16, h⟩ := ps_gd h
        refine ps_iald C (kf_20_1 hq) (fun _ _ => rfl) hi16 dX7_rhymes_99 ?_
        refine ps_ic_ne C 109 dX7_rhymes_100 rfl (fun c18 => ?_) (fun c18 => ?_)
        · replace h := ps_in0 c18 h
          refine ps_iloadn3 C dX7_rhymes_109 ?_
          exact ps_end_i h hfin dX7_rhymes_110 rfl
        · replace h := ps_ip c18 h
          refine ps_iinc3 C rfl (nI 1) pi_1 dX7_rhymes_103 (fun x17 ex17 => ?_)
          replace h := ps_lt ex17 h
          refine ps_goto C 56 dX7_rhymes_106 rfl ?_
          exact ih a1 a2 x17 a4 a5 _ h
set_option maxRecDepth 10000 in
theorem tt_X7_rhymes (l : Launch) (b : Nat) (D : va_G) {q : Nat} (hq : ps_ck 20 q = true) {a1 : Int32} {a2 : Int32} {M M9 : ps_M} {r : Int32} (h : ff_X7_rhymes q a1 a2 M = some (r, M9)) : ps_Ti l b D yX7_rhymes cX7_rhymes 6 .int 2 [.ref (b + q), .int a1, .int a2] M r M9 := by
  refine ps_met_i (own := RX7) (lv := [some (.ref (b + q)), some (.int a1), some (.int a2), none, none, none]) (by decide) rfl rfl (Nat.le_of_ble_eq_true rfl) rfl (fun X eX1 eX2 eX3 hRm eX5 C hfin => ?_)
  subst eX1 eX2 eX3
  unfold ff_X7_rhymes at h
  refine ps_aloadn0 C dX7_rhymes_0 ?_
  refine ps_iloadn1 C dX7_rhymes_1 ?_
  obtain ⟨r1, M1, hM1, h⟩ := ps_bd h
  refine ps_goV_i C (rest := []) (tt_X7_isSong (xl X) (xb X) (xD X) hq hM1) cw_X7_84 ps_rc20 hq (ps_room hRm (by decide)) rfl rfl (Nat.le_of_ble_eq_true rfl) dX7_rhymes_2 ?_
  refine ps_if_eq C 16 dX7_rhymes_5 rfl (fun c22 => ?_) (fun c22 => ?_)
  · replace h := ps_ip c22 h
    refine ps_iconst C dX7_rhymes_16 pi_m1 ?_
    exact ps_end_i h hfin dX7_rhymes_17 rfl
  · replace h := ps_in0 c22 h
    refine ps_aloadn0 C dX7_rhymes_8 ?_
    refine ps_iloadn2 C dX7_rhymes_9 ?_
    obtain ⟨r2, M2, hM2, h⟩ := ps_bd h
    refine ps_goV_i C (rest := []) (tt_X7_isSong (xl X) (xb X) (xD X) hq hM2) cw_X7_84 ps_rc20 hq (ps_room hRm (by decide)) rfl rfl (Nat.le_of_ble_eq_true rfl) dX7_rhymes_10 ?_
    refine ps_if_ne C 18 dX7_rhymes_13 rfl (fun c21 => ?_) (fun c21 => ?_)
    · replace h := ps_in0 c21 h
      refine ps_iconst C dX7_rhymes_18 pi_0 ?_
      refine ps_istoren3 C rfl dX7_rhymes_19 ?_
      refine ps_iloadn1 C dX7_rhymes_20 ?_
      obtain ⟨r3, M3, hM3, h⟩ := ps_bd h
      refine ps_goS_i C (rest := []) (tt_X7_n (xl X) (xb X) (xD X) hM3) cw_X7_68 (ps_room hRm (by decide)) rfl rfl (Nat.le_of_ble_eq_true rfl) dX7_rhymes_21 ?_
      refine ps_iconst C dX7_rhymes_24 pi_1 ?_
      refine ps_iadd C dX7_rhymes_25 ?_
      refine ps_aloadn0 C dX7_rhymes_26 ?_
      refine gf_X7_7 C hq dX7_rhymes_27 ?_
      refine ps_iloadn1 C dX7_rhymes_30 ?_
      obtain ⟨r4, M4, hM4, h⟩ := ps_bd h
      refine ps_goS_i C (rest := [.ref (xb X + (q + 1)), .int (r3 + (nI 1))]) (tt_X7_n (xl X) (xb X) (xD X) hM4) cw_X7_68 (ps_room hRm (by decide)) rfl rfl (Nat.le_of_ble_eq_true rfl) dX7_rhymes_31 ?_
      obtain ⟨hi5, h⟩ := ps_gd h
      refine ps_iald C (kf_20_1 hq) (fun _ _ => rfl) hi5 dX7_rhymes_34 ?_
      refine ps_iadd C dX7_rhymes_35 ?_
      refine ps_nmi (fun x6 ex6 => ?_)
      replace h := ps_lt ex6 h
      refine ps_istore4 C rfl dX7_rhymes_36 ?_
      refine ps_iloadn2 C dX7_rhymes_38 ?_
      obtain ⟨r7, M7, hM7, h⟩ := ps_bd h
      refine ps_goS_i C (rest := []) (tt_X7_n (xl X) (xb X) (xD X) hM7) cw_X7_68 (ps_room hRm (by decide)) rfl rfl (Nat.le_of_ble_eq_true rfl) dX7_rhymes_39 ?_
      refine ps_iconst C dX7_rhymes_42 pi_1 ?_
      refine ps_iadd C dX7_rhymes_43 ?_
      refine ps_aloadn0 C dX7_rhymes_44 ?_
      refine gf_X7_7 C hq dX7_rhymes_45 ?_
      refine ps_iloadn2 C dX7_rhymes_48 ?_
      obtain ⟨r8, M8, hM8, h⟩ := ps_bd h
      refine ps_goS_i C (rest := [.ref (xb X + (q + 1)), .int (r7 + (nI 1))]) (tt_X7_n (xl X) (xb X) (xD X) hM8) cw_X7_68 (ps_room hRm (by decide)) rfl rfl (Nat.le_of_ble_eq_true rfl) dX7_rhymes_49 ?_
      obtain ⟨hi9, h⟩ := ps_gd h
      refine ps_iald C (kf_20_1 hq) (fun _ _ => rfl) hi9 dX7_rhymes_52 ?_
      refine ps_iadd C dX7_rhymes_53 ?_
      refine ps_nmi (fun x10 ex10 => ?_)
      replace h := ps_lt ex10 h
      refine ps_istore5 C rfl dX7_rhymes_54 ?_
      exact bk_X7_rhymes_56 C hRm hfin hq ps_fu a1 a2 (nI 0) x6 x10 _ h
    · replace h := ps_ip c21 h
      refine ps_iconst C dX7_rhymes_16 pi_m1 ?_
      exact ps_end_i h hfin dX7_rhymes_17 rfl
set_option maxRecDepth 10000 in
theorem bk_X7_follows_51 {X : ps_X} (C : ps_C X RX7 cX7_follows) (hRm : xR X = ps_lvl 2) {r : Int32} {M9 : ps_M} (hfin : ∀ pc lv, decode cX7_follows pc = .ok (.ireturn, 1) → narrow .int (.int r) = .int r → ps_G X M9 pc lv [.int r]) {q : Nat} (hq : ps_ck 20 q = true) : ∀ (n : Nat) (a1 : Int32) (a2 : Int32) (a3 : Int32) (a4 : Int32) (a5 : Int32) (M : ps_M), fk_X7_follows_51 q n a1 a2 a3 a4 a5 M = some (r, M9) → ps_G X M 51 [some (.ref (xb X + q)), some (.int a1), some (.int a2), some (.int a3), some (.int a4), some (.int a5)] [] := by
  intro n
  induction n with
  | zero => intro a1 a2 a3 a4 a5 M h; rw [fk_X7_follows_51] at h; cases h
  | succ n ih =>
    intro a1 a2 a3 a4 a5 M h
    rw [fk_X7_follows_51] at h
    refine ps_iload5 C dX7_follows_51 ?_
    refine ps_aloadn0 C dX7_follows_53 ?_
    refine gf_X7_7 C hq dX7_follows_54 ?_
    refine ps_iconst C dX7_follows_57 pi_5 ?_
    obtain ⟨hi8, h⟩ := ps_gd h
    refine ps_iald C (kf_20_1 hq) (fun _ _ => rfl) hi8 dX7_follows_58 ?_
    refine ps_ic_ge C 101 dX7_follows_59 rfl (fun c19 => ?_) (fun c19 => ?_)
    · replace h := ps_ip c19 h
      refine ps_iload4 C dX7_follows_101 ?_
      exact ps_end_i h hfin dX7_follows_103 rfl
    · replace h := ps_in0 c19 h
      refine ps_iload4 C dX7_follows_62 ?_
      refine ps_iloadn3 C dX7_follows_64 ?_
      refine ps_if_lt C 91 dX7_follows_65 rfl (fun c18 => ?_) (fun c18 => ?_)
      · replace h := ps_ip c18 h
        refine ps_iconst C dX7_follows_91 pi_0 ?_
        refine ps_ior C dX7_follows_92 ?_
        refine ps_nmi (fun x9 ex9 => ?_)
        replace h := ps_lt ex9 h
        refine ps_istore4 C rfl dX7_follows_93 ?_
        refine ps_iinc5 C rfl (nI 1) pi_1 dX7_follows_95 (fun x10 ex10 => ?_)
        replace h := ps_lt ex10 h
        refine ps_goto C 51 dX7_follows_98 rfl ?_
        exact ih a1 a2 a3 x9 x10 _ h
      · replace h := ps_in0 c18 h
        refine ps_aloadn0 C dX7_follows_68 ?_
        refine gf_X7_7 C hq dX7_follows_69 ?_
        refine ps_iload5 C dX7_follows_72 ?_
        obtain ⟨r11, M11, hM11, h⟩ := ps_bd h
        refine ps_goS_i C (rest := [.ref (xb X + (q + 1)), .int a4]) (tt_X7_n (xl X) (xb X) (xD X) hM11) cw_X7_68 (ps_room hRm (by decide)) rfl rfl (Nat.le_of_ble_eq_true rfl) dX7_follows_74 ?_
        refine ps_iconst C dX7_follows_77 pi_2 ?_
        refine ps_iadd C dX7_follows_78 ?_
        obtain ⟨hi12, h⟩ := ps_gd h
        refine ps_iald C (kf_20_1 hq) (fun _ _ => rfl) hi12 dX7_follows_79 ?_
        refine ps_iloadn3 C dX7_follows_80 ?_
        refine ps_ic_ne C 91 dX7_follows_81 rfl (fun c17 => ?_) (fun c17 => ?_)
        · replace h := ps_in0 c17 h
          refine ps_iconst C dX7_follows_91 pi_0 ?_
          refine ps_ior C dX7_follows_92 ?_
          refine ps_nmi (fun x13 ex13 => ?_)
          replace h := ps_lt ex13 h
          refine ps_istore4 C rfl dX7_follows_93 ?_
          refine ps_iinc5 C rfl (nI 1) pi_1 dX7_follows_95 (fun x14 ex14 => ?_)
          replace h := ps_lt ex14 h
          refine ps_goto C 51 dX7_follows_98 rfl ?_
          exact ih a1 a2 a3 x13 x14 _ h
        · replace h := ps_ip c17 h
          refine ps_iconst C dX7_follows_84 pi_1 ?_
          refine ps_iload5 C dX7_follows_85 ?_
          refine ps_ishl C dX7_follows_87 ?_
          refine ps_goto C 92 dX7_follows_88 rfl ?_
          refine ps_ior C dX7_follows_92 ?_
          refine ps_nmi (fun x15 ex15 => ?_)
          replace h := ps_lt ex15 h
          refine ps_istore4 C rfl dX7_follows_93 ?_
          refine ps_iinc5 C rfl (nI 1) pi_1 dX7_follows_95 (fun x16 ex16 => ?_)
          replace h := ps_lt ex16 h
          refine ps_goto C 51 dX7_follows_98 rfl ?_
          exact ih a1 a2 a3 x15 x16 _ h
set_option maxRecDepth 10000 in
theorem tt_X7_follows (l : Launch) (b : Nat) (D : va_G) {q : Nat} (hq : ps_ck 20 q = true) {a1 : Int32} {a2 : Int32} {M M9 : ps_M} {r : Int32} (h : ff_X7_follows q a1 a2 M = some (r, M9)) : ps_Ti l b D yX7_follows cX7_follows 6 .int 2 [.ref (b + q), .int a1, .int a2] M r M9 := by
  refine ps_met_i (own := RX7) (lv := [some (.ref (b + q)), some (.int a1), some (.int a2), none, none, none]) (by decide) rfl rfl (Nat.le_of_ble_eq_true rfl) rfl (fun X eX1 eX2 eX3 hRm eX5 C hfin => ?_)
  subst eX1 eX2 eX3
  unfold ff_X7_follows at h
  refine ps_aloadn0 C dX7_follows_0 ?_
  refine ps_iloadn1 C dX7_follows_1 ?_
  obtain ⟨r1, M1, hM1, h⟩ := ps_bd h
  refine ps_goV_i C (rest := []) (tt_X7_isParrot (xl X) (xb X) (xD X) hq hM1) cw_X7_80 ps_rc20 hq (ps_room hRm (by decide)) rfl rfl (Nat.le_of_ble_eq_true rfl) dX7_follows_2 ?_
  refine ps_if_eq C 16 dX7_follows_5 rfl (fun c21 => ?_) (fun c21 => ?_)
  · replace h := ps_ip c21 h
    refine ps_iconst C dX7_follows_16 pi_m1 ?_
    exact ps_end_i h hfin dX7_follows_17 rfl
  · replace h := ps_in0 c21 h
    refine ps_aloadn0 C dX7_follows_8 ?_
    refine ps_iloadn2 C dX7_follows_9 ?_
    obtain ⟨r2, M2, hM2, h⟩ := ps_bd h
    refine ps_goV_i C (rest := []) (tt_X7_isSong (xl X) (xb X) (xD X) hq hM2) cw_X7_84 ps_rc20 hq (ps_room hRm (by decide)) rfl rfl (Nat.le_of_ble_eq_true rfl) dX7_follows_10 ?_
    refine ps_if_ne C 18 dX7_follows_13 rfl (fun c20 => ?_) (fun c20 => ?_)
    · replace h := ps_in0 c20 h
      refine ps_aloadn0 C dX7_follows_18 ?_
      refine ps_iloadn1 C dX7_follows_19 ?_
      refine ps_aloadn0 C dX7_follows_20 ?_
      refine gf_X7_7 C hq dX7_follows_21 ?_
      refine ps_iloadn2 C dX7_follows_24 ?_
      obtain ⟨r3, M3, hM3, h⟩ := ps_bd h
      refine ps_goS_i C (rest := [.ref (xb X + (q + 1)), .int a1, .ref (xb X + q)]) (tt_X7_n (xl X) (xb X) (xD X) hM3) cw_X7_68 (ps_room hRm (by decide)) rfl rfl (Nat.le_of_ble_eq_true rfl) dX7_follows_25 ?_
      refine ps_iconst C dX7_follows_28 pi_1 ?_
      refine ps_iadd C dX7_follows_29 ?_
      refine ps_aloadn0 C dX7_follows_30 ?_
      refine gf_X7_7 C hq dX7_follows_31 ?_
      refine ps_iloadn2 C dX7_follows_34 ?_
      obtain ⟨r4, M4, hM4, h⟩ := ps_bd h
      refine ps_goS_i C (rest := [.ref (xb X + (q + 1)), .int (r3 + (nI 1)), .ref (xb X + (q + 1)), .int a1, .ref (xb X + q)]) (tt_X7_n (xl X) (xb X) (xD X) hM4) cw_X7_68 (ps_room hRm (by decide)) rfl rfl (Nat.le_of_ble_eq_true rfl) dX7_follows_35 ?_
      obtain ⟨hi5, h⟩ := ps_gd h
      refine ps_iald C (kf_20_1 hq) (fun _ _ => rfl) hi5 dX7_follows_38 ?_
      refine ps_iadd C dX7_follows_39 ?_
      obtain ⟨hi6, h⟩ := ps_gd h
      refine ps_iald C (kf_20_1 hq) (fun _ _ => rfl) hi6 dX7_follows_40 ?_
      obtain ⟨r7, M7, hM7, h⟩ := ps_bd h
      refine ps_goV_i C (rest := []) (tt_X7_goesOn (xl X) (xb X) (xD X) hq hM7) cw_X7_71 ps_rc20 hq (ps_room hRm (by decide)) rfl rfl (Nat.le_of_ble_eq_true rfl) dX7_follows_41 ?_
      refine ps_istoren3 C rfl dX7_follows_44 ?_
      refine ps_iconst C dX7_follows_45 pi_0 ?_
      refine ps_istore4 C rfl dX7_follows_46 ?_
      refine ps_iconst C dX7_follows_48 pi_0 ?_
      refine ps_istore5 C rfl dX7_follows_49 ?_
      exact bk_X7_follows_51 C hRm hfin hq ps_fu a1 a2 r7 (nI 0) (nI 0) _ h
    · replace h := ps_ip c20 h
      refine ps_iconst C dX7_follows_16 pi_m1 ?_
      exact ps_end_i h hfin dX7_follows_17 rfl
set_option maxRecDepth 10000 in
theorem bk_X7_ofParrots_50 {X : ps_X} (C : ps_C X RX7 cX7_ofParrots) (hRm : xR X = ps_lvl 2) {r : Int32} {M9 : ps_M} (hfin : ∀ pc lv, decode cX7_ofParrots pc = .ok (.ireturn, 1) → narrow .int (.int r) = .int r → ps_G X M9 pc lv [.int r]) {q : Nat} (hq : ps_ck 20 q = true) {K : Int32 → Int32 → Int32 → Int32 → ps_M → Option (Int32 × ps_M)} (hK : ∀ (a1 : Int32) (a2 : Int32) (a3 : Int32) (a4 : Int32) (M : ps_M), K a1 a2 a3 a4 M = some (r, M9) → ps_G X M 7 [some (.ref (xb X + q)), some (.int a1), some (.int a2), some (.int a3), some (.int a4)] []) (a1 : Int32) (a2 : Int32) (a3 : Int32) (a4 : Int32) (s0 : Int32) (s1 : Int32) (M : ps_M) (h : fk_X7_ofParrots_50 q K a1 a2 a3 a4 s0 s1 M = some (r, M9)) : ps_G X M 50 [some (.ref (xb X + q)), some (.int a1), some (.int a2), some (.int a3), some (.int a4)] [.int s1, .int s0] := by
  unfold fk_X7_ofParrots_50 at h
  refine ps_iadd C dX7_ofParrots_50 ?_
  refine ps_nmi (fun x5 ex5 => ?_)
  replace h := ps_lt ex5 h
  refine ps_istoren2 C rfl dX7_ofParrots_51 ?_
  refine ps_iloadn3 C dX7_ofParrots_52 ?_
  refine ps_aloadn0 C dX7_ofParrots_53 ?_
  refine ps_iload4 C dX7_ofParrots_54 ?_
  obtain ⟨r6, M6, hM6, h⟩ := ps_bd h
  refine ps_goV_i C (rest := [.int a3]) (tt_X7_isTired (xl X) (xb X) (xD X) hq hM6) cw_X7_87 ps_rc20 hq (ps_room hRm (by decide)) rfl rfl (Nat.le_of_ble_eq_true rfl) dX7_ofParrots_56 ?_
  refine ps_if_eq C 69 dX7_ofParrots_59 rfl (fun c11 => ?_) (fun c11 => ?_)
  · replace h := ps_ip c11 h
    refine ps_iconst C dX7_ofParrots_69 pi_0 ?_
    refine ps_ior C dX7_ofParrots_70 ?_
    refine ps_nmi (fun x7 ex7 => ?_)
    replace h := ps_lt ex7 h
    refine ps_istoren3 C rfl dX7_ofParrots_71 ?_
    refine ps_iinc4 C rfl (nI 1) pi_1 dX7_ofParrots_72 (fun x8 ex8 => ?_)
    replace h := ps_lt ex8 h
    refine ps_goto C 7 dX7_ofParrots_75 rfl ?_
    exact hK a1 x5 x7 x8 _ h
  · replace h := ps_in0 c11 h
    refine ps_iconst C dX7_ofParrots_62 pi_1 ?_
    refine ps_iload4 C dX7_ofParrots_63 ?_
    refine ps_ishl C dX7_ofParrots_65 ?_
    refine ps_goto C 70 dX7_ofParrots_66 rfl ?_
    refine ps_ior C dX7_ofParrots_70 ?_
    refine ps_nmi (fun x9 ex9 => ?_)
    replace h := ps_lt ex9 h
    refine ps_istoren3 C rfl dX7_ofParrots_71 ?_
    refine ps_iinc4 C rfl (nI 1) pi_1 dX7_ofParrots_72 (fun x10 ex10 => ?_)
    replace h := ps_lt ex10 h
    refine ps_goto C 7 dX7_ofParrots_75 rfl ?_
    exact hK a1 x5 x9 x10 _ h
set_option maxRecDepth 10000 in
theorem bk_X7_ofParrots_7 {X : ps_X} (C : ps_C X RX7 cX7_ofParrots) (hRm : xR X = ps_lvl 2) {r : Int32} {M9 : ps_M} (hfin : ∀ pc lv, decode cX7_ofParrots pc = .ok (.ireturn, 1) → narrow .int (.int r) = .int r → ps_G X M9 pc lv [.int r]) {q : Nat} (hq : ps_ck 20 q = true) : ∀ (n : Nat) (a1 : Int32) (a2 : Int32) (a3 : Int32) (a4 : Int32) (M : ps_M), fk_X7_ofParrots_7 q n a1 a2 a3 a4 M = some (r, M9) → ps_G X M 7 [some (.ref (xb X + q)), some (.int a1), some (.int a2), some (.int a3), some (.int a4)] [] := by
  intro n
  induction n with
  | zero => intro a1 a2 a3 a4 M h; rw [fk_X7_ofParrots_7] at h; cases h
  | succ n ih =>
    intro a1 a2 a3 a4 M h
    rw [fk_X7_ofParrots_7] at h
    refine ps_iload4 C dX7_ofParrots_7 ?_
    refine ps_aloadn0 C dX7_ofParrots_9 ?_
    refine gf_X7_7 C hq dX7_ofParrots_10 ?_
    refine ps_bipush C dX7_ofParrots_13 pb_6 ?_
    obtain ⟨hi1, h⟩ := ps_gd h
    refine ps_iald C (kf_20_1 hq) (fun _ _ => rfl) hi1 dX7_ofParrots_15 ?_
    refine ps_ic_ge C 78 dX7_ofParrots_16 rfl (fun c15 => ?_) (fun c15 => ?_)
    · replace h := ps_ip c15 h
      refine ps_iloadn1 C dX7_ofParrots_78 ?_
      refine ps_bipush C dX7_ofParrots_79 pb_7 ?_
      refine ps_ic_ne C 88 dX7_ofParrots_81 rfl (fun c2 => ?_) (fun c2 => ?_)
      · replace h := ps_in0 c2 h
        refine ps_iloadn2 C dX7_ofParrots_88 ?_
        exact ps_end_i h hfin dX7_ofParrots_89 rfl
      · replace h := ps_ip c2 h
        refine ps_iloadn3 C dX7_ofParrots_84 ?_
        refine ps_goto C 89 dX7_ofParrots_85 rfl ?_
        exact ps_end_i h hfin dX7_ofParrots_89 rfl
    · replace h := ps_in0 c15 h
      refine ps_iloadn2 C dX7_ofParrots_19 ?_
      refine ps_iloadn1 C dX7_ofParrots_20 ?_
      refine ps_iconst C dX7_ofParrots_21 pi_5 ?_
      refine ps_ic_ne C 38 dX7_ofParrots_22 rfl (fun c14 => ?_) (fun c14 => ?_)
      · replace h := ps_in0 c14 h
        refine ps_aloadn0 C dX7_ofParrots_38 ?_
        refine gf_X7_7 C hq dX7_ofParrots_39 ?_
        refine ps_iload4 C dX7_ofParrots_42 ?_
        obtain ⟨r3, M3, hM3, h⟩ := ps_bd h
        refine ps_goS_i C (rest := [.ref (xb X + (q + 1)), .int a2]) (tt_X7_p (xl X) (xb X) (xD X) hM3) cw_X7_47 (ps_room hRm (by decide)) rfl rfl (Nat.le_of_ble_eq_true rfl) dX7_ofParrots_44 ?_
        refine ps_iconst C dX7_ofParrots_47 pi_4 ?_
        refine ps_iadd C dX7_ofParrots_48 ?_
        obtain ⟨hi4, h⟩ := ps_gd h
        refine ps_iald C (kf_20_1 hq) (fun _ _ => rfl) hi4 dX7_ofParrots_49 ?_
        exact bk_X7_ofParrots_50 C hRm hfin hq (fun a1' a2' a3' a4' M' h' => ih a1' a2' a3' a4' M' h') a1 a2 a3 a4 a2 (ps_rd M3 (q + 1) (r3 + (nI 4)).toNatClampNeg) _ h
      · replace h := ps_ip c14 h
        refine ps_aloadn0 C dX7_ofParrots_25 ?_
        refine gf_X7_7 C hq dX7_ofParrots_26 ?_
        refine ps_iload4 C dX7_ofParrots_29 ?_
        obtain ⟨r12, M12, hM12, h⟩ := ps_bd h
        refine ps_goS_i C (rest := [.ref (xb X + (q + 1)), .int a2]) (tt_X7_p (xl X) (xb X) (xD X) hM12) cw_X7_47 (ps_room hRm (by decide)) rfl rfl (Nat.le_of_ble_eq_true rfl) dX7_ofParrots_31 ?_
        obtain ⟨hi13, h⟩ := ps_gd h
        refine ps_iald C (kf_20_1 hq) (fun _ _ => rfl) hi13 dX7_ofParrots_34 ?_
        refine ps_goto C 50 dX7_ofParrots_35 rfl ?_
        exact bk_X7_ofParrots_50 C hRm hfin hq (fun a1' a2' a3' a4' M' h' => ih a1' a2' a3' a4' M' h') a1 a2 a3 a4 a2 (ps_rd M12 (q + 1) r12.toNatClampNeg) _ h
set_option maxRecDepth 10000 in
theorem tt_X7_ofParrots (l : Launch) (b : Nat) (D : va_G) {q : Nat} (hq : ps_ck 20 q = true) {a1 : Int32} {M M9 : ps_M} {r : Int32} (h : ff_X7_ofParrots q a1 M = some (r, M9)) : ps_Ti l b D yX7_ofParrots cX7_ofParrots 5 .int 2 [.ref (b + q), .int a1] M r M9 := by
  refine ps_met_i (own := RX7) (lv := [some (.ref (b + q)), some (.int a1), none, none, none]) (by decide) rfl rfl (Nat.le_of_ble_eq_true rfl) rfl (fun X eX1 eX2 eX3 hRm eX5 C hfin => ?_)
  subst eX1 eX2 eX3
  unfold ff_X7_ofParrots at h
  refine ps_iconst C dX7_ofParrots_0 pi_0 ?_
  refine ps_istoren2 C rfl dX7_ofParrots_1 ?_
  refine ps_iconst C dX7_ofParrots_2 pi_0 ?_
  refine ps_istoren3 C rfl dX7_ofParrots_3 ?_
  refine ps_iconst C dX7_ofParrots_4 pi_0 ?_
  refine ps_istore4 C rfl dX7_ofParrots_5 ?_
  exact bk_X7_ofParrots_7 C hRm hfin hq ps_fu a1 (nI 0) (nI 0) (nI 0) _ h
set_option maxRecDepth 10000 in
theorem tt_X7_count (l : Launch) (b : Nat) (D : va_G) {q : Nat} (hq : ps_ck 20 q = true) {a1 : Int32} {M M9 : ps_M} {r : Int32} (h : ff_X7_count q a1 M = some (r, M9)) : ps_Ti l b D yX7_count cX7_count 2 .int 3 [.ref (b + q), .int a1] M r M9 := by
  refine ps_met_i (own := RX7) (lv := [some (.ref (b + q)), some (.int a1)]) (by decide) rfl rfl (Nat.le_of_ble_eq_true rfl) rfl (fun X eX1 eX2 eX3 hRm eX5 C hfin => ?_)
  subst eX1 eX2 eX3
  unfold ff_X7_count at h
  refine ps_iloadn1 C dX7_count_0 ?_
  by_cases c_1_0 : a1 = nI 0
  · replace h := ps_ip c_1_0 h
    refine ps_tabI C 0 (by rw [c_1_0]; rfl) 72 dX7_count_1 (by decide) (by decide) rfl rfl ?_
    refine ps_aloadn0 C dX7_count_72 ?_
    refine gf_X7_7 C hq dX7_count_73 ?_
    refine ps_iconst C dX7_count_76 pi_4 ?_
    refine ps_iloadn1 C dX7_count_77 ?_
    refine ps_iadd C dX7_count_78 ?_
    obtain ⟨hi12, h⟩ := ps_gd h
    refine ps_iald C (kf_20_1 hq) (fun _ _ => rfl) hi12 dX7_count_79 ?_
    exact ps_end_i h hfin dX7_count_80 rfl
  · replace h := ps_in0 c_1_0 h
    by_cases c_1_1 : a1 = nI 1
    · replace h := ps_ip c_1_1 h
      refine ps_tabI C 1 (by rw [c_1_1]; rfl) 72 dX7_count_1 (by decide) (by decide) rfl rfl ?_
      refine ps_aloadn0 C dX7_count_72 ?_
      refine gf_X7_7 C hq dX7_count_73 ?_
      refine ps_iconst C dX7_count_76 pi_4 ?_
      refine ps_iloadn1 C dX7_count_77 ?_
      refine ps_iadd C dX7_count_78 ?_
      obtain ⟨hi11, h⟩ := ps_gd h
      refine ps_iald C (kf_20_1 hq) (fun _ _ => rfl) hi11 dX7_count_79 ?_
      exact ps_end_i h hfin dX7_count_80 rfl
    · replace h := ps_in0 c_1_1 h
      by_cases c_1_2 : a1 = nI 2
      · replace h := ps_ip c_1_2 h
        refine ps_tabI C 2 (by rw [c_1_2]; rfl) 72 dX7_count_1 (by decide) (by decide) rfl rfl ?_
        refine ps_aloadn0 C dX7_count_72 ?_
        refine gf_X7_7 C hq dX7_count_73 ?_
        refine ps_iconst C dX7_count_76 pi_4 ?_
        refine ps_iloadn1 C dX7_count_77 ?_
        refine ps_iadd C dX7_count_78 ?_
        obtain ⟨hi10, h⟩ := ps_gd h
        refine ps_iald C (kf_20_1 hq) (fun _ _ => rfl) hi10 dX7_count_79 ?_
        exact ps_end_i h hfin dX7_count_80 rfl
      · replace h := ps_in0 c_1_2 h
        by_cases c_1_3 : a1 = nI 3
        · replace h := ps_ip c_1_3 h
          refine ps_tabI C 3 (by rw [c_1_3]; rfl) 72 dX7_count_1 (by decide) (by decide) rfl rfl ?_
          refine ps_aloadn0 C dX7_count_72 ?_
          refine gf_X7_7 C hq dX7_count_73 ?_
          refine ps_iconst C dX7_count_76 pi_4 ?_
          refine ps_iloadn1 C dX7_count_77 ?_
          refine ps_iadd C dX7_count_78 ?_
          obtain ⟨hi9, h⟩ := ps_gd h
          refine ps_iald C (kf_20_1 hq) (fun _ _ => rfl) hi9 dX7_count_79 ?_
          exact ps_end_i h hfin dX7_count_80 rfl
        · replace h := ps_in0 c_1_3 h
          by_cases c_1_4 : a1 = nI 4
          · replace h := ps_ip c_1_4 h
            refine ps_tabI C 4 (by rw [c_1_4]; rfl) 72 dX7_count_1 (by decide) (by decide) rfl rfl ?_
            refine ps_aloadn0 C dX7_count_72 ?_
            refine gf_X7_7 C hq dX7_count_73 ?_
            refine ps_iconst C dX7_count_76 pi_4 ?_
            refine ps_iloadn1 C dX7_count_77 ?_
            refine ps_iadd C dX7_count_78 ?_
            obtain ⟨hi8, h⟩ := ps_gd h
            refine ps_iald C (kf_20_1 hq) (fun _ _ => rfl) hi8 dX7_count_79 ?_
            exact ps_end_i h hfin dX7_count_80 rfl
          · replace h := ps_in0 c_1_4 h
            by_cases c_1_5 : a1 = nI 5
            · replace h := ps_ip c_1_5 h
              refine ps_tabI C 5 (by rw [c_1_5]; rfl) 81 dX7_count_1 (by decide) (by decide) rfl rfl ?_
              refine ps_aloadn0 C dX7_count_81 ?_
              refine ps_iloadn1 C dX7_count_82 ?_
              obtain ⟨r7, M7, hM7, h⟩ := ps_bd h
              refine ps_goV_i C (rest := []) (tt_X7_ofParrots (xl X) (xb X) (xD X) hq hM7) cw_X7_137 ps_rc20 hq (ps_room hRm (by decide)) rfl rfl (Nat.le_of_ble_eq_true rfl) dX7_count_83 ?_
              exact ps_end_i h hfin dX7_count_86 rfl
            · replace h := ps_in0 c_1_5 h
              by_cases c_1_6 : a1 = nI 6
              · replace h := ps_ip c_1_6 h
                refine ps_tabI C 6 (by rw [c_1_6]; rfl) 81 dX7_count_1 (by decide) (by decide) rfl rfl ?_
                refine ps_aloadn0 C dX7_count_81 ?_
                refine ps_iloadn1 C dX7_count_82 ?_
                obtain ⟨r6, M6, hM6, h⟩ := ps_bd h
                refine ps_goV_i C (rest := []) (tt_X7_ofParrots (xl X) (xb X) (xD X) hq hM6) cw_X7_137 ps_rc20 hq (ps_room hRm (by decide)) rfl rfl (Nat.le_of_ble_eq_true rfl) dX7_count_83 ?_
                exact ps_end_i h hfin dX7_count_86 rfl
              · replace h := ps_in0 c_1_6 h
                by_cases c_1_7 : a1 = nI 7
                · replace h := ps_ip c_1_7 h
                  refine ps_tabI C 7 (by rw [c_1_7]; rfl) 81 dX7_count_1 (by decide) (by decide) rfl rfl ?_
                  refine ps_aloadn0 C dX7_count_81 ?_
                  refine ps_iloadn1 C dX7_count_82 ?_
                  obtain ⟨r5, M5, hM5, h⟩ := ps_bd h
                  refine ps_goV_i C (rest := []) (tt_X7_ofParrots (xl X) (xb X) (xD X) hq hM5) cw_X7_137 ps_rc20 hq (ps_room hRm (by decide)) rfl rfl (Nat.le_of_ble_eq_true rfl) dX7_count_83 ?_
                  exact ps_end_i h hfin dX7_count_86 rfl
                · replace h := ps_in0 c_1_7 h
                  by_cases c_1_8 : a1 = nI 8
                  · replace h := ps_ip c_1_8 h
                    refine ps_tabI C 8 (by rw [c_1_8]; rfl) 87 dX7_count_1 (by decide) (by decide) rfl rfl ?_
                    refine ps_aloadn0 C dX7_count_87 ?_
                    refine gf_X7_7 C hq dX7_count_88 ?_
                    refine ps_iloadn1 C dX7_count_91 ?_
                    refine ps_bipush C dX7_count_92 pb_8 ?_
                    refine ps_isub C dX7_count_94 ?_
                    obtain ⟨hi4, h⟩ := ps_gd h
                    refine ps_iald C (kf_20_1 hq) (fun _ _ => rfl) hi4 dX7_count_95 ?_
                    exact ps_end_i h hfin dX7_count_96 rfl
                  · replace h := ps_in0 c_1_8 h
                    by_cases c_1_9 : a1 = nI 9
                    · replace h := ps_ip c_1_9 h
                      refine ps_tabI C 9 (by rw [c_1_9]; rfl) 87 dX7_count_1 (by decide) (by decide) rfl rfl ?_
                      refine ps_aloadn0 C dX7_count_87 ?_
                      refine gf_X7_7 C hq dX7_count_88 ?_
                      refine ps_iloadn1 C dX7_count_91 ?_
                      refine ps_bipush C dX7_count_92 pb_8 ?_
                      refine ps_isub C dX7_count_94 ?_
                      obtain ⟨hi3, h⟩ := ps_gd h
                      refine ps_iald C (kf_20_1 hq) (fun _ _ => rfl) hi3 dX7_count_95 ?_
                      exact ps_end_i h hfin dX7_count_96 rfl
                    · replace h := ps_in0 c_1_9 h
                      by_cases c_1_10 : a1 = nI 10
                      · replace h := ps_ip c_1_10 h
                        refine ps_tabI C 10 (by rw [c_1_10]; rfl) 87 dX7_count_1 (by decide) (by decide) rfl rfl ?_
                        refine ps_aloadn0 C dX7_count_87 ?_
                        refine gf_X7_7 C hq dX7_count_88 ?_
                        refine ps_iloadn1 C dX7_count_91 ?_
                        refine ps_bipush C dX7_count_92 pb_8 ?_
                        refine ps_isub C dX7_count_94 ?_
                        obtain ⟨hi2, h⟩ := ps_gd h
                        refine ps_iald C (kf_20_1 hq) (fun _ _ => rfl) hi2 dX7_count_95 ?_
                        exact ps_end_i h hfin dX7_count_96 rfl
                      · replace h := ps_in0 c_1_10 h
                        by_cases c_1_11 : a1 = nI 11
                        · replace h := ps_ip c_1_11 h
                          refine ps_tabI C 11 (by rw [c_1_11]; rfl) 87 dX7_count_1 (by decide) (by decide) rfl rfl ?_
                          refine ps_aloadn0 C dX7_count_87 ?_
                          refine gf_X7_7 C hq dX7_count_88 ?_
                          refine ps_iloadn1 C dX7_count_91 ?_
                          refine ps_bipush C dX7_count_92 pb_8 ?_
                          refine ps_isub C dX7_count_94 ?_
                          obtain ⟨hi1, h⟩ := ps_gd h
                          refine ps_iald C (kf_20_1 hq) (fun _ _ => rfl) hi1 dX7_count_95 ?_
                          exact ps_end_i h hfin dX7_count_96 rfl
                        · replace h := ps_in0 c_1_11 h
                          by_cases c_1_12 : a1 = nI 12
                          · replace h := ps_ip c_1_12 h
                            refine ps_tabI C 12 (by rw [c_1_12]; rfl) 97 dX7_count_1 (by decide) (by decide) rfl rfl ?_
                            refine ps_aloadn0 C dX7_count_97 ?_
                            refine gf_X7_140 C hq dX7_count_98 ?_
                            exact ps_end_i h hfin dX7_count_101 rfl
                          · replace h := ps_in0 c_1_12 h
                            by_cases c_1_13 : a1 = nI 13
                            · replace h := ps_ip c_1_13 h
                              refine ps_tabI C 13 (by rw [c_1_13]; rfl) 102 dX7_count_1 (by decide) (by decide) rfl rfl ?_
                              refine ps_aloadn0 C dX7_count_102 ?_
                              refine gf_X7_43 C hq dX7_count_103 ?_
                              exact ps_end_i h hfin dX7_count_106 rfl
                            · replace h := ps_in0 c_1_13 h
                              have hdf : ps_G X M 107 [some (.ref (xb X + q)), some (.int a1)] [] := by
                                refine ps_bipush C dX7_count_107 pb_m2 ?_
                                exact ps_end_i h hfin dX7_count_109 rfl
                              by_cases q1 : a1.toInt < 0
                              · exact ps_tabO C 107 dX7_count_1 (Or.inl q1) rfl hdf
                              by_cases q2 : 13 < a1.toInt
                              · exact ps_tabO C 107 dX7_count_1 (Or.inr q2) rfl hdf
                              exfalso
                              rcases (by omega : a1.toInt = 0 ∨ a1.toInt = 1 ∨ a1.toInt = 2 ∨ a1.toInt = 3 ∨ a1.toInt = 4 ∨ a1.toInt = 5 ∨ a1.toInt = 6 ∨ a1.toInt = 7 ∨ a1.toInt = 8 ∨ a1.toInt = 9 ∨ a1.toInt = 10 ∨ a1.toInt = 11 ∨ a1.toInt = 12 ∨ a1.toInt = 13) with q3 | q3 | q3 | q3 | q3 | q3 | q3 | q3 | q3 | q3 | q3 | q3 | q3 | q3
                              · exact absurd (pz_0 q3) c_1_0
                              · exact absurd (pz_1 q3) c_1_1
                              · exact absurd (pz_2 q3) c_1_2
                              · exact absurd (pz_3 q3) c_1_3
                              · exact absurd (pz_4 q3) c_1_4
                              · exact absurd (pz_5 q3) c_1_5
                              · exact absurd (pz_6 q3) c_1_6
                              · exact absurd (pz_7 q3) c_1_7
                              · exact absurd (pz_8 q3) c_1_8
                              · exact absurd (pz_9 q3) c_1_9
                              · exact absurd (pz_10 q3) c_1_10
                              · exact absurd (pz_11 q3) c_1_11
                              · exact absurd (pz_12 q3) c_1_12
                              · exact absurd (pz_13 q3) c_1_13
set_option maxRecDepth 10000 in
theorem bk_X7_hearsAll_2 {X : ps_X} (C : ps_C X RX7 cX7_hearsAll) (hRm : xR X = ps_lvl 4) {r : Int32} {M9 : ps_M} (hfin : ∀ pc lv, decode cX7_hearsAll pc = .ok (.return_, 1) → ps_G X M9 pc lv []) {q : Nat} (hq : ps_ck 20 q = true) : ∀ (n : Nat) (a1 : Int32) (a2 : Int32) (a3 : Int32) (M : ps_M), fk_X7_hearsAll_2 q n a1 a2 a3 M = some (r, M9) → ps_G X M 2 [some (.ref (xb X + q)), some (.int a1), some (.int a2), some (.int a3)] [] := by
  intro n
  induction n with
  | zero => intro a1 a2 a3 M h; rw [fk_X7_hearsAll_2] at h; cases h
  | succ n ih =>
    intro a1 a2 a3 M h
    rw [fk_X7_hearsAll_2] at h
    refine ps_iloadn3 C dX7_hearsAll_2 ?_
    refine ps_aloadn0 C dX7_hearsAll_3 ?_
    refine gf_X7_7 C hq dX7_hearsAll_4 ?_
    refine ps_iloadn2 C dX7_hearsAll_7 ?_
    obtain ⟨r1, M1, hM1, h⟩ := ps_bd h
    refine ps_goS_i C (rest := [.ref (xb X + (q + 1)), .int a3]) (tt_X7_n (xl X) (xb X) (xD X) hM1) cw_X7_68 (ps_room hRm (by decide)) rfl rfl (Nat.le_of_ble_eq_true rfl) dX7_hearsAll_8 ?_
    obtain ⟨hi2, h⟩ := ps_gd h
    refine ps_iald C (kf_20_1 hq) (fun _ _ => rfl) hi2 dX7_hearsAll_11 ?_
    refine ps_ic_ge C 39 dX7_hearsAll_12 rfl (fun c7 => ?_) (fun c7 => ?_)
    · replace h := ps_ip c7 h
      exact ps_end_v h hfin dX7_hearsAll_39
    · replace h := ps_in0 c7 h
      refine ps_aloadn0 C dX7_hearsAll_15 ?_
      refine ps_iloadn1 C dX7_hearsAll_16 ?_
      refine ps_aloadn0 C dX7_hearsAll_17 ?_
      refine gf_X7_7 C hq dX7_hearsAll_18 ?_
      refine ps_iloadn2 C dX7_hearsAll_21 ?_
      obtain ⟨r3, M3, hM3, h⟩ := ps_bd h
      refine ps_goS_i C (rest := [.ref (xb X + (q + 1)), .int a1, .ref (xb X + q)]) (tt_X7_n (xl X) (xb X) (xD X) hM3) cw_X7_68 (ps_room hRm (by decide)) rfl rfl (Nat.le_of_ble_eq_true rfl) dX7_hearsAll_22 ?_
      refine ps_iconst C dX7_hearsAll_25 pi_2 ?_
      refine ps_iadd C dX7_hearsAll_26 ?_
      refine ps_iloadn3 C dX7_hearsAll_27 ?_
      refine ps_iadd C dX7_hearsAll_28 ?_
      obtain ⟨hi4, h⟩ := ps_gd h
      refine ps_iald C (kf_20_1 hq) (fun _ _ => rfl) hi4 dX7_hearsAll_29 ?_
      obtain ⟨r5, M5, hM5, h⟩ := ps_bd h
      refine ps_goV_v C (rest := []) (tt_X7_hears (xl X) (xb X) (xD X) hq hM5) cw_X7_90 ps_rc20 hq (ps_room hRm (by decide)) rfl rfl (Nat.le_of_ble_eq_true rfl) dX7_hearsAll_30 ?_
      refine ps_iinc3 C rfl (nI 1) pi_1 dX7_hearsAll_33 (fun x6 ex6 => ?_)
      replace h := ps_lt ex6 h
      refine ps_goto C 2 dX7_hearsAll_36 rfl ?_
      exact ih a1 a2 x6 _ h
set_option maxRecDepth 10000 in
theorem tt_X7_hearsAll (l : Launch) (b : Nat) (D : va_G) {q : Nat} (hq : ps_ck 20 q = true) {a1 : Int32} {a2 : Int32} {M M9 : ps_M} {r : Int32} (h : ff_X7_hearsAll q a1 a2 M = some (r, M9)) : ps_Tv l b D yX7_hearsAll cX7_hearsAll 4 4 [.ref (b + q), .int a1, .int a2] M M9 := by
  refine ps_met_v (own := RX7) (lv := [some (.ref (b + q)), some (.int a1), some (.int a2), none]) (by decide) rfl rfl (Nat.le_of_ble_eq_true rfl) rfl (fun X eX1 eX2 eX3 hRm eX5 C hfin => ?_)
  subst eX1 eX2 eX3
  unfold ff_X7_hearsAll at h
  refine ps_iconst C dX7_hearsAll_0 pi_0 ?_
  refine ps_istoren3 C rfl dX7_hearsAll_1 ?_
  exact bk_X7_hearsAll_2 C hRm hfin hq ps_fu a1 a2 (nI 0) _ h
set_option maxRecDepth 10000 in
theorem bk_X7_lessonsFor_65 {X : ps_X} (C : ps_C X RX7 cX7_lessonsFor) (hRm : xR X = ps_lvl 5) {r : Int32} {M9 : ps_M} (hfin : ∀ pc lv, decode cX7_lessonsFor pc = .ok (.ireturn, 1) → narrow .int (.int r) = .int r → ps_G X M9 pc lv [.int r]) {q : Nat} (hq : ps_ck 20 q = true) (a1 : Int32) (a2 : Int32) (a3 : Int32) (M : ps_M) (h : fk_X7_lessonsFor_65 q a1 a2 a3 M = some (r, M9)) : ps_G X M 65 [some (.ref (xb X + q)), some (.int a1), some (.int a2), some (.int a3), none] [] := by
  unfold fk_X7_lessonsFor_65 at h
  refine ps_aloadn0 C dX7_lessonsFor_65 ?_
  refine ps_iloadn1 C dX7_lessonsFor_66 ?_
  refine ps_iloadn2 C dX7_lessonsFor_67 ?_
  obtain ⟨r4, M4, hM4, h⟩ := ps_bd h
  refine ps_goV_i C (rest := []) (tt_X7_hundredths (xl X) (xb X) (xD X) hq hM4) cw_X7_77 ps_rc20 hq (ps_room hRm (by decide)) rfl rfl (Nat.le_of_ble_eq_true rfl) dX7_lessonsFor_68 ?_
  refine ps_bipush C dX7_lessonsFor_71 pb_100 ?_
  refine ps_ic_ne C 80 dX7_lessonsFor_73 rfl (fun c7 => ?_) (fun c7 => ?_)
  · replace h := ps_in0 c7 h
    refine ps_iconst C dX7_lessonsFor_80 pi_0 ?_
    refine ps_istore4 C rfl dX7_lessonsFor_81 ?_
    refine ps_aloadn0 C dX7_lessonsFor_83 ?_
    obtain ⟨r5, M5, hM5, h⟩ := ps_bd h
    refine ps_goV_v C (rest := []) (tt_X7_putBack (xl X) (xb X) (xD X) hq hM5) cw_X7_149 ps_rc20 hq (ps_room hRm (by decide)) rfl rfl (Nat.le_of_ble_eq_true rfl) dX7_lessonsFor_84 ?_
    refine ps_iload4 C dX7_lessonsFor_87 ?_
    refine ps_if_eq C 96 dX7_lessonsFor_89 rfl (fun _ => ?_) (fun c => absurd c (by decide))
    refine ps_bipush C dX7_lessonsFor_96 pb_m6 ?_
    exact ps_end_i h hfin dX7_lessonsFor_98 rfl
  · replace h := ps_ip c7 h
    refine ps_iconst C dX7_lessonsFor_76 pi_1 ?_
    refine ps_goto C 81 dX7_lessonsFor_77 rfl ?_
    refine ps_istore4 C rfl dX7_lessonsFor_81 ?_
    refine ps_aloadn0 C dX7_lessonsFor_83 ?_
    obtain ⟨r6, M6, hM6, h⟩ := ps_bd h
    refine ps_goV_v C (rest := []) (tt_X7_putBack (xl X) (xb X) (xD X) hq hM6) cw_X7_149 ps_rc20 hq (ps_room hRm (by decide)) rfl rfl (Nat.le_of_ble_eq_true rfl) dX7_lessonsFor_84 ?_
    refine ps_iload4 C dX7_lessonsFor_87 ?_
    refine ps_if_eq C 96 dX7_lessonsFor_89 rfl (fun c => absurd c (by decide)) (fun _ => ?_)
    refine ps_iloadn3 C dX7_lessonsFor_92 ?_
    refine ps_goto C 98 dX7_lessonsFor_93 rfl ?_
    exact ps_end_i h hfin dX7_lessonsFor_98 rfl
set_option maxRecDepth 10000 in
theorem bk_X7_lessonsFor_24 {X : ps_X} (C : ps_C X RX7 cX7_lessonsFor) (hRm : xR X = ps_lvl 5) {r : Int32} {M9 : ps_M} (hfin : ∀ pc lv, decode cX7_lessonsFor pc = .ok (.ireturn, 1) → narrow .int (.int r) = .int r → ps_G X M9 pc lv [.int r]) {q : Nat} (hq : ps_ck 20 q = true) : ∀ (n : Nat) (a1 : Int32) (a2 : Int32) (a3 : Int32) (M : ps_M), fk_X7_lessonsFor_24 q n a1 a2 a3 M = some (r, M9) → ps_G X M 24 [some (.ref (xb X + q)), some (.int a1), some (.int a2), some (.int a3), none] [] := by
  intro n
  induction n with
  | zero => intro a1 a2 a3 M h; rw [fk_X7_lessonsFor_24] at h; cases h
  | succ n ih =>
    intro a1 a2 a3 M h
    rw [fk_X7_lessonsFor_24] at h
    refine ps_iloadn3 C dX7_lessonsFor_24 ?_
    refine ps_bipush C dX7_lessonsFor_25 pb_30 ?_
    refine ps_ic_ge C 65 dX7_lessonsFor_27 rfl (fun c15 => ?_) (fun c15 => ?_)
    · replace h := ps_ip c15 h
      exact bk_X7_lessonsFor_65 C hRm hfin hq a1 a2 a3 _ h
    · replace h := ps_in0 c15 h
      refine ps_aloadn0 C dX7_lessonsFor_30 ?_
      refine ps_iloadn1 C dX7_lessonsFor_31 ?_
      refine ps_iloadn2 C dX7_lessonsFor_32 ?_
      obtain ⟨r8, M8, hM8, h⟩ := ps_bd h
      refine ps_goV_i C (rest := []) (tt_X7_hundredths (xl X) (xb X) (xD X) hq hM8) cw_X7_77 ps_rc20 hq (ps_room hRm (by decide)) rfl rfl (Nat.le_of_ble_eq_true rfl) dX7_lessonsFor_33 ?_
      refine ps_bipush C dX7_lessonsFor_36 pb_100 ?_
      refine ps_ic_ge C 65 dX7_lessonsFor_38 rfl (fun c14 => ?_) (fun c14 => ?_)
      · replace h := ps_ip c14 h
        exact bk_X7_lessonsFor_65 C hRm hfin hq a1 a2 a3 _ h
      · replace h := ps_in0 c14 h
        refine ps_aloadn0 C dX7_lessonsFor_41 ?_
        refine gf_X7_7 C hq dX7_lessonsFor_42 ?_
        refine ps_iloadn1 C dX7_lessonsFor_45 ?_
        obtain ⟨r9, M9, hM9, h⟩ := ps_bd h
        refine ps_goS_i C (rest := [.ref (xb X + (q + 1))]) (tt_X7_p (xl X) (xb X) (xD X) hM9) cw_X7_47 (ps_room hRm (by decide)) rfl rfl (Nat.le_of_ble_eq_true rfl) dX7_lessonsFor_46 ?_
        refine ps_iconst C dX7_lessonsFor_49 pi_1 ?_
        refine ps_iadd C dX7_lessonsFor_50 ?_
        refine ps_iconst C dX7_lessonsFor_51 pi_m1 ?_
        obtain ⟨hi10, h⟩ := ps_gd h
        refine ps_iast C (kf_20_1 hq) (fun _ _ => rfl) hi10 dX7_lessonsFor_52 (fun M11 eM11 => ?_)
        replace h := ps_lt eM11 h
        refine ps_aloadn0 C dX7_lessonsFor_53 ?_
        refine ps_iloadn1 C dX7_lessonsFor_54 ?_
        refine ps_iloadn2 C dX7_lessonsFor_55 ?_
        obtain ⟨r12, M12, hM12, h⟩ := ps_bd h
        refine ps_goV_v C (rest := []) (tt_X7_hearsAll (xl X) (xb X) (xD X) hq hM12) cw_X7_146 ps_rc20 hq (ps_room hRm (by decide)) rfl rfl (Nat.le_of_ble_eq_true rfl) dX7_lessonsFor_56 ?_
        refine ps_iinc3 C rfl (nI 1) pi_1 dX7_lessonsFor_59 (fun x13 ex13 => ?_)
        replace h := ps_lt ex13 h
        refine ps_goto C 24 dX7_lessonsFor_62 rfl ?_
        exact ih a1 a2 x13 _ h
set_option maxRecDepth 10000 in
theorem tt_X7_lessonsFor (l : Launch) (b : Nat) (D : va_G) {q : Nat} (hq : ps_ck 20 q = true) {a1 : Int32} {a2 : Int32} {M M9 : ps_M} {r : Int32} (h : ff_X7_lessonsFor q a1 a2 M = some (r, M9)) : ps_Ti l b D yX7_lessonsFor cX7_lessonsFor 5 .int 5 [.ref (b + q), .int a1, .int a2] M r M9 := by
  refine ps_met_i (own := RX7) (lv := [some (.ref (b + q)), some (.int a1), some (.int a2), none, none]) (by decide) rfl rfl (Nat.le_of_ble_eq_true rfl) rfl (fun X eX1 eX2 eX3 hRm eX5 C hfin => ?_)
  subst eX1 eX2 eX3
  unfold ff_X7_lessonsFor at h
  refine ps_aloadn0 C dX7_lessonsFor_0 ?_
  refine ps_iloadn1 C dX7_lessonsFor_1 ?_
  obtain ⟨r1, M1, hM1, h⟩ := ps_bd h
  refine ps_goV_i C (rest := []) (tt_X7_isParrot (xl X) (xb X) (xD X) hq hM1) cw_X7_80 ps_rc20 hq (ps_room hRm (by decide)) rfl rfl (Nat.le_of_ble_eq_true rfl) dX7_lessonsFor_2 ?_
  refine ps_if_eq C 16 dX7_lessonsFor_5 rfl (fun c17 => ?_) (fun c17 => ?_)
  · replace h := ps_ip c17 h
    refine ps_iconst C dX7_lessonsFor_16 pi_m1 ?_
    exact ps_end_i h hfin dX7_lessonsFor_17 rfl
  · replace h := ps_in0 c17 h
    refine ps_aloadn0 C dX7_lessonsFor_8 ?_
    refine ps_iloadn2 C dX7_lessonsFor_9 ?_
    obtain ⟨r2, M2, hM2, h⟩ := ps_bd h
    refine ps_goV_i C (rest := []) (tt_X7_isSong (xl X) (xb X) (xD X) hq hM2) cw_X7_84 ps_rc20 hq (ps_room hRm (by decide)) rfl rfl (Nat.le_of_ble_eq_true rfl) dX7_lessonsFor_10 ?_
    refine ps_if_ne C 18 dX7_lessonsFor_13 rfl (fun c16 => ?_) (fun c16 => ?_)
    · replace h := ps_in0 c16 h
      refine ps_aloadn0 C dX7_lessonsFor_18 ?_
      obtain ⟨r3, M3, hM3, h⟩ := ps_bd h
      refine ps_goV_v C (rest := []) (tt_X7_keepTrial (xl X) (xb X) (xD X) hq hM3) cw_X7_143 ps_rc20 hq (ps_room hRm (by decide)) rfl rfl (Nat.le_of_ble_eq_true rfl) dX7_lessonsFor_19 ?_
      refine ps_iconst C dX7_lessonsFor_22 pi_0 ?_
      refine ps_istoren3 C rfl dX7_lessonsFor_23 ?_
      exact bk_X7_lessonsFor_24 C hRm hfin hq ps_fu a1 a2 (nI 0) _ h
    · replace h := ps_ip c16 h
      refine ps_iconst C dX7_lessonsFor_16 pi_m1 ?_
      exact ps_end_i h hfin dX7_lessonsFor_17 rfl
set_option maxRecDepth 10000 in
theorem bk_X7_bestLesson_35 {X : ps_X} (C : ps_C X RX7 cX7_bestLesson) (hRm : xR X = ps_lvl 5) {r : Int32} {M9 : ps_M} (hfin : ∀ pc lv, decode cX7_bestLesson pc = .ok (.ireturn, 1) → narrow .int (.int r) = .int r → ps_G X M9 pc lv [.int r]) {q : Nat} (hq : ps_ck 20 q = true) : ∀ (n : Nat) (a1 : Int32) (a2 : Int32) (a3 : Int32) (a4 : Int32) (a5 : Int32) (M : ps_M), fk_X7_bestLesson_35 q n a1 a2 a3 a4 a5 M = some (r, M9) → ps_G X M 35 [some (.ref (xb X + q)), some (.int a1), some (.int a2), some (.int a3), some (.int a4), some (.int a5), none] [] := by
  intro n
  induction n with
  | zero => intro a1 a2 a3 a4 a5 M h; rw [fk_X7_bestLesson_35] at h; cases h
  | succ n ih =>
    intro a1 a2 a3 a4 a5 M h
    rw [fk_X7_bestLesson_35] at h
    refine ps_iload5 C dX7_bestLesson_35 ?_
    refine ps_aloadn0 C dX7_bestLesson_37 ?_
    refine gf_X7_7 C hq dX7_bestLesson_38 ?_
    refine ps_iconst C dX7_bestLesson_41 pi_5 ?_
    obtain ⟨hi4, h⟩ := ps_gd h
    refine ps_iald C (kf_20_1 hq) (fun _ _ => rfl) hi4 dX7_bestLesson_42 ?_
    refine ps_ic_ge C 102 dX7_bestLesson_43 rfl (fun c18 => ?_) (fun c18 => ?_)
    · replace h := ps_ip c18 h
      refine ps_iload4 C dX7_bestLesson_102 ?_
      refine ps_bipush C dX7_bestLesson_104 pb_m6 ?_
      refine ps_ic_eq C 113 dX7_bestLesson_106 rfl (fun c6 => ?_) (fun c6 => ?_)
      · replace h := ps_ip c6 h
        refine ps_iload4 C dX7_bestLesson_113 ?_
        refine ps_goto C 119 dX7_bestLesson_115 rfl ?_
        exact ps_end_i h hfin dX7_bestLesson_119 rfl
      · replace h := ps_in0 c6 h
        refine ps_iloadn2 C dX7_bestLesson_109 ?_
        refine ps_if_ne C 118 dX7_bestLesson_110 rfl (fun c5 => ?_) (fun c5 => ?_)
        · replace h := ps_in0 c5 h
          refine ps_iloadn3 C dX7_bestLesson_118 ?_
          exact ps_end_i h hfin dX7_bestLesson_119 rfl
        · replace h := ps_ip c5 h
          refine ps_iload4 C dX7_bestLesson_113 ?_
          refine ps_goto C 119 dX7_bestLesson_115 rfl ?_
          exact ps_end_i h hfin dX7_bestLesson_119 rfl
    · replace h := ps_in0 c18 h
      refine ps_aloadn0 C dX7_bestLesson_46 ?_
      obtain ⟨r7, M7, hM7, h⟩ := ps_bd h
      refine ps_goV_v C (rest := []) (tt_X7_keepTrial (xl X) (xb X) (xD X) hq hM7) cw_X7_143 ps_rc20 hq (ps_room hRm (by decide)) rfl rfl (Nat.le_of_ble_eq_true rfl) dX7_bestLesson_47 ?_
      refine ps_aloadn0 C dX7_bestLesson_50 ?_
      refine ps_iloadn1 C dX7_bestLesson_51 ?_
      refine ps_iload5 C dX7_bestLesson_52 ?_
      obtain ⟨r8, M8, hM8, h⟩ := ps_bd h
      refine ps_goV_v C (rest := []) (tt_X7_hearsAll (xl X) (xb X) (xD X) hq hM8) cw_X7_146 ps_rc20 hq (ps_room hRm (by decide)) rfl rfl (Nat.le_of_ble_eq_true rfl) dX7_bestLesson_54 ?_
      refine ps_aloadn0 C dX7_bestLesson_57 ?_
      refine ps_iloadn1 C dX7_bestLesson_58 ?_
      obtain ⟨r9, M9, hM9, h⟩ := ps_bd h
      refine ps_goV_i C (rest := []) (tt_X7_known (xl X) (xb X) (xD X) hq hM9) cw_X7_152 ps_rc20 hq (ps_room hRm (by decide)) rfl rfl (Nat.le_of_ble_eq_true rfl) dX7_bestLesson_59 ?_
      refine ps_istore6 C rfl dX7_bestLesson_62 ?_
      refine ps_aloadn0 C dX7_bestLesson_64 ?_
      obtain ⟨r10, M10, hM10, h⟩ := ps_bd h
      refine ps_goV_v C (rest := []) (tt_X7_putBack (xl X) (xb X) (xD X) hq hM10) cw_X7_149 ps_rc20 hq (ps_room hRm (by decide)) rfl rfl (Nat.le_of_ble_eq_true rfl) dX7_bestLesson_65 ?_
      refine ps_iload6 C dX7_bestLesson_68 ?_
      refine ps_iloadn3 C dX7_bestLesson_70 ?_
      refine ps_ic_le C 79 dX7_bestLesson_71 rfl (fun c17 => ?_) (fun c17 => ?_)
      · replace h := ps_ip c17 h
        refine ps_iload4 C dX7_bestLesson_79 ?_
        refine ps_istore4 C rfl dX7_bestLesson_81 ?_
        refine ps_iload6 C dX7_bestLesson_83 ?_
        refine ps_iloadn3 C dX7_bestLesson_85 ?_
        refine ps_ic_le C 94 dX7_bestLesson_86 rfl (fun c13 => ?_) (fun c13 => ?_)
        · replace h := ps_ip c13 h
          refine ps_iloadn3 C dX7_bestLesson_94 ?_
          refine ps_istoren3 C rfl dX7_bestLesson_95 ?_
          refine ps_iinc5 C rfl (nI 1) pi_1 dX7_bestLesson_96 (fun x11 ex11 => ?_)
          replace h := ps_lt ex11 h
          refine ps_goto C 35 dX7_bestLesson_99 rfl ?_
          refine ps_wk (lv' := [some (.ref (xb X + q)), some (.int a1), some (.int a2), some (.int a3), some (.int a4), some (.int x11), none]) (ps_le_s rfl (ps_le_s rfl (ps_le_s rfl (ps_le_s rfl (ps_le_s rfl (ps_le_s rfl (ps_le_n ps_le_0))))))) ?_
          exact ih a1 a2 a3 a4 x11 _ h
        · replace h := ps_in0 c13 h
          refine ps_iload6 C dX7_bestLesson_89 ?_
          refine ps_goto C 95 dX7_bestLesson_91 rfl ?_
          refine ps_istoren3 C rfl dX7_bestLesson_95 ?_
          refine ps_iinc5 C rfl (nI 1) pi_1 dX7_bestLesson_96 (fun x12 ex12 => ?_)
          replace h := ps_lt ex12 h
          refine ps_goto C 35 dX7_bestLesson_99 rfl ?_
          refine ps_wk (lv' := [some (.ref (xb X + q)), some (.int a1), some (.int a2), some (.int r9), some (.int a4), some (.int x12), none]) (ps_le_s rfl (ps_le_s rfl (ps_le_s rfl (ps_le_s rfl (ps_le_s rfl (ps_le_s rfl (ps_le_n ps_le_0))))))) ?_
          exact ih a1 a2 r9 a4 x12 _ h
      · replace h := ps_in0 c17 h
        refine ps_iload5 C dX7_bestLesson_74 ?_
        refine ps_goto C 81 dX7_bestLesson_76 rfl ?_
        refine ps_istore4 C rfl dX7_bestLesson_81 ?_
        refine ps_iload6 C dX7_bestLesson_83 ?_
        refine ps_iloadn3 C dX7_bestLesson_85 ?_
        refine ps_ic_le C 94 dX7_bestLesson_86 rfl (fun c16 => ?_) (fun c16 => ?_)
        · replace h := ps_ip c16 h
          refine ps_iloadn3 C dX7_bestLesson_94 ?_
          refine ps_istoren3 C rfl dX7_bestLesson_95 ?_
          refine ps_iinc5 C rfl (nI 1) pi_1 dX7_bestLesson_96 (fun x14 ex14 => ?_)
          replace h := ps_lt ex14 h
          refine ps_goto C 35 dX7_bestLesson_99 rfl ?_
          refine ps_wk (lv' := [some (.ref (xb X + q)), some (.int a1), some (.int a2), some (.int a3), some (.int a5), some (.int x14), none]) (ps_le_s rfl (ps_le_s rfl (ps_le_s rfl (ps_le_s rfl (ps_le_s rfl (ps_le_s rfl (ps_le_n ps_le_0))))))) ?_
          exact ih a1 a2 a3 a5 x14 _ h
        · replace h := ps_in0 c16 h
          refine ps_iload6 C dX7_bestLesson_89 ?_
          refine ps_goto C 95 dX7_bestLesson_91 rfl ?_
          refine ps_istoren3 C rfl dX7_bestLesson_95 ?_
          refine ps_iinc5 C rfl (nI 1) pi_1 dX7_bestLesson_96 (fun x15 ex15 => ?_)
          replace h := ps_lt ex15 h
          refine ps_goto C 35 dX7_bestLesson_99 rfl ?_
          refine ps_wk (lv' := [some (.ref (xb X + q)), some (.int a1), some (.int a2), some (.int r9), some (.int a5), some (.int x15), none]) (ps_le_s rfl (ps_le_s rfl (ps_le_s rfl (ps_le_s rfl (ps_le_s rfl (ps_le_s rfl (ps_le_n ps_le_0))))))) ?_
          exact ih a1 a2 r9 a5 x15 _ h
set_option maxRecDepth 10000 in
theorem tt_X7_bestLesson (l : Launch) (b : Nat) (D : va_G) {q : Nat} (hq : ps_ck 20 q = true) {a1 : Int32} {a2 : Int32} {M M9 : ps_M} {r : Int32} (h : ff_X7_bestLesson q a1 a2 M = some (r, M9)) : ps_Ti l b D yX7_bestLesson cX7_bestLesson 7 .int 5 [.ref (b + q), .int a1, .int a2] M r M9 := by
  refine ps_met_i (own := RX7) (lv := [some (.ref (b + q)), some (.int a1), some (.int a2), none, none, none, none]) (by decide) rfl rfl (Nat.le_of_ble_eq_true rfl) rfl (fun X eX1 eX2 eX3 hRm eX5 C hfin => ?_)
  subst eX1 eX2 eX3
  unfold ff_X7_bestLesson at h
  refine ps_aloadn0 C dX7_bestLesson_0 ?_
  refine ps_iloadn1 C dX7_bestLesson_1 ?_
  obtain ⟨r1, M1, hM1, h⟩ := ps_bd h
  refine ps_goV_i C (rest := []) (tt_X7_isParrot (xl X) (xb X) (xD X) hq hM1) cw_X7_80 ps_rc20 hq (ps_room hRm (by decide)) rfl rfl (Nat.le_of_ble_eq_true rfl) dX7_bestLesson_2 ?_
  refine ps_if_ne C 10 dX7_bestLesson_5 rfl (fun c20 => ?_) (fun c20 => ?_)
  · replace h := ps_in0 c20 h
    refine ps_iloadn2 C dX7_bestLesson_10 ?_
    refine ps_iconst C dX7_bestLesson_11 pi_0 ?_
    refine ps_iconst C dX7_bestLesson_12 pi_1 ?_
    obtain ⟨r2, M2, hM2, h⟩ := ps_bd h
    refine ps_goS_i C (rest := []) (tt_X7_in (xl X) (xb X) (xD X) hM2) cw_X7_39 (ps_room hRm (by decide)) rfl rfl (Nat.le_of_ble_eq_true rfl) dX7_bestLesson_13 ?_
    refine ps_if_ne C 22 dX7_bestLesson_16 rfl (fun c19 => ?_) (fun c19 => ?_)
    · replace h := ps_in0 c19 h
      refine ps_aloadn0 C dX7_bestLesson_22 ?_
      refine ps_iloadn1 C dX7_bestLesson_23 ?_
      obtain ⟨r3, M3, hM3, h⟩ := ps_bd h
      refine ps_goV_i C (rest := []) (tt_X7_known (xl X) (xb X) (xD X) hq hM3) cw_X7_152 ps_rc20 hq (ps_room hRm (by decide)) rfl rfl (Nat.le_of_ble_eq_true rfl) dX7_bestLesson_24 ?_
      refine ps_istoren3 C rfl dX7_bestLesson_27 ?_
      refine ps_bipush C dX7_bestLesson_28 pb_m6 ?_
      refine ps_istore4 C rfl dX7_bestLesson_30 ?_
      refine ps_iconst C dX7_bestLesson_32 pi_0 ?_
      refine ps_istore5 C rfl dX7_bestLesson_33 ?_
      exact bk_X7_bestLesson_35 C hRm hfin hq ps_fu a1 a2 r3 (ps_m 6) (nI 0) _ h
    · replace h := ps_ip c19 h
      refine ps_bipush C dX7_bestLesson_19 pb_m2 ?_
      exact ps_end_i h hfin dX7_bestLesson_21 rfl
  · replace h := ps_ip c20 h
    refine ps_iconst C dX7_bestLesson_8 pi_m1 ?_
    exact ps_end_i h hfin dX7_bestLesson_9 rfl
set_option maxRecDepth 10000 in
theorem bk_X7_keeps_53 {X : ps_X} (C : ps_C X RX7 cX7_keeps) (hRm : xR X = ps_lvl 4) {r : Int32} {M9 : ps_M} (hfin : ∀ pc lv, decode cX7_keeps pc = .ok (.ireturn, 1) → narrow .int (.int r) = .int r → ps_G X M9 pc lv [.int r]) {q : Nat} (hq : ps_ck 20 q = true) (a1 : Int32) (a2 : Int32) (a3 : Int32) (M : ps_M) (h : fk_X7_keeps_53 q a1 a2 a3 M = some (r, M9)) : ps_G X M 53 [some (.ref (xb X + q)), some (.int a1), some (.int a2), some (.int a3), none] [] := by
  unfold fk_X7_keeps_53 at h
  refine ps_aloadn0 C dX7_keeps_53 ?_
  refine ps_iloadn1 C dX7_keeps_54 ?_
  refine ps_iloadn2 C dX7_keeps_55 ?_
  obtain ⟨r4, M4, hM4, h⟩ := ps_bd h
  refine ps_goV_i C (rest := []) (tt_X7_hundredths (xl X) (xb X) (xD X) hq hM4) cw_X7_77 ps_rc20 hq (ps_room hRm (by decide)) rfl rfl (Nat.le_of_ble_eq_true rfl) dX7_keeps_56 ?_
  refine ps_bipush C dX7_keeps_59 pb_100 ?_
  refine ps_ic_ge C 68 dX7_keeps_61 rfl (fun c7 => ?_) (fun c7 => ?_)
  · replace h := ps_ip c7 h
    refine ps_iconst C dX7_keeps_68 pi_0 ?_
    refine ps_istore4 C rfl dX7_keeps_69 ?_
    refine ps_aloadn0 C dX7_keeps_71 ?_
    obtain ⟨r5, M5, hM5, h⟩ := ps_bd h
    refine ps_goV_v C (rest := []) (tt_X7_putBack (xl X) (xb X) (xD X) hq hM5) cw_X7_149 ps_rc20 hq (ps_room hRm (by decide)) rfl rfl (Nat.le_of_ble_eq_true rfl) dX7_keeps_72 ?_
    refine ps_iload4 C dX7_keeps_75 ?_
    refine ps_if_eq C 84 dX7_keeps_77 rfl (fun _ => ?_) (fun c => absurd c (by decide))
    refine ps_bipush C dX7_keeps_84 pb_m6 ?_
    exact ps_end_i h hfin dX7_keeps_86 rfl
  · replace h := ps_in0 c7 h
    refine ps_iconst C dX7_keeps_64 pi_1 ?_
    refine ps_goto C 69 dX7_keeps_65 rfl ?_
    refine ps_istore4 C rfl dX7_keeps_69 ?_
    refine ps_aloadn0 C dX7_keeps_71 ?_
    obtain ⟨r6, M6, hM6, h⟩ := ps_bd h
    refine ps_goV_v C (rest := []) (tt_X7_putBack (xl X) (xb X) (xD X) hq hM6) cw_X7_149 ps_rc20 hq (ps_room hRm (by decide)) rfl rfl (Nat.le_of_ble_eq_true rfl) dX7_keeps_72 ?_
    refine ps_iload4 C dX7_keeps_75 ?_
    refine ps_if_eq C 84 dX7_keeps_77 rfl (fun c => absurd c (by decide)) (fun _ => ?_)
    refine ps_iloadn3 C dX7_keeps_80 ?_
    refine ps_goto C 86 dX7_keeps_81 rfl ?_
    exact ps_end_i h hfin dX7_keeps_86 rfl
set_option maxRecDepth 10000 in
theorem bk_X7_keeps_24 {X : ps_X} (C : ps_C X RX7 cX7_keeps) (hRm : xR X = ps_lvl 4) {r : Int32} {M9 : ps_M} (hfin : ∀ pc lv, decode cX7_keeps pc = .ok (.ireturn, 1) → narrow .int (.int r) = .int r → ps_G X M9 pc lv [.int r]) {q : Nat} (hq : ps_ck 20 q = true) : ∀ (n : Nat) (a1 : Int32) (a2 : Int32) (a3 : Int32) (M : ps_M), fk_X7_keeps_24 q n a1 a2 a3 M = some (r, M9) → ps_G X M 24 [some (.ref (xb X + q)), some (.int a1), some (.int a2), some (.int a3), none] [] := by
  intro n
  induction n with
  | zero => intro a1 a2 a3 M h; rw [fk_X7_keeps_24] at h; cases h
  | succ n ih =>
    intro a1 a2 a3 M h
    rw [fk_X7_keeps_24] at h
    refine ps_iloadn3 C dX7_keeps_24 ?_
    refine ps_bipush C dX7_keeps_25 pb_30 ?_
    refine ps_ic_ge C 53 dX7_keeps_27 rfl (fun c12 => ?_) (fun c12 => ?_)
    · replace h := ps_ip c12 h
      exact bk_X7_keeps_53 C hRm hfin hq a1 a2 a3 _ h
    · replace h := ps_in0 c12 h
      refine ps_aloadn0 C dX7_keeps_30 ?_
      refine ps_iloadn1 C dX7_keeps_31 ?_
      refine ps_iloadn2 C dX7_keeps_32 ?_
      obtain ⟨r8, M8, hM8, h⟩ := ps_bd h
      refine ps_goV_i C (rest := []) (tt_X7_hundredths (xl X) (xb X) (xD X) hq hM8) cw_X7_77 ps_rc20 hq (ps_room hRm (by decide)) rfl rfl (Nat.le_of_ble_eq_true rfl) dX7_keeps_33 ?_
      refine ps_bipush C dX7_keeps_36 pb_100 ?_
      refine ps_ic_ne C 53 dX7_keeps_38 rfl (fun c11 => ?_) (fun c11 => ?_)
      · replace h := ps_in0 c11 h
        exact bk_X7_keeps_53 C hRm hfin hq a1 a2 a3 _ h
      · replace h := ps_ip c11 h
        refine ps_aloadn0 C dX7_keeps_41 ?_
        obtain ⟨r9, M9, hM9, h⟩ := ps_bd h
        refine ps_goV_i C (rest := []) (tt_X7_nights (xl X) (xb X) (xD X) hq hM9) cw_X7_96 ps_rc20 hq (ps_room hRm (by decide)) rfl rfl (Nat.le_of_ble_eq_true rfl) dX7_keeps_42 ?_
        refine ps_istore4 C rfl dX7_keeps_45 ?_
        refine ps_iinc3 C rfl (nI 1) pi_1 dX7_keeps_47 (fun x10 ex10 => ?_)
        replace h := ps_lt ex10 h
        refine ps_goto C 24 dX7_keeps_50 rfl ?_
        refine ps_wk (lv' := [some (.ref (xb X + q)), some (.int a1), some (.int a2), some (.int x10), none]) (ps_le_s rfl (ps_le_s rfl (ps_le_s rfl (ps_le_s rfl (ps_le_n ps_le_0))))) ?_
        exact ih a1 a2 x10 _ h
set_option maxRecDepth 10000 in
theorem tt_X7_keeps (l : Launch) (b : Nat) (D : va_G) {q : Nat} (hq : ps_ck 20 q = true) {a1 : Int32} {a2 : Int32} {M M9 : ps_M} {r : Int32} (h : ff_X7_keeps q a1 a2 M = some (r, M9)) : ps_Ti l b D yX7_keeps cX7_keeps 5 .int 4 [.ref (b + q), .int a1, .int a2] M r M9 := by
  refine ps_met_i (own := RX7) (lv := [some (.ref (b + q)), some (.int a1), some (.int a2), none, none]) (by decide) rfl rfl (Nat.le_of_ble_eq_true rfl) rfl (fun X eX1 eX2 eX3 hRm eX5 C hfin => ?_)
  subst eX1 eX2 eX3
  unfold ff_X7_keeps at h
  refine ps_aloadn0 C dX7_keeps_0 ?_
  refine ps_iloadn1 C dX7_keeps_1 ?_
  obtain ⟨r1, M1, hM1, h⟩ := ps_bd h
  refine ps_goV_i C (rest := []) (tt_X7_isParrot (xl X) (xb X) (xD X) hq hM1) cw_X7_80 ps_rc20 hq (ps_room hRm (by decide)) rfl rfl (Nat.le_of_ble_eq_true rfl) dX7_keeps_2 ?_
  refine ps_if_eq C 16 dX7_keeps_5 rfl (fun c14 => ?_) (fun c14 => ?_)
  · replace h := ps_ip c14 h
    refine ps_iconst C dX7_keeps_16 pi_m1 ?_
    exact ps_end_i h hfin dX7_keeps_17 rfl
  · replace h := ps_in0 c14 h
    refine ps_aloadn0 C dX7_keeps_8 ?_
    refine ps_iloadn2 C dX7_keeps_9 ?_
    obtain ⟨r2, M2, hM2, h⟩ := ps_bd h
    refine ps_goV_i C (rest := []) (tt_X7_isSong (xl X) (xb X) (xD X) hq hM2) cw_X7_84 ps_rc20 hq (ps_room hRm (by decide)) rfl rfl (Nat.le_of_ble_eq_true rfl) dX7_keeps_10 ?_
    refine ps_if_ne C 18 dX7_keeps_13 rfl (fun c13 => ?_) (fun c13 => ?_)
    · replace h := ps_in0 c13 h
      refine ps_aloadn0 C dX7_keeps_18 ?_
      obtain ⟨r3, M3, hM3, h⟩ := ps_bd h
      refine ps_goV_v C (rest := []) (tt_X7_keepTrial (xl X) (xb X) (xD X) hq hM3) cw_X7_143 ps_rc20 hq (ps_room hRm (by decide)) rfl rfl (Nat.le_of_ble_eq_true rfl) dX7_keeps_19 ?_
      refine ps_iconst C dX7_keeps_22 pi_0 ?_
      refine ps_istoren3 C rfl dX7_keeps_23 ?_
      exact bk_X7_keeps_24 C hRm hfin hq ps_fu a1 a2 (nI 0) _ h
    · replace h := ps_ip c13 h
      refine ps_iconst C dX7_keeps_16 pi_m1 ?_
      exact ps_end_i h hfin dX7_keeps_17 rfl
set_option maxRecDepth 10000 in
theorem tt_X7_isSign (l : Launch) (b : Nat) (D : va_G) {q : Nat} (hq : ps_ck 20 q = true) {a1 : Int32} {a2 : Int32} {M M9 : ps_M} {r : Int32} (h : ff_X7_isSign q a1 a2 M = some (r, M9)) : ps_Ti l b D yX7_isSign cX7_isSign 3 .boolean 0 [.ref (b + q), .int a1, .int a2] M r M9 := by
  refine ps_met_i (own := RX7) (lv := [some (.ref (b + q)), some (.int a1), some (.int a2)]) (by decide) rfl rfl (Nat.le_of_ble_eq_true rfl) rfl (fun X eX1 eX2 eX3 hRm eX5 C hfin => ?_)
  subst eX1 eX2 eX3
  unfold ff_X7_isSign at h
  refine ps_aloadn0 C dX7_isSign_0 ?_
  refine gf_X7_155 C hq dX7_isSign_1 ?_
  refine ps_aloadn0 C dX7_isSign_4 ?_
  refine gf_X7_140 C hq dX7_isSign_5 ?_
  refine ps_ic_ge C 41 dX7_isSign_8 rfl (fun c5 => ?_) (fun c5 => ?_)
  · replace h := ps_ip c5 h
    refine ps_iconst C dX7_isSign_41 pi_0 ?_
    exact ps_end_i h hfin dX7_isSign_42 rfl
  · replace h := ps_in0 c5 h
    refine ps_aloadn0 C dX7_isSign_11 ?_
    refine gf_X7_35 C hq dX7_isSign_12 ?_
    refine ps_aloadn0 C dX7_isSign_15 ?_
    refine gf_X7_155 C hq dX7_isSign_16 ?_
    obtain ⟨hi1, h⟩ := ps_gd h
    refine ps_cald C (kf_20_9 hq) (fun _ _ => rfl) hi1 dX7_isSign_19 ?_
    refine ps_iloadn1 C dX7_isSign_20 ?_
    refine ps_ic_lt C 41 dX7_isSign_21 rfl (fun c4 => ?_) (fun c4 => ?_)
    · replace h := ps_ip c4 h
      refine ps_iconst C dX7_isSign_41 pi_0 ?_
      exact ps_end_i h hfin dX7_isSign_42 rfl
    · replace h := ps_in0 c4 h
      refine ps_aloadn0 C dX7_isSign_24 ?_
      refine gf_X7_35 C hq dX7_isSign_25 ?_
      refine ps_aloadn0 C dX7_isSign_28 ?_
      refine gf_X7_155 C hq dX7_isSign_29 ?_
      obtain ⟨hi2, h⟩ := ps_gd h
      refine ps_cald C (kf_20_9 hq) (fun _ _ => rfl) hi2 dX7_isSign_32 ?_
      refine ps_iloadn2 C dX7_isSign_33 ?_
      refine ps_ic_gt C 41 dX7_isSign_34 rfl (fun c3 => ?_) (fun c3 => ?_)
      · replace h := ps_ip c3 h
        refine ps_iconst C dX7_isSign_41 pi_0 ?_
        exact ps_end_i h hfin dX7_isSign_42 rfl
      · replace h := ps_in0 c3 h
        refine ps_iconst C dX7_isSign_37 pi_1 ?_
        refine ps_goto C 42 dX7_isSign_38 rfl ?_
        exact ps_end_i h hfin dX7_isSign_42 rfl
set_option maxRecDepth 10000 in
theorem tt_X7_accepts (l : Launch) (b : Nat) (D : va_G) {q : Nat} (hq : ps_ck 20 q = true) {a1 : Int32} {M M9 : ps_M} {r : Int32} (h : ff_X7_accepts q a1 M = some (r, M9)) : ps_Ti l b D yX7_accepts cX7_accepts 3 .boolean 1 [.ref (b + q), .int a1] M r M9 := by
  refine ps_met_i (own := RX7) (lv := [some (.ref (b + q)), some (.int a1), none]) (by decide) rfl rfl (Nat.le_of_ble_eq_true rfl) rfl (fun X eX1 eX2 eX3 hRm eX5 C hfin => ?_)
  subst eX1 eX2 eX3
  unfold ff_X7_accepts at h
  refine ps_aloadn0 C dX7_accepts_0 ?_
  refine ps_iloadn1 C dX7_accepts_1 ?_
  refine ps_iloadn1 C dX7_accepts_2 ?_
  obtain ⟨r1, M1, hM1, h⟩ := ps_bd h
  refine ps_goV_i C (rest := []) (tt_X7_isSign (xl X) (xb X) (xD X) hq hM1) cw_X7_158 ps_rc20 hq (ps_room hRm (by decide)) rfl rfl (Nat.le_of_ble_eq_true rfl) dX7_accepts_3 ?_
  refine ps_istoren2 C rfl dX7_accepts_6 ?_
  refine ps_aloadn0 C dX7_accepts_7 ?_
  refine ps_dup C rfl dX7_accepts_8 ?_
  refine gf_X7_155 C hq dX7_accepts_9 ?_
  refine ps_iloadn2 C dX7_accepts_12 ?_
  refine ps_if_eq C 20 dX7_accepts_13 rfl (fun c6 => ?_) (fun c6 => ?_)
  · replace h := ps_ip c6 h
    refine ps_iconst C dX7_accepts_20 pi_0 ?_
    refine ps_iadd C dX7_accepts_21 ?_
    refine pf_X7_155 C hq dX7_accepts_22 (fun M2 eM2 => ?_)
    replace h := ps_lt eM2 h
    refine ps_iloadn2 C dX7_accepts_25 ?_
    obtain ⟨hc3, h⟩ := ps_gd h
    exact ps_end_i h hfin dX7_accepts_26 (ps_isB_n hc3)
  · replace h := ps_in0 c6 h
    refine ps_iconst C dX7_accepts_16 pi_1 ?_
    refine ps_goto C 21 dX7_accepts_17 rfl ?_
    refine ps_iadd C dX7_accepts_21 ?_
    refine pf_X7_155 C hq dX7_accepts_22 (fun M4 eM4 => ?_)
    replace h := ps_lt eM4 h
    refine ps_iloadn2 C dX7_accepts_25 ?_
    obtain ⟨hc5, h⟩ := ps_gd h
    exact ps_end_i h hfin dX7_accepts_26 (ps_isB_n hc5)
set_option maxRecDepth 10000 in
theorem bk_X7_digit_41 {X : ps_X} (C : ps_C X RX7 cX7_digit) (hRm : xR X = ps_lvl 1) {r : Int32} {M9 : ps_M} (hfin : ∀ pc lv, decode cX7_digit pc = .ok (.ireturn, 1) → narrow .boolean (.int r) = .int r → ps_G X M9 pc lv [.int r]) {q : Nat} (hq : ps_ck 20 q = true) (a1 : Int32) (a2 : Int32) (u0 : Nat) (s1 : Int32) (s2 : Int32) (hu0 : ps_ck 25 u0 = true) (M : ps_M) (h : fk_X7_digit_41 q a1 a2 u0 s1 s2 M = some (r, M9)) : ps_G X M 41 [some (.ref (xb X + q)), some (.int a1), some (.int a2)] [.int s2, .int s1, .ref (xb X + u0)] := by
  unfold fk_X7_digit_41 at h
  obtain ⟨hi2, h⟩ := ps_gd h
  refine ps_iast C hu0 (fun _ _ => rfl) hi2 dX7_digit_41 (fun M3 eM3 => ?_)
  replace h := ps_lt eM3 h
  refine ps_aloadn0 C dX7_digit_42 ?_
  refine ps_dup C rfl dX7_digit_43 ?_
  refine gf_X7_155 C hq dX7_digit_44 ?_
  refine ps_iloadn2 C dX7_digit_47 ?_
  refine ps_if_eq C 55 dX7_digit_48 rfl (fun c8 => ?_) (fun c8 => ?_)
  · replace h := ps_ip c8 h
    refine ps_iconst C dX7_digit_55 pi_0 ?_
    refine ps_iadd C dX7_digit_56 ?_
    refine pf_X7_155 C hq dX7_digit_57 (fun M4 eM4 => ?_)
    replace h := ps_lt eM4 h
    refine ps_iloadn2 C dX7_digit_60 ?_
    obtain ⟨hc5, h⟩ := ps_gd h
    exact ps_end_i h hfin dX7_digit_61 (ps_isB_n hc5)
  · replace h := ps_in0 c8 h
    refine ps_iconst C dX7_digit_51 pi_1 ?_
    refine ps_goto C 56 dX7_digit_52 rfl ?_
    refine ps_iadd C dX7_digit_56 ?_
    refine pf_X7_155 C hq dX7_digit_57 (fun M6 eM6 => ?_)
    replace h := ps_lt eM6 h
    refine ps_iloadn2 C dX7_digit_60 ?_
    obtain ⟨hc7, h⟩ := ps_gd h
    exact ps_end_i h hfin dX7_digit_61 (ps_isB_n hc7)
set_option maxRecDepth 10000 in
theorem tt_X7_digit (l : Launch) (b : Nat) (D : va_G) {q : Nat} (hq : ps_ck 20 q = true) {a1 : Int32} {M M9 : ps_M} {r : Int32} (h : ff_X7_digit q a1 M = some (r, M9)) : ps_Ti l b D yX7_digit cX7_digit 3 .boolean 1 [.ref (b + q), .int a1] M r M9 := by
  refine ps_met_i (own := RX7) (lv := [some (.ref (b + q)), some (.int a1), none]) (by decide) rfl rfl (Nat.le_of_ble_eq_true rfl) rfl (fun X eX1 eX2 eX3 hRm eX5 C hfin => ?_)
  subst eX1 eX2 eX3
  unfold ff_X7_digit at h
  refine ps_aloadn0 C dX7_digit_0 ?_
  refine ps_bipush C dX7_digit_1 pb_48 ?_
  refine ps_bipush C dX7_digit_3 pb_57 ?_
  obtain ⟨r1, M1, hM1, h⟩ := ps_bd h
  refine ps_goV_i C (rest := []) (tt_X7_isSign (xl X) (xb X) (xD X) hq hM1) cw_X7_158 ps_rc20 hq (ps_room hRm (by decide)) rfl rfl (Nat.le_of_ble_eq_true rfl) dX7_digit_5 ?_
  refine ps_istoren2 C rfl dX7_digit_8 ?_
  refine ps_aloadn0 C dX7_digit_9 ?_
  refine gf_X7_32 C hq dX7_digit_10 ?_
  refine ps_iconst C dX7_digit_13 pi_4 ?_
  refine ps_aloadn0 C dX7_digit_14 ?_
  refine gf_X7_162 C hq dX7_digit_15 ?_
  refine ps_imul C dX7_digit_18 ?_
  refine ps_iloadn1 C dX7_digit_19 ?_
  refine ps_iadd C dX7_digit_20 ?_
  refine ps_iloadn2 C dX7_digit_21 ?_
  refine ps_if_eq C 40 dX7_digit_22 rfl (fun c10 => ?_) (fun c10 => ?_)
  · replace h := ps_ip c10 h
    refine ps_iconst C dX7_digit_40 pi_0 ?_
    exact bk_X7_digit_41 C hRm hfin hq a1 r1 (q + 8) (((nI 4) * (ps_rd M1 q 11)) + a1) (nI 0) (kf_20_8 hq) _ h
  · replace h := ps_in0 c10 h
    refine ps_aloadn0 C dX7_digit_25 ?_
    refine gf_X7_35 C hq dX7_digit_26 ?_
    refine ps_aloadn0 C dX7_digit_29 ?_
    refine gf_X7_155 C hq dX7_digit_30 ?_
    obtain ⟨hi9, h⟩ := ps_gd h
    refine ps_cald C (kf_20_9 hq) (fun _ _ => rfl) hi9 dX7_digit_33 ?_
    refine ps_bipush C dX7_digit_34 pb_48 ?_
    refine ps_isub C dX7_digit_36 ?_
    refine ps_goto C 41 dX7_digit_37 rfl ?_
    exact bk_X7_digit_41 C hRm hfin hq a1 r1 (q + 8) (((nI 4) * (ps_rd M1 q 11)) + a1) ((ps_rd M1 (q + 9) (ps_rd M1 q 12).toNatClampNeg) - (nI 48)) (kf_20_8 hq) _ h
set_option maxRecDepth 10000 in
theorem tt_X7_number (l : Launch) (b : Nat) (D : va_G) {q : Nat} (hq : ps_ck 20 q = true) {a1 : Int32} {M M9 : ps_M} {r : Int32} (h : ff_X7_number q a1 M = some (r, M9)) : ps_Ti l b D yX7_number cX7_number 4 .boolean 2 [.ref (b + q), .int a1] M r M9 := by
  refine ps_met_i (own := RX7) (lv := [some (.ref (b + q)), some (.int a1), none, none]) (by decide) rfl rfl (Nat.le_of_ble_eq_true rfl) rfl (fun X eX1 eX2 eX3 hRm eX5 C hfin => ?_)
  subst eX1 eX2 eX3
  unfold ff_X7_number at h
  refine ps_aloadn0 C dX7_number_0 ?_
  refine ps_iloadn1 C dX7_number_1 ?_
  obtain ⟨r1, M1, hM1, h⟩ := ps_bd h
  refine ps_goV_i C (rest := []) (tt_X7_digit (xl X) (xb X) (xD X) hq hM1) cw_X7_165 ps_rc20 hq (ps_room hRm (by decide)) rfl rfl (Nat.le_of_ble_eq_true rfl) dX7_number_2 ?_
  refine ps_istoren2 C rfl dX7_number_5 ?_
  refine ps_iconst C dX7_number_6 pi_4 ?_
  refine ps_aloadn0 C dX7_number_7 ?_
  refine gf_X7_162 C hq dX7_number_8 ?_
  refine ps_imul C dX7_number_11 ?_
  refine ps_iloadn1 C dX7_number_12 ?_
  refine ps_iadd C dX7_number_13 ?_
  refine ps_nmi (fun x2 ex2 => ?_)
  replace h := ps_lt ex2 h
  refine ps_istoren3 C rfl dX7_number_14 ?_
  refine ps_iloadn2 C dX7_number_15 ?_
  refine ps_if_eq C 77 dX7_number_16 rfl (fun c16 => ?_) (fun c16 => ?_)
  · replace h := ps_ip c16 h
    refine ps_iloadn2 C dX7_number_77 ?_
    obtain ⟨hc3, h⟩ := ps_gd h
    exact ps_end_i h hfin dX7_number_78 (ps_isB_n hc3)
  · replace h := ps_in0 c16 h
    refine ps_aloadn0 C dX7_number_19 ?_
    refine gf_X7_32 C hq dX7_number_20 ?_
    refine ps_iloadn3 C dX7_number_23 ?_
    obtain ⟨hi4, h⟩ := ps_gd h
    refine ps_iald C (kf_20_8 hq) (fun _ _ => rfl) hi4 dX7_number_24 ?_
    refine ps_if_le C 77 dX7_number_25 rfl (fun c15 => ?_) (fun c15 => ?_)
    · replace h := ps_ip c15 h
      refine ps_iloadn2 C dX7_number_77 ?_
      obtain ⟨hc5, h⟩ := ps_gd h
      exact ps_end_i h hfin dX7_number_78 (ps_isB_n hc5)
    · replace h := ps_in0 c15 h
      refine ps_aloadn0 C dX7_number_28 ?_
      refine ps_bipush C dX7_number_29 pb_48 ?_
      refine ps_bipush C dX7_number_31 pb_57 ?_
      obtain ⟨r6, M6, hM6, h⟩ := ps_bd h
      refine ps_goV_i C (rest := []) (tt_X7_isSign (xl X) (xb X) (xD X) hq hM6) cw_X7_158 ps_rc20 hq (ps_room hRm (by decide)) rfl rfl (Nat.le_of_ble_eq_true rfl) dX7_number_33 ?_
      refine ps_if_eq C 77 dX7_number_36 rfl (fun c14 => ?_) (fun c14 => ?_)
      · replace h := ps_ip c14 h
        refine ps_iloadn2 C dX7_number_77 ?_
        obtain ⟨hc7, h⟩ := ps_gd h
        exact ps_end_i h hfin dX7_number_78 (ps_isB_n hc7)
      · replace h := ps_in0 c14 h
        refine ps_aloadn0 C dX7_number_39 ?_
        refine gf_X7_32 C hq dX7_number_40 ?_
        refine ps_iloadn3 C dX7_number_43 ?_
        refine ps_bipush C dX7_number_44 pb_10 ?_
        refine ps_aloadn0 C dX7_number_46 ?_
        refine gf_X7_32 C hq dX7_number_47 ?_
        refine ps_iloadn3 C dX7_number_50 ?_
        obtain ⟨hi8, h⟩ := ps_gd h
        refine ps_iald C (kf_20_8 hq) (fun _ _ => rfl) hi8 dX7_number_51 ?_
        refine ps_imul C dX7_number_52 ?_
        refine ps_aloadn0 C dX7_number_53 ?_
        refine gf_X7_35 C hq dX7_number_54 ?_
        refine ps_aloadn0 C dX7_number_57 ?_
        refine gf_X7_155 C hq dX7_number_58 ?_
        obtain ⟨hi9, h⟩ := ps_gd h
        refine ps_cald C (kf_20_9 hq) (fun _ _ => rfl) hi9 dX7_number_61 ?_
        refine ps_iadd C dX7_number_62 ?_
        refine ps_bipush C dX7_number_63 pb_48 ?_
        refine ps_isub C dX7_number_65 ?_
        obtain ⟨hi10, h⟩ := ps_gd h
        refine ps_iast C (kf_20_8 hq) (fun _ _ => rfl) hi10 dX7_number_66 (fun M11 eM11 => ?_)
        replace h := ps_lt eM11 h
        refine ps_aloadn0 C dX7_number_67 ?_
        refine ps_dup C rfl dX7_number_68 ?_
        refine gf_X7_155 C hq dX7_number_69 ?_
        refine ps_iconst C dX7_number_72 pi_1 ?_
        refine ps_iadd C dX7_number_73 ?_
        refine pf_X7_155 C hq dX7_number_74 (fun M12 eM12 => ?_)
        replace h := ps_lt eM12 h
        refine ps_iloadn2 C dX7_number_77 ?_
        obtain ⟨hc13, h⟩ := ps_gd h
        exact ps_end_i h hfin dX7_number_78 (ps_isB_n hc13)
set_option maxRecDepth 10000 in
theorem bk_X7_letters_61 {X : ps_X} (C : ps_C X RX7 cX7_letters) (hRm : xR X = ps_lvl 1) {r : Int32} {M9 : ps_M} (hfin : ∀ pc lv, decode cX7_letters pc = .ok (.ireturn, 1) → narrow .boolean (.int r) = .int r → ps_G X M9 pc lv [.int r]) {q : Nat} (hq : ps_ck 20 q = true) (a1 : Int32) (M : ps_M) (h : fk_X7_letters_61 q a1 M = some (r, M9)) : ps_G X M 61 [some (.ref (xb X + q)), some (.int a1)] [] := by
  unfold fk_X7_letters_61 at h
  refine ps_aloadn0 C dX7_letters_61 ?_
  refine gf_X7_32 C hq dX7_letters_62 ?_
  refine ps_iloadn1 C dX7_letters_65 ?_
  refine ps_iconst C dX7_letters_66 pi_2 ?_
  refine ps_iadd C dX7_letters_67 ?_
  refine ps_aloadn0 C dX7_letters_68 ?_
  refine gf_X7_155 C hq dX7_letters_69 ?_
  refine ps_aloadn0 C dX7_letters_72 ?_
  refine gf_X7_32 C hq dX7_letters_73 ?_
  refine ps_iloadn1 C dX7_letters_76 ?_
  refine ps_iconst C dX7_letters_77 pi_1 ?_
  refine ps_iadd C dX7_letters_78 ?_
  obtain ⟨hi5, h⟩ := ps_gd h
  refine ps_iald C (kf_20_8 hq) (fun _ _ => rfl) hi5 dX7_letters_79 ?_
  refine ps_isub C dX7_letters_80 ?_
  obtain ⟨hi6, h⟩ := ps_gd h
  refine ps_iast C (kf_20_8 hq) (fun _ _ => rfl) hi6 dX7_letters_81 (fun M7 eM7 => ?_)
  replace h := ps_lt eM7 h
  refine ps_aloadn0 C dX7_letters_82 ?_
  refine gf_X7_32 C hq dX7_letters_83 ?_
  refine ps_iloadn1 C dX7_letters_86 ?_
  refine ps_iconst C dX7_letters_87 pi_2 ?_
  refine ps_iadd C dX7_letters_88 ?_
  obtain ⟨hi8, h⟩ := ps_gd h
  refine ps_iald C (kf_20_8 hq) (fun _ _ => rfl) hi8 dX7_letters_89 ?_
  refine ps_if_le C 97 dX7_letters_90 rfl (fun c9 => ?_) (fun c9 => ?_)
  · replace h := ps_ip c9 h
    refine ps_iconst C dX7_letters_97 pi_0 ?_
    exact ps_end_i h hfin dX7_letters_98 rfl
  · replace h := ps_in0 c9 h
    refine ps_iconst C dX7_letters_93 pi_1 ?_
    refine ps_goto C 98 dX7_letters_94 rfl ?_
    exact ps_end_i h hfin dX7_letters_98 rfl
set_option maxRecDepth 10000 in
theorem bk_X7_letters_19 {X : ps_X} (C : ps_C X RX7 cX7_letters) (hRm : xR X = ps_lvl 1) {r : Int32} {M9 : ps_M} (hfin : ∀ pc lv, decode cX7_letters pc = .ok (.ireturn, 1) → narrow .boolean (.int r) = .int r → ps_G X M9 pc lv [.int r]) {q : Nat} (hq : ps_ck 20 q = true) : ∀ (n : Nat) (a1 : Int32) (M : ps_M), fk_X7_letters_19 q n a1 M = some (r, M9) → ps_G X M 19 [some (.ref (xb X + q)), some (.int a1)] [] := by
  intro n
  induction n with
  | zero => intro a1 M h; rw [fk_X7_letters_19] at h; cases h
  | succ n ih =>
    intro a1 M h
    rw [fk_X7_letters_19] at h
    refine ps_aloadn0 C dX7_letters_19 ?_
    refine gf_X7_155 C hq dX7_letters_20 ?_
    refine ps_aloadn0 C dX7_letters_23 ?_
    refine gf_X7_32 C hq dX7_letters_24 ?_
    refine ps_iloadn1 C dX7_letters_27 ?_
    refine ps_iconst C dX7_letters_28 pi_1 ?_
    refine ps_iadd C dX7_letters_29 ?_
    obtain ⟨hi4, h⟩ := ps_gd h
    refine ps_iald C (kf_20_8 hq) (fun _ _ => rfl) hi4 dX7_letters_30 ?_
    refine ps_isub C dX7_letters_31 ?_
    refine ps_bipush C dX7_letters_32 pb_20 ?_
    refine ps_ic_ge C 61 dX7_letters_34 rfl (fun c13 => ?_) (fun c13 => ?_)
    · replace h := ps_ip c13 h
      exact bk_X7_letters_61 C hRm hfin hq a1 _ h
    · replace h := ps_in0 c13 h
      refine ps_aloadn0 C dX7_letters_37 ?_
      refine ps_bipush C dX7_letters_38 pb_97 ?_
      refine ps_bipush C dX7_letters_40 pb_122 ?_
      obtain ⟨r10, M10, hM10, h⟩ := ps_bd h
      refine ps_goV_i C (rest := []) (tt_X7_isSign (xl X) (xb X) (xD X) hq hM10) cw_X7_158 ps_rc20 hq (ps_room hRm (by decide)) rfl rfl (Nat.le_of_ble_eq_true rfl) dX7_letters_42 ?_
      refine ps_if_eq C 61 dX7_letters_45 rfl (fun c12 => ?_) (fun c12 => ?_)
      · replace h := ps_ip c12 h
        exact bk_X7_letters_61 C hRm hfin hq a1 _ h
      · replace h := ps_in0 c12 h
        refine ps_aloadn0 C dX7_letters_48 ?_
        refine ps_dup C rfl dX7_letters_49 ?_
        refine gf_X7_155 C hq dX7_letters_50 ?_
        refine ps_iconst C dX7_letters_53 pi_1 ?_
        refine ps_iadd C dX7_letters_54 ?_
        refine pf_X7_155 C hq dX7_letters_55 (fun M11 eM11 => ?_)
        replace h := ps_lt eM11 h
        refine ps_goto C 19 dX7_letters_58 rfl ?_
        exact ih a1 _ h
set_option maxRecDepth 10000 in
theorem tt_X7_letters (l : Launch) (b : Nat) (D : va_G) {q : Nat} (hq : ps_ck 20 q = true) {M M9 : ps_M} {r : Int32} (h : ff_X7_letters q  M = some (r, M9)) : ps_Ti l b D yX7_letters cX7_letters 2 .boolean 1 [.ref (b + q)] M r M9 := by
  refine ps_met_i (own := RX7) (lv := [some (.ref (b + q)), none]) (by decide) rfl rfl (Nat.le_of_ble_eq_true rfl) rfl (fun X eX1 eX2 eX3 hRm eX5 C hfin => ?_)
  subst eX1 eX2 eX3
  unfold ff_X7_letters at h
  refine ps_iconst C dX7_letters_0 pi_4 ?_
  refine ps_aloadn0 C dX7_letters_1 ?_
  refine gf_X7_162 C hq dX7_letters_2 ?_
  refine ps_imul C dX7_letters_5 ?_
  refine ps_nmi (fun x1 ex1 => ?_)
  replace h := ps_lt ex1 h
  refine ps_istoren1 C rfl dX7_letters_6 ?_
  refine ps_aloadn0 C dX7_letters_7 ?_
  refine gf_X7_32 C hq dX7_letters_8 ?_
  refine ps_iloadn1 C dX7_letters_11 ?_
  refine ps_iconst C dX7_letters_12 pi_1 ?_
  refine ps_iadd C dX7_letters_13 ?_
  refine ps_aloadn0 C dX7_letters_14 ?_
  refine gf_X7_155 C hq dX7_letters_15 ?_
  obtain ⟨hi2, h⟩ := ps_gd h
  refine ps_iast C (kf_20_8 hq) (fun _ _ => rfl) hi2 dX7_letters_18 (fun M3 eM3 => ?_)
  replace h := ps_lt eM3 h
  exact bk_X7_letters_19 C hRm hfin hq ps_fu x1 _ h
set_option maxRecDepth 10000 in
theorem bk_X7_readsOrder_211 {X : ps_X} (C : ps_C X RX7 cX7_readsOrder) (hRm : xR X = ps_lvl 3) {r : Int32} {M9 : ps_M} (hfin : ∀ pc lv, decode cX7_readsOrder pc = .ok (.ireturn, 1) → narrow .boolean (.int r) = .int r → ps_G X M9 pc lv [.int r]) {q : Nat} (hq : ps_ck 20 q = true) (a1 : Int32) (M : ps_M) (h : fk_X7_readsOrder_211 q a1 M = some (r, M9)) : ps_G X M 211 [some (.ref (xb X + q)), some (.int a1)] [] := by
  unfold fk_X7_readsOrder_211 at h
  refine ps_aloadn0 C dX7_readsOrder_211 ?_
  refine ps_dup C rfl dX7_readsOrder_212 ?_
  refine gf_X7_162 C hq dX7_readsOrder_213 ?_
  refine ps_iloadn1 C dX7_readsOrder_216 ?_
  refine ps_if_eq C 224 dX7_readsOrder_217 rfl (fun c14 => ?_) (fun c14 => ?_)
  · replace h := ps_ip c14 h
    refine ps_iconst C dX7_readsOrder_224 pi_0 ?_
    refine ps_iadd C dX7_readsOrder_225 ?_
    refine pf_X7_162 C hq dX7_readsOrder_226 (fun M10 eM10 => ?_)
    replace h := ps_lt eM10 h
    refine ps_iloadn1 C dX7_readsOrder_229 ?_
    obtain ⟨hc11, h⟩ := ps_gd h
    exact ps_end_i h hfin dX7_readsOrder_230 (ps_isB_n hc11)
  · replace h := ps_in0 c14 h
    refine ps_iconst C dX7_readsOrder_220 pi_1 ?_
    refine ps_goto C 225 dX7_readsOrder_221 rfl ?_
    refine ps_iadd C dX7_readsOrder_225 ?_
    refine pf_X7_162 C hq dX7_readsOrder_226 (fun M12 eM12 => ?_)
    replace h := ps_lt eM12 h
    refine ps_iloadn1 C dX7_readsOrder_229 ?_
    obtain ⟨hc13, h⟩ := ps_gd h
    exact ps_end_i h hfin dX7_readsOrder_230 (ps_isB_n hc13)
set_option maxRecDepth 10000 in
theorem bk_X7_readsOrder_210 {X : ps_X} (C : ps_C X RX7 cX7_readsOrder) (hRm : xR X = ps_lvl 3) {r : Int32} {M9 : ps_M} (hfin : ∀ pc lv, decode cX7_readsOrder pc = .ok (.ireturn, 1) → narrow .boolean (.int r) = .int r → ps_G X M9 pc lv [.int r]) {q : Nat} (hq : ps_ck 20 q = true) (s0 : Int32) (M : ps_M) (h : fk_X7_readsOrder_210 q s0 M = some (r, M9)) : ps_G X M 210 [some (.ref (xb X + q)), none] [.int s0] := by
  unfold fk_X7_readsOrder_210 at h
  refine ps_istoren1 C rfl dX7_readsOrder_210 ?_
  exact bk_X7_readsOrder_211 C hRm hfin hq s0 _ h
set_option maxRecDepth 10000 in
theorem bk_X7_readsOrder_205 {X : ps_X} (C : ps_C X RX7 cX7_readsOrder) (hRm : xR X = ps_lvl 3) {r : Int32} {M9 : ps_M} (hfin : ∀ pc lv, decode cX7_readsOrder pc = .ok (.ireturn, 1) → narrow .boolean (.int r) = .int r → ps_G X M9 pc lv [.int r]) {q : Nat} (hq : ps_ck 20 q = true)  (M : ps_M) (h : fk_X7_readsOrder_205 q  M = some (r, M9)) : ps_G X M 205 [some (.ref (xb X + q)), none] [] := by
  unfold fk_X7_readsOrder_205 at h
  refine ps_iconst C dX7_readsOrder_205 pi_1 ?_
  refine ps_goto C 210 dX7_readsOrder_206 rfl ?_
  exact bk_X7_readsOrder_210 C hRm hfin hq (nI 1) _ h
set_option maxRecDepth 10000 in
theorem bk_X7_readsOrder_183 {X : ps_X} (C : ps_C X RX7 cX7_readsOrder) (hRm : xR X = ps_lvl 3) {r : Int32} {M9 : ps_M} (hfin : ∀ pc lv, decode cX7_readsOrder pc = .ok (.ireturn, 1) → narrow .boolean (.int r) = .int r → ps_G X M9 pc lv [.int r]) {q : Nat} (hq : ps_ck 20 q = true) (s0 : Int32) (M : ps_M) (h : fk_X7_readsOrder_183 q s0 M = some (r, M9)) : ps_G X M 183 [some (.ref (xb X + q)), none] [.int s0] := by
  unfold fk_X7_readsOrder_183 at h
  refine ps_istoren1 C rfl dX7_readsOrder_183 ?_
  refine ps_goto C 211 dX7_readsOrder_184 rfl ?_
  exact bk_X7_readsOrder_211 C hRm hfin hq s0 _ h
set_option maxRecDepth 10000 in
theorem bk_X7_readsOrder_182 {X : ps_X} (C : ps_C X RX7 cX7_readsOrder) (hRm : xR X = ps_lvl 3) {r : Int32} {M9 : ps_M} (hfin : ∀ pc lv, decode cX7_readsOrder pc = .ok (.ireturn, 1) → narrow .boolean (.int r) = .int r → ps_G X M9 pc lv [.int r]) {q : Nat} (hq : ps_ck 20 q = true)  (M : ps_M) (h : fk_X7_readsOrder_182 q  M = some (r, M9)) : ps_G X M 182 [some (.ref (xb X + q)), none] [] := by
  unfold fk_X7_readsOrder_182 at h
  refine ps_iconst C dX7_readsOrder_182 pi_0 ?_
  exact bk_X7_readsOrder_183 C hRm hfin hq (nI 0) _ h
set_option maxRecDepth 10000 in
theorem bk_X7_readsOrder_122 {X : ps_X} (C : ps_C X RX7 cX7_readsOrder) (hRm : xR X = ps_lvl 3) {r : Int32} {M9 : ps_M} (hfin : ∀ pc lv, decode cX7_readsOrder pc = .ok (.ireturn, 1) → narrow .boolean (.int r) = .int r → ps_G X M9 pc lv [.int r]) {q : Nat} (hq : ps_ck 20 q = true) (s0 : Int32) (M : ps_M) (h : fk_X7_readsOrder_122 q s0 M = some (r, M9)) : ps_G X M 122 [some (.ref (xb X + q)), none] [.int s0] := by
  unfold fk_X7_readsOrder_122 at h
  refine ps_istoren1 C rfl dX7_readsOrder_122 ?_
  refine ps_goto C 211 dX7_readsOrder_123 rfl ?_
  exact bk_X7_readsOrder_211 C hRm hfin hq s0 _ h
set_option maxRecDepth 10000 in
theorem bk_X7_readsOrder_121 {X : ps_X} (C : ps_C X RX7 cX7_readsOrder) (hRm : xR X = ps_lvl 3) {r : Int32} {M9 : ps_M} (hfin : ∀ pc lv, decode cX7_readsOrder pc = .ok (.ireturn, 1) → narrow .boolean (.int r) = .int r → ps_G X M9 pc lv [.int r]) {q : Nat} (hq : ps_ck 20 q = true)  (M : ps_M) (h : fk_X7_readsOrder_121 q  M = some (r, M9)) : ps_G X M 121 [some (.ref (xb X + q)), none] [] := by
  unfold fk_X7_readsOrder_121 at h
  refine ps_iconst C dX7_readsOrder_121 pi_0 ?_
  exact bk_X7_readsOrder_122 C hRm hfin hq (nI 0) _ h
set_option maxRecDepth 10000 in
theorem bk_X7_readsOrder_117 {X : ps_X} (C : ps_C X RX7 cX7_readsOrder) (hRm : xR X = ps_lvl 3) {r : Int32} {M9 : ps_M} (hfin : ∀ pc lv, decode cX7_readsOrder pc = .ok (.ireturn, 1) → narrow .boolean (.int r) = .int r → ps_G X M9 pc lv [.int r]) {q : Nat} (hq : ps_ck 20 q = true)  (M : ps_M) (h : fk_X7_readsOrder_117 q  M = some (r, M9)) : ps_G X M 117 [some (.ref (xb X + q)), none] [] := by
  unfold fk_X7_readsOrder_117 at h
  refine ps_iconst C dX7_readsOrder_117 pi_1 ?_
  refine ps_goto C 122 dX7_readsOrder_118 rfl ?_
  exact bk_X7_readsOrder_122 C hRm hfin hq (nI 1) _ h
set_option maxRecDepth 10000 in
theorem bk_X7_readsOrder_34 {X : ps_X} (C : ps_C X RX7 cX7_readsOrder) (hRm : xR X = ps_lvl 3) {r : Int32} {M9 : ps_M} (hfin : ∀ pc lv, decode cX7_readsOrder pc = .ok (.ireturn, 1) → narrow .boolean (.int r) = .int r → ps_G X M9 pc lv [.int r]) {q : Nat} (hq : ps_ck 20 q = true) (u0 : Nat) (s1 : Int32) (s2 : Int32) (hu0 : ps_ck 25 u0 = true) (M : ps_M) (h : fk_X7_readsOrder_34 q u0 s1 s2 M = some (r, M9)) : ps_G X M 34 [some (.ref (xb X + q)), none] [.int s2, .int s1, .ref (xb X + u0)] := by
  unfold fk_X7_readsOrder_34 at h
  obtain ⟨hi1, h⟩ := ps_gd h
  refine ps_iast C hu0 (fun _ _ => rfl) hi1 dX7_readsOrder_34 (fun M2 eM2 => ?_)
  replace h := ps_lt eM2 h
  refine ps_aloadn0 C dX7_readsOrder_35 ?_
  refine gf_X7_32 C hq dX7_readsOrder_36 ?_
  refine ps_iconst C dX7_readsOrder_39 pi_4 ?_
  refine ps_aloadn0 C dX7_readsOrder_40 ?_
  refine gf_X7_162 C hq dX7_readsOrder_41 ?_
  refine ps_imul C dX7_readsOrder_44 ?_
  refine ps_iconst C dX7_readsOrder_45 pi_3 ?_
  refine ps_iadd C dX7_readsOrder_46 ?_
  refine ps_iconst C dX7_readsOrder_47 pi_0 ?_
  obtain ⟨hi3, h⟩ := ps_gd h
  refine ps_iast C (kf_20_8 hq) (fun _ _ => rfl) hi3 dX7_readsOrder_48 (fun M4 eM4 => ?_)
  replace h := ps_lt eM4 h
  refine ps_aloadn0 C dX7_readsOrder_49 ?_
  refine ps_bipush C dX7_readsOrder_50 pb_83 ?_
  obtain ⟨r5, M5, hM5, h⟩ := ps_bd h
  refine ps_goV_i C (rest := []) (tt_X7_accepts (xl X) (xb X) (xD X) hq hM5) cw_X7_168 ps_rc20 hq (ps_room hRm (by decide)) rfl rfl (Nat.le_of_ble_eq_true rfl) dX7_readsOrder_52 ?_
  refine ps_if_eq C 66 dX7_readsOrder_55 rfl (fun c39 => ?_) (fun c39 => ?_)
  · replace h := ps_ip c39 h
    refine ps_aloadn0 C dX7_readsOrder_66 ?_
    refine ps_bipush C dX7_readsOrder_67 pb_76 ?_
    obtain ⟨r6, M6, hM6, h⟩ := ps_bd h
    refine ps_goV_i C (rest := []) (tt_X7_accepts (xl X) (xb X) (xD X) hq hM6) cw_X7_168 ps_rc20 hq (ps_room hRm (by decide)) rfl rfl (Nat.le_of_ble_eq_true rfl) dX7_readsOrder_69 ?_
    refine ps_if_eq C 126 dX7_readsOrder_72 rfl (fun c37 => ?_) (fun c37 => ?_)
    · replace h := ps_ip c37 h
      refine ps_aloadn0 C dX7_readsOrder_126 ?_
      refine ps_bipush C dX7_readsOrder_127 pb_72 ?_
      obtain ⟨r7, M7, hM7, h⟩ := ps_bd h
      refine ps_goV_i C (rest := []) (tt_X7_accepts (xl X) (xb X) (xD X) hq hM7) cw_X7_168 ps_rc20 hq (ps_room hRm (by decide)) rfl rfl (Nat.le_of_ble_eq_true rfl) dX7_readsOrder_129 ?_
      refine ps_if_eq C 144 dX7_readsOrder_132 rfl (fun c26 => ?_) (fun c26 => ?_)
      · replace h := ps_ip c26 h
        refine ps_aloadn0 C dX7_readsOrder_144 ?_
        refine ps_bipush C dX7_readsOrder_145 pb_80 ?_
        obtain ⟨r8, M8, hM8, h⟩ := ps_bd h
        refine ps_goV_i C (rest := []) (tt_X7_accepts (xl X) (xb X) (xD X) hq hM8) cw_X7_168 ps_rc20 hq (ps_room hRm (by decide)) rfl rfl (Nat.le_of_ble_eq_true rfl) dX7_readsOrder_147 ?_
        refine ps_if_eq C 187 dX7_readsOrder_150 rfl (fun c24 => ?_) (fun c24 => ?_)
        · replace h := ps_ip c24 h
          refine ps_aloadn0 C dX7_readsOrder_187 ?_
          refine ps_bipush C dX7_readsOrder_188 pb_66 ?_
          obtain ⟨r9, M9, hM9, h⟩ := ps_bd h
          refine ps_goV_i C (rest := []) (tt_X7_accepts (xl X) (xb X) (xD X) hq hM9) cw_X7_168 ps_rc20 hq (ps_room hRm (by decide)) rfl rfl (Nat.le_of_ble_eq_true rfl) dX7_readsOrder_190 ?_
          refine ps_if_ne C 205 dX7_readsOrder_193 rfl (fun c17 => ?_) (fun c17 => ?_)
          · replace h := ps_in0 c17 h
            exact bk_X7_readsOrder_205 C hRm hfin hq _ h
          · replace h := ps_ip c17 h
            refine ps_aloadn0 C dX7_readsOrder_196 ?_
            refine ps_bipush C dX7_readsOrder_197 pb_78 ?_
            obtain ⟨r15, M15, hM15, h⟩ := ps_bd h
            refine ps_goV_i C (rest := []) (tt_X7_accepts (xl X) (xb X) (xD X) hq hM15) cw_X7_168 ps_rc20 hq (ps_room hRm (by decide)) rfl rfl (Nat.le_of_ble_eq_true rfl) dX7_readsOrder_199 ?_
            refine ps_if_eq C 209 dX7_readsOrder_202 rfl (fun c16 => ?_) (fun c16 => ?_)
            · replace h := ps_ip c16 h
              refine ps_iconst C dX7_readsOrder_209 pi_0 ?_
              exact bk_X7_readsOrder_210 C hRm hfin hq (nI 0) _ h
            · replace h := ps_in0 c16 h
              exact bk_X7_readsOrder_205 C hRm hfin hq _ h
        · replace h := ps_in0 c24 h
          refine ps_aloadn0 C dX7_readsOrder_153 ?_
          refine ps_iconst C dX7_readsOrder_154 pi_1 ?_
          obtain ⟨r18, M18, hM18, h⟩ := ps_bd h
          refine ps_goV_i C (rest := []) (tt_X7_digit (xl X) (xb X) (xD X) hq hM18) cw_X7_165 ps_rc20 hq (ps_room hRm (by decide)) rfl rfl (Nat.le_of_ble_eq_true rfl) dX7_readsOrder_155 ?_
          refine ps_if_eq C 182 dX7_readsOrder_158 rfl (fun c23 => ?_) (fun c23 => ?_)
          · replace h := ps_ip c23 h
            exact bk_X7_readsOrder_182 C hRm hfin hq _ h
          · replace h := ps_in0 c23 h
            refine ps_aloadn0 C dX7_readsOrder_161 ?_
            refine ps_bipush C dX7_readsOrder_162 pb_42 ?_
            obtain ⟨r19, M19, hM19, h⟩ := ps_bd h
            refine ps_goV_i C (rest := []) (tt_X7_accepts (xl X) (xb X) (xD X) hq hM19) cw_X7_168 ps_rc20 hq (ps_room hRm (by decide)) rfl rfl (Nat.le_of_ble_eq_true rfl) dX7_readsOrder_164 ?_
            refine ps_if_eq C 182 dX7_readsOrder_167 rfl (fun c22 => ?_) (fun c22 => ?_)
            · replace h := ps_ip c22 h
              exact bk_X7_readsOrder_182 C hRm hfin hq _ h
            · replace h := ps_in0 c22 h
              refine ps_aloadn0 C dX7_readsOrder_170 ?_
              refine ps_iconst C dX7_readsOrder_171 pi_2 ?_
              obtain ⟨r20, M20, hM20, h⟩ := ps_bd h
              refine ps_goV_i C (rest := []) (tt_X7_number (xl X) (xb X) (xD X) hq hM20) cw_X7_176 ps_rc20 hq (ps_room hRm (by decide)) rfl rfl (Nat.le_of_ble_eq_true rfl) dX7_readsOrder_172 ?_
              refine ps_if_eq C 182 dX7_readsOrder_175 rfl (fun c21 => ?_) (fun c21 => ?_)
              · replace h := ps_ip c21 h
                exact bk_X7_readsOrder_182 C hRm hfin hq _ h
              · replace h := ps_in0 c21 h
                refine ps_iconst C dX7_readsOrder_178 pi_1 ?_
                refine ps_goto C 183 dX7_readsOrder_179 rfl ?_
                exact bk_X7_readsOrder_183 C hRm hfin hq (nI 1) _ h
      · replace h := ps_in0 c26 h
        refine ps_aloadn0 C dX7_readsOrder_135 ?_
        refine ps_iconst C dX7_readsOrder_136 pi_1 ?_
        obtain ⟨r25, M25, hM25, h⟩ := ps_bd h
        refine ps_goV_i C (rest := []) (tt_X7_digit (xl X) (xb X) (xD X) hq hM25) cw_X7_165 ps_rc20 hq (ps_room hRm (by decide)) rfl rfl (Nat.le_of_ble_eq_true rfl) dX7_readsOrder_137 ?_
        refine ps_istoren1 C rfl dX7_readsOrder_140 ?_
        refine ps_goto C 211 dX7_readsOrder_141 rfl ?_
        exact bk_X7_readsOrder_211 C hRm hfin hq r25 _ h
    · replace h := ps_in0 c37 h
      refine ps_aloadn0 C dX7_readsOrder_75 ?_
      refine ps_iconst C dX7_readsOrder_76 pi_1 ?_
      obtain ⟨r27, M27, hM27, h⟩ := ps_bd h
      refine ps_goV_i C (rest := []) (tt_X7_digit (xl X) (xb X) (xD X) hq hM27) cw_X7_165 ps_rc20 hq (ps_room hRm (by decide)) rfl rfl (Nat.le_of_ble_eq_true rfl) dX7_readsOrder_77 ?_
      refine ps_if_eq C 121 dX7_readsOrder_80 rfl (fun c36 => ?_) (fun c36 => ?_)
      · replace h := ps_ip c36 h
        exact bk_X7_readsOrder_121 C hRm hfin hq _ h
      · replace h := ps_in0 c36 h
        refine ps_aloadn0 C dX7_readsOrder_83 ?_
        refine ps_bipush C dX7_readsOrder_84 pb_46 ?_
        obtain ⟨r28, M28, hM28, h⟩ := ps_bd h
        refine ps_goV_i C (rest := []) (tt_X7_accepts (xl X) (xb X) (xD X) hq hM28) cw_X7_168 ps_rc20 hq (ps_room hRm (by decide)) rfl rfl (Nat.le_of_ble_eq_true rfl) dX7_readsOrder_86 ?_
        refine ps_if_eq C 121 dX7_readsOrder_89 rfl (fun c35 => ?_) (fun c35 => ?_)
        · replace h := ps_ip c35 h
          exact bk_X7_readsOrder_121 C hRm hfin hq _ h
        · replace h := ps_in0 c35 h
          refine ps_aloadn0 C dX7_readsOrder_92 ?_
          refine ps_iconst C dX7_readsOrder_93 pi_2 ?_
          obtain ⟨r29, M29, hM29, h⟩ := ps_bd h
          refine ps_goV_i C (rest := []) (tt_X7_digit (xl X) (xb X) (xD X) hq hM29) cw_X7_165 ps_rc20 hq (ps_room hRm (by decide)) rfl rfl (Nat.le_of_ble_eq_true rfl) dX7_readsOrder_94 ?_
          refine ps_if_eq C 121 dX7_readsOrder_97 rfl (fun c34 => ?_) (fun c34 => ?_)
          · replace h := ps_ip c34 h
            exact bk_X7_readsOrder_121 C hRm hfin hq _ h
          · replace h := ps_in0 c34 h
            refine ps_aloadn0 C dX7_readsOrder_100 ?_
            refine ps_bipush C dX7_readsOrder_101 pb_47 ?_
            obtain ⟨r30, M30, hM30, h⟩ := ps_bd h
            refine ps_goV_i C (rest := []) (tt_X7_accepts (xl X) (xb X) (xD X) hq hM30) cw_X7_168 ps_rc20 hq (ps_room hRm (by decide)) rfl rfl (Nat.le_of_ble_eq_true rfl) dX7_readsOrder_103 ?_
            refine ps_if_eq C 117 dX7_readsOrder_106 rfl (fun c33 => ?_) (fun c33 => ?_)
            · replace h := ps_ip c33 h
              exact bk_X7_readsOrder_117 C hRm hfin hq _ h
            · replace h := ps_in0 c33 h
              refine ps_aloadn0 C dX7_readsOrder_109 ?_
              refine ps_iconst C dX7_readsOrder_110 pi_3 ?_
              obtain ⟨r31, M31, hM31, h⟩ := ps_bd h
              refine ps_goV_i C (rest := []) (tt_X7_number (xl X) (xb X) (xD X) hq hM31) cw_X7_176 ps_rc20 hq (ps_room hRm (by decide)) rfl rfl (Nat.le_of_ble_eq_true rfl) dX7_readsOrder_111 ?_
              refine ps_if_eq C 121 dX7_readsOrder_114 rfl (fun c32 => ?_) (fun c32 => ?_)
              · replace h := ps_ip c32 h
                exact bk_X7_readsOrder_121 C hRm hfin hq _ h
              · replace h := ps_in0 c32 h
                exact bk_X7_readsOrder_117 C hRm hfin hq _ h
  · replace h := ps_in0 c39 h
    refine ps_aloadn0 C dX7_readsOrder_58 ?_
    obtain ⟨r38, M38, hM38, h⟩ := ps_bd h
    refine ps_goV_i C (rest := []) (tt_X7_letters (xl X) (xb X) (xD X) hq hM38) cw_X7_172 ps_rc20 hq (ps_room hRm (by decide)) rfl rfl (Nat.le_of_ble_eq_true rfl) dX7_readsOrder_59 ?_
    refine ps_istoren1 C rfl dX7_readsOrder_62 ?_
    refine ps_goto C 211 dX7_readsOrder_63 rfl ?_
    exact bk_X7_readsOrder_211 C hRm hfin hq r38 _ h
set_option maxRecDepth 10000 in
theorem tt_X7_readsOrder (l : Launch) (b : Nat) (D : va_G) {q : Nat} (hq : ps_ck 20 q = true) {M M9 : ps_M} {r : Int32} (h : ff_X7_readsOrder q  M = some (r, M9)) : ps_Ti l b D yX7_readsOrder cX7_readsOrder 2 .boolean 3 [.ref (b + q)] M r M9 := by
  refine ps_met_i (own := RX7) (lv := [some (.ref (b + q)), none]) (by decide) rfl rfl (Nat.le_of_ble_eq_true rfl) rfl (fun X eX1 eX2 eX3 hRm eX5 C hfin => ?_)
  subst eX1 eX2 eX3
  unfold ff_X7_readsOrder at h
  refine ps_aloadn0 C dX7_readsOrder_0 ?_
  refine gf_X7_32 C hq dX7_readsOrder_1 ?_
  refine ps_iconst C dX7_readsOrder_4 pi_4 ?_
  refine ps_aloadn0 C dX7_readsOrder_5 ?_
  refine gf_X7_162 C hq dX7_readsOrder_6 ?_
  refine ps_imul C dX7_readsOrder_9 ?_
  refine ps_aloadn0 C dX7_readsOrder_10 ?_
  refine gf_X7_155 C hq dX7_readsOrder_11 ?_
  refine ps_aloadn0 C dX7_readsOrder_14 ?_
  refine gf_X7_140 C hq dX7_readsOrder_15 ?_
  refine ps_ic_ge C 33 dX7_readsOrder_18 rfl (fun c41 => ?_) (fun c41 => ?_)
  · replace h := ps_ip c41 h
    refine ps_iconst C dX7_readsOrder_33 pi_0 ?_
    exact bk_X7_readsOrder_34 C hRm hfin hq (q + 8) ((nI 4) * (ps_rd M q 11)) (nI 0) (kf_20_8 hq) _ h
  · replace h := ps_in0 c41 h
    refine ps_aloadn0 C dX7_readsOrder_21 ?_
    refine gf_X7_35 C hq dX7_readsOrder_22 ?_
    refine ps_aloadn0 C dX7_readsOrder_25 ?_
    refine gf_X7_155 C hq dX7_readsOrder_26 ?_
    obtain ⟨hi40, h⟩ := ps_gd h
    refine ps_cald C (kf_20_9 hq) (fun _ _ => rfl) hi40 dX7_readsOrder_29 ?_
    refine ps_goto C 34 dX7_readsOrder_30 rfl ?_
    exact bk_X7_readsOrder_34 C hRm hfin hq (q + 8) ((nI 4) * (ps_rd M q 11)) (ps_rd M (q + 9) (ps_rd M q 12).toNatClampNeg) (kf_20_8 hq) _ h
set_option maxRecDepth 10000 in
theorem bk_X7_faultOf_15 {X : ps_X} (C : ps_C X RX7 cX7_faultOf) (hRm : xR X = ps_lvl 4) {r : Int32} {M9 : ps_M} (hfin : ∀ pc lv, decode cX7_faultOf pc = .ok (.ireturn, 1) → narrow .int (.int r) = .int r → ps_G X M9 pc lv [.int r]) {q : Nat} (hq : ps_ck 20 q = true) : ∀ (n : Nat) (a1 : Int32) (M : ps_M), fk_X7_faultOf_15 q n a1 M = some (r, M9) → ps_G X M 15 [some (.ref (xb X + q)), some (.int a1)] [] := by
  intro n
  induction n with
  | zero => intro a1 M h; rw [fk_X7_faultOf_15] at h; cases h
  | succ n ih =>
    intro a1 M h
    rw [fk_X7_faultOf_15] at h
    refine ps_iloadn1 C dX7_faultOf_15 ?_
    refine ps_if_eq C 55 dX7_faultOf_16 rfl (fun c11 => ?_) (fun c11 => ?_)
    · replace h := ps_ip c11 h
      refine ps_iloadn1 C dX7_faultOf_55 ?_
      refine ps_if_eq C 63 dX7_faultOf_56 rfl (fun c4 => ?_) (fun c4 => ?_)
      · replace h := ps_ip c4 h
        refine ps_aloadn0 C dX7_faultOf_63 ?_
        refine gf_X7_155 C hq dX7_faultOf_64 ?_
        exact ps_end_i h hfin dX7_faultOf_67 rfl
      · replace h := ps_in0 c4 h
        refine ps_iconst C dX7_faultOf_59 pi_m1 ?_
        refine ps_goto C 67 dX7_faultOf_60 rfl ?_
        exact ps_end_i h hfin dX7_faultOf_67 rfl
    · replace h := ps_in0 c11 h
      refine ps_aloadn0 C dX7_faultOf_19 ?_
      refine gf_X7_155 C hq dX7_faultOf_20 ?_
      refine ps_aloadn0 C dX7_faultOf_23 ?_
      refine gf_X7_140 C hq dX7_faultOf_24 ?_
      refine ps_ic_ge C 55 dX7_faultOf_27 rfl (fun c10 => ?_) (fun c10 => ?_)
      · replace h := ps_ip c10 h
        refine ps_iloadn1 C dX7_faultOf_55 ?_
        refine ps_if_eq C 63 dX7_faultOf_56 rfl (fun c5 => ?_) (fun c5 => ?_)
        · replace h := ps_ip c5 h
          refine ps_aloadn0 C dX7_faultOf_63 ?_
          refine gf_X7_155 C hq dX7_faultOf_64 ?_
          exact ps_end_i h hfin dX7_faultOf_67 rfl
        · replace h := ps_in0 c5 h
          refine ps_iconst C dX7_faultOf_59 pi_m1 ?_
          refine ps_goto C 67 dX7_faultOf_60 rfl ?_
          exact ps_end_i h hfin dX7_faultOf_67 rfl
      · replace h := ps_in0 c10 h
        refine ps_aloadn0 C dX7_faultOf_30 ?_
        refine ps_bipush C dX7_faultOf_31 pb_59 ?_
        obtain ⟨r6, M6, hM6, h⟩ := ps_bd h
        refine ps_goV_i C (rest := []) (tt_X7_accepts (xl X) (xb X) (xD X) hq hM6) cw_X7_168 ps_rc20 hq (ps_room hRm (by decide)) rfl rfl (Nat.le_of_ble_eq_true rfl) dX7_faultOf_33 ?_
        refine ps_if_eq C 50 dX7_faultOf_36 rfl (fun c9 => ?_) (fun c9 => ?_)
        · replace h := ps_ip c9 h
          refine ps_iconst C dX7_faultOf_50 pi_0 ?_
          refine ps_istoren1 C rfl dX7_faultOf_51 ?_
          refine ps_goto C 15 dX7_faultOf_52 rfl ?_
          exact ih (nI 0) _ h
        · replace h := ps_in0 c9 h
          refine ps_aloadn0 C dX7_faultOf_39 ?_
          obtain ⟨r7, M7, hM7, h⟩ := ps_bd h
          refine ps_goV_i C (rest := []) (tt_X7_readsOrder (xl X) (xb X) (xD X) hq hM7) cw_X7_179 ps_rc20 hq (ps_room hRm (by decide)) rfl rfl (Nat.le_of_ble_eq_true rfl) dX7_faultOf_40 ?_
          refine ps_if_eq C 50 dX7_faultOf_43 rfl (fun c8 => ?_) (fun c8 => ?_)
          · replace h := ps_ip c8 h
            refine ps_iconst C dX7_faultOf_50 pi_0 ?_
            refine ps_istoren1 C rfl dX7_faultOf_51 ?_
            refine ps_goto C 15 dX7_faultOf_52 rfl ?_
            exact ih (nI 0) _ h
          · replace h := ps_in0 c8 h
            refine ps_iconst C dX7_faultOf_46 pi_1 ?_
            refine ps_goto C 51 dX7_faultOf_47 rfl ?_
            refine ps_istoren1 C rfl dX7_faultOf_51 ?_
            refine ps_goto C 15 dX7_faultOf_52 rfl ?_
            exact ih (nI 1) _ h
set_option maxRecDepth 10000 in
theorem tt_X7_faultOf (l : Launch) (b : Nat) (D : va_G) {q : Nat} (hq : ps_ck 20 q = true) {M M9 : ps_M} {r : Int32} (h : ff_X7_faultOf q  M = some (r, M9)) : ps_Ti l b D yX7_faultOf cX7_faultOf 2 .int 4 [.ref (b + q)] M r M9 := by
  refine ps_met_i (own := RX7) (lv := [some (.ref (b + q)), none]) (by decide) rfl rfl (Nat.le_of_ble_eq_true rfl) rfl (fun X eX1 eX2 eX3 hRm eX5 C hfin => ?_)
  subst eX1 eX2 eX3
  unfold ff_X7_faultOf at h
  refine ps_aloadn0 C dX7_faultOf_0 ?_
  refine ps_iconst C dX7_faultOf_1 pi_0 ?_
  refine pf_X7_155 C hq dX7_faultOf_2 (fun M1 eM1 => ?_)
  replace h := ps_lt eM1 h
  refine ps_aloadn0 C dX7_faultOf_5 ?_
  refine ps_iconst C dX7_faultOf_6 pi_0 ?_
  refine pf_X7_162 C hq dX7_faultOf_7 (fun M2 eM2 => ?_)
  replace h := ps_lt eM2 h
  refine ps_aloadn0 C dX7_faultOf_10 ?_
  obtain ⟨r3, M3, hM3, h⟩ := ps_bd h
  refine ps_goV_i C (rest := []) (tt_X7_readsOrder (xl X) (xb X) (xD X) hq hM3) cw_X7_179 ps_rc20 hq (ps_room hRm (by decide)) rfl rfl (Nat.le_of_ble_eq_true rfl) dX7_faultOf_11 ?_
  refine ps_istoren1 C rfl dX7_faultOf_14 ?_
  exact bk_X7_faultOf_15 C hRm hfin hq ps_fu r3 _ h
set_option maxRecDepth 10000 in
theorem tt_X7_does (l : Launch) (b : Nat) (D : va_G) {q : Nat} (hq : ps_ck 20 q = true) {a1 : Int32} {M M9 : ps_M} {r : Int32} (h : ff_X7_does q a1 M = some (r, M9)) : ps_Ti l b D yX7_does cX7_does 3 .int 5 [.ref (b + q), .int a1] M r M9 := by
  refine ps_met_i (own := RX7) (lv := [some (.ref (b + q)), some (.int a1), none]) (by decide) rfl rfl (Nat.le_of_ble_eq_true rfl) rfl (fun X eX1 eX2 eX3 hRm eX5 C hfin => ?_)
  subst eX1 eX2 eX3
  unfold ff_X7_does at h
  refine ps_iconst C dX7_does_0 pi_4 ?_
  refine ps_iloadn1 C dX7_does_1 ?_
  refine ps_imul C dX7_does_2 ?_
  refine ps_nmi (fun x1 ex1 => ?_)
  replace h := ps_lt ex1 h
  refine ps_istoren2 C rfl dX7_does_3 ?_
  refine ps_aloadn0 C dX7_does_4 ?_
  refine gf_X7_32 C hq dX7_does_5 ?_
  refine ps_iloadn2 C dX7_does_8 ?_
  obtain ⟨hi2, h⟩ := ps_gd h
  refine ps_iald C (kf_20_8 hq) (fun _ _ => rfl) hi2 dX7_does_9 ?_
  refine ps_nmi (fun x3 ex3 => ?_)
  replace h := ps_lt ex3 h
  by_cases c_10_66 : x3 = nI 66
  · replace h := ps_ip c_10_66 h
    refine ps_look C 81 dX7_does_10 (by decide) (off := 71) (by rw [c_10_66]; rfl) rfl ?_
    refine ps_aloadn0 C dX7_does_81 ?_
    obtain ⟨r17, M17, hM17, h⟩ := ps_bd h
    refine ps_goV_i C (rest := []) (tt_X7_comes (xl X) (xb X) (xD X) hq hM17) cw_X7_106 ps_rc20 hq (ps_room hRm (by decide)) rfl rfl (Nat.le_of_ble_eq_true rfl) dX7_does_82 ?_
    exact ps_end_i h hfin dX7_does_85 rfl
  · replace h := ps_in0 c_10_66 h
    by_cases c_10_72 : x3 = nI 72
    · replace h := ps_ip c_10_72 h
      refine ps_look C 115 dX7_does_10 (by decide) (off := 105) (by rw [c_10_72]; rfl) rfl ?_
      refine ps_aloadn0 C dX7_does_115 ?_
      refine ps_aloadn0 C dX7_does_116 ?_
      refine gf_X7_32 C hq dX7_does_117 ?_
      refine ps_iloadn2 C dX7_does_120 ?_
      refine ps_iconst C dX7_does_121 pi_1 ?_
      refine ps_iadd C dX7_does_122 ?_
      obtain ⟨hi15, h⟩ := ps_gd h
      refine ps_iald C (kf_20_8 hq) (fun _ _ => rfl) hi15 dX7_does_123 ?_
      obtain ⟨r16, M16, hM16, h⟩ := ps_bd h
      refine ps_goV_i C (rest := []) (tt_X7_hushes (xl X) (xb X) (xD X) hq hM16) cw_X7_113 ps_rc20 hq (ps_room hRm (by decide)) rfl rfl (Nat.le_of_ble_eq_true rfl) dX7_does_124 ?_
      exact ps_end_i h hfin dX7_does_127 rfl
    · replace h := ps_in0 c_10_72 h
      by_cases c_10_76 : x3 = nI 76
      · replace h := ps_ip c_10_76 h
        refine ps_look C 86 dX7_does_10 (by decide) (off := 76) (by rw [c_10_76]; rfl) rfl ?_
        refine ps_aloadn0 C dX7_does_86 ?_
        refine ps_aloadn0 C dX7_does_87 ?_
        refine gf_X7_32 C hq dX7_does_88 ?_
        refine ps_iloadn2 C dX7_does_91 ?_
        refine ps_iconst C dX7_does_92 pi_1 ?_
        refine ps_iadd C dX7_does_93 ?_
        obtain ⟨hi11, h⟩ := ps_gd h
        refine ps_iald C (kf_20_8 hq) (fun _ _ => rfl) hi11 dX7_does_94 ?_
        refine ps_aloadn0 C dX7_does_95 ?_
        refine gf_X7_32 C hq dX7_does_96 ?_
        refine ps_iloadn2 C dX7_does_99 ?_
        refine ps_iconst C dX7_does_100 pi_2 ?_
        refine ps_iadd C dX7_does_101 ?_
        obtain ⟨hi12, h⟩ := ps_gd h
        refine ps_iald C (kf_20_8 hq) (fun _ _ => rfl) hi12 dX7_does_102 ?_
        refine ps_aloadn0 C dX7_does_103 ?_
        refine gf_X7_32 C hq dX7_does_104 ?_
        refine ps_iloadn2 C dX7_does_107 ?_
        refine ps_iconst C dX7_does_108 pi_3 ?_
        refine ps_iadd C dX7_does_109 ?_
        obtain ⟨hi13, h⟩ := ps_gd h
        refine ps_iald C (kf_20_8 hq) (fun _ _ => rfl) hi13 dX7_does_110 ?_
        obtain ⟨r14, M14, hM14, h⟩ := ps_bd h
        refine ps_goV_i C (rest := []) (tt_X7_teaches (xl X) (xb X) (xD X) hq hM14) cw_X7_109 ps_rc20 hq (ps_room hRm (by decide)) rfl rfl (Nat.le_of_ble_eq_true rfl) dX7_does_111 ?_
        exact ps_end_i h hfin dX7_does_114 rfl
      · replace h := ps_in0 c_10_76 h
        by_cases c_10_80 : x3 = nI 80
        · replace h := ps_ip c_10_80 h
          refine ps_look C 128 dX7_does_10 (by decide) (off := 118) (by rw [c_10_80]; rfl) rfl ?_
          refine ps_aloadn0 C dX7_does_128 ?_
          refine ps_aloadn0 C dX7_does_129 ?_
          refine gf_X7_32 C hq dX7_does_130 ?_
          refine ps_iloadn2 C dX7_does_133 ?_
          refine ps_iconst C dX7_does_134 pi_1 ?_
          refine ps_iadd C dX7_does_135 ?_
          obtain ⟨hi8, h⟩ := ps_gd h
          refine ps_iald C (kf_20_8 hq) (fun _ _ => rfl) hi8 dX7_does_136 ?_
          refine ps_aloadn0 C dX7_does_137 ?_
          refine gf_X7_32 C hq dX7_does_138 ?_
          refine ps_iloadn2 C dX7_does_141 ?_
          refine ps_iconst C dX7_does_142 pi_2 ?_
          refine ps_iadd C dX7_does_143 ?_
          obtain ⟨hi9, h⟩ := ps_gd h
          refine ps_iald C (kf_20_8 hq) (fun _ _ => rfl) hi9 dX7_does_144 ?_
          obtain ⟨r10, M10, hM10, h⟩ := ps_bd h
          refine ps_goV_i C (rest := []) (tt_X7_practises (xl X) (xb X) (xD X) hq hM10) cw_X7_116 ps_rc20 hq (ps_room hRm (by decide)) rfl rfl (Nat.le_of_ble_eq_true rfl) dX7_does_145 ?_
          exact ps_end_i h hfin dX7_does_148 rfl
        · replace h := ps_in0 c_10_80 h
          by_cases c_10_83 : x3 = nI 83
          · replace h := ps_ip c_10_83 h
            refine ps_look C 60 dX7_does_10 (by decide) (off := 50) (by rw [c_10_83]; rfl) rfl ?_
            refine ps_aloadn0 C dX7_does_60 ?_
            refine ps_aloadn0 C dX7_does_61 ?_
            refine gf_X7_32 C hq dX7_does_62 ?_
            refine ps_iloadn2 C dX7_does_65 ?_
            refine ps_iconst C dX7_does_66 pi_1 ?_
            refine ps_iadd C dX7_does_67 ?_
            obtain ⟨hi5, h⟩ := ps_gd h
            refine ps_iald C (kf_20_8 hq) (fun _ _ => rfl) hi5 dX7_does_68 ?_
            refine ps_aloadn0 C dX7_does_69 ?_
            refine gf_X7_32 C hq dX7_does_70 ?_
            refine ps_iloadn2 C dX7_does_73 ?_
            refine ps_iconst C dX7_does_74 pi_2 ?_
            refine ps_iadd C dX7_does_75 ?_
            obtain ⟨hi6, h⟩ := ps_gd h
            refine ps_iald C (kf_20_8 hq) (fun _ _ => rfl) hi6 dX7_does_76 ?_
            obtain ⟨r7, M7, hM7, h⟩ := ps_bd h
            refine ps_goV_i C (rest := []) (tt_X7_song (xl X) (xb X) (xD X) hq hM7) cw_X7_182 ps_rc20 hq (ps_room hRm (by decide)) rfl rfl (Nat.le_of_ble_eq_true rfl) dX7_does_77 ?_
            exact ps_end_i h hfin dX7_does_80 rfl
          · replace h := ps_in0 c_10_83 h
            refine ps_look C 149 dX7_does_10 (by decide) (off := 139) ?_ rfl ?_
            · exact ps_lookD (fun q3 => c_10_66 (pz_66 q3)) (fun q3 => c_10_72 (pz_72 q3)) (fun q3 => c_10_76 (pz_76 q3)) (fun q3 => c_10_80 (pz_80 q3)) (fun q3 => c_10_83 (pz_83 q3))
            · refine ps_aloadn0 C dX7_does_149 ?_
              obtain ⟨r4, M4, hM4, h⟩ := ps_bd h
              refine ps_goV_i C (rest := []) (tt_X7_ends (xl X) (xb X) (xD X) hq hM4) cw_X7_119 ps_rc20 hq (ps_room hRm (by decide)) rfl rfl (Nat.le_of_ble_eq_true rfl) dX7_does_150 ?_
              exact ps_end_i h hfin dX7_does_153 rfl
set_option maxRecDepth 10000 in
theorem bk_X7_put_86 {X : ps_X} (C : ps_C X RX7 cX7_put) (hRm : xR X = ps_lvl 0) {r : Int32} {M9 : ps_M} (hfin : ∀ pc lv, decode cX7_put pc = .ok (.ireturn, 1) → narrow .int (.int r) = .int r → ps_G X M9 pc lv [.int r]) {q : Nat} (hq : ps_ck 20 q = true) : ∀ (n : Nat) (a1 : Int64) (a3 : Int32) (a4 : Int64) (a6 : Int32) (M : ps_M), fk_X7_put_86 q n a1 a3 a4 a6 M = some (r, M9) → ps_G X M 86 [some (.ref (xb X + q)), some (.long a1), none, some (.int a3), some (.long a4), none, some (.int a6), none] [] := by
  intro n
  induction n with
  | zero => intro a1 a3 a4 a6 M h; rw [fk_X7_put_86] at h; cases h
  | succ n ih =>
    intro a1 a3 a4 a6 M h
    rw [fk_X7_put_86] at h
    refine ps_iload6 C dX7_put_86 ?_
    refine ps_if_lt C 129 dX7_put_88 rfl (fun c7 => ?_) (fun c7 => ?_)
    · replace h := ps_ip c7 h
      refine ps_aloadn0 C dX7_put_129 ?_
      refine gf_X7_140 C hq dX7_put_130 ?_
      exact ps_end_i h hfin dX7_put_133 rfl
    · replace h := ps_in0 c7 h
      refine ps_aloadn0 C dX7_put_91 ?_
      refine gf_X7_35 C hq dX7_put_92 ?_
      refine ps_aloadn0 C dX7_put_95 ?_
      refine gf_X7_140 C hq dX7_put_96 ?_
      refine ps_lloadn1 C dX7_put_99 ?_
      refine ps_bipush C dX7_put_100 pb_8 ?_
      refine ps_iload6 C dX7_put_102 ?_
      refine ps_imul C dX7_put_104 ?_
      refine ps_lushr C dX7_put_105 ?_
      refine ps_ldc2 C pm_893 dX7_put_106 ?_
      refine ps_land C dX7_put_109 ?_
      refine ps_l2i C dX7_put_110 ?_
      refine ps_i2c C dX7_put_111 ?_
      obtain ⟨hi2, h⟩ := ps_gd h
      obtain ⟨hc4, h⟩ := ps_gd h
      refine ps_cast C (kf_20_9 hq) (fun _ _ => rfl) hi2 hc4 dX7_put_112 (fun M3 eM3 => ?_)
      replace h := ps_lt eM3 h
      refine ps_aloadn0 C dX7_put_113 ?_
      refine ps_dup C rfl dX7_put_114 ?_
      refine gf_X7_140 C hq dX7_put_115 ?_
      refine ps_iconst C dX7_put_118 pi_1 ?_
      refine ps_iadd C dX7_put_119 ?_
      refine pf_X7_140 C hq dX7_put_120 (fun M5 eM5 => ?_)
      replace h := ps_lt eM5 h
      refine ps_iinc6 C rfl (ps_m 1) pi_m1 dX7_put_123 (fun x6 ex6 => ?_)
      replace h := ps_lt ex6 h
      refine ps_goto C 86 dX7_put_126 rfl ?_
      exact ih a1 a3 a4 x6 _ h
set_option maxRecDepth 10000 in
theorem bk_X7_put_60 {X : ps_X} (C : ps_C X RX7 cX7_put) (hRm : xR X = ps_lvl 0) {r : Int32} {M9 : ps_M} (hfin : ∀ pc lv, decode cX7_put pc = .ok (.ireturn, 1) → narrow .int (.int r) = .int r → ps_G X M9 pc lv [.int r]) {q : Nat} (hq : ps_ck 20 q = true) (a1 : Int64) (a3 : Int32) (a4 : Int64) (M : ps_M) (h : fk_X7_put_60 q a1 a3 a4 M = some (r, M9)) : ps_G X M 60 [some (.ref (xb X + q)), some (.long a1), none, some (.int a3), some (.long a4), none, none, none] [] := by
  unfold fk_X7_put_60 at h
  refine ps_iloadn3 C dX7_put_60 ?_
  refine ps_if_ne C 67 dX7_put_61 rfl (fun c9 => ?_) (fun c9 => ?_)
  · replace h := ps_in0 c9 h
    refine ps_aloadn0 C dX7_put_67 ?_
    refine gf_X7_140 C hq dX7_put_68 ?_
    refine ps_iloadn3 C dX7_put_71 ?_
    refine ps_iadd C dX7_put_72 ?_
    refine ps_bipush C dX7_put_73 pb_80 ?_
    refine ps_ic_le C 81 dX7_put_75 rfl (fun c8 => ?_) (fun c8 => ?_)
    · replace h := ps_ip c8 h
      refine ps_iloadn3 C dX7_put_81 ?_
      refine ps_iconst C dX7_put_82 pi_1 ?_
      refine ps_isub C dX7_put_83 ?_
      refine ps_nmi (fun x1 ex1 => ?_)
      replace h := ps_lt ex1 h
      refine ps_istore6 C rfl dX7_put_84 ?_
      exact bk_X7_put_86 C hRm hfin hq ps_fu a1 a3 a4 x1 _ h
    · replace h := ps_in0 c8 h
      refine ps_bipush C dX7_put_78 pb_m4 ?_
      exact ps_end_i h hfin dX7_put_80 rfl
  · replace h := ps_ip c9 h
    refine ps_bipush C dX7_put_64 pb_m2 ?_
    exact ps_end_i h hfin dX7_put_66 rfl
set_option maxRecDepth 10000 in
theorem bk_X7_put_5 {X : ps_X} (C : ps_C X RX7 cX7_put) (hRm : xR X = ps_lvl 0) {r : Int32} {M9 : ps_M} (hfin : ∀ pc lv, decode cX7_put pc = .ok (.ireturn, 1) → narrow .int (.int r) = .int r → ps_G X M9 pc lv [.int r]) {q : Nat} (hq : ps_ck 20 q = true) : ∀ (n : Nat) (a1 : Int64) (a3 : Int32) (a4 : Int64) (M : ps_M), fk_X7_put_5 q n a1 a3 a4 M = some (r, M9) → ps_G X M 5 [some (.ref (xb X + q)), some (.long a1), none, some (.int a3), some (.long a4), none, none, none] [] := by
  intro n
  induction n with
  | zero => intro a1 a3 a4 M h; rw [fk_X7_put_5] at h; cases h
  | succ n ih =>
    intro a1 a3 a4 M h
    rw [fk_X7_put_5] at h
    refine ps_iloadn3 C dX7_put_5 ?_
    refine ps_bipush C dX7_put_6 pb_8 ?_
    refine ps_ic_ge C 60 dX7_put_8 rfl (fun c16 => ?_) (fun c16 => ?_)
    · replace h := ps_ip c16 h
      exact bk_X7_put_60 C hRm hfin hq a1 a3 a4 _ h
    · replace h := ps_in0 c16 h
      refine ps_lload4 C dX7_put_11 ?_
      refine ps_lconst C (v := lN 0) dX7_put_13 rfl ?_
      refine ps_lcmp C dX7_put_14 ?_
      refine ps_if_eq C 60 dX7_put_15 rfl (fun c15 => ?_) (fun c15 => ?_)
      · replace h := ps_ip c15 h
        exact bk_X7_put_60 C hRm hfin hq a1 a3 a4 _ h
      · replace h := ps_in0 c15 h
        refine ps_lload4 C dX7_put_18 ?_
        refine ps_ldc2 C pm_893 dX7_put_20 ?_
        refine ps_land C dX7_put_23 ?_
        refine ps_nml (fun x10 ex10 => ?_)
        replace h := ps_lt ex10 h
        refine ps_lstore6 C rfl dX7_put_24 ?_
        refine ps_lload6 C dX7_put_26 ?_
        refine ps_ldc2 C pm_894 dX7_put_28 ?_
        refine ps_lcmp C dX7_put_31 ?_
        refine ps_if_lt C 44 dX7_put_32 rfl (fun c14 => ?_) (fun c14 => ?_)
        · replace h := ps_ip c14 h
          refine ps_bipush C dX7_put_44 pb_m2 ?_
          exact ps_end_i h hfin dX7_put_46 rfl
        · replace h := ps_in0 c14 h
          refine ps_lload6 C dX7_put_35 ?_
          refine ps_ldc2 C pm_895 dX7_put_37 ?_
          refine ps_lcmp C dX7_put_40 ?_
          refine ps_if_le C 47 dX7_put_41 rfl (fun c13 => ?_) (fun c13 => ?_)
          · replace h := ps_ip c13 h
            refine ps_lload4 C dX7_put_47 ?_
            refine ps_bipush C dX7_put_49 pb_8 ?_
            refine ps_lushr C dX7_put_51 ?_
            refine ps_nml (fun x11 ex11 => ?_)
            replace h := ps_lt ex11 h
            refine ps_lstore4 C rfl dX7_put_52 ?_
            refine ps_iinc3 C rfl (nI 1) pi_1 dX7_put_54 (fun x12 ex12 => ?_)
            replace h := ps_lt ex12 h
            refine ps_goto C 5 dX7_put_57 rfl ?_
            refine ps_wk (lv' := [some (.ref (xb X + q)), some (.long a1), none, some (.int x12), some (.long x11), none, none, none]) (ps_le_s rfl (ps_le_s rfl (ps_le_n (ps_le_s rfl (ps_le_s rfl (ps_le_n (ps_le_n (ps_le_n ps_le_0)))))))) ?_
            exact ih a1 x12 x11 _ h
          · replace h := ps_in0 c13 h
            refine ps_bipush C dX7_put_44 pb_m2 ?_
            exact ps_end_i h hfin dX7_put_46 rfl
set_option maxRecDepth 10000 in
theorem tt_X7_put (l : Launch) (b : Nat) (D : va_G) {q : Nat} (hq : ps_ck 20 q = true) {a1 : Int64} {M M9 : ps_M} {r : Int32} (h : ff_X7_put q a1 M = some (r, M9)) : ps_Ti l b D yX7_put cX7_put 8 .int 0 [.ref (b + q), .long a1] M r M9 := by
  refine ps_met_i (own := RX7) (lv := [some (.ref (b + q)), some (.long a1), none, none, none, none, none, none]) (by decide) rfl rfl (Nat.le_of_ble_eq_true rfl) rfl (fun X eX1 eX2 eX3 hRm eX5 C hfin => ?_)
  subst eX1 eX2 eX3
  unfold ff_X7_put at h
  refine ps_iconst C dX7_put_0 pi_0 ?_
  refine ps_istoren3 C rfl dX7_put_1 ?_
  refine ps_lloadn1 C dX7_put_2 ?_
  refine ps_lstore4 C rfl dX7_put_3 ?_
  exact bk_X7_put_5 C hRm hfin hq ps_fu a1 (nI 0) a1 _ h
