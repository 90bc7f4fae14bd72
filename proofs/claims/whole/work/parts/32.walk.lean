set_option maxRecDepth 10000 in
theorem tt_X6_undo (l : Launch) (b : Nat) (D : va_G) {q : Nat} (hq : ps_ck 0 q = true) {M M9 : ps_M} {r : Int32} (h : ff_X6_undo q  M = some (r, M9)) : ps_Ti l b D yX6_undo cX6_undo 1 .int 4 [.ref (b + q)] M r M9 := by
  refine ps_met_i (own := RX6) (lv := [some (.ref (b + q))]) (by decide) rfl rfl (Nat.le_of_ble_eq_true rfl) rfl (fun X eX1 eX2 eX3 hRm eX5 C hfin => ?_)
  subst eX1 eX2 eX3
  unfold ff_X6_undo at h
  refine ps_aloadn0 C dX6_undo_0 ?_
  refine gf_X6_19 C hq dX6_undo_1 ?_
  refine gf_X6_193 C (kf_0_41 hq) dX6_undo_4 ?_
  refine ps_if_ne C 13 dX6_undo_7 rfl (fun c2 => ?_) (fun c2 => ?_)
  · replace h := ps_in0 c2 h
    refine ps_aloadn0 C dX6_undo_13 ?_
    refine gf_X6_19 C hq dX6_undo_14 ?_
    refine ps_aloadn0 C dX6_undo_17 ?_
    refine gf_X6_10 C hq dX6_undo_18 ?_
    obtain ⟨r1, M1, hM1, h⟩ := ps_bd h
    refine ps_goV_i C (rest := []) (tt_X0_takeBack (xl X) (xb X) (xD X) (kf_0_41 hq) (kf_0_1 hq) hM1) cw_X6_232 ps_rc12 (kf_0_41 hq) (ps_room hRm (by decide)) rfl rfl (Nat.le_of_ble_eq_true rfl) dX6_undo_21 ?_
    exact ps_end_i h hfin dX6_undo_24 rfl
  · replace h := ps_ip c2 h
    refine ps_bipush C dX6_undo_10 pb_m5 ?_
    exact ps_end_i h hfin dX6_undo_12 rfl
set_option maxRecDepth 10000 in
theorem tt_X6_save (l : Launch) (b : Nat) (D : va_G) {q : Nat} (hq : ps_ck 0 q = true) {a1 : Int32} {M M9 : ps_M} {r : Int32} (h : ff_X6_save q a1 M = some (r, M9)) : ps_Ti l b D yX6_save cX6_save 2 .int 3 [.ref (b + q), .int a1] M r M9 := by
  refine ps_met_i (own := RX6) (lv := [some (.ref (b + q)), some (.int a1)]) (by decide) rfl rfl (Nat.le_of_ble_eq_true rfl) rfl (fun X eX1 eX2 eX3 hRm eX5 C hfin => ?_)
  subst eX1 eX2 eX3
  unfold ff_X6_save at h
  refine ps_iloadn1 C dX6_save_0 ?_
  refine ps_if_lt C 9 dX6_save_1 rfl (fun c6 => ?_) (fun c6 => ?_)
  · replace h := ps_ip c6 h
    refine ps_bipush C dX6_save_9 pb_m2 ?_
    exact ps_end_i h hfin dX6_save_11 rfl
  · replace h := ps_in0 c6 h
    refine ps_iloadn1 C dX6_save_4 ?_
    refine ps_iconst C dX6_save_5 pi_2 ?_
    refine ps_ic_lt C 12 dX6_save_6 rfl (fun c5 => ?_) (fun c5 => ?_)
    · replace h := ps_ip c5 h
      refine ps_aloadn0 C dX6_save_12 ?_
      refine gf_X6_30 C hq dX6_save_13 ?_
      refine ps_iloadn1 C dX6_save_16 ?_
      obtain ⟨hi1, h⟩ := ps_gd h
      refine ps_ald18 C (kf_0_327 hq) hi1 dX6_save_17 ?_
      refine ps_aloadn0 C dX6_save_18 ?_
      refine gf_X6_10 C hq dX6_save_19 ?_
      obtain ⟨r2, M2, hM2, h⟩ := ps_bd h
      refine ps_goV_v C (rest := []) (tt_X1_copyFrom (xl X) (xb X) (xD X) (ke_18 (kf_0_327 hq) hi1) (kf_0_1 hq) hM2) cw_X6_236 ps_rc1 (ke_18 (kf_0_327 hq) hi1) (ps_room hRm (by decide)) rfl rfl (Nat.le_of_ble_eq_true rfl) dX6_save_22 ?_
      refine ps_aloadn0 C dX6_save_25 ?_
      refine gf_X6_34 C hq dX6_save_26 ?_
      refine ps_iloadn1 C dX6_save_29 ?_
      refine ps_iconst C dX6_save_30 pi_1 ?_
      obtain ⟨hi3, h⟩ := ps_gd h
      refine ps_zast C (kf_0_328 hq) (fun _ _ => rfl) hi3 (by decide) dX6_save_31 (fun M4 eM4 => ?_)
      replace h := ps_lt eM4 h
      refine ps_aloadn0 C dX6_save_32 ?_
      refine gf_X6_10 C hq dX6_save_33 ?_
      refine gf_X6_74 C (kf_0_1 hq) dX6_save_36 ?_
      refine gf_X6_161 C (kf_1_2 (kf_0_1 hq)) dX6_save_39 ?_
      exact ps_end_i h hfin dX6_save_42 rfl
    · replace h := ps_in0 c5 h
      refine ps_bipush C dX6_save_9 pb_m2 ?_
      exact ps_end_i h hfin dX6_save_11 rfl
set_option maxRecDepth 10000 in
theorem tt_X6_restore (l : Launch) (b : Nat) (D : va_G) {q : Nat} (hq : ps_ck 0 q = true) {a1 : Int32} {M M9 : ps_M} {r : Int32} (h : ff_X6_restore q a1 M = some (r, M9)) : ps_Ti l b D yX6_restore cX6_restore 2 .int 4 [.ref (b + q), .int a1] M r M9 := by
  refine ps_met_i (own := RX6) (lv := [some (.ref (b + q)), some (.int a1)]) (by decide) rfl rfl (Nat.le_of_ble_eq_true rfl) rfl (fun X eX1 eX2 eX3 hRm eX5 C hfin => ?_)
  subst eX1 eX2 eX3
  unfold ff_X6_restore at h
  refine ps_iloadn1 C dX6_restore_0 ?_
  refine ps_if_lt C 9 dX6_restore_1 rfl (fun c8 => ?_) (fun c8 => ?_)
  · replace h := ps_ip c8 h
    refine ps_bipush C dX6_restore_9 pb_m2 ?_
    exact ps_end_i h hfin dX6_restore_11 rfl
  · replace h := ps_in0 c8 h
    refine ps_iloadn1 C dX6_restore_4 ?_
    refine ps_iconst C dX6_restore_5 pi_2 ?_
    refine ps_ic_lt C 12 dX6_restore_6 rfl (fun c7 => ?_) (fun c7 => ?_)
    · replace h := ps_ip c7 h
      refine ps_aloadn0 C dX6_restore_12 ?_
      refine gf_X6_34 C hq dX6_restore_13 ?_
      refine ps_iloadn1 C dX6_restore_16 ?_
      obtain ⟨hi1, h⟩ := ps_gd h
      refine ps_zald C (kf_0_328 hq) (fun _ _ => rfl) hi1 dX6_restore_17 ?_
      refine ps_if_ne C 24 dX6_restore_18 rfl (fun c6 => ?_) (fun c6 => ?_)
      · replace h := ps_in0 c6 h
        refine ps_aloadn0 C dX6_restore_24 ?_
        refine gf_X6_19 C hq dX6_restore_25 ?_
        refine ps_aloadn0 C dX6_restore_28 ?_
        refine gf_X6_10 C hq dX6_restore_29 ?_
        obtain ⟨r2, M2, hM2, h⟩ := ps_bd h
        refine ps_goV_v C (rest := []) (tt_X0_noteBefore (xl X) (xb X) (xD X) (kf_0_41 hq) (kf_0_1 hq) hM2) cw_X6_45 ps_rc12 (kf_0_41 hq) (ps_room hRm (by decide)) rfl rfl (Nat.le_of_ble_eq_true rfl) dX6_restore_32 ?_
        refine ps_aloadn0 C dX6_restore_35 ?_
        refine gf_X6_10 C hq dX6_restore_36 ?_
        refine ps_aloadn0 C dX6_restore_39 ?_
        refine gf_X6_30 C hq dX6_restore_40 ?_
        refine ps_iloadn1 C dX6_restore_43 ?_
        obtain ⟨hi3, h⟩ := ps_gd h
        refine ps_ald18 C (kf_0_327 hq) hi3 dX6_restore_44 ?_
        obtain ⟨r4, M4, hM4, h⟩ := ps_bd h
        refine ps_goV_v C (rest := []) (tt_X1_copyFrom (xl X) (xb X) (xD X) (kf_0_1 hq) (ke_18 (kf_0_327 hq) hi3) hM4) cw_X6_236 ps_rc1 (kf_0_1 hq) (ps_room hRm (by decide)) rfl rfl (Nat.le_of_ble_eq_true rfl) dX6_restore_45 ?_
        refine ps_aloadn0 C dX6_restore_48 ?_
        refine gf_X6_19 C hq dX6_restore_49 ?_
        refine ps_aloadn0 C dX6_restore_52 ?_
        refine gf_X6_10 C hq dX6_restore_53 ?_
        refine gf_X6_74 C (kf_0_1 hq) dX6_restore_56 ?_
        refine gf_X6_161 C (kf_1_2 (kf_0_1 hq)) dX6_restore_59 ?_
        obtain ⟨r5, M5, hM5, h⟩ := ps_bd h
        refine ps_goV_i C (rest := []) (tt_X0_keepUnlessError (xl X) (xb X) (xD X) (kf_0_41 hq) hM5) cw_X6_53 ps_rc12 (kf_0_41 hq) (ps_room hRm (by decide)) rfl rfl (Nat.le_of_ble_eq_true rfl) dX6_restore_62 ?_
        exact ps_end_i h hfin dX6_restore_65 rfl
      · replace h := ps_ip c6 h
        refine ps_bipush C dX6_restore_21 pb_m5 ?_
        exact ps_end_i h hfin dX6_restore_23 rfl
    · replace h := ps_in0 c7 h
      refine ps_bipush C dX6_restore_9 pb_m2 ?_
      exact ps_end_i h hfin dX6_restore_11 rfl
set_option maxRecDepth 10000 in
theorem tt_X7_in (l : Launch) (b : Nat) (D : va_G) {a0 : Int32} {a1 : Int32} {a2 : Int32} {M M9 : ps_M} {r : Int32} (h : ff_X7_in a0 a1 a2 M = some (r, M9)) : ps_Ti l b D yX7_in cX7_in 3 .boolean 0 [.int a0, .int a1, .int a2] M r M9 := by
  refine ps_met_i (own := RX7) (lv := [some (.int a0), some (.int a1), some (.int a2)]) (by decide) rfl rfl (Nat.le_of_ble_eq_true rfl) rfl (fun X eX1 eX2 eX3 hRm eX5 C hfin => ?_)
  subst eX1 eX2 eX3
  unfold ff_X7_in at h
  refine ps_iloadn0 C dX7_in_0 ?_
  refine ps_iloadn1 C dX7_in_1 ?_
  refine ps_ic_lt C 14 dX7_in_2 rfl (fun c2 => ?_) (fun c2 => ?_)
  · replace h := ps_ip c2 h
    refine ps_iconst C dX7_in_14 pi_0 ?_
    exact ps_end_i h hfin dX7_in_15 rfl
  · replace h := ps_in0 c2 h
    refine ps_iloadn0 C dX7_in_5 ?_
    refine ps_iloadn2 C dX7_in_6 ?_
    refine ps_ic_gt C 14 dX7_in_7 rfl (fun c1 => ?_) (fun c1 => ?_)
    · replace h := ps_ip c1 h
      refine ps_iconst C dX7_in_14 pi_0 ?_
      exact ps_end_i h hfin dX7_in_15 rfl
    · replace h := ps_in0 c1 h
      refine ps_iconst C dX7_in_10 pi_1 ?_
      refine ps_goto C 15 dX7_in_11 rfl ?_
      exact ps_end_i h hfin dX7_in_15 rfl
set_option maxRecDepth 10000 in
theorem tt_X7_n (l : Launch) (b : Nat) (D : va_G) {a0 : Int32} {M M9 : ps_M} {r : Int32} (h : ff_X7_n a0 M = some (r, M9)) : ps_Ti l b D yX7_n cX7_n 1 .int 0 [.int a0] M r M9 := by
  refine ps_met_i (own := RX7) (lv := [some (.int a0)]) (by decide) rfl rfl (Nat.le_of_ble_eq_true rfl) rfl (fun X eX1 eX2 eX3 hRm eX5 C hfin => ?_)
  subst eX1 eX2 eX3
  unfold ff_X7_n at h
  refine ps_bipush C dX7_n_0 pb_9 ?_
  refine ps_bipush C dX7_n_2 pb_22 ?_
  refine ps_iloadn0 C dX7_n_4 ?_
  refine ps_imul C dX7_n_5 ?_
  refine ps_iadd C dX7_n_6 ?_
  exact ps_end_i h hfin dX7_n_7 rfl
set_option maxRecDepth 10000 in
theorem tt_X7_p (l : Launch) (b : Nat) (D : va_G) {a0 : Int32} {M M9 : ps_M} {r : Int32} (h : ff_X7_p a0 M = some (r, M9)) : ps_Ti l b D yX7_p cX7_p 1 .int 0 [.int a0] M r M9 := by
  refine ps_met_i (own := RX7) (lv := [some (.int a0)]) (by decide) rfl rfl (Nat.le_of_ble_eq_true rfl) rfl (fun X eX1 eX2 eX3 hRm eX5 C hfin => ?_)
  subst eX1 eX2 eX3
  unfold ff_X7_p at h
  refine ps_sipush C dX7_p_0 pj_185 ?_
  refine ps_iconst C dX7_p_3 pi_5 ?_
  refine ps_iloadn0 C dX7_p_4 ?_
  refine ps_imul C dX7_p_5 ?_
  refine ps_iadd C dX7_p_6 ?_
  exact ps_end_i h hfin dX7_p_7 rfl
set_option maxRecDepth 10000 in
theorem tt_X7_l (l : Launch) (b : Nat) (D : va_G) {a0 : Int32} {a1 : Int32} {M M9 : ps_M} {r : Int32} (h : ff_X7_l a0 a1 M = some (r, M9)) : ps_Ti l b D yX7_l cX7_l 2 .int 0 [.int a0, .int a1] M r M9 := by
  refine ps_met_i (own := RX7) (lv := [some (.int a0), some (.int a1)]) (by decide) rfl rfl (Nat.le_of_ble_eq_true rfl) rfl (fun X eX1 eX2 eX3 hRm eX5 C hfin => ?_)
  subst eX1 eX2 eX3
  unfold ff_X7_l at h
  refine ps_sipush C dX7_l_0 pj_205 ?_
  refine ps_sipush C dX7_l_3 pj_183 ?_
  refine ps_iloadn0 C dX7_l_6 ?_
  refine ps_imul C dX7_l_7 ?_
  refine ps_iadd C dX7_l_8 ?_
  refine ps_iconst C dX7_l_9 pi_3 ?_
  refine ps_iloadn1 C dX7_l_10 ?_
  refine ps_imul C dX7_l_11 ?_
  refine ps_iadd C dX7_l_12 ?_
  exact ps_end_i h hfin dX7_l_13 rfl
set_option maxRecDepth 10000 in
theorem tt_X7_isSong (l : Launch) (b : Nat) (D : va_G) {q : Nat} (hq : ps_ck 20 q = true) {a1 : Int32} {M M9 : ps_M} {r : Int32} (h : ff_X7_isSong q a1 M = some (r, M9)) : ps_Ti l b D yX7_isSong cX7_isSong 2 .boolean 1 [.ref (b + q), .int a1] M r M9 := by
  refine ps_met_i (own := RX7) (lv := [some (.ref (b + q)), some (.int a1)]) (by decide) rfl rfl (Nat.le_of_ble_eq_true rfl) rfl (fun X eX1 eX2 eX3 hRm eX5 C hfin => ?_)
  subst eX1 eX2 eX3
  unfold ff_X7_isSong at h
  refine ps_iloadn1 C dX7_isSong_0 ?_
  refine ps_iconst C dX7_isSong_1 pi_0 ?_
  refine ps_aloadn0 C dX7_isSong_2 ?_
  refine gf_X7_7 C hq dX7_isSong_3 ?_
  refine ps_iconst C dX7_isSong_6 pi_5 ?_
  obtain ⟨hi1, h⟩ := ps_gd h
  refine ps_iald C (kf_20_1 hq) (fun _ _ => rfl) hi1 dX7_isSong_7 ?_
  refine ps_iconst C dX7_isSong_8 pi_1 ?_
  refine ps_isub C dX7_isSong_9 ?_
  obtain ⟨r2, M2, hM2, h⟩ := ps_bd h
  refine ps_goS_i C (rest := []) (tt_X7_in (xl X) (xb X) (xD X) hM2) cw_X7_39 (ps_room hRm (by decide)) rfl rfl (Nat.le_of_ble_eq_true rfl) dX7_isSong_10 ?_
  obtain ⟨hc3, h⟩ := ps_gd h
  exact ps_end_i h hfin dX7_isSong_13 (ps_isB_n hc3)
set_option maxRecDepth 10000 in
theorem tt_X7_isParrot (l : Launch) (b : Nat) (D : va_G) {q : Nat} (hq : ps_ck 20 q = true) {a1 : Int32} {M M9 : ps_M} {r : Int32} (h : ff_X7_isParrot q a1 M = some (r, M9)) : ps_Ti l b D yX7_isParrot cX7_isParrot 2 .boolean 1 [.ref (b + q), .int a1] M r M9 := by
  refine ps_met_i (own := RX7) (lv := [some (.ref (b + q)), some (.int a1)]) (by decide) rfl rfl (Nat.le_of_ble_eq_true rfl) rfl (fun X eX1 eX2 eX3 hRm eX5 C hfin => ?_)
  subst eX1 eX2 eX3
  unfold ff_X7_isParrot at h
  refine ps_iloadn1 C dX7_isParrot_0 ?_
  refine ps_iconst C dX7_isParrot_1 pi_0 ?_
  refine ps_aloadn0 C dX7_isParrot_2 ?_
  refine gf_X7_7 C hq dX7_isParrot_3 ?_
  refine ps_bipush C dX7_isParrot_6 pb_6 ?_
  obtain ⟨hi1, h⟩ := ps_gd h
  refine ps_iald C (kf_20_1 hq) (fun _ _ => rfl) hi1 dX7_isParrot_8 ?_
  refine ps_iconst C dX7_isParrot_9 pi_1 ?_
  refine ps_isub C dX7_isParrot_10 ?_
  obtain ⟨r2, M2, hM2, h⟩ := ps_bd h
  refine ps_goS_i C (rest := []) (tt_X7_in (xl X) (xb X) (xD X) hM2) cw_X7_39 (ps_room hRm (by decide)) rfl rfl (Nat.le_of_ble_eq_true rfl) dX7_isParrot_11 ?_
  obtain ⟨hc3, h⟩ := ps_gd h
  exact ps_end_i h hfin dX7_isParrot_14 (ps_isB_n hc3)
set_option maxRecDepth 10000 in
theorem bk_X7_hold_2 {X : ps_X} (C : ps_C X RX7 cX7_hold) (hRm : xR X = ps_lvl 0) {r : Int32} {M9 : ps_M} (hfin : ∀ pc lv, decode cX7_hold pc = .ok (.return_, 1) → ps_G X M9 pc lv []) {q : Nat} (hq : ps_ck 20 q = true) : ∀ (n : Nat) (a1 : Int32) (M : ps_M), fk_X7_hold_2 q n a1 M = some (r, M9) → ps_G X M 2 [some (.ref (xb X + q)), some (.int a1)] [] := by
  intro n
  induction n with
  | zero => intro a1 M h; rw [fk_X7_hold_2] at h; cases h
  | succ n ih =>
    intro a1 M h
    rw [fk_X7_hold_2] at h
    refine ps_iloadn1 C dX7_hold_2 ?_
    refine ps_sipush C dX7_hold_3 pj_937 ?_
    refine ps_ic_ge C 27 dX7_hold_6 rfl (fun c5 => ?_) (fun c5 => ?_)
    · replace h := ps_ip c5 h
      exact ps_end_v h hfin dX7_hold_27
    · replace h := ps_in0 c5 h
      refine ps_aloadn0 C dX7_hold_9 ?_
      refine gf_X7_13 C hq dX7_hold_10 ?_
      refine ps_iloadn1 C dX7_hold_13 ?_
      refine ps_aloadn0 C dX7_hold_14 ?_
      refine gf_X7_7 C hq dX7_hold_15 ?_
      refine ps_iloadn1 C dX7_hold_18 ?_
      obtain ⟨hi1, h⟩ := ps_gd h
      refine ps_iald C (kf_20_1 hq) (fun _ _ => rfl) hi1 dX7_hold_19 ?_
      obtain ⟨hi2, h⟩ := ps_gd h
      refine ps_iast C (kf_20_2 hq) (fun _ _ => rfl) hi2 dX7_hold_20 (fun M3 eM3 => ?_)
      replace h := ps_lt eM3 h
      refine ps_iinc1 C rfl (nI 1) pi_1 dX7_hold_21 (fun x4 ex4 => ?_)
      replace h := ps_lt ex4 h
      refine ps_goto C 2 dX7_hold_24 rfl ?_
      exact ih x4 _ h
set_option maxRecDepth 10000 in
theorem tt_X7_hold (l : Launch) (b : Nat) (D : va_G) {q : Nat} (hq : ps_ck 20 q = true) {M M9 : ps_M} {r : Int32} (h : ff_X7_hold q  M = some (r, M9)) : ps_Tv l b D yX7_hold cX7_hold 2 0 [.ref (b + q)] M M9 := by
  refine ps_met_v (own := RX7) (lv := [some (.ref (b + q)), none]) (by decide) rfl rfl (Nat.le_of_ble_eq_true rfl) rfl (fun X eX1 eX2 eX3 hRm eX5 C hfin => ?_)
  subst eX1 eX2 eX3
  unfold ff_X7_hold at h
  refine ps_iconst C dX7_hold_0 pi_0 ?_
  refine ps_istoren1 C rfl dX7_hold_1 ?_
  exact bk_X7_hold_2 C hRm hfin hq ps_fu (nI 0) _ h
set_option maxRecDepth 10000 in
theorem bk_X7_recorded_62 {X : ps_X} (C : ps_C X RX7 cX7_recorded) (hRm : xR X = ps_lvl 0) {r : Int32} {M9 : ps_M} (hfin : ∀ pc lv, decode cX7_recorded pc = .ok (.ireturn, 1) → narrow .int (.int r) = .int r → ps_G X M9 pc lv [.int r]) {q : Nat} (hq : ps_ck 20 q = true) : ∀ (n : Nat) (a1 : Int32) (a2 : Int32) (M : ps_M), fk_X7_recorded_62 q n a1 a2 M = some (r, M9) → ps_G X M 62 [some (.ref (xb X + q)), some (.int a1), some (.int a2)] [] := by
  intro n
  induction n with
  | zero => intro a1 a2 M h; rw [fk_X7_recorded_62] at h; cases h
  | succ n ih =>
    intro a1 a2 M h
    rw [fk_X7_recorded_62] at h
    refine ps_iloadn2 C dX7_recorded_62 ?_
    refine ps_sipush C dX7_recorded_63 pj_937 ?_
    refine ps_ic_ge C 96 dX7_recorded_66 rfl (fun c6 => ?_) (fun c6 => ?_)
    · replace h := ps_ip c6 h
      refine ps_aloadn0 C dX7_recorded_96 ?_
      refine ps_dup C rfl dX7_recorded_97 ?_
      refine gf_X7_43 C hq dX7_recorded_98 ?_
      refine ps_iconst C dX7_recorded_101 pi_1 ?_
      refine ps_iadd C dX7_recorded_102 ?_
      refine pf_X7_43 C hq dX7_recorded_103 (fun M1 eM1 => ?_)
      replace h := ps_lt eM1 h
      refine ps_iloadn1 C dX7_recorded_106 ?_
      exact ps_end_i h hfin dX7_recorded_107 rfl
    · replace h := ps_in0 c6 h
      refine ps_aloadn0 C dX7_recorded_69 ?_
      refine gf_X7_19 C hq dX7_recorded_70 ?_
      refine ps_sipush C dX7_recorded_73 pj_937 ?_
      refine ps_aloadn0 C dX7_recorded_76 ?_
      refine gf_X7_43 C hq dX7_recorded_77 ?_
      refine ps_imul C dX7_recorded_80 ?_
      refine ps_iloadn2 C dX7_recorded_81 ?_
      refine ps_iadd C dX7_recorded_82 ?_
      refine ps_aloadn0 C dX7_recorded_83 ?_
      refine gf_X7_13 C hq dX7_recorded_84 ?_
      refine ps_iloadn2 C dX7_recorded_87 ?_
      obtain ⟨hi2, h⟩ := ps_gd h
      refine ps_iald C (kf_20_2 hq) (fun _ _ => rfl) hi2 dX7_recorded_88 ?_
      obtain ⟨hi3, h⟩ := ps_gd h
      refine ps_iast C (kf_20_4 hq) (fun _ _ => rfl) hi3 dX7_recorded_89 (fun M4 eM4 => ?_)
      replace h := ps_lt eM4 h
      refine ps_iinc2 C rfl (nI 1) pi_1 dX7_recorded_90 (fun x5 ex5 => ?_)
      replace h := ps_lt ex5 h
      refine ps_goto C 62 dX7_recorded_93 rfl ?_
      exact ih a1 x5 _ h
set_option maxRecDepth 10000 in
theorem bk_X7_recorded_21 {X : ps_X} (C : ps_C X RX7 cX7_recorded) (hRm : xR X = ps_lvl 0) {r : Int32} {M9 : ps_M} (hfin : ∀ pc lv, decode cX7_recorded pc = .ok (.ireturn, 1) → narrow .int (.int r) = .int r → ps_G X M9 pc lv [.int r]) {q : Nat} (hq : ps_ck 20 q = true) : ∀ (n : Nat) (a1 : Int32) (a2 : Int32) (M : ps_M), fk_X7_recorded_21 q n a1 a2 M = some (r, M9) → ps_G X M 21 [some (.ref (xb X + q)), some (.int a1), some (.int a2)] [] := by
  intro n
  induction n with
  | zero => intro a1 a2 M h; rw [fk_X7_recorded_21] at h; cases h
  | succ n ih =>
    intro a1 a2 M h
    rw [fk_X7_recorded_21] at h
    refine ps_iloadn2 C dX7_recorded_21 ?_
    refine ps_sipush C dX7_recorded_22 pj_4685 ?_
    refine ps_ic_ge C 50 dX7_recorded_25 rfl (fun c12 => ?_) (fun c12 => ?_)
    · replace h := ps_ip c12 h
      refine ps_aloadn0 C dX7_recorded_50 ?_
      refine ps_dup C rfl dX7_recorded_51 ?_
      refine gf_X7_43 C hq dX7_recorded_52 ?_
      refine ps_iconst C dX7_recorded_55 pi_1 ?_
      refine ps_isub C dX7_recorded_56 ?_
      refine pf_X7_43 C hq dX7_recorded_57 (fun M7 eM7 => ?_)
      replace h := ps_lt eM7 h
      refine ps_iconst C dX7_recorded_60 pi_0 ?_
      refine ps_istoren2 C rfl dX7_recorded_61 ?_
      exact bk_X7_recorded_62 C hRm hfin hq ps_fu a1 (nI 0) _ h
    · replace h := ps_in0 c12 h
      refine ps_aloadn0 C dX7_recorded_28 ?_
      refine gf_X7_19 C hq dX7_recorded_29 ?_
      refine ps_iloadn2 C dX7_recorded_32 ?_
      refine ps_aloadn0 C dX7_recorded_33 ?_
      refine gf_X7_19 C hq dX7_recorded_34 ?_
      refine ps_sipush C dX7_recorded_37 pj_937 ?_
      refine ps_iloadn2 C dX7_recorded_40 ?_
      refine ps_iadd C dX7_recorded_41 ?_
      obtain ⟨hi8, h⟩ := ps_gd h
      refine ps_iald C (kf_20_4 hq) (fun _ _ => rfl) hi8 dX7_recorded_42 ?_
      obtain ⟨hi9, h⟩ := ps_gd h
      refine ps_iast C (kf_20_4 hq) (fun _ _ => rfl) hi9 dX7_recorded_43 (fun M10 eM10 => ?_)
      replace h := ps_lt eM10 h
      refine ps_iinc2 C rfl (nI 1) pi_1 dX7_recorded_44 (fun x11 ex11 => ?_)
      replace h := ps_lt ex11 h
      refine ps_goto C 21 dX7_recorded_47 rfl ?_
      exact ih a1 x11 _ h
set_option maxRecDepth 10000 in
theorem tt_X7_recorded (l : Launch) (b : Nat) (D : va_G) {q : Nat} (hq : ps_ck 20 q = true) {a1 : Int32} {M M9 : ps_M} {r : Int32} (h : ff_X7_recorded q a1 M = some (r, M9)) : ps_Ti l b D yX7_recorded cX7_recorded 3 .int 0 [.ref (b + q), .int a1] M r M9 := by
  refine ps_met_i (own := RX7) (lv := [some (.ref (b + q)), some (.int a1), none]) (by decide) rfl rfl (Nat.le_of_ble_eq_true rfl) rfl (fun X eX1 eX2 eX3 hRm eX5 C hfin => ?_)
  subst eX1 eX2 eX3
  unfold ff_X7_recorded at h
  refine ps_iloadn1 C dX7_recorded_0 ?_
  refine ps_if_ge C 10 dX7_recorded_1 rfl (fun c16 => ?_) (fun c16 => ?_)
  · replace h := ps_ip c16 h
    refine ps_aloadn0 C dX7_recorded_10 ?_
    refine gf_X7_43 C hq dX7_recorded_11 ?_
    refine ps_bipush C dX7_recorded_14 pb_6 ?_
    refine ps_ic_ne C 60 dX7_recorded_16 rfl (fun c13 => ?_) (fun c13 => ?_)
    · replace h := ps_in0 c13 h
      refine ps_iconst C dX7_recorded_60 pi_0 ?_
      refine ps_istoren2 C rfl dX7_recorded_61 ?_
      exact bk_X7_recorded_62 C hRm hfin hq ps_fu a1 (nI 0) _ h
    · replace h := ps_ip c13 h
      refine ps_iconst C dX7_recorded_19 pi_0 ?_
      refine ps_istoren2 C rfl dX7_recorded_20 ?_
      exact bk_X7_recorded_21 C hRm hfin hq ps_fu a1 (nI 0) _ h
  · replace h := ps_in0 c16 h
    refine ps_iloadn1 C dX7_recorded_4 ?_
    refine ps_bipush C dX7_recorded_5 pb_m6 ?_
    refine ps_ic_ne C 106 dX7_recorded_7 rfl (fun c15 => ?_) (fun c15 => ?_)
    · replace h := ps_in0 c15 h
      refine ps_iloadn1 C dX7_recorded_106 ?_
      exact ps_end_i h hfin dX7_recorded_107 rfl
    · replace h := ps_ip c15 h
      refine ps_aloadn0 C dX7_recorded_10 ?_
      refine gf_X7_43 C hq dX7_recorded_11 ?_
      refine ps_bipush C dX7_recorded_14 pb_6 ?_
      refine ps_ic_ne C 60 dX7_recorded_16 rfl (fun c14 => ?_) (fun c14 => ?_)
      · replace h := ps_in0 c14 h
        refine ps_iconst C dX7_recorded_60 pi_0 ?_
        refine ps_istoren2 C rfl dX7_recorded_61 ?_
        exact bk_X7_recorded_62 C hRm hfin hq ps_fu a1 (nI 0) _ h
      · replace h := ps_ip c14 h
        refine ps_iconst C dX7_recorded_19 pi_0 ?_
        refine ps_istoren2 C rfl dX7_recorded_20 ?_
        exact bk_X7_recorded_21 C hRm hfin hq ps_fu a1 (nI 0) _ h
set_option maxRecDepth 10000 in
theorem bk_X7_keepTrial_2 {X : ps_X} (C : ps_C X RX7 cX7_keepTrial) (hRm : xR X = ps_lvl 0) {r : Int32} {M9 : ps_M} (hfin : ∀ pc lv, decode cX7_keepTrial pc = .ok (.return_, 1) → ps_G X M9 pc lv []) {q : Nat} (hq : ps_ck 20 q = true) : ∀ (n : Nat) (a1 : Int32) (M : ps_M), fk_X7_keepTrial_2 q n a1 M = some (r, M9) → ps_G X M 2 [some (.ref (xb X + q)), some (.int a1)] [] := by
  intro n
  induction n with
  | zero => intro a1 M h; rw [fk_X7_keepTrial_2] at h; cases h
  | succ n ih =>
    intro a1 M h
    rw [fk_X7_keepTrial_2] at h
    refine ps_iloadn1 C dX7_keepTrial_2 ?_
    refine ps_sipush C dX7_keepTrial_3 pj_937 ?_
    refine ps_ic_ge C 27 dX7_keepTrial_6 rfl (fun c5 => ?_) (fun c5 => ?_)
    · replace h := ps_ip c5 h
      exact ps_end_v h hfin dX7_keepTrial_27
    · replace h := ps_in0 c5 h
      refine ps_aloadn0 C dX7_keepTrial_9 ?_
      refine gf_X7_16 C hq dX7_keepTrial_10 ?_
      refine ps_iloadn1 C dX7_keepTrial_13 ?_
      refine ps_aloadn0 C dX7_keepTrial_14 ?_
      refine gf_X7_7 C hq dX7_keepTrial_15 ?_
      refine ps_iloadn1 C dX7_keepTrial_18 ?_
      obtain ⟨hi1, h⟩ := ps_gd h
      refine ps_iald C (kf_20_1 hq) (fun _ _ => rfl) hi1 dX7_keepTrial_19 ?_
      obtain ⟨hi2, h⟩ := ps_gd h
      refine ps_iast C (kf_20_3 hq) (fun _ _ => rfl) hi2 dX7_keepTrial_20 (fun M3 eM3 => ?_)
      replace h := ps_lt eM3 h
      refine ps_iinc1 C rfl (nI 1) pi_1 dX7_keepTrial_21 (fun x4 ex4 => ?_)
      replace h := ps_lt ex4 h
      refine ps_goto C 2 dX7_keepTrial_24 rfl ?_
      exact ih x4 _ h
set_option maxRecDepth 10000 in
theorem tt_X7_keepTrial (l : Launch) (b : Nat) (D : va_G) {q : Nat} (hq : ps_ck 20 q = true) {M M9 : ps_M} {r : Int32} (h : ff_X7_keepTrial q  M = some (r, M9)) : ps_Tv l b D yX7_keepTrial cX7_keepTrial 2 0 [.ref (b + q)] M M9 := by
  refine ps_met_v (own := RX7) (lv := [some (.ref (b + q)), none]) (by decide) rfl rfl (Nat.le_of_ble_eq_true rfl) rfl (fun X eX1 eX2 eX3 hRm eX5 C hfin => ?_)
  subst eX1 eX2 eX3
  unfold ff_X7_keepTrial at h
  refine ps_iconst C dX7_keepTrial_0 pi_0 ?_
  refine ps_istoren1 C rfl dX7_keepTrial_1 ?_
  exact bk_X7_keepTrial_2 C hRm hfin hq ps_fu (nI 0) _ h
set_option maxRecDepth 10000 in
theorem bk_X7_putBack_2 {X : ps_X} (C : ps_C X RX7 cX7_putBack) (hRm : xR X = ps_lvl 0) {r : Int32} {M9 : ps_M} (hfin : ∀ pc lv, decode cX7_putBack pc = .ok (.return_, 1) → ps_G X M9 pc lv []) {q : Nat} (hq : ps_ck 20 q = true) : ∀ (n : Nat) (a1 : Int32) (M : ps_M), fk_X7_putBack_2 q n a1 M = some (r, M9) → ps_G X M 2 [some (.ref (xb X + q)), some (.int a1)] [] := by
  intro n
  induction n with
  | zero => intro a1 M h; rw [fk_X7_putBack_2] at h; cases h
  | succ n ih =>
    intro a1 M h
    rw [fk_X7_putBack_2] at h
    refine ps_iloadn1 C dX7_putBack_2 ?_
    refine ps_sipush C dX7_putBack_3 pj_937 ?_
    refine ps_ic_ge C 27 dX7_putBack_6 rfl (fun c5 => ?_) (fun c5 => ?_)
    · replace h := ps_ip c5 h
      exact ps_end_v h hfin dX7_putBack_27
    · replace h := ps_in0 c5 h
      refine ps_aloadn0 C dX7_putBack_9 ?_
      refine gf_X7_7 C hq dX7_putBack_10 ?_
      refine ps_iloadn1 C dX7_putBack_13 ?_
      refine ps_aloadn0 C dX7_putBack_14 ?_
      refine gf_X7_16 C hq dX7_putBack_15 ?_
      refine ps_iloadn1 C dX7_putBack_18 ?_
      obtain ⟨hi1, h⟩ := ps_gd h
      refine ps_iald C (kf_20_3 hq) (fun _ _ => rfl) hi1 dX7_putBack_19 ?_
      obtain ⟨hi2, h⟩ := ps_gd h
      refine ps_iast C (kf_20_1 hq) (fun _ _ => rfl) hi2 dX7_putBack_20 (fun M3 eM3 => ?_)
      replace h := ps_lt eM3 h
      refine ps_iinc1 C rfl (nI 1) pi_1 dX7_putBack_21 (fun x4 ex4 => ?_)
      replace h := ps_lt ex4 h
      refine ps_goto C 2 dX7_putBack_24 rfl ?_
      exact ih x4 _ h
set_option maxRecDepth 10000 in
theorem tt_X7_putBack (l : Launch) (b : Nat) (D : va_G) {q : Nat} (hq : ps_ck 20 q = true) {M M9 : ps_M} {r : Int32} (h : ff_X7_putBack q  M = some (r, M9)) : ps_Tv l b D yX7_putBack cX7_putBack 2 0 [.ref (b + q)] M M9 := by
  refine ps_met_v (own := RX7) (lv := [some (.ref (b + q)), none]) (by decide) rfl rfl (Nat.le_of_ble_eq_true rfl) rfl (fun X eX1 eX2 eX3 hRm eX5 C hfin => ?_)
  subst eX1 eX2 eX3
  unfold ff_X7_putBack at h
  refine ps_iconst C dX7_putBack_0 pi_0 ?_
  refine ps_istoren1 C rfl dX7_putBack_1 ?_
  exact bk_X7_putBack_2 C hRm hfin hq ps_fu (nI 0) _ h
set_option maxRecDepth 10000 in
theorem bk_X7_takes_19 {X : ps_X} (C : ps_C X RX7 cX7_takes) (hRm : xR X = ps_lvl 1) {r : Int32} {M9 : ps_M} (hfin : ∀ pc lv, decode cX7_takes pc = .ok (.return_, 1) → ps_G X M9 pc lv []) {q : Nat} (hq : ps_ck 20 q = true) : ∀ (n : Nat) (a1 : Int32) (a2 : Int32) (a3 : Int32) (a4 : Int32) (M : ps_M), fk_X7_takes_19 q n a1 a2 a3 a4 M = some (r, M9) → ps_G X M 19 [some (.ref (xb X + q)), some (.int a1), some (.int a2), some (.int a3), some (.int a4)] [] := by
  intro n
  induction n with
  | zero => intro a1 a2 a3 a4 M h; rw [fk_X7_takes_19] at h; cases h
  | succ n ih =>
    intro a1 a2 a3 a4 M h
    rw [fk_X7_takes_19] at h
    refine ps_iload4 C dX7_takes_19 ?_
    refine ps_iloadn1 C dX7_takes_21 ?_
    refine ps_iloadn3 C dX7_takes_22 ?_
    obtain ⟨r5, M5, hM5, h⟩ := ps_bd h
    refine ps_goS_i C (rest := [.int a4]) (tt_X7_l (xl X) (xb X) (xD X) hM5) cw_X7_51 (ps_room hRm (by decide)) rfl rfl (Nat.le_of_ble_eq_true rfl) dX7_takes_23 ?_
    refine ps_ic_ge C 51 dX7_takes_26 rfl (fun c14 => ?_) (fun c14 => ?_)
    · replace h := ps_ip c14 h
      refine ps_aloadn0 C dX7_takes_51 ?_
      refine gf_X7_7 C hq dX7_takes_52 ?_
      refine ps_iloadn1 C dX7_takes_55 ?_
      obtain ⟨r6, M6, hM6, h⟩ := ps_bd h
      refine ps_goS_i C (rest := [.ref (xb X + (q + 1))]) (tt_X7_p (xl X) (xb X) (xD X) hM6) cw_X7_47 (ps_room hRm (by decide)) rfl rfl (Nat.le_of_ble_eq_true rfl) dX7_takes_56 ?_
      refine ps_dup2 C rfl rfl dX7_takes_59 ?_
      obtain ⟨hi7, h⟩ := ps_gd h
      refine ps_iald C (kf_20_1 hq) (fun _ _ => rfl) hi7 dX7_takes_60 ?_
      refine ps_iconst C dX7_takes_61 pi_1 ?_
      refine ps_isub C dX7_takes_62 ?_
      obtain ⟨hi8, h⟩ := ps_gd h
      refine ps_iast C (kf_20_1 hq) (fun _ _ => rfl) hi8 dX7_takes_63 (fun M9 eM9 => ?_)
      replace h := ps_lt eM9 h
      exact ps_end_v h hfin dX7_takes_64
    · replace h := ps_in0 c14 h
      refine ps_aloadn0 C dX7_takes_29 ?_
      refine gf_X7_7 C hq dX7_takes_30 ?_
      refine ps_iload4 C dX7_takes_33 ?_
      refine ps_aloadn0 C dX7_takes_35 ?_
      refine gf_X7_7 C hq dX7_takes_36 ?_
      refine ps_iload4 C dX7_takes_39 ?_
      refine ps_iconst C dX7_takes_41 pi_3 ?_
      refine ps_iadd C dX7_takes_42 ?_
      obtain ⟨hi10, h⟩ := ps_gd h
      refine ps_iald C (kf_20_1 hq) (fun _ _ => rfl) hi10 dX7_takes_43 ?_
      obtain ⟨hi11, h⟩ := ps_gd h
      refine ps_iast C (kf_20_1 hq) (fun _ _ => rfl) hi11 dX7_takes_44 (fun M12 eM12 => ?_)
      replace h := ps_lt eM12 h
      refine ps_iinc4 C rfl (nI 1) pi_1 dX7_takes_45 (fun x13 ex13 => ?_)
      replace h := ps_lt ex13 h
      refine ps_goto C 19 dX7_takes_48 rfl ?_
      exact ih a1 a2 a3 x13 _ h
set_option maxRecDepth 10000 in
theorem tt_X7_takes (l : Launch) (b : Nat) (D : va_G) {q : Nat} (hq : ps_ck 20 q = true) {a1 : Int32} {a2 : Int32} {M M9 : ps_M} {r : Int32} (h : ff_X7_takes q a1 a2 M = some (r, M9)) : ps_Tv l b D yX7_takes cX7_takes 5 1 [.ref (b + q), .int a1, .int a2] M M9 := by
  refine ps_met_v (own := RX7) (lv := [some (.ref (b + q)), some (.int a1), some (.int a2), none, none]) (by decide) rfl rfl (Nat.le_of_ble_eq_true rfl) rfl (fun X eX1 eX2 eX3 hRm eX5 C hfin => ?_)
  subst eX1 eX2 eX3
  unfold ff_X7_takes at h
  refine ps_aloadn0 C dX7_takes_0 ?_
  refine gf_X7_7 C hq dX7_takes_1 ?_
  refine ps_iloadn1 C dX7_takes_4 ?_
  obtain ⟨r1, M1, hM1, h⟩ := ps_bd h
  refine ps_goS_i C (rest := [.ref (xb X + (q + 1))]) (tt_X7_p (xl X) (xb X) (xD X) hM1) cw_X7_47 (ps_room hRm (by decide)) rfl rfl (Nat.le_of_ble_eq_true rfl) dX7_takes_5 ?_
  obtain ⟨hi2, h⟩ := ps_gd h
  refine ps_iald C (kf_20_1 hq) (fun _ _ => rfl) hi2 dX7_takes_8 ?_
  refine ps_iconst C dX7_takes_9 pi_1 ?_
  refine ps_isub C dX7_takes_10 ?_
  refine ps_nmi (fun x3 ex3 => ?_)
  replace h := ps_lt ex3 h
  refine ps_istoren3 C rfl dX7_takes_11 ?_
  refine ps_iloadn1 C dX7_takes_12 ?_
  refine ps_iloadn2 C dX7_takes_13 ?_
  obtain ⟨r4, M4, hM4, h⟩ := ps_bd h
  refine ps_goS_i C (rest := []) (tt_X7_l (xl X) (xb X) (xD X) hM4) cw_X7_51 (ps_room hRm (by decide)) rfl rfl (Nat.le_of_ble_eq_true rfl) dX7_takes_14 ?_
  refine ps_istore4 C rfl dX7_takes_17 ?_
  exact bk_X7_takes_19 C hRm hfin hq ps_fu a1 a2 x3 r4 _ h
set_option maxRecDepth 10000 in
theorem bk_X7_linkOf_5 {X : ps_X} (C : ps_C X RX7 cX7_linkOf) (hRm : xR X = ps_lvl 1) {r : Int32} {M9 : ps_M} (hfin : ∀ pc lv, decode cX7_linkOf pc = .ok (.ireturn, 1) → narrow .int (.int r) = .int r → ps_G X M9 pc lv [.int r]) {q : Nat} (hq : ps_ck 20 q = true) : ∀ (n : Nat) (a1 : Int32) (a2 : Int32) (a3 : Int32) (a4 : Int32) (M : ps_M), fk_X7_linkOf_5 q n a1 a2 a3 a4 M = some (r, M9) → ps_G X M 5 [some (.ref (xb X + q)), some (.int a1), some (.int a2), some (.int a3), some (.int a4)] [] := by
  intro n
  induction n with
  | zero => intro a1 a2 a3 a4 M h; rw [fk_X7_linkOf_5] at h; cases h
  | succ n ih =>
    intro a1 a2 a3 a4 M h
    rw [fk_X7_linkOf_5] at h
    refine ps_iload4 C dX7_linkOf_5 ?_
    refine ps_aloadn0 C dX7_linkOf_7 ?_
    refine gf_X7_7 C hq dX7_linkOf_8 ?_
    refine ps_iloadn1 C dX7_linkOf_11 ?_
    obtain ⟨r1, M1, hM1, h⟩ := ps_bd h
    refine ps_goS_i C (rest := [.ref (xb X + (q + 1)), .int a4]) (tt_X7_p (xl X) (xb X) (xD X) hM1) cw_X7_47 (ps_room hRm (by decide)) rfl rfl (Nat.le_of_ble_eq_true rfl) dX7_linkOf_12 ?_
    obtain ⟨hi2, h⟩ := ps_gd h
    refine ps_iald C (kf_20_1 hq) (fun _ _ => rfl) hi2 dX7_linkOf_15 ?_
    refine ps_ic_ge C 47 dX7_linkOf_16 rfl (fun c8 => ?_) (fun c8 => ?_)
    · replace h := ps_ip c8 h
      refine ps_iloadn3 C dX7_linkOf_47 ?_
      exact ps_end_i h hfin dX7_linkOf_48 rfl
    · replace h := ps_in0 c8 h
      refine ps_aloadn0 C dX7_linkOf_19 ?_
      refine gf_X7_7 C hq dX7_linkOf_20 ?_
      refine ps_iloadn1 C dX7_linkOf_23 ?_
      refine ps_iload4 C dX7_linkOf_24 ?_
      obtain ⟨r3, M3, hM3, h⟩ := ps_bd h
      refine ps_goS_i C (rest := [.ref (xb X + (q + 1))]) (tt_X7_l (xl X) (xb X) (xD X) hM3) cw_X7_51 (ps_room hRm (by decide)) rfl rfl (Nat.le_of_ble_eq_true rfl) dX7_linkOf_26 ?_
      obtain ⟨hi4, h⟩ := ps_gd h
      refine ps_iald C (kf_20_1 hq) (fun _ _ => rfl) hi4 dX7_linkOf_29 ?_
      refine ps_iloadn2 C dX7_linkOf_30 ?_
      refine ps_ic_ne C 39 dX7_linkOf_31 rfl (fun c7 => ?_) (fun c7 => ?_)
      · replace h := ps_in0 c7 h
        refine ps_iloadn3 C dX7_linkOf_39 ?_
        refine ps_istoren3 C rfl dX7_linkOf_40 ?_
        refine ps_iinc4 C rfl (nI 1) pi_1 dX7_linkOf_41 (fun x5 ex5 => ?_)
        replace h := ps_lt ex5 h
        refine ps_goto C 5 dX7_linkOf_44 rfl ?_
        exact ih a1 a2 a3 x5 _ h
      · replace h := ps_ip c7 h
        refine ps_iload4 C dX7_linkOf_34 ?_
        refine ps_goto C 40 dX7_linkOf_36 rfl ?_
        refine ps_istoren3 C rfl dX7_linkOf_40 ?_
        refine ps_iinc4 C rfl (nI 1) pi_1 dX7_linkOf_41 (fun x6 ex6 => ?_)
        replace h := ps_lt ex6 h
        refine ps_goto C 5 dX7_linkOf_44 rfl ?_
        exact ih a1 a2 a4 x6 _ h
set_option maxRecDepth 10000 in
theorem tt_X7_linkOf (l : Launch) (b : Nat) (D : va_G) {q : Nat} (hq : ps_ck 20 q = true) {a1 : Int32} {a2 : Int32} {M M9 : ps_M} {r : Int32} (h : ff_X7_linkOf q a1 a2 M = some (r, M9)) : ps_Ti l b D yX7_linkOf cX7_linkOf 5 .int 1 [.ref (b + q), .int a1, .int a2] M r M9 := by
  refine ps_met_i (own := RX7) (lv := [some (.ref (b + q)), some (.int a1), some (.int a2), none, none]) (by decide) rfl rfl (Nat.le_of_ble_eq_true rfl) rfl (fun X eX1 eX2 eX3 hRm eX5 C hfin => ?_)
  subst eX1 eX2 eX3
  unfold ff_X7_linkOf at h
  refine ps_iconst C dX7_linkOf_0 pi_m1 ?_
  refine ps_istoren3 C rfl dX7_linkOf_1 ?_
  refine ps_iconst C dX7_linkOf_2 pi_0 ?_
  refine ps_istore4 C rfl dX7_linkOf_3 ?_
  exact bk_X7_linkOf_5 C hRm hfin hq ps_fu a1 a2 (ps_m 1) (nI 0) _ h
set_option maxRecDepth 10000 in
theorem bk_X7_weakest_4 {X : ps_X} (C : ps_C X RX7 cX7_weakest) (hRm : xR X = ps_lvl 1) {r : Int32} {M9 : ps_M} (hfin : ∀ pc lv, decode cX7_weakest pc = .ok (.ireturn, 1) → narrow .int (.int r) = .int r → ps_G X M9 pc lv [.int r]) {q : Nat} (hq : ps_ck 20 q = true) : ∀ (n : Nat) (a1 : Int32) (a2 : Int32) (a3 : Int32) (M : ps_M), fk_X7_weakest_4 q n a1 a2 a3 M = some (r, M9) → ps_G X M 4 [some (.ref (xb X + q)), some (.int a1), some (.int a2), some (.int a3)] [] := by
  intro n
  induction n with
  | zero => intro a1 a2 a3 M h; rw [fk_X7_weakest_4] at h; cases h
  | succ n ih =>
    intro a1 a2 a3 M h
    rw [fk_X7_weakest_4] at h
    refine ps_iloadn3 C dX7_weakest_4 ?_
    refine ps_aloadn0 C dX7_weakest_5 ?_
    refine gf_X7_7 C hq dX7_weakest_6 ?_
    refine ps_iloadn1 C dX7_weakest_9 ?_
    obtain ⟨r1, M1, hM1, h⟩ := ps_bd h
    refine ps_goS_i C (rest := [.ref (xb X + (q + 1)), .int a3]) (tt_X7_p (xl X) (xb X) (xD X) hM1) cw_X7_47 (ps_room hRm (by decide)) rfl rfl (Nat.le_of_ble_eq_true rfl) dX7_weakest_10 ?_
    obtain ⟨hi2, h⟩ := ps_gd h
    refine ps_iald C (kf_20_1 hq) (fun _ _ => rfl) hi2 dX7_weakest_13 ?_
    refine ps_ic_ge C 56 dX7_weakest_14 rfl (fun c10 => ?_) (fun c10 => ?_)
    · replace h := ps_ip c10 h
      refine ps_iloadn2 C dX7_weakest_56 ?_
      exact ps_end_i h hfin dX7_weakest_57 rfl
    · replace h := ps_in0 c10 h
      refine ps_aloadn0 C dX7_weakest_17 ?_
      refine gf_X7_7 C hq dX7_weakest_18 ?_
      refine ps_iloadn1 C dX7_weakest_21 ?_
      refine ps_iloadn3 C dX7_weakest_22 ?_
      obtain ⟨r3, M3, hM3, h⟩ := ps_bd h
      refine ps_goS_i C (rest := [.ref (xb X + (q + 1))]) (tt_X7_l (xl X) (xb X) (xD X) hM3) cw_X7_51 (ps_room hRm (by decide)) rfl rfl (Nat.le_of_ble_eq_true rfl) dX7_weakest_23 ?_
      refine ps_iconst C dX7_weakest_26 pi_1 ?_
      refine ps_iadd C dX7_weakest_27 ?_
      obtain ⟨hi4, h⟩ := ps_gd h
      refine ps_iald C (kf_20_1 hq) (fun _ _ => rfl) hi4 dX7_weakest_28 ?_
      refine ps_aloadn0 C dX7_weakest_29 ?_
      refine gf_X7_7 C hq dX7_weakest_30 ?_
      refine ps_iloadn1 C dX7_weakest_33 ?_
      refine ps_iloadn2 C dX7_weakest_34 ?_
      obtain ⟨r5, M5, hM5, h⟩ := ps_bd h
      refine ps_goS_i C (rest := [.ref (xb X + (q + 1)), .int (ps_rd M3 (q + 1) (r3 + (nI 1)).toNatClampNeg)]) (tt_X7_l (xl X) (xb X) (xD X) hM5) cw_X7_51 (ps_room hRm (by decide)) rfl rfl (Nat.le_of_ble_eq_true rfl) dX7_weakest_35 ?_
      refine ps_iconst C dX7_weakest_38 pi_1 ?_
      refine ps_iadd C dX7_weakest_39 ?_
      obtain ⟨hi6, h⟩ := ps_gd h
      refine ps_iald C (kf_20_1 hq) (fun _ _ => rfl) hi6 dX7_weakest_40 ?_
      refine ps_ic_ge C 48 dX7_weakest_41 rfl (fun c9 => ?_) (fun c9 => ?_)
      · replace h := ps_ip c9 h
        refine ps_iloadn2 C dX7_weakest_48 ?_
        refine ps_istoren2 C rfl dX7_weakest_49 ?_
        refine ps_iinc3 C rfl (nI 1) pi_1 dX7_weakest_50 (fun x7 ex7 => ?_)
        replace h := ps_lt ex7 h
        refine ps_goto C 4 dX7_weakest_53 rfl ?_
        exact ih a1 a2 x7 _ h
      · replace h := ps_in0 c9 h
        refine ps_iloadn3 C dX7_weakest_44 ?_
        refine ps_goto C 49 dX7_weakest_45 rfl ?_
        refine ps_istoren2 C rfl dX7_weakest_49 ?_
        refine ps_iinc3 C rfl (nI 1) pi_1 dX7_weakest_50 (fun x8 ex8 => ?_)
        replace h := ps_lt ex8 h
        refine ps_goto C 4 dX7_weakest_53 rfl ?_
        exact ih a1 a3 x8 _ h
set_option maxRecDepth 10000 in
theorem tt_X7_weakest (l : Launch) (b : Nat) (D : va_G) {q : Nat} (hq : ps_ck 20 q = true) {a1 : Int32} {M M9 : ps_M} {r : Int32} (h : ff_X7_weakest q a1 M = some (r, M9)) : ps_Ti l b D yX7_weakest cX7_weakest 4 .int 1 [.ref (b + q), .int a1] M r M9 := by
  refine ps_met_i (own := RX7) (lv := [some (.ref (b + q)), some (.int a1), none, none]) (by decide) rfl rfl (Nat.le_of_ble_eq_true rfl) rfl (fun X eX1 eX2 eX3 hRm eX5 C hfin => ?_)
  subst eX1 eX2 eX3
  unfold ff_X7_weakest at h
  refine ps_iconst C dX7_weakest_0 pi_0 ?_
  refine ps_istoren2 C rfl dX7_weakest_1 ?_
  refine ps_iconst C dX7_weakest_2 pi_1 ?_
  refine ps_istoren3 C rfl dX7_weakest_3 ?_
  exact bk_X7_weakest_4 C hRm hfin hq ps_fu a1 (nI 0) (nI 1) _ h
set_option maxRecDepth 10000 in
theorem bk_X7_grows_88 {X : ps_X} (C : ps_C X RX7 cX7_grows) (hRm : xR X = ps_lvl 2) {r : Int32} {M9 : ps_M} (hfin : ∀ pc lv, decode cX7_grows pc = .ok (.return_, 1) → ps_G X M9 pc lv []) {q : Nat} (hq : ps_ck 20 q = true) (a1 : Int32) (a2 : Int32) (a3 : Int32) (a4 : Int32) (a5 : Int32) (u0 : Nat) (s1 : Int32) (s2 : Int32) (hu0 : ps_ck 21 u0 = true) (M : ps_M) (h : fk_X7_grows_88 q a1 a2 a3 a4 a5 u0 s1 s2 M = some (r, M9)) : ps_G X M 88 [some (.ref (xb X + q)), some (.int a1), some (.int a2), some (.int a3), some (.int a4), some (.int a5)] [.int s2, .int s1, .ref (xb X + u0)] := by
  unfold fk_X7_grows_88 at h
  obtain ⟨hi9, h⟩ := ps_gd h
  refine ps_iast C hu0 (fun _ _ => rfl) hi9 dX7_grows_88 (fun M10 eM10 => ?_)
  replace h := ps_lt eM10 h
  refine ps_aloadn0 C dX7_grows_89 ?_
  refine gf_X7_7 C hq dX7_grows_90 ?_
  refine ps_iload5 C dX7_grows_93 ?_
  refine ps_iconst C dX7_grows_95 pi_2 ?_
  refine ps_iadd C dX7_grows_96 ?_
  refine ps_iconst C dX7_grows_97 pi_1 ?_
  obtain ⟨hi11, h⟩ := ps_gd h
  refine ps_iast C (kf_20_1 hq) (fun _ _ => rfl) hi11 dX7_grows_98 (fun M12 eM12 => ?_)
  replace h := ps_lt eM12 h
  refine ps_aloadn0 C dX7_grows_99 ?_
  refine gf_X7_7 C hq dX7_grows_100 ?_
  refine ps_iloadn1 C dX7_grows_103 ?_
  obtain ⟨r13, M13, hM13, h⟩ := ps_bd h
  refine ps_goS_i C (rest := [.ref (xb X + (q + 1))]) (tt_X7_p (xl X) (xb X) (xD X) hM13) cw_X7_47 (ps_room hRm (by decide)) rfl rfl (Nat.le_of_ble_eq_true rfl) dX7_grows_104 ?_
  refine ps_dup2 C rfl rfl dX7_grows_107 ?_
  obtain ⟨hi14, h⟩ := ps_gd h
  refine ps_iald C (kf_20_1 hq) (fun _ _ => rfl) hi14 dX7_grows_108 ?_
  refine ps_iconst C dX7_grows_109 pi_1 ?_
  refine ps_iadd C dX7_grows_110 ?_
  obtain ⟨hi15, h⟩ := ps_gd h
  refine ps_iast C (kf_20_1 hq) (fun _ _ => rfl) hi15 dX7_grows_111 (fun M16 eM16 => ?_)
  replace h := ps_lt eM16 h
  refine ps_aloadn0 C dX7_grows_112 ?_
  refine gf_X7_7 C hq dX7_grows_113 ?_
  refine ps_iloadn1 C dX7_grows_116 ?_
  obtain ⟨r17, M17, hM17, h⟩ := ps_bd h
  refine ps_goS_i C (rest := [.ref (xb X + (q + 1))]) (tt_X7_p (xl X) (xb X) (xD X) hM17) cw_X7_47 (ps_room hRm (by decide)) rfl rfl (Nat.le_of_ble_eq_true rfl) dX7_grows_117 ?_
  obtain ⟨hi18, h⟩ := ps_gd h
  refine ps_iald C (kf_20_1 hq) (fun _ _ => rfl) hi18 dX7_grows_120 ?_
  refine ps_aloadn0 C dX7_grows_121 ?_
  refine gf_X7_7 C hq dX7_grows_122 ?_
  refine ps_iconst C dX7_grows_125 pi_0 ?_
  obtain ⟨hi19, h⟩ := ps_gd h
  refine ps_iald C (kf_20_1 hq) (fun _ _ => rfl) hi19 dX7_grows_126 ?_
  refine ps_ic_le C 155 dX7_grows_127 rfl (fun c26 => ?_) (fun c26 => ?_)
  · replace h := ps_ip c26 h
    exact ps_end_v h hfin dX7_grows_155
  · replace h := ps_in0 c26 h
    refine ps_aloadn0 C dX7_grows_130 ?_
    refine ps_iloadn1 C dX7_grows_131 ?_
    refine ps_aloadn0 C dX7_grows_132 ?_
    refine ps_iloadn1 C dX7_grows_133 ?_
    obtain ⟨r20, M20, hM20, h⟩ := ps_bd h
    refine ps_goV_i C (rest := [.int a1, .ref (xb X + q)]) (tt_X7_weakest (xl X) (xb X) (xD X) hq hM20) cw_X7_62 ps_rc20 hq (ps_room hRm (by decide)) rfl rfl (Nat.le_of_ble_eq_true rfl) dX7_grows_134 ?_
    obtain ⟨r21, M21, hM21, h⟩ := ps_bd h
    refine ps_goV_v C (rest := []) (tt_X7_takes (xl X) (xb X) (xD X) hq hM21) cw_X7_58 ps_rc20 hq (ps_room hRm (by decide)) rfl rfl (Nat.le_of_ble_eq_true rfl) dX7_grows_137 ?_
    refine ps_aloadn0 C dX7_grows_140 ?_
    refine gf_X7_7 C hq dX7_grows_141 ?_
    refine ps_iloadn1 C dX7_grows_144 ?_
    obtain ⟨r22, M22, hM22, h⟩ := ps_bd h
    refine ps_goS_i C (rest := [.ref (xb X + (q + 1))]) (tt_X7_p (xl X) (xb X) (xD X) hM22) cw_X7_47 (ps_room hRm (by decide)) rfl rfl (Nat.le_of_ble_eq_true rfl) dX7_grows_145 ?_
    refine ps_iconst C dX7_grows_148 pi_4 ?_
    refine ps_iadd C dX7_grows_149 ?_
    refine ps_dup2 C rfl rfl dX7_grows_150 ?_
    obtain ⟨hi23, h⟩ := ps_gd h
    refine ps_iald C (kf_20_1 hq) (fun _ _ => rfl) hi23 dX7_grows_151 ?_
    refine ps_iconst C dX7_grows_152 pi_1 ?_
    refine ps_iadd C dX7_grows_153 ?_
    obtain ⟨hi24, h⟩ := ps_gd h
    refine ps_iast C (kf_20_1 hq) (fun _ _ => rfl) hi24 dX7_grows_154 (fun M25 eM25 => ?_)
    replace h := ps_lt eM25 h
    exact ps_end_v h hfin dX7_grows_155
set_option maxRecDepth 10000 in
theorem bk_X7_grows_43 {X : ps_X} (C : ps_C X RX7 cX7_grows) (hRm : xR X = ps_lvl 2) {r : Int32} {M9 : ps_M} (hfin : ∀ pc lv, decode cX7_grows pc = .ok (.return_, 1) → ps_G X M9 pc lv []) {q : Nat} (hq : ps_ck 20 q = true) (a1 : Int32) (a2 : Int32) (a3 : Int32) (a4 : Int32) (M : ps_M) (h : fk_X7_grows_43 q a1 a2 a3 a4 M = some (r, M9)) : ps_G X M 43 [some (.ref (xb X + q)), some (.int a1), some (.int a2), some (.int a3), some (.int a4), none] [] := by
  unfold fk_X7_grows_43 at h
  refine ps_iloadn1 C dX7_grows_43 ?_
  refine ps_aloadn0 C dX7_grows_44 ?_
  refine gf_X7_7 C hq dX7_grows_45 ?_
  refine ps_iloadn1 C dX7_grows_48 ?_
  obtain ⟨r4, M4, hM4, h⟩ := ps_bd h
  refine ps_goS_i C (rest := [.ref (xb X + (q + 1)), .int a1]) (tt_X7_p (xl X) (xb X) (xD X) hM4) cw_X7_47 (ps_room hRm (by decide)) rfl rfl (Nat.le_of_ble_eq_true rfl) dX7_grows_49 ?_
  obtain ⟨hi5, h⟩ := ps_gd h
  refine ps_iald C (kf_20_1 hq) (fun _ _ => rfl) hi5 dX7_grows_52 ?_
  obtain ⟨r6, M6, hM6, h⟩ := ps_bd h
  refine ps_goS_i C (rest := []) (tt_X7_l (xl X) (xb X) (xD X) hM6) cw_X7_51 (ps_room hRm (by decide)) rfl rfl (Nat.le_of_ble_eq_true rfl) dX7_grows_53 ?_
  refine ps_istore5 C rfl dX7_grows_56 ?_
  refine ps_aloadn0 C dX7_grows_58 ?_
  refine gf_X7_7 C hq dX7_grows_59 ?_
  refine ps_iload5 C dX7_grows_62 ?_
  refine ps_iloadn2 C dX7_grows_64 ?_
  obtain ⟨hi7, h⟩ := ps_gd h
  refine ps_iast C (kf_20_1 hq) (fun _ _ => rfl) hi7 dX7_grows_65 (fun M8 eM8 => ?_)
  replace h := ps_lt eM8 h
  refine ps_aloadn0 C dX7_grows_66 ?_
  refine gf_X7_7 C hq dX7_grows_67 ?_
  refine ps_iload5 C dX7_grows_70 ?_
  refine ps_iconst C dX7_grows_72 pi_1 ?_
  refine ps_iadd C dX7_grows_73 ?_
  refine ps_iload4 C dX7_grows_74 ?_
  refine ps_bipush C dX7_grows_76 pb_9 ?_
  refine ps_ic_le C 86 dX7_grows_78 rfl (fun c27 => ?_) (fun c27 => ?_)
  · replace h := ps_ip c27 h
    refine ps_iload4 C dX7_grows_86 ?_
    exact bk_X7_grows_88 C hRm hfin hq a1 a2 a3 a4 r6 (q + 1) (r6 + (nI 1)) a4 (kf_20_1 hq) _ h
  · replace h := ps_in0 c27 h
    refine ps_bipush C dX7_grows_81 pb_9 ?_
    refine ps_goto C 88 dX7_grows_83 rfl ?_
    exact bk_X7_grows_88 C hRm hfin hq a1 a2 a3 a4 r6 (q + 1) (r6 + (nI 1)) (nI 9) (kf_20_1 hq) _ h
set_option maxRecDepth 10000 in
theorem tt_X7_grows (l : Launch) (b : Nat) (D : va_G) {q : Nat} (hq : ps_ck 20 q = true) {a1 : Int32} {a2 : Int32} {M M9 : ps_M} {r : Int32} (h : ff_X7_grows q a1 a2 M = some (r, M9)) : ps_Tv l b D yX7_grows cX7_grows 6 2 [.ref (b + q), .int a1, .int a2] M M9 := by
  refine ps_met_v (own := RX7) (lv := [some (.ref (b + q)), some (.int a1), some (.int a2), none, none, none]) (by decide) rfl rfl (Nat.le_of_ble_eq_true rfl) rfl (fun X eX1 eX2 eX3 hRm eX5 C hfin => ?_)
  subst eX1 eX2 eX3
  unfold ff_X7_grows at h
  refine ps_aloadn0 C dX7_grows_0 ?_
  refine ps_iloadn1 C dX7_grows_1 ?_
  refine ps_iloadn2 C dX7_grows_2 ?_
  obtain ⟨r1, M1, hM1, h⟩ := ps_bd h
  refine ps_goV_i C (rest := []) (tt_X7_linkOf (xl X) (xb X) (xD X) hq hM1) cw_X7_55 ps_rc20 hq (ps_room hRm (by decide)) rfl rfl (Nat.le_of_ble_eq_true rfl) dX7_grows_3 ?_
  refine ps_istoren3 C rfl dX7_grows_6 ?_
  refine ps_aloadn0 C dX7_grows_7 ?_
  refine gf_X7_7 C hq dX7_grows_8 ?_
  refine ps_iconst C dX7_grows_11 pi_2 ?_
  obtain ⟨hi2, h⟩ := ps_gd h
  refine ps_iald C (kf_20_1 hq) (fun _ _ => rfl) hi2 dX7_grows_12 ?_
  refine ps_nmi (fun x3 ex3 => ?_)
  replace h := ps_lt ex3 h
  refine ps_istore4 C rfl dX7_grows_13 ?_
  refine ps_iloadn3 C dX7_grows_15 ?_
  refine ps_iconst C dX7_grows_16 pi_m1 ?_
  refine ps_ic_eq C 43 dX7_grows_17 rfl (fun c32 => ?_) (fun c32 => ?_)
  · replace h := ps_ip c32 h
    exact bk_X7_grows_43 C hRm hfin hq a1 a2 r1 x3 _ h
  · replace h := ps_in0 c32 h
    refine ps_iload4 C dX7_grows_20 ?_
    refine ps_aloadn0 C dX7_grows_22 ?_
    refine gf_X7_7 C hq dX7_grows_23 ?_
    refine ps_iloadn1 C dX7_grows_26 ?_
    refine ps_iloadn3 C dX7_grows_27 ?_
    obtain ⟨r28, M28, hM28, h⟩ := ps_bd h
    refine ps_goS_i C (rest := [.ref (xb X + (q + 1)), .int x3]) (tt_X7_l (xl X) (xb X) (xD X) hM28) cw_X7_51 (ps_room hRm (by decide)) rfl rfl (Nat.le_of_ble_eq_true rfl) dX7_grows_28 ?_
    refine ps_iconst C dX7_grows_31 pi_1 ?_
    refine ps_iadd C dX7_grows_32 ?_
    obtain ⟨hi29, h⟩ := ps_gd h
    refine ps_iald C (kf_20_1 hq) (fun _ _ => rfl) hi29 dX7_grows_33 ?_
    refine ps_iadd C dX7_grows_34 ?_
    refine ps_nmi (fun x30 ex30 => ?_)
    replace h := ps_lt ex30 h
    refine ps_istore4 C rfl dX7_grows_35 ?_
    refine ps_aloadn0 C dX7_grows_37 ?_
    refine ps_iloadn1 C dX7_grows_38 ?_
    refine ps_iloadn3 C dX7_grows_39 ?_
    obtain ⟨r31, M31, hM31, h⟩ := ps_bd h
    refine ps_goV_v C (rest := []) (tt_X7_takes (xl X) (xb X) (xD X) hq hM31) cw_X7_58 ps_rc20 hq (ps_room hRm (by decide)) rfl rfl (Nat.le_of_ble_eq_true rfl) dX7_grows_40 ?_
    exact bk_X7_grows_43 C hRm hfin hq a1 a2 r1 x30 _ h
set_option maxRecDepth 10000 in
theorem bk_X7_hears_34 {X : ps_X} (C : ps_C X RX7 cX7_hears) (hRm : xR X = ps_lvl 3) {r : Int32} {M9 : ps_M} (hfin : ∀ pc lv, decode cX7_hears pc = .ok (.return_, 1) → ps_G X M9 pc lv []) {q : Nat} (hq : ps_ck 20 q = true) (a1 : Int32) (a2 : Int32) (a3 : Int32) (M : ps_M) (h : fk_X7_hears_34 q a1 a2 a3 M = some (r, M9)) : ps_G X M 34 [some (.ref (xb X + q)), some (.int a1), some (.int a2), some (.int a3)] [] := by
  unfold fk_X7_hears_34 at h
  refine ps_aloadn0 C dX7_hears_34 ?_
  refine gf_X7_7 C hq dX7_hears_35 ?_
  refine ps_iloadn3 C dX7_hears_38 ?_
  refine ps_iconst C dX7_hears_39 pi_1 ?_
  refine ps_iadd C dX7_hears_40 ?_
  refine ps_iloadn2 C dX7_hears_41 ?_
  obtain ⟨hi3, h⟩ := ps_gd h
  refine ps_iast C (kf_20_1 hq) (fun _ _ => rfl) hi3 dX7_hears_42 (fun M4 eM4 => ?_)
  replace h := ps_lt eM4 h
  refine ps_aloadn0 C dX7_hears_43 ?_
  refine gf_X7_7 C hq dX7_hears_44 ?_
  refine ps_iloadn3 C dX7_hears_47 ?_
  refine ps_iconst C dX7_hears_48 pi_2 ?_
  refine ps_iadd C dX7_hears_49 ?_
  refine ps_dup2 C rfl rfl dX7_hears_50 ?_
  obtain ⟨hi5, h⟩ := ps_gd h
  refine ps_iald C (kf_20_1 hq) (fun _ _ => rfl) hi5 dX7_hears_51 ?_
  refine ps_iconst C dX7_hears_52 pi_1 ?_
  refine ps_iadd C dX7_hears_53 ?_
  obtain ⟨hi6, h⟩ := ps_gd h
  refine ps_iast C (kf_20_1 hq) (fun _ _ => rfl) hi6 dX7_hears_54 (fun M7 eM7 => ?_)
  replace h := ps_lt eM7 h
  refine ps_aloadn0 C dX7_hears_55 ?_
  refine gf_X7_7 C hq dX7_hears_56 ?_
  refine ps_iloadn3 C dX7_hears_59 ?_
  refine ps_iconst C dX7_hears_60 pi_3 ?_
  refine ps_iadd C dX7_hears_61 ?_
  refine ps_dup2 C rfl rfl dX7_hears_62 ?_
  obtain ⟨hi8, h⟩ := ps_gd h
  refine ps_iald C (kf_20_1 hq) (fun _ _ => rfl) hi8 dX7_hears_63 ?_
  refine ps_iconst C dX7_hears_64 pi_1 ?_
  refine ps_iadd C dX7_hears_65 ?_
  obtain ⟨hi9, h⟩ := ps_gd h
  refine ps_iast C (kf_20_1 hq) (fun _ _ => rfl) hi9 dX7_hears_66 (fun M10 eM10 => ?_)
  replace h := ps_lt eM10 h
  refine ps_aloadn0 C dX7_hears_67 ?_
  refine gf_X7_7 C hq dX7_hears_68 ?_
  refine ps_bipush C dX7_hears_71 pb_8 ?_
  refine ps_dup2 C rfl rfl dX7_hears_73 ?_
  obtain ⟨hi11, h⟩ := ps_gd h
  refine ps_iald C (kf_20_1 hq) (fun _ _ => rfl) hi11 dX7_hears_74 ?_
  refine ps_iconst C dX7_hears_75 pi_1 ?_
  refine ps_iadd C dX7_hears_76 ?_
  obtain ⟨hi12, h⟩ := ps_gd h
  refine ps_iast C (kf_20_1 hq) (fun _ _ => rfl) hi12 dX7_hears_77 (fun M13 eM13 => ?_)
  replace h := ps_lt eM13 h
  exact ps_end_v h hfin dX7_hears_78
set_option maxRecDepth 10000 in
theorem tt_X7_hears (l : Launch) (b : Nat) (D : va_G) {q : Nat} (hq : ps_ck 20 q = true) {a1 : Int32} {a2 : Int32} {M M9 : ps_M} {r : Int32} (h : ff_X7_hears q a1 a2 M = some (r, M9)) : ps_Tv l b D yX7_hears cX7_hears 4 3 [.ref (b + q), .int a1, .int a2] M M9 := by
  refine ps_met_v (own := RX7) (lv := [some (.ref (b + q)), some (.int a1), some (.int a2), none]) (by decide) rfl rfl (Nat.le_of_ble_eq_true rfl) rfl (fun X eX1 eX2 eX3 hRm eX5 C hfin => ?_)
  subst eX1 eX2 eX3
  unfold ff_X7_hears at h
  refine ps_iloadn1 C dX7_hears_0 ?_
  obtain ⟨r1, M1, hM1, h⟩ := ps_bd h
  refine ps_goS_i C (rest := []) (tt_X7_p (xl X) (xb X) (xD X) hM1) cw_X7_47 (ps_room hRm (by decide)) rfl rfl (Nat.le_of_ble_eq_true rfl) dX7_hears_1 ?_
  refine ps_istoren3 C rfl dX7_hears_4 ?_
  refine ps_aloadn0 C dX7_hears_5 ?_
  refine gf_X7_7 C hq dX7_hears_6 ?_
  refine ps_iloadn3 C dX7_hears_9 ?_
  refine ps_iconst C dX7_hears_10 pi_1 ?_
  refine ps_iadd C dX7_hears_11 ?_
  obtain ⟨hi2, h⟩ := ps_gd h
  refine ps_iald C (kf_20_1 hq) (fun _ _ => rfl) hi2 dX7_hears_12 ?_
  refine ps_if_lt C 34 dX7_hears_13 rfl (fun c16 => ?_) (fun c16 => ?_)
  · replace h := ps_ip c16 h
    exact bk_X7_hears_34 C hRm hfin hq a1 a2 r1 _ h
  · replace h := ps_in0 c16 h
    refine ps_aloadn0 C dX7_hears_16 ?_
    refine ps_iloadn1 C dX7_hears_17 ?_
    refine ps_bipush C dX7_hears_18 pb_26 ?_
    refine ps_aloadn0 C dX7_hears_20 ?_
    refine gf_X7_7 C hq dX7_hears_21 ?_
    refine ps_iloadn3 C dX7_hears_24 ?_
    refine ps_iconst C dX7_hears_25 pi_1 ?_
    refine ps_iadd C dX7_hears_26 ?_
    obtain ⟨hi14, h⟩ := ps_gd h
    refine ps_iald C (kf_20_1 hq) (fun _ _ => rfl) hi14 dX7_hears_27 ?_
    refine ps_imul C dX7_hears_28 ?_
    refine ps_iloadn2 C dX7_hears_29 ?_
    refine ps_iadd C dX7_hears_30 ?_
    obtain ⟨r15, M15, hM15, h⟩ := ps_bd h
    refine ps_goV_v C (rest := []) (tt_X7_grows (xl X) (xb X) (xD X) hq hM15) cw_X7_65 ps_rc20 hq (ps_room hRm (by decide)) rfl rfl (Nat.le_of_ble_eq_true rfl) dX7_hears_31 ?_
    exact bk_X7_hears_34 C hRm hfin hq a1 a2 r1 _ h
set_option maxRecDepth 10000 in
theorem tt_X7_isTired (l : Launch) (b : Nat) (D : va_G) {q : Nat} (hq : ps_ck 20 q = true) {a1 : Int32} {M M9 : ps_M} {r : Int32} (h : ff_X7_isTired q a1 M = some (r, M9)) : ps_Ti l b D yX7_isTired cX7_isTired 2 .boolean 1 [.ref (b + q), .int a1] M r M9 := by
  refine ps_met_i (own := RX7) (lv := [some (.ref (b + q)), some (.int a1)]) (by decide) rfl rfl (Nat.le_of_ble_eq_true rfl) rfl (fun X eX1 eX2 eX3 hRm eX5 C hfin => ?_)
  subst eX1 eX2 eX3
  unfold ff_X7_isTired at h
  refine ps_aloadn0 C dX7_isTired_0 ?_
  refine gf_X7_7 C hq dX7_isTired_1 ?_
  refine ps_iloadn1 C dX7_isTired_4 ?_
  obtain ⟨r1, M1, hM1, h⟩ := ps_bd h
  refine ps_goS_i C (rest := [.ref (xb X + (q + 1))]) (tt_X7_p (xl X) (xb X) (xD X) hM1) cw_X7_47 (ps_room hRm (by decide)) rfl rfl (Nat.le_of_ble_eq_true rfl) dX7_isTired_5 ?_
  refine ps_iconst C dX7_isTired_8 pi_2 ?_
  refine ps_iadd C dX7_isTired_9 ?_
  obtain ⟨hi2, h⟩ := ps_gd h
  refine ps_iald C (kf_20_1 hq) (fun _ _ => rfl) hi2 dX7_isTired_10 ?_
  refine ps_aloadn0 C dX7_isTired_11 ?_
  refine gf_X7_7 C hq dX7_isTired_12 ?_
  refine ps_iconst C dX7_isTired_15 pi_3 ?_
  obtain ⟨hi3, h⟩ := ps_gd h
  refine ps_iald C (kf_20_1 hq) (fun _ _ => rfl) hi3 dX7_isTired_16 ?_
  refine ps_ic_lt C 24 dX7_isTired_17 rfl (fun c4 => ?_) (fun c4 => ?_)
  · replace h := ps_ip c4 h
    refine ps_iconst C dX7_isTired_24 pi_0 ?_
    exact ps_end_i h hfin dX7_isTired_25 rfl
  · replace h := ps_in0 c4 h
    refine ps_iconst C dX7_isTired_20 pi_1 ?_
    refine ps_goto C 25 dX7_isTired_21 rfl ?_
    exact ps_end_i h hfin dX7_isTired_25 rfl
set_option maxRecDepth 10000 in
theorem bk_X7_goesOn_5 {X : ps_X} (C : ps_C X RX7 cX7_goesOn) (hRm : xR X = ps_lvl 1) {r : Int32} {M9 : ps_M} (hfin : ∀ pc lv, decode cX7_goesOn pc = .ok (.ireturn, 1) → narrow .int (.int r) = .int r → ps_G X M9 pc lv [.int r]) {q : Nat} (hq : ps_ck 20 q = true) : ∀ (n : Nat) (a1 : Int32) (a2 : Int32) (a3 : Int32) (a4 : Int32) (M : ps_M), fk_X7_goesOn_5 q n a1 a2 a3 a4 M = some (r, M9) → ps_G X M 5 [some (.ref (xb X + q)), some (.int a1), some (.int a2), some (.int a3), some (.int a4), none] [] := by
  intro n
  induction n with
  | zero => intro a1 a2 a3 a4 M h; rw [fk_X7_goesOn_5] at h; cases h
  | succ n ih =>
    intro a1 a2 a3 a4 M h
    rw [fk_X7_goesOn_5] at h
    refine ps_iload4 C dX7_goesOn_5 ?_
    refine ps_aloadn0 C dX7_goesOn_7 ?_
    refine gf_X7_7 C hq dX7_goesOn_8 ?_
    refine ps_iloadn1 C dX7_goesOn_11 ?_
    obtain ⟨r1, M1, hM1, h⟩ := ps_bd h
    refine ps_goS_i C (rest := [.ref (xb X + (q + 1)), .int a4]) (tt_X7_p (xl X) (xb X) (xD X) hM1) cw_X7_47 (ps_room hRm (by decide)) rfl rfl (Nat.le_of_ble_eq_true rfl) dX7_goesOn_12 ?_
    obtain ⟨hi2, h⟩ := ps_gd h
    refine ps_iald C (kf_20_1 hq) (fun _ _ => rfl) hi2 dX7_goesOn_15 ?_
    refine ps_ic_ge C 83 dX7_goesOn_16 rfl (fun c18 => ?_) (fun c18 => ?_)
    · replace h := ps_ip c18 h
      refine ps_iloadn3 C dX7_goesOn_83 ?_
      refine ps_iconst C dX7_goesOn_84 pi_m1 ?_
      refine ps_ic_ne C 92 dX7_goesOn_85 rfl (fun c5 => ?_) (fun c5 => ?_)
      · replace h := ps_in0 c5 h
        refine ps_aloadn0 C dX7_goesOn_92 ?_
        refine gf_X7_7 C hq dX7_goesOn_93 ?_
        refine ps_iloadn1 C dX7_goesOn_96 ?_
        refine ps_iloadn3 C dX7_goesOn_97 ?_
        obtain ⟨r3, M3, hM3, h⟩ := ps_bd h
        refine ps_goS_i C (rest := [.ref (xb X + (q + 1))]) (tt_X7_l (xl X) (xb X) (xD X) hM3) cw_X7_51 (ps_room hRm (by decide)) rfl rfl (Nat.le_of_ble_eq_true rfl) dX7_goesOn_98 ?_
        obtain ⟨hi4, h⟩ := ps_gd h
        refine ps_iald C (kf_20_1 hq) (fun _ _ => rfl) hi4 dX7_goesOn_101 ?_
        refine ps_bipush C dX7_goesOn_102 pb_26 ?_
        refine ps_irem C (by decide) dX7_goesOn_104 ?_
        exact ps_end_i h hfin dX7_goesOn_105 rfl
      · replace h := ps_ip c5 h
        refine ps_iconst C dX7_goesOn_88 pi_m1 ?_
        refine ps_goto C 105 dX7_goesOn_89 rfl ?_
        exact ps_end_i h hfin dX7_goesOn_105 rfl
    · replace h := ps_in0 c18 h
      refine ps_iloadn1 C dX7_goesOn_19 ?_
      refine ps_iload4 C dX7_goesOn_20 ?_
      obtain ⟨r6, M6, hM6, h⟩ := ps_bd h
      refine ps_goS_i C (rest := []) (tt_X7_l (xl X) (xb X) (xD X) hM6) cw_X7_51 (ps_room hRm (by decide)) rfl rfl (Nat.le_of_ble_eq_true rfl) dX7_goesOn_22 ?_
      refine ps_istore5 C rfl dX7_goesOn_25 ?_
      refine ps_aloadn0 C dX7_goesOn_27 ?_
      refine gf_X7_7 C hq dX7_goesOn_28 ?_
      refine ps_iload5 C dX7_goesOn_31 ?_
      obtain ⟨hi7, h⟩ := ps_gd h
      refine ps_iald C (kf_20_1 hq) (fun _ _ => rfl) hi7 dX7_goesOn_33 ?_
      refine ps_bipush C dX7_goesOn_34 pb_26 ?_
      refine ps_idiv C (by decide) dX7_goesOn_36 ?_
      refine ps_iloadn2 C dX7_goesOn_37 ?_
      refine ps_ic_ne C 75 dX7_goesOn_38 rfl (fun c17 => ?_) (fun c17 => ?_)
      · replace h := ps_in0 c17 h
        refine ps_iloadn3 C dX7_goesOn_75 ?_
        refine ps_istoren3 C rfl dX7_goesOn_76 ?_
        refine ps_iinc4 C rfl (nI 1) pi_1 dX7_goesOn_77 (fun x8 ex8 => ?_)
        replace h := ps_lt ex8 h
        refine ps_goto C 5 dX7_goesOn_80 rfl ?_
        refine ps_wk (lv' := [some (.ref (xb X + q)), some (.int a1), some (.int a2), some (.int a3), some (.int x8), none]) (ps_le_s rfl (ps_le_s rfl (ps_le_s rfl (ps_le_s rfl (ps_le_s rfl (ps_le_n ps_le_0)))))) ?_
        exact ih a1 a2 a3 x8 _ h
      · replace h := ps_ip c17 h
        refine ps_iloadn3 C dX7_goesOn_41 ?_
        refine ps_iconst C dX7_goesOn_42 pi_m1 ?_
        refine ps_ic_eq C 70 dX7_goesOn_43 rfl (fun c16 => ?_) (fun c16 => ?_)
        · replace h := ps_ip c16 h
          refine ps_iload4 C dX7_goesOn_70 ?_
          refine ps_goto C 76 dX7_goesOn_72 rfl ?_
          refine ps_istoren3 C rfl dX7_goesOn_76 ?_
          refine ps_iinc4 C rfl (nI 1) pi_1 dX7_goesOn_77 (fun x9 ex9 => ?_)
          replace h := ps_lt ex9 h
          refine ps_goto C 5 dX7_goesOn_80 rfl ?_
          refine ps_wk (lv' := [some (.ref (xb X + q)), some (.int a1), some (.int a2), some (.int a4), some (.int x9), none]) (ps_le_s rfl (ps_le_s rfl (ps_le_s rfl (ps_le_s rfl (ps_le_s rfl (ps_le_n ps_le_0)))))) ?_
          exact ih a1 a2 a4 x9 _ h
        · replace h := ps_in0 c16 h
          refine ps_aloadn0 C dX7_goesOn_46 ?_
          refine gf_X7_7 C hq dX7_goesOn_47 ?_
          refine ps_iload5 C dX7_goesOn_50 ?_
          refine ps_iconst C dX7_goesOn_52 pi_1 ?_
          refine ps_iadd C dX7_goesOn_53 ?_
          obtain ⟨hi10, h⟩ := ps_gd h
          refine ps_iald C (kf_20_1 hq) (fun _ _ => rfl) hi10 dX7_goesOn_54 ?_
          refine ps_aloadn0 C dX7_goesOn_55 ?_
          refine gf_X7_7 C hq dX7_goesOn_56 ?_
          refine ps_iloadn1 C dX7_goesOn_59 ?_
          refine ps_iloadn3 C dX7_goesOn_60 ?_
          obtain ⟨r11, M11, hM11, h⟩ := ps_bd h
          refine ps_goS_i C (rest := [.ref (xb X + (q + 1)), .int (ps_rd M6 (q + 1) (r6 + (nI 1)).toNatClampNeg)]) (tt_X7_l (xl X) (xb X) (xD X) hM11) cw_X7_51 (ps_room hRm (by decide)) rfl rfl (Nat.le_of_ble_eq_true rfl) dX7_goesOn_61 ?_
          refine ps_iconst C dX7_goesOn_64 pi_1 ?_
          refine ps_iadd C dX7_goesOn_65 ?_
          obtain ⟨hi12, h⟩ := ps_gd h
          refine ps_iald C (kf_20_1 hq) (fun _ _ => rfl) hi12 dX7_goesOn_66 ?_
          refine ps_ic_lt C 75 dX7_goesOn_67 rfl (fun c15 => ?_) (fun c15 => ?_)
          · replace h := ps_ip c15 h
            refine ps_iloadn3 C dX7_goesOn_75 ?_
            refine ps_istoren3 C rfl dX7_goesOn_76 ?_
            refine ps_iinc4 C rfl (nI 1) pi_1 dX7_goesOn_77 (fun x13 ex13 => ?_)
            replace h := ps_lt ex13 h
            refine ps_goto C 5 dX7_goesOn_80 rfl ?_
            refine ps_wk (lv' := [some (.ref (xb X + q)), some (.int a1), some (.int a2), some (.int a3), some (.int x13), none]) (ps_le_s rfl (ps_le_s rfl (ps_le_s rfl (ps_le_s rfl (ps_le_s rfl (ps_le_n ps_le_0)))))) ?_
            exact ih a1 a2 a3 x13 _ h
          · replace h := ps_in0 c15 h
            refine ps_iload4 C dX7_goesOn_70 ?_
            refine ps_goto C 76 dX7_goesOn_72 rfl ?_
            refine ps_istoren3 C rfl dX7_goesOn_76 ?_
            refine ps_iinc4 C rfl (nI 1) pi_1 dX7_goesOn_77 (fun x14 ex14 => ?_)
            replace h := ps_lt ex14 h
            refine ps_goto C 5 dX7_goesOn_80 rfl ?_
            refine ps_wk (lv' := [some (.ref (xb X + q)), some (.int a1), some (.int a2), some (.int a4), some (.int x14), none]) (ps_le_s rfl (ps_le_s rfl (ps_le_s rfl (ps_le_s rfl (ps_le_s rfl (ps_le_n ps_le_0)))))) ?_
            exact ih a1 a2 a4 x14 _ h
set_option maxRecDepth 10000 in
theorem tt_X7_goesOn (l : Launch) (b : Nat) (D : va_G) {q : Nat} (hq : ps_ck 20 q = true) {a1 : Int32} {a2 : Int32} {M M9 : ps_M} {r : Int32} (h : ff_X7_goesOn q a1 a2 M = some (r, M9)) : ps_Ti l b D yX7_goesOn cX7_goesOn 6 .int 1 [.ref (b + q), .int a1, .int a2] M r M9 := by
  refine ps_met_i (own := RX7) (lv := [some (.ref (b + q)), some (.int a1), some (.int a2), none, none, none]) (by decide) rfl rfl (Nat.le_of_ble_eq_true rfl) rfl (fun X eX1 eX2 eX3 hRm eX5 C hfin => ?_)
  subst eX1 eX2 eX3
  unfold ff_X7_goesOn at h
  refine ps_iconst C dX7_goesOn_0 pi_m1 ?_
  refine ps_istoren3 C rfl dX7_goesOn_1 ?_
  refine ps_iconst C dX7_goesOn_2 pi_0 ?_
  refine ps_istore4 C rfl dX7_goesOn_3 ?_
  exact bk_X7_goesOn_5 C hRm hfin hq ps_fu a1 a2 (ps_m 1) (nI 0) _ h
set_option maxRecDepth 10000 in
theorem bk_X7_right_8 {X : ps_X} (C : ps_C X RX7 cX7_right) (hRm : xR X = ps_lvl 2) {r : Int32} {M9 : ps_M} (hfin : ∀ pc lv, decode cX7_right pc = .ok (.ireturn, 1) → narrow .int (.int r) = .int r → ps_G X M9 pc lv [.int r]) {q : Nat} (hq : ps_ck 20 q = true) : ∀ (n : Nat) (a1 : Int32) (a2 : Int32) (a3 : Int32) (a4 : Int32) (M : ps_M), fk_X7_right_8 q n a1 a2 a3 a4 M = some (r, M9) → ps_G X M 8 [some (.ref (xb X + q)), some (.int a1), some (.int a2), some (.int a3), some (.int a4)] [] := by
  intro n
  induction n with
  | zero => intro a1 a2 a3 a4 M h; rw [fk_X7_right_8] at h; cases h
  | succ n ih =>
    intro a1 a2 a3 a4 M h
    rw [fk_X7_right_8] at h
    refine ps_iload4 C dX7_right_8 ?_
    refine ps_iconst C dX7_right_10 pi_1 ?_
    refine ps_iadd C dX7_right_11 ?_
    refine ps_aloadn0 C dX7_right_12 ?_
    refine gf_X7_7 C hq dX7_right_13 ?_
    refine ps_iloadn3 C dX7_right_16 ?_
    obtain ⟨hi2, h⟩ := ps_gd h
    refine ps_iald C (kf_20_1 hq) (fun _ _ => rfl) hi2 dX7_right_17 ?_
    refine ps_ic_ge C 57 dX7_right_18 rfl (fun c8 => ?_) (fun c8 => ?_)
    · replace h := ps_ip c8 h
      refine ps_iload4 C dX7_right_57 ?_
      exact ps_end_i h hfin dX7_right_59 rfl
    · replace h := ps_in0 c8 h
      refine ps_aloadn0 C dX7_right_21 ?_
      refine ps_iloadn1 C dX7_right_22 ?_
      refine ps_aloadn0 C dX7_right_23 ?_
      refine gf_X7_7 C hq dX7_right_24 ?_
      refine ps_iloadn3 C dX7_right_27 ?_
      refine ps_iconst C dX7_right_28 pi_2 ?_
      refine ps_iadd C dX7_right_29 ?_
      refine ps_iload4 C dX7_right_30 ?_
      refine ps_iadd C dX7_right_32 ?_
      obtain ⟨hi3, h⟩ := ps_gd h
      refine ps_iald C (kf_20_1 hq) (fun _ _ => rfl) hi3 dX7_right_33 ?_
      obtain ⟨r4, M4, hM4, h⟩ := ps_bd h
      refine ps_goV_i C (rest := []) (tt_X7_goesOn (xl X) (xb X) (xD X) hq hM4) cw_X7_71 ps_rc20 hq (ps_room hRm (by decide)) rfl rfl (Nat.le_of_ble_eq_true rfl) dX7_right_34 ?_
      refine ps_aloadn0 C dX7_right_37 ?_
      refine gf_X7_7 C hq dX7_right_38 ?_
      refine ps_iloadn3 C dX7_right_41 ?_
      refine ps_iconst C dX7_right_42 pi_3 ?_
      refine ps_iadd C dX7_right_43 ?_
      refine ps_iload4 C dX7_right_44 ?_
      refine ps_iadd C dX7_right_46 ?_
      obtain ⟨hi5, h⟩ := ps_gd h
      refine ps_iald C (kf_20_1 hq) (fun _ _ => rfl) hi5 dX7_right_47 ?_
      refine ps_ic_ne C 57 dX7_right_48 rfl (fun c7 => ?_) (fun c7 => ?_)
      · replace h := ps_in0 c7 h
        refine ps_iload4 C dX7_right_57 ?_
        exact ps_end_i h hfin dX7_right_59 rfl
      · replace h := ps_ip c7 h
        refine ps_iinc4 C rfl (nI 1) pi_1 dX7_right_51 (fun x6 ex6 => ?_)
        replace h := ps_lt ex6 h
        refine ps_goto C 8 dX7_right_54 rfl ?_
        exact ih a1 a2 a3 x6 _ h
set_option maxRecDepth 10000 in
theorem tt_X7_right (l : Launch) (b : Nat) (D : va_G) {q : Nat} (hq : ps_ck 20 q = true) {a1 : Int32} {a2 : Int32} {M M9 : ps_M} {r : Int32} (h : ff_X7_right q a1 a2 M = some (r, M9)) : ps_Ti l b D yX7_right cX7_right 5 .int 2 [.ref (b + q), .int a1, .int a2] M r M9 := by
  refine ps_met_i (own := RX7) (lv := [some (.ref (b + q)), some (.int a1), some (.int a2), none, none]) (by decide) rfl rfl (Nat.le_of_ble_eq_true rfl) rfl (fun X eX1 eX2 eX3 hRm eX5 C hfin => ?_)
  subst eX1 eX2 eX3
  unfold ff_X7_right at h
  refine ps_iloadn2 C dX7_right_0 ?_
  obtain ⟨r1, M1, hM1, h⟩ := ps_bd h
  refine ps_goS_i C (rest := []) (tt_X7_n (xl X) (xb X) (xD X) hM1) cw_X7_68 (ps_room hRm (by decide)) rfl rfl (Nat.le_of_ble_eq_true rfl) dX7_right_1 ?_
  refine ps_istoren3 C rfl dX7_right_4 ?_
  refine ps_iconst C dX7_right_5 pi_0 ?_
  refine ps_istore4 C rfl dX7_right_6 ?_
  exact bk_X7_right_8 C hRm hfin hq ps_fu a1 a2 r1 (nI 0) _ h
set_option maxRecDepth 10000 in
theorem tt_X7_hundredths (l : Launch) (b : Nat) (D : va_G) {q : Nat} (hq : ps_ck 20 q = true) {a1 : Int32} {a2 : Int32} {M M9 : ps_M} {r : Int32} (h : ff_X7_hundredths q a1 a2 M = some (r, M9)) : ps_Ti l b D yX7_hundredths cX7_hundredths 3 .int 3 [.ref (b + q), .int a1, .int a2] M r M9 := by
  refine ps_met_i (own := RX7) (lv := [some (.ref (b + q)), some (.int a1), some (.int a2)]) (by decide) rfl rfl (Nat.le_of_ble_eq_true rfl) rfl (fun X eX1 eX2 eX3 hRm eX5 C hfin => ?_)
  subst eX1 eX2 eX3
  unfold ff_X7_hundredths at h
  refine ps_aloadn0 C dX7_hundredths_0 ?_
  refine gf_X7_7 C hq dX7_hundredths_1 ?_
  refine ps_iloadn2 C dX7_hundredths_4 ?_
  obtain ⟨r1, M1, hM1, h⟩ := ps_bd h
  refine ps_goS_i C (rest := [.ref (xb X + (q + 1))]) (tt_X7_n (xl X) (xb X) (xD X) hM1) cw_X7_68 (ps_room hRm (by decide)) rfl rfl (Nat.le_of_ble_eq_true rfl) dX7_hundredths_5 ?_
  obtain ⟨hi2, h⟩ := ps_gd h
  refine ps_iald C (kf_20_1 hq) (fun _ _ => rfl) hi2 dX7_hundredths_8 ?_
  refine ps_iconst C dX7_hundredths_9 pi_1 ?_
  refine ps_ic_ne C 18 dX7_hundredths_10 rfl (fun c7 => ?_) (fun c7 => ?_)
  · replace h := ps_in0 c7 h
    refine ps_bipush C dX7_hundredths_18 pb_100 ?_
    refine ps_aloadn0 C dX7_hundredths_20 ?_
    refine ps_iloadn1 C dX7_hundredths_21 ?_
    refine ps_iloadn2 C dX7_hundredths_22 ?_
    obtain ⟨r3, M3, hM3, h⟩ := ps_bd h
    refine ps_goV_i C (rest := [.int (nI 100)]) (tt_X7_right (xl X) (xb X) (xD X) hq hM3) cw_X7_74 ps_rc20 hq (ps_room hRm (by decide)) rfl rfl (Nat.le_of_ble_eq_true rfl) dX7_hundredths_23 ?_
    refine ps_imul C dX7_hundredths_26 ?_
    refine ps_aloadn0 C dX7_hundredths_27 ?_
    refine gf_X7_7 C hq dX7_hundredths_28 ?_
    refine ps_iloadn2 C dX7_hundredths_31 ?_
    obtain ⟨r4, M4, hM4, h⟩ := ps_bd h
    refine ps_goS_i C (rest := [.ref (xb X + (q + 1)), .int ((nI 100) * r3)]) (tt_X7_n (xl X) (xb X) (xD X) hM4) cw_X7_68 (ps_room hRm (by decide)) rfl rfl (Nat.le_of_ble_eq_true rfl) dX7_hundredths_32 ?_
    obtain ⟨hi5, h⟩ := ps_gd h
    refine ps_iald C (kf_20_1 hq) (fun _ _ => rfl) hi5 dX7_hundredths_35 ?_
    refine ps_iconst C dX7_hundredths_36 pi_1 ?_
    refine ps_isub C dX7_hundredths_37 ?_
    obtain ⟨hz6, h⟩ := ps_gd h
    refine ps_idiv C hz6 dX7_hundredths_38 ?_
    exact ps_end_i h hfin dX7_hundredths_39 rfl
  · replace h := ps_ip c7 h
    refine ps_bipush C dX7_hundredths_13 pb_100 ?_
    refine ps_goto C 39 dX7_hundredths_15 rfl ?_
    exact ps_end_i h hfin dX7_hundredths_39 rfl
set_option maxRecDepth 10000 in
theorem bk_X7_known_4 {X : ps_X} (C : ps_C X RX7 cX7_known) (hRm : xR X = ps_lvl 4) {r : Int32} {M9 : ps_M} (hfin : ∀ pc lv, decode cX7_known pc = .ok (.ireturn, 1) → narrow .int (.int r) = .int r → ps_G X M9 pc lv [.int r]) {q : Nat} (hq : ps_ck 20 q = true) : ∀ (n : Nat) (a1 : Int32) (a2 : Int32) (a3 : Int32) (M : ps_M), fk_X7_known_4 q n a1 a2 a3 M = some (r, M9) → ps_G X M 4 [some (.ref (xb X + q)), some (.int a1), some (.int a2), some (.int a3)] [] := by
  intro n
  induction n with
  | zero => intro a1 a2 a3 M h; rw [fk_X7_known_4] at h; cases h
  | succ n ih =>
    intro a1 a2 a3 M h
    rw [fk_X7_known_4] at h
    refine ps_iloadn3 C dX7_known_4 ?_
    refine ps_aloadn0 C dX7_known_5 ?_
    refine gf_X7_7 C hq dX7_known_6 ?_
    refine ps_iconst C dX7_known_9 pi_5 ?_
    obtain ⟨hi1, h⟩ := ps_gd h
    refine ps_iald C (kf_20_1 hq) (fun _ _ => rfl) hi1 dX7_known_10 ?_
    refine ps_ic_ge C 29 dX7_known_11 rfl (fun c5 => ?_) (fun c5 => ?_)
    · replace h := ps_ip c5 h
      refine ps_iloadn2 C dX7_known_29 ?_
      exact ps_end_i h hfin dX7_known_30 rfl
    · replace h := ps_in0 c5 h
      refine ps_iloadn2 C dX7_known_14 ?_
      refine ps_aloadn0 C dX7_known_15 ?_
      refine ps_iloadn1 C dX7_known_16 ?_
      refine ps_iloadn3 C dX7_known_17 ?_
      obtain ⟨r2, M2, hM2, h⟩ := ps_bd h
      refine ps_goV_i C (rest := [.int a2]) (tt_X7_hundredths (xl X) (xb X) (xD X) hq hM2) cw_X7_77 ps_rc20 hq (ps_room hRm (by decide)) rfl rfl (Nat.le_of_ble_eq_true rfl) dX7_known_18 ?_
      refine ps_iadd C dX7_known_21 ?_
      refine ps_nmi (fun x3 ex3 => ?_)
      replace h := ps_lt ex3 h
      refine ps_istoren2 C rfl dX7_known_22 ?_
      refine ps_iinc3 C rfl (nI 1) pi_1 dX7_known_23 (fun x4 ex4 => ?_)
      replace h := ps_lt ex4 h
      refine ps_goto C 4 dX7_known_26 rfl ?_
      exact ih a1 x3 x4 _ h
set_option maxRecDepth 10000 in
theorem tt_X7_known (l : Launch) (b : Nat) (D : va_G) {q : Nat} (hq : ps_ck 20 q = true) {a1 : Int32} {M M9 : ps_M} {r : Int32} (h : ff_X7_known q a1 M = some (r, M9)) : ps_Ti l b D yX7_known cX7_known 4 .int 4 [.ref (b + q), .int a1] M r M9 := by
  refine ps_met_i (own := RX7) (lv := [some (.ref (b + q)), some (.int a1), none, none]) (by decide) rfl rfl (Nat.le_of_ble_eq_true rfl) rfl (fun X eX1 eX2 eX3 hRm eX5 C hfin => ?_)
  subst eX1 eX2 eX3
  unfold ff_X7_known at h
  refine ps_iconst C dX7_known_0 pi_0 ?_
  refine ps_istoren2 C rfl dX7_known_1 ?_
  refine ps_iconst C dX7_known_2 pi_0 ?_
  refine ps_istoren3 C rfl dX7_known_3 ?_
  exact bk_X7_known_4 C hRm hfin hq ps_fu a1 (nI 0) (nI 0) _ h
set_option maxRecDepth 10000 in
theorem bk_X7_comes_27 {X : ps_X} (C : ps_C X RX7 cX7_comes) (hRm : xR X = ps_lvl 1) {r : Int32} {M9 : ps_M} (hfin : ∀ pc lv, decode cX7_comes pc = .ok (.ireturn, 1) → narrow .int (.int r) = .int r → ps_G X M9 pc lv [.int r]) {q : Nat} (hq : ps_ck 20 q = true) : ∀ (n : Nat) (a1 : Int32) (a2 : Int32) (M : ps_M), fk_X7_comes_27 q n a1 a2 M = some (r, M9) → ps_G X M 27 [some (.ref (xb X + q)), some (.int a1), some (.int a2)] [] := by
  intro n
  induction n with
  | zero => intro a1 a2 M h; rw [fk_X7_comes_27] at h; cases h
  | succ n ih =>
    intro a1 a2 M h
    rw [fk_X7_comes_27] at h
    refine ps_iloadn2 C dX7_comes_27 ?_
    refine ps_iconst C dX7_comes_28 pi_5 ?_
    refine ps_ic_ge C 47 dX7_comes_29 rfl (fun c13 => ?_) (fun c13 => ?_)
    · replace h := ps_ip c13 h
      refine ps_aloadn0 C dX7_comes_47 ?_
      refine gf_X7_7 C hq dX7_comes_48 ?_
      refine ps_iloadn1 C dX7_comes_51 ?_
      refine ps_iconst C dX7_comes_52 pi_1 ?_
      refine ps_iadd C dX7_comes_53 ?_
      refine ps_iconst C dX7_comes_54 pi_m1 ?_
      obtain ⟨hi4, h⟩ := ps_gd h
      refine ps_iast C (kf_20_1 hq) (fun _ _ => rfl) hi4 dX7_comes_55 (fun M5 eM5 => ?_)
      replace h := ps_lt eM5 h
      refine ps_aloadn0 C dX7_comes_56 ?_
      refine gf_X7_7 C hq dX7_comes_57 ?_
      refine ps_bipush C dX7_comes_60 pb_6 ?_
      refine ps_dup2 C rfl rfl dX7_comes_62 ?_
      obtain ⟨hi6, h⟩ := ps_gd h
      refine ps_iald C (kf_20_1 hq) (fun _ _ => rfl) hi6 dX7_comes_63 ?_
      refine ps_iconst C dX7_comes_64 pi_1 ?_
      refine ps_iadd C dX7_comes_65 ?_
      obtain ⟨hi7, h⟩ := ps_gd h
      refine ps_iast C (kf_20_1 hq) (fun _ _ => rfl) hi7 dX7_comes_66 (fun M8 eM8 => ?_)
      replace h := ps_lt eM8 h
      refine ps_aloadn0 C dX7_comes_67 ?_
      refine gf_X7_7 C hq dX7_comes_68 ?_
      refine ps_bipush C dX7_comes_71 pb_6 ?_
      obtain ⟨hi9, h⟩ := ps_gd h
      refine ps_iald C (kf_20_1 hq) (fun _ _ => rfl) hi9 dX7_comes_73 ?_
      refine ps_iconst C dX7_comes_74 pi_1 ?_
      refine ps_isub C dX7_comes_75 ?_
      exact ps_end_i h hfin dX7_comes_76 rfl
    · replace h := ps_in0 c13 h
      refine ps_aloadn0 C dX7_comes_32 ?_
      refine gf_X7_7 C hq dX7_comes_33 ?_
      refine ps_iloadn1 C dX7_comes_36 ?_
      refine ps_iloadn2 C dX7_comes_37 ?_
      refine ps_iadd C dX7_comes_38 ?_
      refine ps_iconst C dX7_comes_39 pi_0 ?_
      obtain ⟨hi10, h⟩ := ps_gd h
      refine ps_iast C (kf_20_1 hq) (fun _ _ => rfl) hi10 dX7_comes_40 (fun M11 eM11 => ?_)
      replace h := ps_lt eM11 h
      refine ps_iinc2 C rfl (nI 1) pi_1 dX7_comes_41 (fun x12 ex12 => ?_)
      replace h := ps_lt ex12 h
      refine ps_goto C 27 dX7_comes_44 rfl ?_
      exact ih a1 x12 _ h
set_option maxRecDepth 10000 in
theorem tt_X7_comes (l : Launch) (b : Nat) (D : va_G) {q : Nat} (hq : ps_ck 20 q = true) {M M9 : ps_M} {r : Int32} (h : ff_X7_comes q  M = some (r, M9)) : ps_Ti l b D yX7_comes cX7_comes 3 .int 1 [.ref (b + q)] M r M9 := by
  refine ps_met_i (own := RX7) (lv := [some (.ref (b + q)), none, none]) (by decide) rfl rfl (Nat.le_of_ble_eq_true rfl) rfl (fun X eX1 eX2 eX3 hRm eX5 C hfin => ?_)
  subst eX1 eX2 eX3
  unfold ff_X7_comes at h
  refine ps_aloadn0 C dX7_comes_0 ?_
  refine gf_X7_7 C hq dX7_comes_1 ?_
  refine ps_bipush C dX7_comes_4 pb_6 ?_
  obtain ⟨hi1, h⟩ := ps_gd h
  refine ps_iald C (kf_20_1 hq) (fun _ _ => rfl) hi1 dX7_comes_6 ?_
  refine ps_iconst C dX7_comes_7 pi_4 ?_
  refine ps_ic_ne C 14 dX7_comes_8 rfl (fun c14 => ?_) (fun c14 => ?_)
  · replace h := ps_in0 c14 h
    refine ps_aloadn0 C dX7_comes_14 ?_
    refine gf_X7_7 C hq dX7_comes_15 ?_
    refine ps_bipush C dX7_comes_18 pb_6 ?_
    obtain ⟨hi2, h⟩ := ps_gd h
    refine ps_iald C (kf_20_1 hq) (fun _ _ => rfl) hi2 dX7_comes_20 ?_
    obtain ⟨r3, M3, hM3, h⟩ := ps_bd h
    refine ps_goS_i C (rest := []) (tt_X7_p (xl X) (xb X) (xD X) hM3) cw_X7_47 (ps_room hRm (by decide)) rfl rfl (Nat.le_of_ble_eq_true rfl) dX7_comes_21 ?_
    refine ps_istoren1 C rfl dX7_comes_24 ?_
    refine ps_iconst C dX7_comes_25 pi_0 ?_
    refine ps_istoren2 C rfl dX7_comes_26 ?_
    exact bk_X7_comes_27 C hRm hfin hq ps_fu r3 (nI 0) _ h
  · replace h := ps_ip c14 h
    refine ps_bipush C dX7_comes_11 pb_m4 ?_
    exact ps_end_i h hfin dX7_comes_13 rfl
set_option maxRecDepth 10000 in
theorem bk_X7_song_43 {X : ps_X} (C : ps_C X RX7 cX7_song) (hRm : xR X = ps_lvl 1) {r : Int32} {M9 : ps_M} (hfin : ∀ pc lv, decode cX7_song pc = .ok (.ireturn, 1) → narrow .int (.int r) = .int r → ps_G X M9 pc lv [.int r]) {q : Nat} (hq : ps_ck 20 q = true) : ∀ (n : Nat) (a1 : Int32) (a2 : Int32) (a3 : Int32) (a4 : Int32) (M : ps_M), fk_X7_song_43 q n a1 a2 a3 a4 M = some (r, M9) → ps_G X M 43 [some (.ref (xb X + q)), some (.int a1), some (.int a2), some (.int a3), some (.int a4)] [] := by
  intro n
  induction n with
  | zero => intro a1 a2 a3 a4 M h; rw [fk_X7_song_43] at h; cases h
  | succ n ih =>
    intro a1 a2 a3 a4 M h
    rw [fk_X7_song_43] at h
    refine ps_iload4 C dX7_song_43 ?_
    refine ps_iloadn2 C dX7_song_45 ?_
    refine ps_ic_ge C 78 dX7_song_46 rfl (fun c16 => ?_) (fun c16 => ?_)
    · replace h := ps_ip c16 h
      refine ps_aloadn0 C dX7_song_78 ?_
      refine gf_X7_7 C hq dX7_song_79 ?_
      refine ps_iconst C dX7_song_82 pi_5 ?_
      refine ps_dup2 C rfl rfl dX7_song_83 ?_
      obtain ⟨hi8, h⟩ := ps_gd h
      refine ps_iald C (kf_20_1 hq) (fun _ _ => rfl) hi8 dX7_song_84 ?_
      refine ps_iconst C dX7_song_85 pi_1 ?_
      refine ps_iadd C dX7_song_86 ?_
      obtain ⟨hi9, h⟩ := ps_gd h
      refine ps_iast C (kf_20_1 hq) (fun _ _ => rfl) hi9 dX7_song_87 (fun M10 eM10 => ?_)
      replace h := ps_lt eM10 h
      refine ps_aloadn0 C dX7_song_88 ?_
      refine gf_X7_7 C hq dX7_song_89 ?_
      refine ps_iconst C dX7_song_92 pi_5 ?_
      obtain ⟨hi11, h⟩ := ps_gd h
      refine ps_iald C (kf_20_1 hq) (fun _ _ => rfl) hi11 dX7_song_93 ?_
      refine ps_iconst C dX7_song_94 pi_1 ?_
      refine ps_isub C dX7_song_95 ?_
      exact ps_end_i h hfin dX7_song_96 rfl
    · replace h := ps_in0 c16 h
      refine ps_aloadn0 C dX7_song_49 ?_
      refine gf_X7_7 C hq dX7_song_50 ?_
      refine ps_iloadn3 C dX7_song_53 ?_
      refine ps_iconst C dX7_song_54 pi_2 ?_
      refine ps_iadd C dX7_song_55 ?_
      refine ps_iload4 C dX7_song_56 ?_
      refine ps_iadd C dX7_song_58 ?_
      refine ps_aloadn0 C dX7_song_59 ?_
      refine gf_X7_35 C hq dX7_song_60 ?_
      refine ps_iloadn1 C dX7_song_63 ?_
      refine ps_iload4 C dX7_song_64 ?_
      refine ps_iadd C dX7_song_66 ?_
      obtain ⟨hi12, h⟩ := ps_gd h
      refine ps_cald C (kf_20_9 hq) (fun _ _ => rfl) hi12 dX7_song_67 ?_
      refine ps_bipush C dX7_song_68 pb_97 ?_
      refine ps_isub C dX7_song_70 ?_
      obtain ⟨hi13, h⟩ := ps_gd h
      refine ps_iast C (kf_20_1 hq) (fun _ _ => rfl) hi13 dX7_song_71 (fun M14 eM14 => ?_)
      replace h := ps_lt eM14 h
      refine ps_iinc4 C rfl (nI 1) pi_1 dX7_song_72 (fun x15 ex15 => ?_)
      replace h := ps_lt ex15 h
      refine ps_goto C 43 dX7_song_75 rfl ?_
      exact ih a1 a2 a3 x15 _ h
set_option maxRecDepth 10000 in
theorem tt_X7_song (l : Launch) (b : Nat) (D : va_G) {q : Nat} (hq : ps_ck 20 q = true) {a1 : Int32} {a2 : Int32} {M M9 : ps_M} {r : Int32} (h : ff_X7_song q a1 a2 M = some (r, M9)) : ps_Ti l b D yX7_song cX7_song 5 .int 1 [.ref (b + q), .int a1, .int a2] M r M9 := by
  refine ps_met_i (own := RX7) (lv := [some (.ref (b + q)), some (.int a1), some (.int a2), none, none]) (by decide) rfl rfl (Nat.le_of_ble_eq_true rfl) rfl (fun X eX1 eX2 eX3 hRm eX5 C hfin => ?_)
  subst eX1 eX2 eX3
  unfold ff_X7_song at h
  refine ps_aloadn0 C dX7_song_0 ?_
  refine gf_X7_7 C hq dX7_song_1 ?_
  refine ps_iconst C dX7_song_4 pi_5 ?_
  obtain ⟨hi1, h⟩ := ps_gd h
  refine ps_iald C (kf_20_1 hq) (fun _ _ => rfl) hi1 dX7_song_5 ?_
  refine ps_bipush C dX7_song_6 pb_8 ?_
  refine ps_ic_ne C 14 dX7_song_8 rfl (fun c17 => ?_) (fun c17 => ?_)
  · replace h := ps_in0 c17 h
    refine ps_aloadn0 C dX7_song_14 ?_
    refine gf_X7_7 C hq dX7_song_15 ?_
    refine ps_iconst C dX7_song_18 pi_5 ?_
    obtain ⟨hi2, h⟩ := ps_gd h
    refine ps_iald C (kf_20_1 hq) (fun _ _ => rfl) hi2 dX7_song_19 ?_
    obtain ⟨r3, M3, hM3, h⟩ := ps_bd h
    refine ps_goS_i C (rest := []) (tt_X7_n (xl X) (xb X) (xD X) hM3) cw_X7_68 (ps_room hRm (by decide)) rfl rfl (Nat.le_of_ble_eq_true rfl) dX7_song_20 ?_
    refine ps_istoren3 C rfl dX7_song_23 ?_
    refine ps_aloadn0 C dX7_song_24 ?_
    refine gf_X7_7 C hq dX7_song_25 ?_
    refine ps_iloadn3 C dX7_song_28 ?_
    refine ps_iloadn2 C dX7_song_29 ?_
    obtain ⟨hi4, h⟩ := ps_gd h
    refine ps_iast C (kf_20_1 hq) (fun _ _ => rfl) hi4 dX7_song_30 (fun M5 eM5 => ?_)
    replace h := ps_lt eM5 h
    refine ps_aloadn0 C dX7_song_31 ?_
    refine gf_X7_7 C hq dX7_song_32 ?_
    refine ps_iloadn3 C dX7_song_35 ?_
    refine ps_iconst C dX7_song_36 pi_1 ?_
    refine ps_iadd C dX7_song_37 ?_
    refine ps_iconst C dX7_song_38 pi_0 ?_
    obtain ⟨hi6, h⟩ := ps_gd h
    refine ps_iast C (kf_20_1 hq) (fun _ _ => rfl) hi6 dX7_song_39 (fun M7 eM7 => ?_)
    replace h := ps_lt eM7 h
    refine ps_iconst C dX7_song_40 pi_0 ?_
    refine ps_istore4 C rfl dX7_song_41 ?_
    exact bk_X7_song_43 C hRm hfin hq ps_fu a1 a2 r3 (nI 0) _ h
  · replace h := ps_ip c17 h
    refine ps_bipush C dX7_song_11 pb_m4 ?_
    exact ps_end_i h hfin dX7_song_13 rfl
set_option maxRecDepth 10000 in
theorem bk_X7_teaches_101 {X : ps_X} (C : ps_C X RX7 cX7_teaches) (hRm : xR X = ps_lvl 4) {r : Int32} {M9 : ps_M} (hfin : ∀ pc lv, decode cX7_teaches pc = .ok (.ireturn, 1) → narrow .int (.int r) = .int r → ps_G X M9 pc lv [.int r]) {q : Nat} (hq : ps_ck 20 q = true) (a1 : Int32) (a2 : Int32) (a3 : Int32) (a4 : Int32) (M : ps_M) (h : fk_X7_teaches_101 q a1 a2 a3 a4 M = some (r, M9)) : ps_G X M 101 [some (.ref (xb X + q)), some (.int a1), some (.int a2), some (.int a3), some (.int a4)] [] := by
  unfold fk_X7_teaches_101 at h
  refine ps_aloadn0 C dX7_teaches_101 ?_
  refine gf_X7_7 C hq dX7_teaches_102 ?_
  refine ps_iloadn2 C dX7_teaches_105 ?_
  obtain ⟨r9, M9, hM9, h⟩ := ps_bd h
  refine ps_goS_i C (rest := [.ref (xb X + (q + 1))]) (tt_X7_n (xl X) (xb X) (xD X) hM9) cw_X7_68 (ps_room hRm (by decide)) rfl rfl (Nat.le_of_ble_eq_true rfl) dX7_teaches_106 ?_
  refine ps_iconst C dX7_teaches_109 pi_1 ?_
  refine ps_iadd C dX7_teaches_110 ?_
  refine ps_dup2 C rfl rfl dX7_teaches_111 ?_
  obtain ⟨hi10, h⟩ := ps_gd h
  refine ps_iald C (kf_20_1 hq) (fun _ _ => rfl) hi10 dX7_teaches_112 ?_
  refine ps_iconst C dX7_teaches_113 pi_1 ?_
  refine ps_iadd C dX7_teaches_114 ?_
  obtain ⟨hi11, h⟩ := ps_gd h
  refine ps_iast C (kf_20_1 hq) (fun _ _ => rfl) hi11 dX7_teaches_115 (fun M12 eM12 => ?_)
  replace h := ps_lt eM12 h
  refine ps_aloadn0 C dX7_teaches_116 ?_
  refine gf_X7_7 C hq dX7_teaches_117 ?_
  refine ps_bipush C dX7_teaches_120 pb_7 ?_
  refine ps_dup2 C rfl rfl dX7_teaches_122 ?_
  obtain ⟨hi13, h⟩ := ps_gd h
  refine ps_iald C (kf_20_1 hq) (fun _ _ => rfl) hi13 dX7_teaches_123 ?_
  refine ps_iconst C dX7_teaches_124 pi_1 ?_
  refine ps_iadd C dX7_teaches_125 ?_
  obtain ⟨hi14, h⟩ := ps_gd h
  refine ps_iast C (kf_20_1 hq) (fun _ _ => rfl) hi14 dX7_teaches_126 (fun M15 eM15 => ?_)
  replace h := ps_lt eM15 h
  refine ps_iload4 C dX7_teaches_127 ?_
  refine ps_iloadn3 C dX7_teaches_129 ?_
  refine ps_isub C dX7_teaches_130 ?_
  exact ps_end_i h hfin dX7_teaches_131 rfl
set_option maxRecDepth 10000 in
theorem bk_X7_teaches_54 {X : ps_X} (C : ps_C X RX7 cX7_teaches) (hRm : xR X = ps_lvl 4) {r : Int32} {M9 : ps_M} (hfin : ∀ pc lv, decode cX7_teaches pc = .ok (.ireturn, 1) → narrow .int (.int r) = .int r → ps_G X M9 pc lv [.int r]) {q : Nat} (hq : ps_ck 20 q = true) : ∀ (n : Nat) (a1 : Int32) (a2 : Int32) (a3 : Int32) (a4 : Int32) (M : ps_M), fk_X7_teaches_54 q n a1 a2 a3 a4 M = some (r, M9) → ps_G X M 54 [some (.ref (xb X + q)), some (.int a1), some (.int a2), some (.int a3), some (.int a4)] [] := by
  intro n
  induction n with
  | zero => intro a1 a2 a3 a4 M h; rw [fk_X7_teaches_54] at h; cases h
  | succ n ih =>
    intro a1 a2 a3 a4 M h
    rw [fk_X7_teaches_54] at h
    refine ps_iload4 C dX7_teaches_54 ?_
    refine ps_aloadn0 C dX7_teaches_56 ?_
    refine gf_X7_7 C hq dX7_teaches_57 ?_
    refine ps_iloadn2 C dX7_teaches_60 ?_
    obtain ⟨r7, M7, hM7, h⟩ := ps_bd h
    refine ps_goS_i C (rest := [.ref (xb X + (q + 1)), .int a4]) (tt_X7_n (xl X) (xb X) (xD X) hM7) cw_X7_68 (ps_room hRm (by decide)) rfl rfl (Nat.le_of_ble_eq_true rfl) dX7_teaches_61 ?_
    obtain ⟨hi8, h⟩ := ps_gd h
    refine ps_iald C (kf_20_1 hq) (fun _ _ => rfl) hi8 dX7_teaches_64 ?_
    refine ps_ic_ge C 101 dX7_teaches_65 rfl (fun c22 => ?_) (fun c22 => ?_)
    · replace h := ps_ip c22 h
      exact bk_X7_teaches_101 C hRm hfin hq a1 a2 a3 a4 _ h
    · replace h := ps_in0 c22 h
      refine ps_aloadn0 C dX7_teaches_68 ?_
      refine ps_iloadn1 C dX7_teaches_69 ?_
      obtain ⟨r16, M16, hM16, h⟩ := ps_bd h
      refine ps_goV_i C (rest := []) (tt_X7_isTired (xl X) (xb X) (xD X) hq hM16) cw_X7_87 ps_rc20 hq (ps_room hRm (by decide)) rfl rfl (Nat.le_of_ble_eq_true rfl) dX7_teaches_70 ?_
      refine ps_if_ne C 101 dX7_teaches_73 rfl (fun c21 => ?_) (fun c21 => ?_)
      · replace h := ps_in0 c21 h
        exact bk_X7_teaches_101 C hRm hfin hq a1 a2 a3 a4 _ h
      · replace h := ps_ip c21 h
        refine ps_aloadn0 C dX7_teaches_76 ?_
        refine ps_iloadn1 C dX7_teaches_77 ?_
        refine ps_aloadn0 C dX7_teaches_78 ?_
        refine gf_X7_7 C hq dX7_teaches_79 ?_
        refine ps_iloadn2 C dX7_teaches_82 ?_
        obtain ⟨r17, M17, hM17, h⟩ := ps_bd h
        refine ps_goS_i C (rest := [.ref (xb X + (q + 1)), .int a1, .ref (xb X + q)]) (tt_X7_n (xl X) (xb X) (xD X) hM17) cw_X7_68 (ps_room hRm (by decide)) rfl rfl (Nat.le_of_ble_eq_true rfl) dX7_teaches_83 ?_
        refine ps_iconst C dX7_teaches_86 pi_2 ?_
        refine ps_iadd C dX7_teaches_87 ?_
        refine ps_iload4 C dX7_teaches_88 ?_
        refine ps_iadd C dX7_teaches_90 ?_
        obtain ⟨hi18, h⟩ := ps_gd h
        refine ps_iald C (kf_20_1 hq) (fun _ _ => rfl) hi18 dX7_teaches_91 ?_
        obtain ⟨r19, M19, hM19, h⟩ := ps_bd h
        refine ps_goV_v C (rest := []) (tt_X7_hears (xl X) (xb X) (xD X) hq hM19) cw_X7_90 ps_rc20 hq (ps_room hRm (by decide)) rfl rfl (Nat.le_of_ble_eq_true rfl) dX7_teaches_92 ?_
        refine ps_iinc4 C rfl (nI 1) pi_1 dX7_teaches_95 (fun x20 ex20 => ?_)
        replace h := ps_lt ex20 h
        refine ps_goto C 54 dX7_teaches_98 rfl ?_
        exact ih a1 a2 a3 x20 _ h
set_option maxRecDepth 10000 in
theorem tt_X7_teaches (l : Launch) (b : Nat) (D : va_G) {q : Nat} (hq : ps_ck 20 q = true) {a1 : Int32} {a2 : Int32} {a3 : Int32} {M M9 : ps_M} {r : Int32} (h : ff_X7_teaches q a1 a2 a3 M = some (r, M9)) : ps_Ti l b D yX7_teaches cX7_teaches 5 .int 4 [.ref (b + q), .int a1, .int a2, .int a3] M r M9 := by
  refine ps_met_i (own := RX7) (lv := [some (.ref (b + q)), some (.int a1), some (.int a2), some (.int a3), none]) (by decide) rfl rfl (Nat.le_of_ble_eq_true rfl) rfl (fun X eX1 eX2 eX3 hRm eX5 C hfin => ?_)
  subst eX1 eX2 eX3
  unfold ff_X7_teaches at h
  refine ps_aloadn0 C dX7_teaches_0 ?_
  refine ps_iloadn1 C dX7_teaches_1 ?_
  obtain ⟨r1, M1, hM1, h⟩ := ps_bd h
  refine ps_goV_i C (rest := []) (tt_X7_isParrot (xl X) (xb X) (xD X) hq hM1) cw_X7_80 ps_rc20 hq (ps_room hRm (by decide)) rfl rfl (Nat.le_of_ble_eq_true rfl) dX7_teaches_2 ?_
  refine ps_if_eq C 16 dX7_teaches_5 rfl (fun c26 => ?_) (fun c26 => ?_)
  · replace h := ps_ip c26 h
    refine ps_iconst C dX7_teaches_16 pi_m1 ?_
    exact ps_end_i h hfin dX7_teaches_17 rfl
  · replace h := ps_in0 c26 h
    refine ps_aloadn0 C dX7_teaches_8 ?_
    refine ps_iloadn2 C dX7_teaches_9 ?_
    obtain ⟨r2, M2, hM2, h⟩ := ps_bd h
    refine ps_goV_i C (rest := []) (tt_X7_isSong (xl X) (xb X) (xD X) hq hM2) cw_X7_84 ps_rc20 hq (ps_room hRm (by decide)) rfl rfl (Nat.le_of_ble_eq_true rfl) dX7_teaches_10 ?_
    refine ps_if_ne C 18 dX7_teaches_13 rfl (fun c25 => ?_) (fun c25 => ?_)
    · replace h := ps_in0 c25 h
      refine ps_iloadn3 C dX7_teaches_18 ?_
      refine ps_iconst C dX7_teaches_19 pi_0 ?_
      refine ps_aloadn0 C dX7_teaches_20 ?_
      refine gf_X7_7 C hq dX7_teaches_21 ?_
      refine ps_iloadn2 C dX7_teaches_24 ?_
      obtain ⟨r3, M3, hM3, h⟩ := ps_bd h
      refine ps_goS_i C (rest := [.ref (xb X + (q + 1)), .int (nI 0), .int a3]) (tt_X7_n (xl X) (xb X) (xD X) hM3) cw_X7_68 (ps_room hRm (by decide)) rfl rfl (Nat.le_of_ble_eq_true rfl) dX7_teaches_25 ?_
      obtain ⟨hi4, h⟩ := ps_gd h
      refine ps_iald C (kf_20_1 hq) (fun _ _ => rfl) hi4 dX7_teaches_28 ?_
      refine ps_iconst C dX7_teaches_29 pi_1 ?_
      refine ps_isub C dX7_teaches_30 ?_
      obtain ⟨r5, M5, hM5, h⟩ := ps_bd h
      refine ps_goS_i C (rest := []) (tt_X7_in (xl X) (xb X) (xD X) hM5) cw_X7_39 (ps_room hRm (by decide)) rfl rfl (Nat.le_of_ble_eq_true rfl) dX7_teaches_31 ?_
      refine ps_if_ne C 40 dX7_teaches_34 rfl (fun c24 => ?_) (fun c24 => ?_)
      · replace h := ps_in0 c24 h
        refine ps_aloadn0 C dX7_teaches_40 ?_
        refine ps_iloadn1 C dX7_teaches_41 ?_
        obtain ⟨r6, M6, hM6, h⟩ := ps_bd h
        refine ps_goV_i C (rest := []) (tt_X7_isTired (xl X) (xb X) (xD X) hq hM6) cw_X7_87 ps_rc20 hq (ps_room hRm (by decide)) rfl rfl (Nat.le_of_ble_eq_true rfl) dX7_teaches_42 ?_
        refine ps_if_eq C 51 dX7_teaches_45 rfl (fun c23 => ?_) (fun c23 => ?_)
        · replace h := ps_ip c23 h
          refine ps_iloadn3 C dX7_teaches_51 ?_
          refine ps_istore4 C rfl dX7_teaches_52 ?_
          exact bk_X7_teaches_54 C hRm hfin hq ps_fu a1 a2 a3 a3 _ h
        · replace h := ps_in0 c23 h
          refine ps_bipush C dX7_teaches_48 pb_m5 ?_
          exact ps_end_i h hfin dX7_teaches_50 rfl
      · replace h := ps_ip c24 h
        refine ps_bipush C dX7_teaches_37 pb_m2 ?_
        exact ps_end_i h hfin dX7_teaches_39 rfl
    · replace h := ps_ip c25 h
      refine ps_iconst C dX7_teaches_16 pi_m1 ?_
      exact ps_end_i h hfin dX7_teaches_17 rfl
set_option maxRecDepth 10000 in
theorem tt_X7_hushes (l : Launch) (b : Nat) (D : va_G) {q : Nat} (hq : ps_ck 20 q = true) {a1 : Int32} {M M9 : ps_M} {r : Int32} (h : ff_X7_hushes q a1 M = some (r, M9)) : ps_Ti l b D yX7_hushes cX7_hushes 3 .int 2 [.ref (b + q), .int a1] M r M9 := by
  refine ps_met_i (own := RX7) (lv := [some (.ref (b + q)), some (.int a1), none]) (by decide) rfl rfl (Nat.le_of_ble_eq_true rfl) rfl (fun X eX1 eX2 eX3 hRm eX5 C hfin => ?_)
  subst eX1 eX2 eX3
  unfold ff_X7_hushes at h
  refine ps_aloadn0 C dX7_hushes_0 ?_
  refine ps_iloadn1 C dX7_hushes_1 ?_
  obtain ⟨r1, M1, hM1, h⟩ := ps_bd h
  refine ps_goV_i C (rest := []) (tt_X7_isParrot (xl X) (xb X) (xD X) hq hM1) cw_X7_80 ps_rc20 hq (ps_room hRm (by decide)) rfl rfl (Nat.le_of_ble_eq_true rfl) dX7_hushes_2 ?_
  refine ps_if_ne C 10 dX7_hushes_5 rfl (fun c9 => ?_) (fun c9 => ?_)
  · replace h := ps_in0 c9 h
    refine ps_aloadn0 C dX7_hushes_10 ?_
    refine gf_X7_7 C hq dX7_hushes_11 ?_
    refine ps_iloadn1 C dX7_hushes_14 ?_
    obtain ⟨r2, M2, hM2, h⟩ := ps_bd h
    refine ps_goS_i C (rest := [.ref (xb X + (q + 1))]) (tt_X7_p (xl X) (xb X) (xD X) hM2) cw_X7_47 (ps_room hRm (by decide)) rfl rfl (Nat.le_of_ble_eq_true rfl) dX7_hushes_15 ?_
    refine ps_iconst C dX7_hushes_18 pi_1 ?_
    refine ps_iadd C dX7_hushes_19 ?_
    obtain ⟨hi3, h⟩ := ps_gd h
    refine ps_iald C (kf_20_1 hq) (fun _ _ => rfl) hi3 dX7_hushes_20 ?_
    refine ps_nmi (fun x4 ex4 => ?_)
    replace h := ps_lt ex4 h
    refine ps_istoren2 C rfl dX7_hushes_21 ?_
    refine ps_aloadn0 C dX7_hushes_22 ?_
    refine gf_X7_7 C hq dX7_hushes_23 ?_
    refine ps_iloadn1 C dX7_hushes_26 ?_
    obtain ⟨r5, M5, hM5, h⟩ := ps_bd h
    refine ps_goS_i C (rest := [.ref (xb X + (q + 1))]) (tt_X7_p (xl X) (xb X) (xD X) hM5) cw_X7_47 (ps_room hRm (by decide)) rfl rfl (Nat.le_of_ble_eq_true rfl) dX7_hushes_27 ?_
    refine ps_iconst C dX7_hushes_30 pi_1 ?_
    refine ps_iadd C dX7_hushes_31 ?_
    refine ps_iconst C dX7_hushes_32 pi_m1 ?_
    obtain ⟨hi6, h⟩ := ps_gd h
    refine ps_iast C (kf_20_1 hq) (fun _ _ => rfl) hi6 dX7_hushes_33 (fun M7 eM7 => ?_)
    replace h := ps_lt eM7 h
    refine ps_iloadn2 C dX7_hushes_34 ?_
    refine ps_if_ge C 43 dX7_hushes_35 rfl (fun c8 => ?_) (fun c8 => ?_)
    · replace h := ps_ip c8 h
      refine ps_iloadn2 C dX7_hushes_43 ?_
      exact ps_end_i h hfin dX7_hushes_44 rfl
    · replace h := ps_in0 c8 h
      refine ps_bipush C dX7_hushes_38 pb_m6 ?_
      refine ps_goto C 44 dX7_hushes_40 rfl ?_
      exact ps_end_i h hfin dX7_hushes_44 rfl
  · replace h := ps_ip c9 h
    refine ps_iconst C dX7_hushes_8 pi_m1 ?_
    exact ps_end_i h hfin dX7_hushes_9 rfl
set_option maxRecDepth 10000 in
theorem bk_X7_practises_145 {X : ps_X} (C : ps_C X RX7 cX7_practises) (hRm : xR X = ps_lvl 4) {r : Int32} {M9 : ps_M} (hfin : ∀ pc lv, decode cX7_practises pc = .ok (.ireturn, 1) → narrow .int (.int r) = .int r → ps_G X M9 pc lv [.int r]) {q : Nat} (hq : ps_ck 20 q = true) {K : Int32 → Int32 → Int32 → Int32 → Int32 → ps_M → Option (Int32 × ps_M)} (hK : ∀ (a1 : Int32) (a2 : Int32) (a3 : Int32) (a4 : Int32) (a5 : Int32) (M : ps_M), K a1 a2 a3 a4 a5 M = some (r, M9) → ps_G X M 104 [some (.ref (xb X + q)), some (.int a1), some (.int a2), some (.int a3), some (.int a4), some (.int a5), none, none] []) : ∀ (n : Nat) (a1 : Int32) (a2 : Int32) (a3 : Int32) (a4 : Int32) (a5 : Int32) (a6 : Int32) (a7 : Int32) (M : ps_M), fk_X7_practises_145 q K n a1 a2 a3 a4 a5 a6 a7 M = some (r, M9) → ps_G X M 145 [some (.ref (xb X + q)), some (.int a1), some (.int a2), some (.int a3), some (.int a4), some (.int a5), some (.int a6), some (.int a7)] [] := by
  intro n
  induction n with
  | zero => intro a1 a2 a3 a4 a5 a6 a7 M h; rw [fk_X7_practises_145] at h; cases h
  | succ n ih =>
    intro a1 a2 a3 a4 a5 a6 a7 M h
    rw [fk_X7_practises_145] at h
    refine ps_iload7 C dX7_practises_145 ?_
    refine ps_iloadn3 C dX7_practises_147 ?_
    refine ps_ic_ge C 179 dX7_practises_148 rfl (fun c17 => ?_) (fun c17 => ?_)
    · replace h := ps_ip c17 h
      refine ps_iinc5 C rfl (nI 1) pi_1 dX7_practises_179 (fun x10 ex10 => ?_)
      replace h := ps_lt ex10 h
      refine ps_goto C 104 dX7_practises_182 rfl ?_
      refine ps_wk (lv' := [some (.ref (xb X + q)), some (.int a1), some (.int a2), some (.int a3), some (.int a4), some (.int x10), none, none]) (ps_le_s rfl (ps_le_s rfl (ps_le_s rfl (ps_le_s rfl (ps_le_s rfl (ps_le_s rfl (ps_le_n (ps_le_n ps_le_0)))))))) ?_
      exact hK a1 a2 a3 a4 x10 _ h
    · replace h := ps_in0 c17 h
      refine ps_aloadn0 C dX7_practises_151 ?_
      refine ps_iload6 C dX7_practises_152 ?_
      obtain ⟨r11, M11, hM11, h⟩ := ps_bd h
      refine ps_goV_i C (rest := []) (tt_X7_isTired (xl X) (xb X) (xD X) hq hM11) cw_X7_87 ps_rc20 hq (ps_room hRm (by decide)) rfl rfl (Nat.le_of_ble_eq_true rfl) dX7_practises_154 ?_
      refine ps_if_ne C 179 dX7_practises_157 rfl (fun c16 => ?_) (fun c16 => ?_)
      · replace h := ps_in0 c16 h
        refine ps_iinc5 C rfl (nI 1) pi_1 dX7_practises_179 (fun x12 ex12 => ?_)
        replace h := ps_lt ex12 h
        refine ps_goto C 104 dX7_practises_182 rfl ?_
        refine ps_wk (lv' := [some (.ref (xb X + q)), some (.int a1), some (.int a2), some (.int a3), some (.int a4), some (.int x12), none, none]) (ps_le_s rfl (ps_le_s rfl (ps_le_s rfl (ps_le_s rfl (ps_le_s rfl (ps_le_s rfl (ps_le_n (ps_le_n ps_le_0)))))))) ?_
        exact hK a1 a2 a3 a4 x12 _ h
      · replace h := ps_ip c16 h
        refine ps_aloadn0 C dX7_practises_160 ?_
        refine ps_iload6 C dX7_practises_161 ?_
        refine ps_aloadn0 C dX7_practises_163 ?_
        refine gf_X7_29 C hq dX7_practises_164 ?_
        refine ps_iload7 C dX7_practises_167 ?_
        obtain ⟨hi13, h⟩ := ps_gd h
        refine ps_iald C (kf_20_7 hq) (fun _ _ => rfl) hi13 dX7_practises_169 ?_
        obtain ⟨r14, M14, hM14, h⟩ := ps_bd h
        refine ps_goV_v C (rest := []) (tt_X7_hears (xl X) (xb X) (xD X) hq hM14) cw_X7_90 ps_rc20 hq (ps_room hRm (by decide)) rfl rfl (Nat.le_of_ble_eq_true rfl) dX7_practises_170 ?_
        refine ps_iinc7 C rfl (nI 1) pi_1 dX7_practises_173 (fun x15 ex15 => ?_)
        replace h := ps_lt ex15 h
        refine ps_goto C 145 dX7_practises_176 rfl ?_
        exact ih a1 a2 a3 a4 a5 a6 x15 _ h
set_option maxRecDepth 10000 in
theorem bk_X7_practises_104 {X : ps_X} (C : ps_C X RX7 cX7_practises) (hRm : xR X = ps_lvl 4) {r : Int32} {M9 : ps_M} (hfin : ∀ pc lv, decode cX7_practises pc = .ok (.ireturn, 1) → narrow .int (.int r) = .int r → ps_G X M9 pc lv [.int r]) {q : Nat} (hq : ps_ck 20 q = true) : ∀ (n : Nat) (a1 : Int32) (a2 : Int32) (a3 : Int32) (a4 : Int32) (a5 : Int32) (M : ps_M), fk_X7_practises_104 q n a1 a2 a3 a4 a5 M = some (r, M9) → ps_G X M 104 [some (.ref (xb X + q)), some (.int a1), some (.int a2), some (.int a3), some (.int a4), some (.int a5), none, none] [] := by
  intro n
  induction n with
  | zero => intro a1 a2 a3 a4 a5 M h; rw [fk_X7_practises_104] at h; cases h
  | succ n ih =>
    intro a1 a2 a3 a4 a5 M h
    rw [fk_X7_practises_104] at h
    refine ps_iload5 C dX7_practises_104 ?_
    refine ps_aloadn0 C dX7_practises_106 ?_
    refine gf_X7_7 C hq dX7_practises_107 ?_
    refine ps_bipush C dX7_practises_110 pb_6 ?_
    obtain ⟨hi9, h⟩ := ps_gd h
    refine ps_iald C (kf_20_1 hq) (fun _ _ => rfl) hi9 dX7_practises_112 ?_
    refine ps_ic_ge C 185 dX7_practises_113 rfl (fun c21 => ?_) (fun c21 => ?_)
    · replace h := ps_ip c21 h
      refine ps_iloadn3 C dX7_practises_185 ?_
      exact ps_end_i h hfin dX7_practises_186 rfl
    · replace h := ps_in0 c21 h
      refine ps_iload5 C dX7_practises_116 ?_
      refine ps_if_ne C 125 dX7_practises_118 rfl (fun c20 => ?_) (fun c20 => ?_)
      · replace h := ps_in0 c20 h
        refine ps_iload5 C dX7_practises_125 ?_
        refine ps_iloadn1 C dX7_practises_127 ?_
        refine ps_ic_gt C 138 dX7_practises_128 rfl (fun c19 => ?_) (fun c19 => ?_)
        · replace h := ps_ip c19 h
          refine ps_iload5 C dX7_practises_138 ?_
          refine ps_istore6 C rfl dX7_practises_140 ?_
          refine ps_iconst C dX7_practises_142 pi_0 ?_
          refine ps_istore7 C rfl dX7_practises_143 ?_
          exact bk_X7_practises_145 C hRm hfin hq (fun a1' a2' a3' a4' a5' M' h' => ih a1' a2' a3' a4' a5' M' h') ps_fu a1 a2 a3 a4 a5 a5 (nI 0) _ h
        · replace h := ps_in0 c19 h
          refine ps_iload5 C dX7_practises_131 ?_
          refine ps_iconst C dX7_practises_133 pi_1 ?_
          refine ps_isub C dX7_practises_134 ?_
          refine ps_goto C 140 dX7_practises_135 rfl ?_
          refine ps_nmi (fun x18 ex18 => ?_)
          replace h := ps_lt ex18 h
          refine ps_istore6 C rfl dX7_practises_140 ?_
          refine ps_iconst C dX7_practises_142 pi_0 ?_
          refine ps_istore7 C rfl dX7_practises_143 ?_
          exact bk_X7_practises_145 C hRm hfin hq (fun a1' a2' a3' a4' a5' M' h' => ih a1' a2' a3' a4' a5' M' h') ps_fu a1 a2 a3 a4 a5 x18 (nI 0) _ h
      · replace h := ps_ip c20 h
        refine ps_iloadn1 C dX7_practises_121 ?_
        refine ps_goto C 140 dX7_practises_122 rfl ?_
        refine ps_istore6 C rfl dX7_practises_140 ?_
        refine ps_iconst C dX7_practises_142 pi_0 ?_
        refine ps_istore7 C rfl dX7_practises_143 ?_
        exact bk_X7_practises_145 C hRm hfin hq (fun a1' a2' a3' a4' a5' M' h' => ih a1' a2' a3' a4' a5' M' h') ps_fu a1 a2 a3 a4 a5 a1 (nI 0) _ h
set_option maxRecDepth 10000 in
theorem bk_X7_practises_68 {X : ps_X} (C : ps_C X RX7 cX7_practises) (hRm : xR X = ps_lvl 4) {r : Int32} {M9 : ps_M} (hfin : ∀ pc lv, decode cX7_practises pc = .ok (.ireturn, 1) → narrow .int (.int r) = .int r → ps_G X M9 pc lv [.int r]) {q : Nat} (hq : ps_ck 20 q = true) : ∀ (n : Nat) (a1 : Int32) (a2 : Int32) (a3 : Int32) (a4 : Int32) (M : ps_M), fk_X7_practises_68 q n a1 a2 a3 a4 M = some (r, M9) → ps_G X M 68 [some (.ref (xb X + q)), some (.int a1), some (.int a2), some (.int a3), some (.int a4), none, none, none] [] := by
  intro n
  induction n with
  | zero => intro a1 a2 a3 a4 M h; rw [fk_X7_practises_68] at h; cases h
  | succ n ih =>
    intro a1 a2 a3 a4 M h
    rw [fk_X7_practises_68] at h
    refine ps_iloadn3 C dX7_practises_68 ?_
    refine ps_iloadn2 C dX7_practises_69 ?_
    refine ps_ic_ge C 101 dX7_practises_70 rfl (fun c27 => ?_) (fun c27 => ?_)
    · replace h := ps_ip c27 h
      refine ps_iconst C dX7_practises_101 pi_0 ?_
      refine ps_istore5 C rfl dX7_practises_102 ?_
      exact bk_X7_practises_104 C hRm hfin hq ps_fu a1 a2 a3 a4 (nI 0) _ h
    · replace h := ps_in0 c27 h
      refine ps_iload4 C dX7_practises_73 ?_
      refine ps_if_lt C 101 dX7_practises_75 rfl (fun c26 => ?_) (fun c26 => ?_)
      · replace h := ps_ip c26 h
        refine ps_iconst C dX7_practises_101 pi_0 ?_
        refine ps_istore5 C rfl dX7_practises_102 ?_
        exact bk_X7_practises_104 C hRm hfin hq ps_fu a1 a2 a3 a4 (nI 0) _ h
      · replace h := ps_in0 c26 h
        refine ps_aloadn0 C dX7_practises_78 ?_
        refine gf_X7_29 C hq dX7_practises_79 ?_
        refine ps_iloadn3 C dX7_practises_82 ?_
        refine ps_iload4 C dX7_practises_83 ?_
        obtain ⟨hi22, h⟩ := ps_gd h
        refine ps_iast C (kf_20_7 hq) (fun _ _ => rfl) hi22 dX7_practises_85 (fun M23 eM23 => ?_)
        replace h := ps_lt eM23 h
        refine ps_iinc3 C rfl (nI 1) pi_1 dX7_practises_86 (fun x24 ex24 => ?_)
        replace h := ps_lt ex24 h
        refine ps_aloadn0 C dX7_practises_89 ?_
        refine ps_iloadn1 C dX7_practises_90 ?_
        refine ps_iload4 C dX7_practises_91 ?_
        obtain ⟨r25, M25, hM25, h⟩ := ps_bd h
        refine ps_goV_i C (rest := []) (tt_X7_goesOn (xl X) (xb X) (xD X) hq hM25) cw_X7_71 ps_rc20 hq (ps_room hRm (by decide)) rfl rfl (Nat.le_of_ble_eq_true rfl) dX7_practises_93 ?_
        refine ps_istore4 C rfl dX7_practises_96 ?_
        refine ps_goto C 68 dX7_practises_98 rfl ?_
        exact ih a1 a2 x24 r25 _ h
set_option maxRecDepth 10000 in
theorem tt_X7_practises (l : Launch) (b : Nat) (D : va_G) {q : Nat} (hq : ps_ck 20 q = true) {a1 : Int32} {a2 : Int32} {M M9 : ps_M} {r : Int32} (h : ff_X7_practises q a1 a2 M = some (r, M9)) : ps_Ti l b D yX7_practises cX7_practises 8 .int 4 [.ref (b + q), .int a1, .int a2] M r M9 := by
  refine ps_met_i (own := RX7) (lv := [some (.ref (b + q)), some (.int a1), some (.int a2), none, none, none, none, none]) (by decide) rfl rfl (Nat.le_of_ble_eq_true rfl) rfl (fun X eX1 eX2 eX3 hRm eX5 C hfin => ?_)
  subst eX1 eX2 eX3
  unfold ff_X7_practises at h
  refine ps_aloadn0 C dX7_practises_0 ?_
  refine ps_iloadn1 C dX7_practises_1 ?_
  obtain ⟨r1, M1, hM1, h⟩ := ps_bd h
  refine ps_goV_i C (rest := []) (tt_X7_isParrot (xl X) (xb X) (xD X) hq hM1) cw_X7_80 ps_rc20 hq (ps_room hRm (by decide)) rfl rfl (Nat.le_of_ble_eq_true rfl) dX7_practises_2 ?_
  refine ps_if_ne C 10 dX7_practises_5 rfl (fun c31 => ?_) (fun c31 => ?_)
  · replace h := ps_in0 c31 h
    refine ps_iloadn2 C dX7_practises_10 ?_
    refine ps_iconst C dX7_practises_11 pi_1 ?_
    refine ps_bipush C dX7_practises_12 pb_40 ?_
    obtain ⟨r2, M2, hM2, h⟩ := ps_bd h
    refine ps_goS_i C (rest := []) (tt_X7_in (xl X) (xb X) (xD X) hM2) cw_X7_39 (ps_room hRm (by decide)) rfl rfl (Nat.le_of_ble_eq_true rfl) dX7_practises_14 ?_
    refine ps_if_ne C 23 dX7_practises_17 rfl (fun c30 => ?_) (fun c30 => ?_)
    · replace h := ps_in0 c30 h
      refine ps_aloadn0 C dX7_practises_23 ?_
      refine gf_X7_7 C hq dX7_practises_24 ?_
      refine ps_iloadn1 C dX7_practises_27 ?_
      obtain ⟨r3, M3, hM3, h⟩ := ps_bd h
      refine ps_goS_i C (rest := [.ref (xb X + (q + 1))]) (tt_X7_p (xl X) (xb X) (xD X) hM3) cw_X7_47 (ps_room hRm (by decide)) rfl rfl (Nat.le_of_ble_eq_true rfl) dX7_practises_28 ?_
      refine ps_iconst C dX7_practises_31 pi_1 ?_
      refine ps_iadd C dX7_practises_32 ?_
      obtain ⟨hi4, h⟩ := ps_gd h
      refine ps_iald C (kf_20_1 hq) (fun _ _ => rfl) hi4 dX7_practises_33 ?_
      refine ps_if_lt C 45 dX7_practises_34 rfl (fun c29 => ?_) (fun c29 => ?_)
      · replace h := ps_ip c29 h
        refine ps_bipush C dX7_practises_45 pb_m5 ?_
        exact ps_end_i h hfin dX7_practises_47 rfl
      · replace h := ps_in0 c29 h
        refine ps_aloadn0 C dX7_practises_37 ?_
        refine ps_iloadn1 C dX7_practises_38 ?_
        obtain ⟨r5, M5, hM5, h⟩ := ps_bd h
        refine ps_goV_i C (rest := []) (tt_X7_isTired (xl X) (xb X) (xD X) hq hM5) cw_X7_87 ps_rc20 hq (ps_room hRm (by decide)) rfl rfl (Nat.le_of_ble_eq_true rfl) dX7_practises_39 ?_
        refine ps_if_eq C 48 dX7_practises_42 rfl (fun c28 => ?_) (fun c28 => ?_)
        · replace h := ps_ip c28 h
          refine ps_iconst C dX7_practises_48 pi_0 ?_
          refine ps_istoren3 C rfl dX7_practises_49 ?_
          refine ps_aloadn0 C dX7_practises_50 ?_
          refine ps_iloadn1 C dX7_practises_51 ?_
          refine ps_aloadn0 C dX7_practises_52 ?_
          refine gf_X7_7 C hq dX7_practises_53 ?_
          refine ps_iloadn1 C dX7_practises_56 ?_
          obtain ⟨r6, M6, hM6, h⟩ := ps_bd h
          refine ps_goS_i C (rest := [.ref (xb X + (q + 1)), .int a1, .ref (xb X + q)]) (tt_X7_p (xl X) (xb X) (xD X) hM6) cw_X7_47 (ps_room hRm (by decide)) rfl rfl (Nat.le_of_ble_eq_true rfl) dX7_practises_57 ?_
          refine ps_iconst C dX7_practises_60 pi_1 ?_
          refine ps_iadd C dX7_practises_61 ?_
          obtain ⟨hi7, h⟩ := ps_gd h
          refine ps_iald C (kf_20_1 hq) (fun _ _ => rfl) hi7 dX7_practises_62 ?_
          obtain ⟨r8, M8, hM8, h⟩ := ps_bd h
          refine ps_goV_i C (rest := []) (tt_X7_goesOn (xl X) (xb X) (xD X) hq hM8) cw_X7_71 ps_rc20 hq (ps_room hRm (by decide)) rfl rfl (Nat.le_of_ble_eq_true rfl) dX7_practises_63 ?_
          refine ps_istore4 C rfl dX7_practises_66 ?_
          exact bk_X7_practises_68 C hRm hfin hq ps_fu a1 a2 (nI 0) r8 _ h
        · replace h := ps_in0 c28 h
          refine ps_bipush C dX7_practises_45 pb_m5 ?_
          exact ps_end_i h hfin dX7_practises_47 rfl
    · replace h := ps_ip c30 h
      refine ps_bipush C dX7_practises_20 pb_m2 ?_
      exact ps_end_i h hfin dX7_practises_22 rfl
  · replace h := ps_ip c31 h
    refine ps_iconst C dX7_practises_8 pi_m1 ?_
    exact ps_end_i h hfin dX7_practises_9 rfl
set_option maxRecDepth 10000 in
theorem bk_X7_fades_57 {X : ps_X} (C : ps_C X RX7 cX7_fades) (hRm : xR X = ps_lvl 2) {r : Int32} {M9 : ps_M} (hfin : ∀ pc lv, decode cX7_fades pc = .ok (.ireturn, 1) → narrow .int (.int r) = .int r → ps_G X M9 pc lv [.int r]) {q : Nat} (hq : ps_ck 20 q = true) {K : Int32 → Int32 → Int32 → ps_M → Option (Int32 × ps_M)} (hK : ∀ (a1 : Int32) (a2 : Int32) (a3 : Int32) (M : ps_M), K a1 a2 a3 M = some (r, M9) → ps_G X M 14 [some (.ref (xb X + q)), some (.int a1), some (.int a2), some (.int a3), none] []) (a1 : Int32) (a2 : Int32) (a3 : Int32) (a4 : Int32) (u0 : Nat) (s1 : Int32) (s2 : Int32) (s3 : Int32) (hu0 : ps_ck 21 u0 = true) (M : ps_M) (h : fk_X7_fades_57 q K a1 a2 a3 a4 u0 s1 s2 s3 M = some (r, M9)) : ps_G X M 57 [some (.ref (xb X + q)), some (.int a1), some (.int a2), some (.int a3), some (.int a4)] [.int s3, .int s2, .int s1, .ref (xb X + u0)] := by
  unfold fk_X7_fades_57 at h
  refine ps_isub C dX7_fades_57 ?_
  obtain ⟨hi17, h⟩ := ps_gd h
  refine ps_iast C hu0 (fun _ _ => rfl) hi17 dX7_fades_58 (fun M18 eM18 => ?_)
  replace h := ps_lt eM18 h
  refine ps_aloadn0 C dX7_fades_59 ?_
  refine gf_X7_7 C hq dX7_fades_60 ?_
  refine ps_iload4 C dX7_fades_63 ?_
  refine ps_iconst C dX7_fades_65 pi_2 ?_
  refine ps_iadd C dX7_fades_66 ?_
  refine ps_iconst C dX7_fades_67 pi_0 ?_
  obtain ⟨hi19, h⟩ := ps_gd h
  refine ps_iast C (kf_20_1 hq) (fun _ _ => rfl) hi19 dX7_fades_68 (fun M20 eM20 => ?_)
  replace h := ps_lt eM20 h
  refine ps_aloadn0 C dX7_fades_69 ?_
  refine gf_X7_7 C hq dX7_fades_70 ?_
  refine ps_iload4 C dX7_fades_73 ?_
  refine ps_iconst C dX7_fades_75 pi_1 ?_
  refine ps_iadd C dX7_fades_76 ?_
  obtain ⟨hi21, h⟩ := ps_gd h
  refine ps_iald C (kf_20_1 hq) (fun _ _ => rfl) hi21 dX7_fades_77 ?_
  refine ps_iconst C dX7_fades_78 pi_1 ?_
  refine ps_ic_ge C 91 dX7_fades_79 rfl (fun c26 => ?_) (fun c26 => ?_)
  · replace h := ps_ip c26 h
    refine ps_iinc3 C rfl (ps_m 1) pi_m1 dX7_fades_91 (fun x22 ex22 => ?_)
    replace h := ps_lt ex22 h
    refine ps_goto C 14 dX7_fades_94 rfl ?_
    refine ps_wk (lv' := [some (.ref (xb X + q)), some (.int a1), some (.int a2), some (.int x22), none]) (ps_le_s rfl (ps_le_s rfl (ps_le_s rfl (ps_le_s rfl (ps_le_n ps_le_0))))) ?_
    exact hK a1 a2 x22 _ h
  · replace h := ps_in0 c26 h
    refine ps_aloadn0 C dX7_fades_82 ?_
    refine ps_iloadn1 C dX7_fades_83 ?_
    refine ps_iloadn3 C dX7_fades_84 ?_
    obtain ⟨r23, M23, hM23, h⟩ := ps_bd h
    refine ps_goV_v C (rest := []) (tt_X7_takes (xl X) (xb X) (xD X) hq hM23) cw_X7_58 ps_rc20 hq (ps_room hRm (by decide)) rfl rfl (Nat.le_of_ble_eq_true rfl) dX7_fades_85 ?_
    refine ps_iinc2 C rfl (nI 1) pi_1 dX7_fades_88 (fun x24 ex24 => ?_)
    replace h := ps_lt ex24 h
    refine ps_iinc3 C rfl (ps_m 1) pi_m1 dX7_fades_91 (fun x25 ex25 => ?_)
    replace h := ps_lt ex25 h
    refine ps_goto C 14 dX7_fades_94 rfl ?_
    refine ps_wk (lv' := [some (.ref (xb X + q)), some (.int a1), some (.int x24), some (.int x25), none]) (ps_le_s rfl (ps_le_s rfl (ps_le_s rfl (ps_le_s rfl (ps_le_n ps_le_0))))) ?_
    exact hK a1 x24 x25 _ h
set_option maxRecDepth 10000 in
theorem bk_X7_fades_14 {X : ps_X} (C : ps_C X RX7 cX7_fades) (hRm : xR X = ps_lvl 2) {r : Int32} {M9 : ps_M} (hfin : ∀ pc lv, decode cX7_fades pc = .ok (.ireturn, 1) → narrow .int (.int r) = .int r → ps_G X M9 pc lv [.int r]) {q : Nat} (hq : ps_ck 20 q = true) : ∀ (n : Nat) (a1 : Int32) (a2 : Int32) (a3 : Int32) (M : ps_M), fk_X7_fades_14 q n a1 a2 a3 M = some (r, M9) → ps_G X M 14 [some (.ref (xb X + q)), some (.int a1), some (.int a2), some (.int a3), none] [] := by
  intro n
  induction n with
  | zero => intro a1 a2 a3 M h; rw [fk_X7_fades_14] at h; cases h
  | succ n ih =>
    intro a1 a2 a3 M h
    rw [fk_X7_fades_14] at h
    refine ps_iloadn3 C dX7_fades_14 ?_
    refine ps_if_lt C 97 dX7_fades_15 rfl (fun c29 => ?_) (fun c29 => ?_)
    · replace h := ps_ip c29 h
      refine ps_aloadn0 C dX7_fades_97 ?_
      refine gf_X7_7 C hq dX7_fades_98 ?_
      refine ps_iloadn1 C dX7_fades_101 ?_
      obtain ⟨r4, M4, hM4, h⟩ := ps_bd h
      refine ps_goS_i C (rest := [.ref (xb X + (q + 1))]) (tt_X7_p (xl X) (xb X) (xD X) hM4) cw_X7_47 (ps_room hRm (by decide)) rfl rfl (Nat.le_of_ble_eq_true rfl) dX7_fades_102 ?_
      refine ps_iconst C dX7_fades_105 pi_4 ?_
      refine ps_iadd C dX7_fades_106 ?_
      refine ps_dup2 C rfl rfl dX7_fades_107 ?_
      obtain ⟨hi5, h⟩ := ps_gd h
      refine ps_iald C (kf_20_1 hq) (fun _ _ => rfl) hi5 dX7_fades_108 ?_
      refine ps_iloadn2 C dX7_fades_109 ?_
      refine ps_iadd C dX7_fades_110 ?_
      obtain ⟨hi6, h⟩ := ps_gd h
      refine ps_iast C (kf_20_1 hq) (fun _ _ => rfl) hi6 dX7_fades_111 (fun M7 eM7 => ?_)
      replace h := ps_lt eM7 h
      refine ps_aloadn0 C dX7_fades_112 ?_
      refine gf_X7_7 C hq dX7_fades_113 ?_
      refine ps_iloadn1 C dX7_fades_116 ?_
      obtain ⟨r8, M8, hM8, h⟩ := ps_bd h
      refine ps_goS_i C (rest := [.ref (xb X + (q + 1))]) (tt_X7_p (xl X) (xb X) (xD X) hM8) cw_X7_47 (ps_room hRm (by decide)) rfl rfl (Nat.le_of_ble_eq_true rfl) dX7_fades_117 ?_
      refine ps_iconst C dX7_fades_120 pi_1 ?_
      refine ps_iadd C dX7_fades_121 ?_
      refine ps_iconst C dX7_fades_122 pi_m1 ?_
      obtain ⟨hi9, h⟩ := ps_gd h
      refine ps_iast C (kf_20_1 hq) (fun _ _ => rfl) hi9 dX7_fades_123 (fun M10 eM10 => ?_)
      replace h := ps_lt eM10 h
      refine ps_aloadn0 C dX7_fades_124 ?_
      refine gf_X7_7 C hq dX7_fades_125 ?_
      refine ps_iloadn1 C dX7_fades_128 ?_
      obtain ⟨r11, M11, hM11, h⟩ := ps_bd h
      refine ps_goS_i C (rest := [.ref (xb X + (q + 1))]) (tt_X7_p (xl X) (xb X) (xD X) hM11) cw_X7_47 (ps_room hRm (by decide)) rfl rfl (Nat.le_of_ble_eq_true rfl) dX7_fades_129 ?_
      refine ps_iconst C dX7_fades_132 pi_2 ?_
      refine ps_iadd C dX7_fades_133 ?_
      refine ps_iconst C dX7_fades_134 pi_0 ?_
      obtain ⟨hi12, h⟩ := ps_gd h
      refine ps_iast C (kf_20_1 hq) (fun _ _ => rfl) hi12 dX7_fades_135 (fun M13 eM13 => ?_)
      replace h := ps_lt eM13 h
      refine ps_iloadn2 C dX7_fades_136 ?_
      exact ps_end_i h hfin dX7_fades_137 rfl
    · replace h := ps_in0 c29 h
      refine ps_iloadn1 C dX7_fades_18 ?_
      refine ps_iloadn3 C dX7_fades_19 ?_
      obtain ⟨r14, M14, hM14, h⟩ := ps_bd h
      refine ps_goS_i C (rest := []) (tt_X7_l (xl X) (xb X) (xD X) hM14) cw_X7_51 (ps_room hRm (by decide)) rfl rfl (Nat.le_of_ble_eq_true rfl) dX7_fades_20 ?_
      refine ps_istore4 C rfl dX7_fades_23 ?_
      refine ps_aloadn0 C dX7_fades_25 ?_
      refine gf_X7_7 C hq dX7_fades_26 ?_
      refine ps_iload4 C dX7_fades_29 ?_
      refine ps_iconst C dX7_fades_31 pi_1 ?_
      refine ps_iadd C dX7_fades_32 ?_
      refine ps_dup2 C rfl rfl dX7_fades_33 ?_
      obtain ⟨hi15, h⟩ := ps_gd h
      refine ps_iald C (kf_20_1 hq) (fun _ _ => rfl) hi15 dX7_fades_34 ?_
      refine ps_aloadn0 C dX7_fades_35 ?_
      refine gf_X7_7 C hq dX7_fades_36 ?_
      refine ps_iload4 C dX7_fades_39 ?_
      refine ps_iconst C dX7_fades_41 pi_2 ?_
      refine ps_iadd C dX7_fades_42 ?_
      obtain ⟨hi16, h⟩ := ps_gd h
      refine ps_iald C (kf_20_1 hq) (fun _ _ => rfl) hi16 dX7_fades_43 ?_
      refine ps_if_ne C 56 dX7_fades_44 rfl (fun c28 => ?_) (fun c28 => ?_)
      · replace h := ps_in0 c28 h
        refine ps_iconst C dX7_fades_56 pi_0 ?_
        exact bk_X7_fades_57 C hRm hfin hq (fun a1' a2' a3' M' h' => ih a1' a2' a3' M' h') a1 a2 a3 r14 (q + 1) (r14 + (nI 1)) (ps_rd M14 (q + 1) (r14 + (nI 1)).toNatClampNeg) (nI 0) (kf_20_1 hq) _ h
      · replace h := ps_ip c28 h
        refine ps_aloadn0 C dX7_fades_47 ?_
        refine gf_X7_7 C hq dX7_fades_48 ?_
        refine ps_iconst C dX7_fades_51 pi_1 ?_
        obtain ⟨hi27, h⟩ := ps_gd h
        refine ps_iald C (kf_20_1 hq) (fun _ _ => rfl) hi27 dX7_fades_52 ?_
        refine ps_goto C 57 dX7_fades_53 rfl ?_
        exact bk_X7_fades_57 C hRm hfin hq (fun a1' a2' a3' M' h' => ih a1' a2' a3' M' h') a1 a2 a3 r14 (q + 1) (r14 + (nI 1)) (ps_rd M14 (q + 1) (r14 + (nI 1)).toNatClampNeg) (ps_rd M14 (q + 1) (nI 1).toNatClampNeg) (kf_20_1 hq) _ h
set_option maxRecDepth 10000 in
theorem tt_X7_fades (l : Launch) (b : Nat) (D : va_G) {q : Nat} (hq : ps_ck 20 q = true) {a1 : Int32} {M M9 : ps_M} {r : Int32} (h : ff_X7_fades q a1 M = some (r, M9)) : ps_Ti l b D yX7_fades cX7_fades 5 .int 2 [.ref (b + q), .int a1] M r M9 := by
  refine ps_met_i (own := RX7) (lv := [some (.ref (b + q)), some (.int a1), none, none, none]) (by decide) rfl rfl (Nat.le_of_ble_eq_true rfl) rfl (fun X eX1 eX2 eX3 hRm eX5 C hfin => ?_)
  subst eX1 eX2 eX3
  unfold ff_X7_fades at h
  refine ps_iconst C dX7_fades_0 pi_0 ?_
  refine ps_istoren2 C rfl dX7_fades_1 ?_
  refine ps_aloadn0 C dX7_fades_2 ?_
  refine gf_X7_7 C hq dX7_fades_3 ?_
  refine ps_iloadn1 C dX7_fades_6 ?_
  obtain ⟨r1, M1, hM1, h⟩ := ps_bd h
  refine ps_goS_i C (rest := [.ref (xb X + (q + 1))]) (tt_X7_p (xl X) (xb X) (xD X) hM1) cw_X7_47 (ps_room hRm (by decide)) rfl rfl (Nat.le_of_ble_eq_true rfl) dX7_fades_7 ?_
  obtain ⟨hi2, h⟩ := ps_gd h
  refine ps_iald C (kf_20_1 hq) (fun _ _ => rfl) hi2 dX7_fades_10 ?_
  refine ps_iconst C dX7_fades_11 pi_1 ?_
  refine ps_isub C dX7_fades_12 ?_
  refine ps_nmi (fun x3 ex3 => ?_)
  replace h := ps_lt ex3 h
  refine ps_istoren3 C rfl dX7_fades_13 ?_
  exact bk_X7_fades_14 C hRm hfin hq ps_fu a1 (nI 0) x3 _ h
set_option maxRecDepth 10000 in
theorem bk_X7_nights_4 {X : ps_X} (C : ps_C X RX7 cX7_nights) (hRm : xR X = ps_lvl 3) {r : Int32} {M9 : ps_M} (hfin : ∀ pc lv, decode cX7_nights pc = .ok (.ireturn, 1) → narrow .int (.int r) = .int r → ps_G X M9 pc lv [.int r]) {q : Nat} (hq : ps_ck 20 q = true) : ∀ (n : Nat) (a1 : Int32) (a2 : Int32) (M : ps_M), fk_X7_nights_4 q n a1 a2 M = some (r, M9) → ps_G X M 4 [some (.ref (xb X + q)), some (.int a1), some (.int a2)] [] := by
  intro n
  induction n with
  | zero => intro a1 a2 M h; rw [fk_X7_nights_4] at h; cases h
  | succ n ih =>
    intro a1 a2 M h
    rw [fk_X7_nights_4] at h
    refine ps_iloadn2 C dX7_nights_4 ?_
    refine ps_aloadn0 C dX7_nights_5 ?_
    refine gf_X7_7 C hq dX7_nights_6 ?_
    refine ps_bipush C dX7_nights_9 pb_6 ?_
    obtain ⟨hi1, h⟩ := ps_gd h
    refine ps_iald C (kf_20_1 hq) (fun _ _ => rfl) hi1 dX7_nights_11 ?_
    refine ps_ic_ge C 29 dX7_nights_12 rfl (fun c8 => ?_) (fun c8 => ?_)
    · replace h := ps_ip c8 h
      refine ps_aloadn0 C dX7_nights_29 ?_
      refine gf_X7_7 C hq dX7_nights_30 ?_
      refine ps_iconst C dX7_nights_33 pi_4 ?_
      refine ps_dup2 C rfl rfl dX7_nights_34 ?_
      obtain ⟨hi2, h⟩ := ps_gd h
      refine ps_iald C (kf_20_1 hq) (fun _ _ => rfl) hi2 dX7_nights_35 ?_
      refine ps_iconst C dX7_nights_36 pi_1 ?_
      refine ps_iadd C dX7_nights_37 ?_
      obtain ⟨hi3, h⟩ := ps_gd h
      refine ps_iast C (kf_20_1 hq) (fun _ _ => rfl) hi3 dX7_nights_38 (fun M4 eM4 => ?_)
      replace h := ps_lt eM4 h
      refine ps_iloadn1 C dX7_nights_39 ?_
      exact ps_end_i h hfin dX7_nights_40 rfl
    · replace h := ps_in0 c8 h
      refine ps_iloadn1 C dX7_nights_15 ?_
      refine ps_aloadn0 C dX7_nights_16 ?_
      refine ps_iloadn2 C dX7_nights_17 ?_
      obtain ⟨r5, M5, hM5, h⟩ := ps_bd h
      refine ps_goV_i C (rest := [.int a1]) (tt_X7_fades (xl X) (xb X) (xD X) hq hM5) cw_X7_93 ps_rc20 hq (ps_room hRm (by decide)) rfl rfl (Nat.le_of_ble_eq_true rfl) dX7_nights_18 ?_
      refine ps_iadd C dX7_nights_21 ?_
      refine ps_nmi (fun x6 ex6 => ?_)
      replace h := ps_lt ex6 h
      refine ps_istoren1 C rfl dX7_nights_22 ?_
      refine ps_iinc2 C rfl (nI 1) pi_1 dX7_nights_23 (fun x7 ex7 => ?_)
      replace h := ps_lt ex7 h
      refine ps_goto C 4 dX7_nights_26 rfl ?_
      exact ih x6 x7 _ h
set_option maxRecDepth 10000 in
theorem tt_X7_nights (l : Launch) (b : Nat) (D : va_G) {q : Nat} (hq : ps_ck 20 q = true) {M M9 : ps_M} {r : Int32} (h : ff_X7_nights q  M = some (r, M9)) : ps_Ti l b D yX7_nights cX7_nights 3 .int 3 [.ref (b + q)] M r M9 := by
  refine ps_met_i (own := RX7) (lv := [some (.ref (b + q)), none, none]) (by decide) rfl rfl (Nat.le_of_ble_eq_true rfl) rfl (fun X eX1 eX2 eX3 hRm eX5 C hfin => ?_)
  subst eX1 eX2 eX3
  unfold ff_X7_nights at h
  refine ps_iconst C dX7_nights_0 pi_0 ?_
  refine ps_istoren1 C rfl dX7_nights_1 ?_
  refine ps_iconst C dX7_nights_2 pi_0 ?_
  refine ps_istoren2 C rfl dX7_nights_3 ?_
  exact bk_X7_nights_4 C hRm hfin hq ps_fu (nI 0) (nI 0) _ h
set_option maxRecDepth 10000 in
theorem tt_X7_ends (l : Launch) (b : Nat) (D : va_G) {q : Nat} (hq : ps_ck 20 q = true) {M M9 : ps_M} {r : Int32} (h : ff_X7_ends q  M = some (r, M9)) : ps_Ti l b D yX7_ends cX7_ends 1 .int 4 [.ref (b + q)] M r M9 := by
  refine ps_met_i (own := RX7) (lv := [some (.ref (b + q))]) (by decide) rfl rfl (Nat.le_of_ble_eq_true rfl) rfl (fun X eX1 eX2 eX3 hRm eX5 C hfin => ?_)
  subst eX1 eX2 eX3
  unfold ff_X7_ends at h
  refine ps_aloadn0 C dX7_ends_0 ?_
  refine gf_X7_7 C hq dX7_ends_1 ?_
  refine ps_iconst C dX7_ends_4 pi_4 ?_
  obtain ⟨hi1, h⟩ := ps_gd h
  refine ps_iald C (kf_20_1 hq) (fun _ _ => rfl) hi1 dX7_ends_5 ?_
  refine ps_sipush C dX7_ends_6 pj_999 ?_
  refine ps_ic_ne C 17 dX7_ends_9 rfl (fun c3 => ?_) (fun c3 => ?_)
  · replace h := ps_in0 c3 h
    refine ps_aloadn0 C dX7_ends_17 ?_
    obtain ⟨r2, M2, hM2, h⟩ := ps_bd h
    refine ps_goV_i C (rest := []) (tt_X7_nights (xl X) (xb X) (xD X) hq hM2) cw_X7_96 ps_rc20 hq (ps_room hRm (by decide)) rfl rfl (Nat.le_of_ble_eq_true rfl) dX7_ends_18 ?_
    exact ps_end_i h hfin dX7_ends_21 rfl
  · replace h := ps_ip c3 h
    refine ps_bipush C dX7_ends_12 pb_m5 ?_
    refine ps_goto C 21 dX7_ends_14 rfl ?_
    exact ps_end_i h hfin dX7_ends_21 rfl
set_option maxRecDepth 10000 in
theorem bk_X7_set_62 {X : ps_X} (C : ps_C X RX7 cX7_set) (hRm : xR X = ps_lvl 1) {r : Int32} {M9 : ps_M} (hfin : ∀ pc lv, decode cX7_set pc = .ok (.ireturn, 1) → narrow .int (.int r) = .int r → ps_G X M9 pc lv [.int r]) {q : Nat} (hq : ps_ck 20 q = true) (a1 : Int32) (a2 : Int32) (s0 : Int32) (M : ps_M) (h : fk_X7_set_62 q a1 a2 s0 M = some (r, M9)) : ps_G X M 62 [some (.ref (xb X + q)), some (.int a1), some (.int a2), none, none] [.int s0] := by
  unfold fk_X7_set_62 at h
  refine ps_istoren3 C rfl dX7_set_62 ?_
  refine ps_iloadn3 C dX7_set_63 ?_
  refine ps_if_ne C 70 dX7_set_64 rfl (fun c7 => ?_) (fun c7 => ?_)
  · replace h := ps_in0 c7 h
    refine ps_aloadn0 C dX7_set_70 ?_
    obtain ⟨r1, M1, hM1, h⟩ := ps_bd h
    refine ps_goV_v C (rest := []) (tt_X7_hold (xl X) (xb X) (xD X) hq hM1) cw_X7_100 ps_rc20 hq (ps_room hRm (by decide)) rfl rfl (Nat.le_of_ble_eq_true rfl) dX7_set_71 ?_
    refine ps_aloadn0 C dX7_set_74 ?_
    refine gf_X7_7 C hq dX7_set_75 ?_
    refine ps_iloadn1 C dX7_set_78 ?_
    obtain ⟨hi2, h⟩ := ps_gd h
    refine ps_iald C (kf_20_1 hq) (fun _ _ => rfl) hi2 dX7_set_79 ?_
    refine ps_nmi (fun x3 ex3 => ?_)
    replace h := ps_lt ex3 h
    refine ps_istore4 C rfl dX7_set_80 ?_
    refine ps_aloadn0 C dX7_set_82 ?_
    refine gf_X7_7 C hq dX7_set_83 ?_
    refine ps_iloadn1 C dX7_set_86 ?_
    refine ps_iloadn2 C dX7_set_87 ?_
    obtain ⟨hi4, h⟩ := ps_gd h
    refine ps_iast C (kf_20_1 hq) (fun _ _ => rfl) hi4 dX7_set_88 (fun M5 eM5 => ?_)
    replace h := ps_lt eM5 h
    refine ps_aloadn0 C dX7_set_89 ?_
    refine ps_iload4 C dX7_set_90 ?_
    obtain ⟨r6, M6, hM6, h⟩ := ps_bd h
    refine ps_goV_i C (rest := []) (tt_X7_recorded (xl X) (xb X) (xD X) hq hM6) cw_X7_103 ps_rc20 hq (ps_room hRm (by decide)) rfl rfl (Nat.le_of_ble_eq_true rfl) dX7_set_92 ?_
    exact ps_end_i h hfin dX7_set_95 rfl
  · replace h := ps_ip c7 h
    refine ps_bipush C dX7_set_67 pb_m2 ?_
    exact ps_end_i h hfin dX7_set_69 rfl
set_option maxRecDepth 10000 in
theorem bk_X7_set_61 {X : ps_X} (C : ps_C X RX7 cX7_set) (hRm : xR X = ps_lvl 1) {r : Int32} {M9 : ps_M} (hfin : ∀ pc lv, decode cX7_set pc = .ok (.ireturn, 1) → narrow .int (.int r) = .int r → ps_G X M9 pc lv [.int r]) {q : Nat} (hq : ps_ck 20 q = true) (a1 : Int32) (a2 : Int32) (M : ps_M) (h : fk_X7_set_61 q a1 a2 M = some (r, M9)) : ps_G X M 61 [some (.ref (xb X + q)), some (.int a1), some (.int a2), none, none] [] := by
  unfold fk_X7_set_61 at h
  refine ps_iconst C dX7_set_61 pi_0 ?_
  exact bk_X7_set_62 C hRm hfin hq a1 a2 (nI 0) _ h
set_option maxRecDepth 10000 in
theorem tt_X7_set (l : Launch) (b : Nat) (D : va_G) {q : Nat} (hq : ps_ck 20 q = true) {a1 : Int32} {a2 : Int32} {M M9 : ps_M} {r : Int32} (h : ff_X7_set q a1 a2 M = some (r, M9)) : ps_Ti l b D yX7_set cX7_set 5 .int 1 [.ref (b + q), .int a1, .int a2] M r M9 := by
  refine ps_met_i (own := RX7) (lv := [some (.ref (b + q)), some (.int a1), some (.int a2), none, none]) (by decide) rfl rfl (Nat.le_of_ble_eq_true rfl) rfl (fun X eX1 eX2 eX3 hRm eX5 C hfin => ?_)
  subst eX1 eX2 eX3
  unfold ff_X7_set at h
  refine ps_iloadn1 C dX7_set_0 ?_
  refine ps_if_ne C 14 dX7_set_1 rfl (fun c16 => ?_) (fun c16 => ?_)
  · replace h := ps_in0 c16 h
    refine ps_iloadn1 C dX7_set_14 ?_
    refine ps_iconst C dX7_set_15 pi_1 ?_
    refine ps_ic_ne C 28 dX7_set_16 rfl (fun c14 => ?_) (fun c14 => ?_)
    · replace h := ps_in0 c14 h
      refine ps_iloadn1 C dX7_set_28 ?_
      refine ps_iconst C dX7_set_29 pi_2 ?_
      refine ps_ic_ne C 42 dX7_set_30 rfl (fun c12 => ?_) (fun c12 => ?_)
      · replace h := ps_in0 c12 h
        refine ps_iloadn1 C dX7_set_42 ?_
        refine ps_iconst C dX7_set_43 pi_3 ?_
        refine ps_ic_ne C 61 dX7_set_44 rfl (fun c10 => ?_) (fun c10 => ?_)
        · replace h := ps_in0 c10 h
          exact bk_X7_set_61 C hRm hfin hq a1 a2 _ h
        · replace h := ps_ip c10 h
          refine ps_iloadn2 C dX7_set_47 ?_
          refine ps_iconst C dX7_set_48 pi_1 ?_
          refine ps_bipush C dX7_set_49 pb_60 ?_
          obtain ⟨r8, M8, hM8, h⟩ := ps_bd h
          refine ps_goS_i C (rest := []) (tt_X7_in (xl X) (xb X) (xD X) hM8) cw_X7_39 (ps_room hRm (by decide)) rfl rfl (Nat.le_of_ble_eq_true rfl) dX7_set_51 ?_
          refine ps_if_eq C 61 dX7_set_54 rfl (fun c9 => ?_) (fun c9 => ?_)
          · replace h := ps_ip c9 h
            exact bk_X7_set_61 C hRm hfin hq a1 a2 _ h
          · replace h := ps_in0 c9 h
            refine ps_iconst C dX7_set_57 pi_1 ?_
            refine ps_goto C 62 dX7_set_58 rfl ?_
            exact bk_X7_set_62 C hRm hfin hq a1 a2 (nI 1) _ h
      · replace h := ps_ip c12 h
        refine ps_iloadn2 C dX7_set_33 ?_
        refine ps_iconst C dX7_set_34 pi_1 ?_
        refine ps_iconst C dX7_set_35 pi_3 ?_
        obtain ⟨r11, M11, hM11, h⟩ := ps_bd h
        refine ps_goS_i C (rest := []) (tt_X7_in (xl X) (xb X) (xD X) hM11) cw_X7_39 (ps_room hRm (by decide)) rfl rfl (Nat.le_of_ble_eq_true rfl) dX7_set_36 ?_
        refine ps_goto C 62 dX7_set_39 rfl ?_
        exact bk_X7_set_62 C hRm hfin hq a1 a2 r11 _ h
    · replace h := ps_ip c14 h
      refine ps_iloadn2 C dX7_set_19 ?_
      refine ps_iconst C dX7_set_20 pi_0 ?_
      refine ps_iconst C dX7_set_21 pi_3 ?_
      obtain ⟨r13, M13, hM13, h⟩ := ps_bd h
      refine ps_goS_i C (rest := []) (tt_X7_in (xl X) (xb X) (xD X) hM13) cw_X7_39 (ps_room hRm (by decide)) rfl rfl (Nat.le_of_ble_eq_true rfl) dX7_set_22 ?_
      refine ps_goto C 62 dX7_set_25 rfl ?_
      exact bk_X7_set_62 C hRm hfin hq a1 a2 r13 _ h
  · replace h := ps_ip c16 h
    refine ps_iloadn2 C dX7_set_4 ?_
    refine ps_iconst C dX7_set_5 pi_4 ?_
    refine ps_bipush C dX7_set_6 pb_60 ?_
    obtain ⟨r15, M15, hM15, h⟩ := ps_bd h
    refine ps_goS_i C (rest := []) (tt_X7_in (xl X) (xb X) (xD X) hM15) cw_X7_39 (ps_room hRm (by decide)) rfl rfl (Nat.le_of_ble_eq_true rfl) dX7_set_8 ?_
    refine ps_goto C 62 dX7_set_11 rfl ?_
    exact bk_X7_set_62 C hRm hfin hq a1 a2 r15 _ h
set_option maxRecDepth 10000 in
theorem tt_X7_parrot (l : Launch) (b : Nat) (D : va_G) {q : Nat} (hq : ps_ck 20 q = true) {M M9 : ps_M} {r : Int32} (h : ff_X7_parrot q  M = some (r, M9)) : ps_Ti l b D yX7_parrot cX7_parrot 1 .int 2 [.ref (b + q)] M r M9 := by
  refine ps_met_i (own := RX7) (lv := [some (.ref (b + q))]) (by decide) rfl rfl (Nat.le_of_ble_eq_true rfl) rfl (fun X eX1 eX2 eX3 hRm eX5 C hfin => ?_)
  subst eX1 eX2 eX3
  unfold ff_X7_parrot at h
  refine ps_aloadn0 C dX7_parrot_0 ?_
  obtain ⟨r1, M1, hM1, h⟩ := ps_bd h
  refine ps_goV_v C (rest := []) (tt_X7_hold (xl X) (xb X) (xD X) hq hM1) cw_X7_100 ps_rc20 hq (ps_room hRm (by decide)) rfl rfl (Nat.le_of_ble_eq_true rfl) dX7_parrot_1 ?_
  refine ps_aloadn0 C dX7_parrot_4 ?_
  refine ps_aloadn0 C dX7_parrot_5 ?_
  obtain ⟨r2, M2, hM2, h⟩ := ps_bd h
  refine ps_goV_i C (rest := [.ref (xb X + q)]) (tt_X7_comes (xl X) (xb X) (xD X) hq hM2) cw_X7_106 ps_rc20 hq (ps_room hRm (by decide)) rfl rfl (Nat.le_of_ble_eq_true rfl) dX7_parrot_6 ?_
  obtain ⟨r3, M3, hM3, h⟩ := ps_bd h
  refine ps_goV_i C (rest := []) (tt_X7_recorded (xl X) (xb X) (xD X) hq hM3) cw_X7_103 ps_rc20 hq (ps_room hRm (by decide)) rfl rfl (Nat.le_of_ble_eq_true rfl) dX7_parrot_9 ?_
  exact ps_end_i h hfin dX7_parrot_12 rfl
set_option maxRecDepth 10000 in
theorem tt_X7_lesson (l : Launch) (b : Nat) (D : va_G) {q : Nat} (hq : ps_ck 20 q = true) {a1 : Int32} {a2 : Int32} {a3 : Int32} {M M9 : ps_M} {r : Int32} (h : ff_X7_lesson q a1 a2 a3 M = some (r, M9)) : ps_Ti l b D yX7_lesson cX7_lesson 4 .int 5 [.ref (b + q), .int a1, .int a2, .int a3] M r M9 := by
  refine ps_met_i (own := RX7) (lv := [some (.ref (b + q)), some (.int a1), some (.int a2), some (.int a3)]) (by decide) rfl rfl (Nat.le_of_ble_eq_true rfl) rfl (fun X eX1 eX2 eX3 hRm eX5 C hfin => ?_)
  subst eX1 eX2 eX3
  unfold ff_X7_lesson at h
  refine ps_aloadn0 C dX7_lesson_0 ?_
  obtain ⟨r1, M1, hM1, h⟩ := ps_bd h
  refine ps_goV_v C (rest := []) (tt_X7_hold (xl X) (xb X) (xD X) hq hM1) cw_X7_100 ps_rc20 hq (ps_room hRm (by decide)) rfl rfl (Nat.le_of_ble_eq_true rfl) dX7_lesson_1 ?_
  refine ps_aloadn0 C dX7_lesson_4 ?_
  refine ps_aloadn0 C dX7_lesson_5 ?_
  refine ps_iloadn1 C dX7_lesson_6 ?_
  refine ps_iloadn2 C dX7_lesson_7 ?_
  refine ps_iloadn3 C dX7_lesson_8 ?_
  obtain ⟨r2, M2, hM2, h⟩ := ps_bd h
  refine ps_goV_i C (rest := [.ref (xb X + q)]) (tt_X7_teaches (xl X) (xb X) (xD X) hq hM2) cw_X7_109 ps_rc20 hq (ps_room hRm (by decide)) rfl rfl (Nat.le_of_ble_eq_true rfl) dX7_lesson_9 ?_
  obtain ⟨r3, M3, hM3, h⟩ := ps_bd h
  refine ps_goV_i C (rest := []) (tt_X7_recorded (xl X) (xb X) (xD X) hq hM3) cw_X7_103 ps_rc20 hq (ps_room hRm (by decide)) rfl rfl (Nat.le_of_ble_eq_true rfl) dX7_lesson_12 ?_
  exact ps_end_i h hfin dX7_lesson_15 rfl
set_option maxRecDepth 10000 in
theorem tt_X7_hush (l : Launch) (b : Nat) (D : va_G) {q : Nat} (hq : ps_ck 20 q = true) {a1 : Int32} {M M9 : ps_M} {r : Int32} (h : ff_X7_hush q a1 M = some (r, M9)) : ps_Ti l b D yX7_hush cX7_hush 2 .int 3 [.ref (b + q), .int a1] M r M9 := by
  refine ps_met_i (own := RX7) (lv := [some (.ref (b + q)), some (.int a1)]) (by decide) rfl rfl (Nat.le_of_ble_eq_true rfl) rfl (fun X eX1 eX2 eX3 hRm eX5 C hfin => ?_)
  subst eX1 eX2 eX3
  unfold ff_X7_hush at h
  refine ps_aloadn0 C dX7_hush_0 ?_
  obtain ⟨r1, M1, hM1, h⟩ := ps_bd h
  refine ps_goV_v C (rest := []) (tt_X7_hold (xl X) (xb X) (xD X) hq hM1) cw_X7_100 ps_rc20 hq (ps_room hRm (by decide)) rfl rfl (Nat.le_of_ble_eq_true rfl) dX7_hush_1 ?_
  refine ps_aloadn0 C dX7_hush_4 ?_
  refine ps_aloadn0 C dX7_hush_5 ?_
  refine ps_iloadn1 C dX7_hush_6 ?_
  obtain ⟨r2, M2, hM2, h⟩ := ps_bd h
  refine ps_goV_i C (rest := [.ref (xb X + q)]) (tt_X7_hushes (xl X) (xb X) (xD X) hq hM2) cw_X7_113 ps_rc20 hq (ps_room hRm (by decide)) rfl rfl (Nat.le_of_ble_eq_true rfl) dX7_hush_7 ?_
  obtain ⟨r3, M3, hM3, h⟩ := ps_bd h
  refine ps_goV_i C (rest := []) (tt_X7_recorded (xl X) (xb X) (xD X) hq hM3) cw_X7_103 ps_rc20 hq (ps_room hRm (by decide)) rfl rfl (Nat.le_of_ble_eq_true rfl) dX7_hush_10 ?_
  exact ps_end_i h hfin dX7_hush_13 rfl
set_option maxRecDepth 10000 in
theorem tt_X7_practise (l : Launch) (b : Nat) (D : va_G) {q : Nat} (hq : ps_ck 20 q = true) {a1 : Int32} {a2 : Int32} {M M9 : ps_M} {r : Int32} (h : ff_X7_practise q a1 a2 M = some (r, M9)) : ps_Ti l b D yX7_practise cX7_practise 3 .int 5 [.ref (b + q), .int a1, .int a2] M r M9 := by
  refine ps_met_i (own := RX7) (lv := [some (.ref (b + q)), some (.int a1), some (.int a2)]) (by decide) rfl rfl (Nat.le_of_ble_eq_true rfl) rfl (fun X eX1 eX2 eX3 hRm eX5 C hfin => ?_)
  subst eX1 eX2 eX3
  unfold ff_X7_practise at h
  refine ps_aloadn0 C dX7_practise_0 ?_
  obtain ⟨r1, M1, hM1, h⟩ := ps_bd h
  refine ps_goV_v C (rest := []) (tt_X7_hold (xl X) (xb X) (xD X) hq hM1) cw_X7_100 ps_rc20 hq (ps_room hRm (by decide)) rfl rfl (Nat.le_of_ble_eq_true rfl) dX7_practise_1 ?_
  refine ps_aloadn0 C dX7_practise_4 ?_
  refine ps_aloadn0 C dX7_practise_5 ?_
  refine ps_iloadn1 C dX7_practise_6 ?_
  refine ps_iloadn2 C dX7_practise_7 ?_
  obtain ⟨r2, M2, hM2, h⟩ := ps_bd h
  refine ps_goV_i C (rest := [.ref (xb X + q)]) (tt_X7_practises (xl X) (xb X) (xD X) hq hM2) cw_X7_116 ps_rc20 hq (ps_room hRm (by decide)) rfl rfl (Nat.le_of_ble_eq_true rfl) dX7_practise_8 ?_
  obtain ⟨r3, M3, hM3, h⟩ := ps_bd h
  refine ps_goV_i C (rest := []) (tt_X7_recorded (xl X) (xb X) (xD X) hq hM3) cw_X7_103 ps_rc20 hq (ps_room hRm (by decide)) rfl rfl (Nat.le_of_ble_eq_true rfl) dX7_practise_11 ?_
  exact ps_end_i h hfin dX7_practise_14 rfl
set_option maxRecDepth 10000 in
theorem tt_X7_night (l : Launch) (b : Nat) (D : va_G) {q : Nat} (hq : ps_ck 20 q = true) {M M9 : ps_M} {r : Int32} (h : ff_X7_night q  M = some (r, M9)) : ps_Ti l b D yX7_night cX7_night 1 .int 5 [.ref (b + q)] M r M9 := by
  refine ps_met_i (own := RX7) (lv := [some (.ref (b + q))]) (by decide) rfl rfl (Nat.le_of_ble_eq_true rfl) rfl (fun X eX1 eX2 eX3 hRm eX5 C hfin => ?_)
  subst eX1 eX2 eX3
  unfold ff_X7_night at h
  refine ps_aloadn0 C dX7_night_0 ?_
  obtain ⟨r1, M1, hM1, h⟩ := ps_bd h
  refine ps_goV_v C (rest := []) (tt_X7_hold (xl X) (xb X) (xD X) hq hM1) cw_X7_100 ps_rc20 hq (ps_room hRm (by decide)) rfl rfl (Nat.le_of_ble_eq_true rfl) dX7_night_1 ?_
  refine ps_aloadn0 C dX7_night_4 ?_
  refine ps_aloadn0 C dX7_night_5 ?_
  obtain ⟨r2, M2, hM2, h⟩ := ps_bd h
  refine ps_goV_i C (rest := [.ref (xb X + q)]) (tt_X7_ends (xl X) (xb X) (xD X) hq hM2) cw_X7_119 ps_rc20 hq (ps_room hRm (by decide)) rfl rfl (Nat.le_of_ble_eq_true rfl) dX7_night_6 ?_
  obtain ⟨r3, M3, hM3, h⟩ := ps_bd h
  refine ps_goV_i C (rest := []) (tt_X7_recorded (xl X) (xb X) (xD X) hq hM3) cw_X7_103 ps_rc20 hq (ps_room hRm (by decide)) rfl rfl (Nat.le_of_ble_eq_true rfl) dX7_night_9 ?_
  exact ps_end_i h hfin dX7_night_12 rfl
set_option maxRecDepth 10000 in
theorem bk_X7_unlike_7 {X : ps_X} (C : ps_C X RX7 cX7_unlike) (hRm : xR X = ps_lvl 1) {r : Int32} {M9 : ps_M} (hfin : ∀ pc lv, decode cX7_unlike pc = .ok (.ireturn, 1) → narrow .int (.int r) = .int r → ps_G X M9 pc lv [.int r]) {q : Nat} (hq : ps_ck 20 q = true) : ∀ (n : Nat) (a1 : Int32) (a2 : Int32) (a3 : Int32) (a4 : Int32) (M : ps_M), fk_X7_unlike_7 q n a1 a2 a3 a4 M = some (r, M9) → ps_G X M 7 [some (.ref (xb X + q)), some (.int a1), some (.int a2), some (.int a3), some (.int a4), none] [] := by
  intro n
  induction n with
  | zero => intro a1 a2 a3 a4 M h; rw [fk_X7_unlike_7] at h; cases h
  | succ n ih =>
    intro a1 a2 a3 a4 M h
    rw [fk_X7_unlike_7] at h
    refine ps_iload4 C dX7_unlike_7 ?_
    refine ps_aloadn0 C dX7_unlike_9 ?_
    refine gf_X7_7 C hq dX7_unlike_10 ?_
    refine ps_iloadn1 C dX7_unlike_13 ?_
    obtain ⟨r1, M1, hM1, h⟩ := ps_bd h
    refine ps_goS_i C (rest := [.ref (xb X + (q + 1)), .int a4]) (tt_X7_n (xl X) (xb X) (xD X) hM1) cw_X7_68 (ps_room hRm (by decide)) rfl rfl (Nat.le_of_ble_eq_true rfl) dX7_unlike_14 ?_
    obtain ⟨hi2, h⟩ := ps_gd h
    refine ps_iald C (kf_20_1 hq) (fun _ _ => rfl) hi2 dX7_unlike_17 ?_
    refine ps_ic_ge C 67 dX7_unlike_18 rfl (fun c13 => ?_) (fun c13 => ?_)
    · replace h := ps_ip c13 h
      refine ps_iloadn3 C dX7_unlike_67 ?_
      exact ps_end_i h hfin dX7_unlike_68 rfl
    · replace h := ps_in0 c13 h
      refine ps_aloadn0 C dX7_unlike_21 ?_
      refine gf_X7_7 C hq dX7_unlike_22 ?_
      refine ps_iloadn1 C dX7_unlike_25 ?_
      obtain ⟨r3, M3, hM3, h⟩ := ps_bd h
      refine ps_goS_i C (rest := [.ref (xb X + (q + 1))]) (tt_X7_n (xl X) (xb X) (xD X) hM3) cw_X7_68 (ps_room hRm (by decide)) rfl rfl (Nat.le_of_ble_eq_true rfl) dX7_unlike_26 ?_
      refine ps_iconst C dX7_unlike_29 pi_2 ?_
      refine ps_iadd C dX7_unlike_30 ?_
      refine ps_iload4 C dX7_unlike_31 ?_
      refine ps_iadd C dX7_unlike_33 ?_
      obtain ⟨hi4, h⟩ := ps_gd h
      refine ps_iald C (kf_20_1 hq) (fun _ _ => rfl) hi4 dX7_unlike_34 ?_
      refine ps_nmi (fun x5 ex5 => ?_)
      replace h := ps_lt ex5 h
      refine ps_istore5 C rfl dX7_unlike_35 ?_
      refine ps_iloadn3 C dX7_unlike_37 ?_
      refine ps_iloadn2 C dX7_unlike_38 ?_
      refine ps_iload5 C dX7_unlike_39 ?_
      refine ps_ishr C dX7_unlike_41 ?_
      refine ps_iconst C dX7_unlike_42 pi_1 ?_
      refine ps_iand C dX7_unlike_43 ?_
      refine ps_if_ne C 51 dX7_unlike_44 rfl (fun c12 => ?_) (fun c12 => ?_)
      · replace h := ps_in0 c12 h
        refine ps_iconst C dX7_unlike_51 pi_0 ?_
        refine ps_iadd C dX7_unlike_52 ?_
        refine ps_nmi (fun x6 ex6 => ?_)
        replace h := ps_lt ex6 h
        refine ps_istoren3 C rfl dX7_unlike_53 ?_
        refine ps_iloadn2 C dX7_unlike_54 ?_
        refine ps_iconst C dX7_unlike_55 pi_1 ?_
        refine ps_iload5 C dX7_unlike_56 ?_
        refine ps_ishl C dX7_unlike_58 ?_
        refine ps_ior C dX7_unlike_59 ?_
        refine ps_nmi (fun x7 ex7 => ?_)
        replace h := ps_lt ex7 h
        refine ps_istoren2 C rfl dX7_unlike_60 ?_
        refine ps_iinc4 C rfl (nI 1) pi_1 dX7_unlike_61 (fun x8 ex8 => ?_)
        replace h := ps_lt ex8 h
        refine ps_goto C 7 dX7_unlike_64 rfl ?_
        refine ps_wk (lv' := [some (.ref (xb X + q)), some (.int a1), some (.int x7), some (.int x6), some (.int x8), none]) (ps_le_s rfl (ps_le_s rfl (ps_le_s rfl (ps_le_s rfl (ps_le_s rfl (ps_le_n ps_le_0)))))) ?_
        exact ih a1 x7 x6 x8 _ h
      · replace h := ps_ip c12 h
        refine ps_iconst C dX7_unlike_47 pi_1 ?_
        refine ps_goto C 52 dX7_unlike_48 rfl ?_
        refine ps_iadd C dX7_unlike_52 ?_
        refine ps_nmi (fun x9 ex9 => ?_)
        replace h := ps_lt ex9 h
        refine ps_istoren3 C rfl dX7_unlike_53 ?_
        refine ps_iloadn2 C dX7_unlike_54 ?_
        refine ps_iconst C dX7_unlike_55 pi_1 ?_
        refine ps_iload5 C dX7_unlike_56 ?_
        refine ps_ishl C dX7_unlike_58 ?_
        refine ps_ior C dX7_unlike_59 ?_
        refine ps_nmi (fun x10 ex10 => ?_)
        replace h := ps_lt ex10 h
        refine ps_istoren2 C rfl dX7_unlike_60 ?_
        refine ps_iinc4 C rfl (nI 1) pi_1 dX7_unlike_61 (fun x11 ex11 => ?_)
        replace h := ps_lt ex11 h
        refine ps_goto C 7 dX7_unlike_64 rfl ?_
        refine ps_wk (lv' := [some (.ref (xb X + q)), some (.int a1), some (.int x10), some (.int x9), some (.int x11), none]) (ps_le_s rfl (ps_le_s rfl (ps_le_s rfl (ps_le_s rfl (ps_le_s rfl (ps_le_n ps_le_0)))))) ?_
        exact ih a1 x10 x9 x11 _ h
set_option maxRecDepth 10000 in
theorem tt_X7_unlike (l : Launch) (b : Nat) (D : va_G) {q : Nat} (hq : ps_ck 20 q = true) {a1 : Int32} {M M9 : ps_M} {r : Int32} (h : ff_X7_unlike q a1 M = some (r, M9)) : ps_Ti l b D yX7_unlike cX7_unlike 6 .int 1 [.ref (b + q), .int a1] M r M9 := by
  refine ps_met_i (own := RX7) (lv := [some (.ref (b + q)), some (.int a1), none, none, none, none]) (by decide) rfl rfl (Nat.le_of_ble_eq_true rfl) rfl (fun X eX1 eX2 eX3 hRm eX5 C hfin => ?_)
  subst eX1 eX2 eX3
  unfold ff_X7_unlike at h
  refine ps_iconst C dX7_unlike_0 pi_0 ?_
  refine ps_istoren2 C rfl dX7_unlike_1 ?_
  refine ps_iconst C dX7_unlike_2 pi_0 ?_
  refine ps_istoren3 C rfl dX7_unlike_3 ?_
  refine ps_iconst C dX7_unlike_4 pi_0 ?_
  refine ps_istore4 C rfl dX7_unlike_5 ?_
  exact bk_X7_unlike_7 C hRm hfin hq ps_fu a1 (nI 0) (nI 0) (nI 0) _ h
set_option maxRecDepth 10000 in
theorem bk_X7_knowers_4 {X : ps_X} (C : ps_C X RX7 cX7_knowers) (hRm : xR X = ps_lvl 4) {r : Int32} {M9 : ps_M} (hfin : ∀ pc lv, decode cX7_knowers pc = .ok (.ireturn, 1) → narrow .int (.int r) = .int r → ps_G X M9 pc lv [.int r]) {q : Nat} (hq : ps_ck 20 q = true) : ∀ (n : Nat) (a1 : Int32) (a2 : Int32) (a3 : Int32) (M : ps_M), fk_X7_knowers_4 q n a1 a2 a3 M = some (r, M9) → ps_G X M 4 [some (.ref (xb X + q)), some (.int a1), some (.int a2), some (.int a3)] [] := by
  intro n
  induction n with
  | zero => intro a1 a2 a3 M h; rw [fk_X7_knowers_4] at h; cases h
  | succ n ih =>
    intro a1 a2 a3 M h
    rw [fk_X7_knowers_4] at h
    refine ps_iloadn3 C dX7_knowers_4 ?_
    refine ps_aloadn0 C dX7_knowers_5 ?_
    refine gf_X7_7 C hq dX7_knowers_6 ?_
    refine ps_bipush C dX7_knowers_9 pb_6 ?_
    obtain ⟨hi1, h⟩ := ps_gd h
    refine ps_iald C (kf_20_1 hq) (fun _ _ => rfl) hi1 dX7_knowers_11 ?_
    refine ps_ic_ge C 42 dX7_knowers_12 rfl (fun c8 => ?_) (fun c8 => ?_)
    · replace h := ps_ip c8 h
      refine ps_iloadn2 C dX7_knowers_42 ?_
      exact ps_end_i h hfin dX7_knowers_43 rfl
    · replace h := ps_in0 c8 h
      refine ps_iloadn2 C dX7_knowers_15 ?_
      refine ps_aloadn0 C dX7_knowers_16 ?_
      refine ps_iloadn3 C dX7_knowers_17 ?_
      refine ps_iloadn1 C dX7_knowers_18 ?_
      obtain ⟨r2, M2, hM2, h⟩ := ps_bd h
      refine ps_goV_i C (rest := [.int a2]) (tt_X7_hundredths (xl X) (xb X) (xD X) hq hM2) cw_X7_77 ps_rc20 hq (ps_room hRm (by decide)) rfl rfl (Nat.le_of_ble_eq_true rfl) dX7_knowers_19 ?_
      refine ps_bipush C dX7_knowers_22 pb_100 ?_
      refine ps_ic_ne C 33 dX7_knowers_24 rfl (fun c7 => ?_) (fun c7 => ?_)
      · replace h := ps_in0 c7 h
        refine ps_iconst C dX7_knowers_33 pi_0 ?_
        refine ps_ior C dX7_knowers_34 ?_
        refine ps_nmi (fun x3 ex3 => ?_)
        replace h := ps_lt ex3 h
        refine ps_istoren2 C rfl dX7_knowers_35 ?_
        refine ps_iinc3 C rfl (nI 1) pi_1 dX7_knowers_36 (fun x4 ex4 => ?_)
        replace h := ps_lt ex4 h
        refine ps_goto C 4 dX7_knowers_39 rfl ?_
        exact ih a1 x3 x4 _ h
      · replace h := ps_ip c7 h
        refine ps_iconst C dX7_knowers_27 pi_1 ?_
        refine ps_iloadn3 C dX7_knowers_28 ?_
        refine ps_ishl C dX7_knowers_29 ?_
        refine ps_goto C 34 dX7_knowers_30 rfl ?_
        refine ps_ior C dX7_knowers_34 ?_
        refine ps_nmi (fun x5 ex5 => ?_)
        replace h := ps_lt ex5 h
        refine ps_istoren2 C rfl dX7_knowers_35 ?_
        refine ps_iinc3 C rfl (nI 1) pi_1 dX7_knowers_36 (fun x6 ex6 => ?_)
        replace h := ps_lt ex6 h
        refine ps_goto C 4 dX7_knowers_39 rfl ?_
        exact ih a1 x5 x6 _ h
set_option maxRecDepth 10000 in
theorem tt_X7_knowers (l : Launch) (b : Nat) (D : va_G) {q : Nat} (hq : ps_ck 20 q = true) {a1 : Int32} {M M9 : ps_M} {r : Int32} (h : ff_X7_knowers q a1 M = some (r, M9)) : ps_Ti l b D yX7_knowers cX7_knowers 4 .int 4 [.ref (b + q), .int a1] M r M9 := by
  refine ps_met_i (own := RX7) (lv := [some (.ref (b + q)), some (.int a1), none, none]) (by decide) rfl rfl (Nat.le_of_ble_eq_true rfl) rfl (fun X eX1 eX2 eX3 hRm eX5 C hfin => ?_)
  subst eX1 eX2 eX3
  unfold ff_X7_knowers at h
  refine ps_iconst C dX7_knowers_0 pi_0 ?_
  refine ps_istoren2 C rfl dX7_knowers_1 ?_
  refine ps_iconst C dX7_knowers_2 pi_0 ?_
  refine ps_istoren3 C rfl dX7_knowers_3 ?_
  exact bk_X7_knowers_4 C hRm hfin hq ps_fu a1 (nI 0) (nI 0) _ h
set_option maxRecDepth 10000 in
theorem tt_X7_ofSong (l : Launch) (b : Nat) (D : va_G) {q : Nat} (hq : ps_ck 20 q = true) {a1 : Int32} {a2 : Int32} {M M9 : ps_M} {r : Int32} (h : ff_X7_ofSong q a1 a2 M = some (r, M9)) : ps_Ti l b D yX7_ofSong cX7_ofSong 3 .int 5 [.ref (b + q), .int a1, .int a2] M r M9 := by
  refine ps_met_i (own := RX7) (lv := [some (.ref (b + q)), some (.int a1), some (.int a2)]) (by decide) rfl rfl (Nat.le_of_ble_eq_true rfl) rfl (fun X eX1 eX2 eX3 hRm eX5 C hfin => ?_)
  subst eX1 eX2 eX3
  unfold ff_X7_ofSong at h
  refine ps_aloadn0 C dX7_ofSong_0 ?_
  refine ps_iloadn1 C dX7_ofSong_1 ?_
  obtain ⟨r1, M1, hM1, h⟩ := ps_bd h
  refine ps_goV_i C (rest := []) (tt_X7_isSong (xl X) (xb X) (xD X) hq hM1) cw_X7_84 ps_rc20 hq (ps_room hRm (by decide)) rfl rfl (Nat.le_of_ble_eq_true rfl) dX7_ofSong_2 ?_
  refine ps_if_ne C 10 dX7_ofSong_5 rfl (fun c14 => ?_) (fun c14 => ?_)
  · replace h := ps_in0 c14 h
    refine ps_iloadn2 C dX7_ofSong_10 ?_
    by_cases c_11_0 : a2 = nI 0
    · replace h := ps_ip c_11_0 h
      refine ps_tabI C 0 (by rw [c_11_0]; rfl) 48 dX7_ofSong_11 (by decide) (by decide) rfl rfl ?_
      refine ps_aloadn0 C dX7_ofSong_48 ?_
      refine gf_X7_7 C hq dX7_ofSong_49 ?_
      refine ps_iloadn1 C dX7_ofSong_52 ?_
      obtain ⟨r12, M12, hM12, h⟩ := ps_bd h
      refine ps_goS_i C (rest := [.ref (xb X + (q + 1))]) (tt_X7_n (xl X) (xb X) (xD X) hM12) cw_X7_68 (ps_room hRm (by decide)) rfl rfl (Nat.le_of_ble_eq_true rfl) dX7_ofSong_53 ?_
      obtain ⟨hi13, h⟩ := ps_gd h
      refine ps_iald C (kf_20_1 hq) (fun _ _ => rfl) hi13 dX7_ofSong_56 ?_
      exact ps_end_i h hfin dX7_ofSong_57 rfl
    · replace h := ps_in0 c_11_0 h
      by_cases c_11_1 : a2 = nI 1
      · replace h := ps_ip c_11_1 h
        refine ps_tabI C 1 (by rw [c_11_1]; rfl) 58 dX7_ofSong_11 (by decide) (by decide) rfl rfl ?_
        refine ps_aloadn0 C dX7_ofSong_58 ?_
        refine ps_iloadn1 C dX7_ofSong_59 ?_
        obtain ⟨r11, M11, hM11, h⟩ := ps_bd h
        refine ps_goV_i C (rest := []) (tt_X7_unlike (xl X) (xb X) (xD X) hq hM11) cw_X7_122 ps_rc20 hq (ps_room hRm (by decide)) rfl rfl (Nat.le_of_ble_eq_true rfl) dX7_ofSong_60 ?_
        exact ps_end_i h hfin dX7_ofSong_63 rfl
      · replace h := ps_in0 c_11_1 h
        by_cases c_11_2 : a2 = nI 2
        · replace h := ps_ip c_11_2 h
          refine ps_tabI C 2 (by rw [c_11_2]; rfl) 64 dX7_ofSong_11 (by decide) (by decide) rfl rfl ?_
          refine ps_aloadn0 C dX7_ofSong_64 ?_
          refine gf_X7_7 C hq dX7_ofSong_65 ?_
          refine ps_iloadn1 C dX7_ofSong_68 ?_
          obtain ⟨r9, M9, hM9, h⟩ := ps_bd h
          refine ps_goS_i C (rest := [.ref (xb X + (q + 1))]) (tt_X7_n (xl X) (xb X) (xD X) hM9) cw_X7_68 (ps_room hRm (by decide)) rfl rfl (Nat.le_of_ble_eq_true rfl) dX7_ofSong_69 ?_
          refine ps_iconst C dX7_ofSong_72 pi_2 ?_
          refine ps_iadd C dX7_ofSong_73 ?_
          obtain ⟨hi10, h⟩ := ps_gd h
          refine ps_iald C (kf_20_1 hq) (fun _ _ => rfl) hi10 dX7_ofSong_74 ?_
          exact ps_end_i h hfin dX7_ofSong_75 rfl
        · replace h := ps_in0 c_11_2 h
          by_cases c_11_3 : a2 = nI 3
          · replace h := ps_ip c_11_3 h
            refine ps_tabI C 3 (by rw [c_11_3]; rfl) 76 dX7_ofSong_11 (by decide) (by decide) rfl rfl ?_
            refine ps_aloadn0 C dX7_ofSong_76 ?_
            refine gf_X7_7 C hq dX7_ofSong_77 ?_
            refine ps_iloadn1 C dX7_ofSong_80 ?_
            obtain ⟨r5, M5, hM5, h⟩ := ps_bd h
            refine ps_goS_i C (rest := [.ref (xb X + (q + 1))]) (tt_X7_n (xl X) (xb X) (xD X) hM5) cw_X7_68 (ps_room hRm (by decide)) rfl rfl (Nat.le_of_ble_eq_true rfl) dX7_ofSong_81 ?_
            refine ps_iconst C dX7_ofSong_84 pi_1 ?_
            refine ps_iadd C dX7_ofSong_85 ?_
            refine ps_aloadn0 C dX7_ofSong_86 ?_
            refine gf_X7_7 C hq dX7_ofSong_87 ?_
            refine ps_iloadn1 C dX7_ofSong_90 ?_
            obtain ⟨r6, M6, hM6, h⟩ := ps_bd h
            refine ps_goS_i C (rest := [.ref (xb X + (q + 1)), .int (r5 + (nI 1)), .ref (xb X + (q + 1))]) (tt_X7_n (xl X) (xb X) (xD X) hM6) cw_X7_68 (ps_room hRm (by decide)) rfl rfl (Nat.le_of_ble_eq_true rfl) dX7_ofSong_91 ?_
            obtain ⟨hi7, h⟩ := ps_gd h
            refine ps_iald C (kf_20_1 hq) (fun _ _ => rfl) hi7 dX7_ofSong_94 ?_
            refine ps_iadd C dX7_ofSong_95 ?_
            obtain ⟨hi8, h⟩ := ps_gd h
            refine ps_iald C (kf_20_1 hq) (fun _ _ => rfl) hi8 dX7_ofSong_96 ?_
            exact ps_end_i h hfin dX7_ofSong_97 rfl
          · replace h := ps_in0 c_11_3 h
            by_cases c_11_4 : a2 = nI 4
            · replace h := ps_ip c_11_4 h
              refine ps_tabI C 4 (by rw [c_11_4]; rfl) 98 dX7_ofSong_11 (by decide) (by decide) rfl rfl ?_
              refine ps_aloadn0 C dX7_ofSong_98 ?_
              refine gf_X7_7 C hq dX7_ofSong_99 ?_
              refine ps_iloadn1 C dX7_ofSong_102 ?_
              obtain ⟨r3, M3, hM3, h⟩ := ps_bd h
              refine ps_goS_i C (rest := [.ref (xb X + (q + 1))]) (tt_X7_n (xl X) (xb X) (xD X) hM3) cw_X7_68 (ps_room hRm (by decide)) rfl rfl (Nat.le_of_ble_eq_true rfl) dX7_ofSong_103 ?_
              refine ps_iconst C dX7_ofSong_106 pi_1 ?_
              refine ps_iadd C dX7_ofSong_107 ?_
              obtain ⟨hi4, h⟩ := ps_gd h
              refine ps_iald C (kf_20_1 hq) (fun _ _ => rfl) hi4 dX7_ofSong_108 ?_
              exact ps_end_i h hfin dX7_ofSong_109 rfl
            · replace h := ps_in0 c_11_4 h
              by_cases c_11_5 : a2 = nI 5
              · replace h := ps_ip c_11_5 h
                refine ps_tabI C 5 (by rw [c_11_5]; rfl) 110 dX7_ofSong_11 (by decide) (by decide) rfl rfl ?_
                refine ps_aloadn0 C dX7_ofSong_110 ?_
                refine ps_iloadn1 C dX7_ofSong_111 ?_
                obtain ⟨r2, M2, hM2, h⟩ := ps_bd h
                refine ps_goV_i C (rest := []) (tt_X7_knowers (xl X) (xb X) (xD X) hq hM2) cw_X7_125 ps_rc20 hq (ps_room hRm (by decide)) rfl rfl (Nat.le_of_ble_eq_true rfl) dX7_ofSong_112 ?_
                exact ps_end_i h hfin dX7_ofSong_115 rfl
              · replace h := ps_in0 c_11_5 h
                have hdf : ps_G X M1 116 [some (.ref (xb X + q)), some (.int a1), some (.int a2)] [] := by
                  refine ps_bipush C dX7_ofSong_116 pb_m2 ?_
                  exact ps_end_i h hfin dX7_ofSong_118 rfl
                by_cases q1 : a2.toInt < 0
                · exact ps_tabO C 116 dX7_ofSong_11 (Or.inl q1) rfl hdf
                by_cases q2 : 5 < a2.toInt
                · exact ps_tabO C 116 dX7_ofSong_11 (Or.inr q2) rfl hdf
                exfalso
                rcases (by omega : a2.toInt = 0 ∨ a2.toInt = 1 ∨ a2.toInt = 2 ∨ a2.toInt = 3 ∨ a2.toInt = 4 ∨ a2.toInt = 5) with q3 | q3 | q3 | q3 | q3 | q3
                · exact absurd (pz_0 q3) c_11_0
                · exact absurd (pz_1 q3) c_11_1
                · exact absurd (pz_2 q3) c_11_2
                · exact absurd (pz_3 q3) c_11_3
                · exact absurd (pz_4 q3) c_11_4
                · exact absurd (pz_5 q3) c_11_5
  · replace h := ps_ip c14 h
    refine ps_iconst C dX7_ofSong_8 pi_m1 ?_
    exact ps_end_i h hfin dX7_ofSong_9 rfl
set_option maxRecDepth 10000 in
theorem tt_X7_bar (l : Launch) (b : Nat) (D : va_G) {q : Nat} (hq : ps_ck 20 q = true) {a1 : Int32} {a2 : Int32} {M M9 : ps_M} {r : Int32} (h : ff_X7_bar q a1 a2 M = some (r, M9)) : ps_Ti l b D yX7_bar cX7_bar 3 .int 2 [.ref (b + q), .int a1, .int a2] M r M9 := by
  refine ps_met_i (own := RX7) (lv := [some (.ref (b + q)), some (.int a1), some (.int a2)]) (by decide) rfl rfl (Nat.le_of_ble_eq_true rfl) rfl (fun X eX1 eX2 eX3 hRm eX5 C hfin => ?_)
  subst eX1 eX2 eX3
  unfold ff_X7_bar at h
  refine ps_aloadn0 C dX7_bar_0 ?_
  refine ps_iloadn1 C dX7_bar_1 ?_
  obtain ⟨r1, M1, hM1, h⟩ := ps_bd h
  refine ps_goV_i C (rest := []) (tt_X7_isSong (xl X) (xb X) (xD X) hq hM1) cw_X7_84 ps_rc20 hq (ps_room hRm (by decide)) rfl rfl (Nat.le_of_ble_eq_true rfl) dX7_bar_2 ?_
  refine ps_if_eq C 43 dX7_bar_5 rfl (fun c8 => ?_) (fun c8 => ?_)
  · replace h := ps_ip c8 h
    refine ps_iconst C dX7_bar_43 pi_m1 ?_
    exact ps_end_i h hfin dX7_bar_44 rfl
  · replace h := ps_in0 c8 h
    refine ps_iloadn2 C dX7_bar_8 ?_
    refine ps_iconst C dX7_bar_9 pi_0 ?_
    refine ps_aloadn0 C dX7_bar_10 ?_
    refine gf_X7_7 C hq dX7_bar_11 ?_
    refine ps_iloadn1 C dX7_bar_14 ?_
    obtain ⟨r2, M2, hM2, h⟩ := ps_bd h
    refine ps_goS_i C (rest := [.ref (xb X + (q + 1)), .int (nI 0), .int a2]) (tt_X7_n (xl X) (xb X) (xD X) hM2) cw_X7_68 (ps_room hRm (by decide)) rfl rfl (Nat.le_of_ble_eq_true rfl) dX7_bar_15 ?_
    obtain ⟨hi3, h⟩ := ps_gd h
    refine ps_iald C (kf_20_1 hq) (fun _ _ => rfl) hi3 dX7_bar_18 ?_
    refine ps_iconst C dX7_bar_19 pi_1 ?_
    refine ps_isub C dX7_bar_20 ?_
    obtain ⟨r4, M4, hM4, h⟩ := ps_bd h
    refine ps_goS_i C (rest := []) (tt_X7_in (xl X) (xb X) (xD X) hM4) cw_X7_39 (ps_room hRm (by decide)) rfl rfl (Nat.le_of_ble_eq_true rfl) dX7_bar_21 ?_
    refine ps_if_eq C 43 dX7_bar_24 rfl (fun c7 => ?_) (fun c7 => ?_)
    · replace h := ps_ip c7 h
      refine ps_iconst C dX7_bar_43 pi_m1 ?_
      exact ps_end_i h hfin dX7_bar_44 rfl
    · replace h := ps_in0 c7 h
      refine ps_aloadn0 C dX7_bar_27 ?_
      refine gf_X7_7 C hq dX7_bar_28 ?_
      refine ps_iloadn1 C dX7_bar_31 ?_
      obtain ⟨r5, M5, hM5, h⟩ := ps_bd h
      refine ps_goS_i C (rest := [.ref (xb X + (q + 1))]) (tt_X7_n (xl X) (xb X) (xD X) hM5) cw_X7_68 (ps_room hRm (by decide)) rfl rfl (Nat.le_of_ble_eq_true rfl) dX7_bar_32 ?_
      refine ps_iconst C dX7_bar_35 pi_2 ?_
      refine ps_iadd C dX7_bar_36 ?_
      refine ps_iloadn2 C dX7_bar_37 ?_
      refine ps_iadd C dX7_bar_38 ?_
      obtain ⟨hi6, h⟩ := ps_gd h
      refine ps_iald C (kf_20_1 hq) (fun _ _ => rfl) hi6 dX7_bar_39 ?_
      refine ps_goto C 44 dX7_bar_40 rfl ?_
      exact ps_end_i h hfin dX7_bar_44 rfl
set_option maxRecDepth 10000 in
theorem bk_X7_strengths_4 {X : ps_X} (C : ps_C X RX7 cX7_strengths) (hRm : xR X = ps_lvl 1) {r : Int32} {M9 : ps_M} (hfin : ∀ pc lv, decode cX7_strengths pc = .ok (.ireturn, 1) → narrow .int (.int r) = .int r → ps_G X M9 pc lv [.int r]) {q : Nat} (hq : ps_ck 20 q = true) : ∀ (n : Nat) (a1 : Int32) (a2 : Int32) (a3 : Int32) (M : ps_M), fk_X7_strengths_4 q n a1 a2 a3 M = some (r, M9) → ps_G X M 4 [some (.ref (xb X + q)), some (.int a1), some (.int a2), some (.int a3)] [] := by
  intro n
  induction n with
  | zero => intro a1 a2 a3 M h; rw [fk_X7_strengths_4] at h; cases h
  | succ n ih =>
    intro a1 a2 a3 M h
    rw [fk_X7_strengths_4] at h
    refine ps_iloadn3 C dX7_strengths_4 ?_
    refine ps_aloadn0 C dX7_strengths_5 ?_
    refine gf_X7_7 C hq dX7_strengths_6 ?_
    refine ps_iloadn1 C dX7_strengths_9 ?_
    obtain ⟨r1, M1, hM1, h⟩ := ps_bd h
    refine ps_goS_i C (rest := [.ref (xb X + (q + 1)), .int a3]) (tt_X7_p (xl X) (xb X) (xD X) hM1) cw_X7_47 (ps_room hRm (by decide)) rfl rfl (Nat.le_of_ble_eq_true rfl) dX7_strengths_10 ?_
    obtain ⟨hi2, h⟩ := ps_gd h
    refine ps_iald C (kf_20_1 hq) (fun _ _ => rfl) hi2 dX7_strengths_13 ?_
    refine ps_ic_ge C 38 dX7_strengths_14 rfl (fun c7 => ?_) (fun c7 => ?_)
    · replace h := ps_ip c7 h
      refine ps_iloadn2 C dX7_strengths_38 ?_
      exact ps_end_i h hfin dX7_strengths_39 rfl
    · replace h := ps_in0 c7 h
      refine ps_iloadn2 C dX7_strengths_17 ?_
      refine ps_aloadn0 C dX7_strengths_18 ?_
      refine gf_X7_7 C hq dX7_strengths_19 ?_
      refine ps_iloadn1 C dX7_strengths_22 ?_
      refine ps_iloadn3 C dX7_strengths_23 ?_
      obtain ⟨r3, M3, hM3, h⟩ := ps_bd h
      refine ps_goS_i C (rest := [.ref (xb X + (q + 1)), .int a2]) (tt_X7_l (xl X) (xb X) (xD X) hM3) cw_X7_51 (ps_room hRm (by decide)) rfl rfl (Nat.le_of_ble_eq_true rfl) dX7_strengths_24 ?_
      refine ps_iconst C dX7_strengths_27 pi_1 ?_
      refine ps_iadd C dX7_strengths_28 ?_
      obtain ⟨hi4, h⟩ := ps_gd h
      refine ps_iald C (kf_20_1 hq) (fun _ _ => rfl) hi4 dX7_strengths_29 ?_
      refine ps_iadd C dX7_strengths_30 ?_
      refine ps_nmi (fun x5 ex5 => ?_)
      replace h := ps_lt ex5 h
      refine ps_istoren2 C rfl dX7_strengths_31 ?_
      refine ps_iinc3 C rfl (nI 1) pi_1 dX7_strengths_32 (fun x6 ex6 => ?_)
      replace h := ps_lt ex6 h
      refine ps_goto C 4 dX7_strengths_35 rfl ?_
      exact ih a1 x5 x6 _ h
set_option maxRecDepth 10000 in
theorem tt_X7_strengths (l : Launch) (b : Nat) (D : va_G) {q : Nat} (hq : ps_ck 20 q = true) {a1 : Int32} {M M9 : ps_M} {r : Int32} (h : ff_X7_strengths q a1 M = some (r, M9)) : ps_Ti l b D yX7_strengths cX7_strengths 4 .int 1 [.ref (b + q), .int a1] M r M9 := by
  refine ps_met_i (own := RX7) (lv := [some (.ref (b + q)), some (.int a1), none, none]) (by decide) rfl rfl (Nat.le_of_ble_eq_true rfl) rfl (fun X eX1 eX2 eX3 hRm eX5 C hfin => ?_)
  subst eX1 eX2 eX3
  unfold ff_X7_strengths at h
  refine ps_iconst C dX7_strengths_0 pi_0 ?_
  refine ps_istoren2 C rfl dX7_strengths_1 ?_
  refine ps_iconst C dX7_strengths_2 pi_0 ?_
  refine ps_istoren3 C rfl dX7_strengths_3 ?_
  exact bk_X7_strengths_4 C hRm hfin hq ps_fu a1 (nI 0) (nI 0) _ h
