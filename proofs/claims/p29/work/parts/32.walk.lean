set_option maxRecDepth 10000 in
theorem tt_X6_undo (l : Launch) (b : Nat) (D : va_G) {q : Nat} (hq : ps_ck 0 q = true) {M M9 : ps_M} {r : Int32} (h : ff_X6_undo q  M = some (r, M9)) : ps_Ti l b D yX6_undo cX6_undo 1 .int 4 [.ref (b + q)] M r M9 := by
  refine ps_met_i (own := RX6) (lv := [some (.ref (b + q))]) (by decide) rfl rfl (Nat.le_of_ble_eq_true rfl) rfl (fun X eX1 eX2 eX3 hRm eX5 C hfin => ?_)
  subst eX1 eX2 eX3
  unfold ff_X6_undo at h
  refine ps_aloadn0 C dX6_undo_0 ?_
  refine gf_X6_19 C hq dX6_undo_1 ?_
  refine gf_X6_193 C (kf_0_41 hq) dX6_undo_4 ?_
  refine ps_if_ne C 13 dX6_undo_7 rfl (fun c2 => ?_) (fun c2 => ?_)
  · replace h := ps_in0 c2 h
    refine ps_aloadn0 C dX6_undo_13 ?_
    refine gf_X6_19 C hq dX6_undo_14 ?_
    refine ps_aloadn0 C dX6_undo_17 ?_
    refine gf_X6_10 C hq dX6_undo_18 ?_
    obtain ⟨r1, M1, hM1, h⟩ := ps_bd h
    refine ps_goV_i C (rest := []) (tt_X0_takeBack (xl X) (xb X) (xD X) (kf_0_41 hq) (kf_0_1 hq) hM1) cw_X6_232 ps_rc12 (kf_0_41 hq) (ps_room hRm (by decide)) rfl rfl (Nat.le_of_ble_eq_true rfl) dX6_undo_21 ?_
    exact ps_end_i h hfin dX6_undo_24 rfl
  · replace h := ps_ip c2 h
    refine ps_bipush C dX6_undo_10 pb_m5 ?_
    exact ps_end_i h hfin dX6_undo_12 rfl
set_option maxRecDepth 10000 in
theorem tt_X6_save (l : Launch) (b : Nat) (D : va_G) {q : Nat} (hq : ps_ck 0 q = true) {a1 : Int32} {M M9 : ps_M} {r : Int32} (h : ff_X6_save q a1 M = some (r, M9)) : ps_Ti l b D yX6_save cX6_save 2 .int 3 [.ref (b + q), .int a1] M r M9 := by
  refine ps_met_i (own := RX6) (lv := [some (.ref (b + q)), some (.int a1)]) (by decide) rfl rfl (Nat.le_of_ble_eq_true rfl) rfl (fun X eX1 eX2 eX3 hRm eX5 C hfin => ?_)
  subst eX1 eX2 eX3
  unfold ff_X6_save at h
  refine ps_iloadn1 C dX6_save_0 ?_
  refine ps_if_lt C 9 dX6_save_1 rfl (fun c6 => ?_) (fun c6 => ?_)
  · replace h := ps_ip c6 h
    refine ps_bipush C dX6_save_9 pb_m2 ?_
    exact ps_end_i h hfin dX6_save_11 rfl
  · replace h := ps_in0 c6 h
    refine ps_iloadn1 C dX6_save_4 ?_
    refine ps_iconst C dX6_save_5 pi_2 ?_
    refine ps_ic_lt C 12 dX6_save_6 rfl (fun c5 => ?_) (fun c5 => ?_)
    · replace h := ps_ip c5 h
      refine ps_aloadn0 C dX6_save_12 ?_
      refine gf_X6_30 C hq dX6_save_13 ?_
      refine ps_iloadn1 C dX6_save_16 ?_
      obtain ⟨hi1, h⟩ := ps_gd h
      refine ps_ald18 C (kf_0_327 hq) hi1 dX6_save_17 ?_
      refine ps_aloadn0 C dX6_save_18 ?_
      refine gf_X6_10 C hq dX6_save_19 ?_
      obtain ⟨r2, M2, hM2, h⟩ := ps_bd h
      refine ps_goV_v C (rest := []) (tt_X1_copyFrom (xl X) (xb X) (xD X) (ke_18 (kf_0_327 hq) hi1) (kf_0_1 hq) hM2) cw_X6_236 ps_rc1 (ke_18 (kf_0_327 hq) hi1) (ps_room hRm (by decide)) rfl rfl (Nat.le_of_ble_eq_true rfl) dX6_save_22 ?_
      refine ps_aloadn0 C dX6_save_25 ?_
      refine gf_X6_34 C hq dX6_save_26 ?_
      refine ps_iloadn1 C dX6_save_29 ?_
      refine ps_iconst C dX6_save_30 pi_1 ?_
      obtain ⟨hi3, h⟩ := ps_gd h
      refine ps_zast C (kf_0_328 hq) (fun _ _ => rfl) hi3 (by decide) dX6_save_31 (fun M4 eM4 => ?_)
      replace h := ps_lt eM4 h
      refine ps_aloadn0 C dX6_save_32 ?_
      refine gf_X6_10 C hq dX6_save_33 ?_
      refine gf_X6_74 C (kf_0_1 hq) dX6_save_36 ?_
      refine gf_X6_161 C (kf_1_2 (kf_0_1 hq)) dX6_save_39 ?_
      exact ps_end_i h hfin dX6_save_42 rfl
    · replace h := ps_in0 c5 h
      refine ps_bipush C dX6_save_9 pb_m2 ?_
      exact ps_end_i h hfin dX6_save_11 rfl
set_option maxRecDepth 10000 in
theorem tt_X6_restore (l : Launch) (b : Nat) (D : va_G) {q : Nat} (hq : ps_ck 0 q = true) {a1 : Int32} {M M9 : ps_M} {r : Int32} (h : ff_X6_restore q a1 M = some (r, M9)) : ps_Ti l b D yX6_restore cX6_restore 2 .int 4 [.ref (b + q), .int a1] M r M9 := by
  refine ps_met_i (own := RX6) (lv := [some (.ref (b + q)), some (.int a1)]) (by decide) rfl rfl (Nat.le_of_ble_eq_true rfl) rfl (fun X eX1 eX2 eX3 hRm eX5 C hfin => ?_)
  subst eX1 eX2 eX3
  unfold ff_X6_restore at h
  refine ps_iloadn1 C dX6_restore_0 ?_
  refine ps_if_lt C 9 dX6_restore_1 rfl (fun c8 => ?_) (fun c8 => ?_)
  · replace h := ps_ip c8 h
    refine ps_bipush C dX6_restore_9 pb_m2 ?_
    exact ps_end_i h hfin dX6_restore_11 rfl
  · replace h := ps_in0 c8 h
    refine ps_iloadn1 C dX6_restore_4 ?_
    refine ps_iconst C dX6_restore_5 pi_2 ?_
    refine ps_ic_lt C 12 dX6_restore_6 rfl (fun c7 => ?_) (fun c7 => ?_)
    · replace h := ps_ip c7 h
      refine ps_aloadn0 C dX6_restore_12 ?_
      refine gf_X6_34 C hq dX6_restore_13 ?_
      refine ps_iloadn1 C dX6_restore_16 ?_
      obtain ⟨hi1, h⟩ := ps_gd h
      refine ps_zald C (kf_0_328 hq) (fun _ _ => rfl) hi1 dX6_restore_17 ?_
      refine ps_if_ne C 24 dX6_restore_18 rfl (fun c6 => ?_) (fun c6 => ?_)
      · replace h := ps_in0 c6 h
        refine ps_aloadn0 C dX6_restore_24 ?_
        refine gf_X6_19 C hq dX6_restore_25 ?_
        refine ps_aloadn0 C dX6_restore_28 ?_
        refine gf_X6_10 C hq dX6_restore_29 ?_
        obtain ⟨r2, M2, hM2, h⟩ := ps_bd h
        refine ps_goV_v C (rest := []) (tt_X0_noteBefore (xl X) (xb X) (xD X) (kf_0_41 hq) (kf_0_1 hq) hM2) cw_X6_45 ps_rc12 (kf_0_41 hq) (ps_room hRm (by decide)) rfl rfl (Nat.le_of_ble_eq_true rfl) dX6_restore_32 ?_
        refine ps_aloadn0 C dX6_restore_35 ?_
        refine gf_X6_10 C hq dX6_restore_36 ?_
        refine ps_aloadn0 C dX6_restore_39 ?_
        refine gf_X6_30 C hq dX6_restore_40 ?_
        refine ps_iloadn1 C dX6_restore_43 ?_
        obtain ⟨hi3, h⟩ := ps_gd h
        refine ps_ald18 C (kf_0_327 hq) hi3 dX6_restore_44 ?_
        obtain ⟨r4, M4, hM4, h⟩ := ps_bd h
        refine ps_goV_v C (rest := []) (tt_X1_copyFrom (xl X) (xb X) (xD X) (kf_0_1 hq) (ke_18 (kf_0_327 hq) hi3) hM4) cw_X6_236 ps_rc1 (kf_0_1 hq) (ps_room hRm (by decide)) rfl rfl (Nat.le_of_ble_eq_true rfl) dX6_restore_45 ?_
        refine ps_aloadn0 C dX6_restore_48 ?_
        refine gf_X6_19 C hq dX6_restore_49 ?_
        refine ps_aloadn0 C dX6_restore_52 ?_
        refine gf_X6_10 C hq dX6_restore_53 ?_
        refine gf_X6_74 C (kf_0_1 hq) dX6_restore_56 ?_
        refine gf_X6_161 C (kf_1_2 (kf_0_1 hq)) dX6_restore_59 ?_
        obtain ⟨r5, M5, hM5, h⟩ := ps_bd h
        refine ps_goV_i C (rest := []) (tt_X0_keepUnlessError (xl X) (xb X) (xD X) (kf_0_41 hq) hM5) cw_X6_53 ps_rc12 (kf_0_41 hq) (ps_room hRm (by decide)) rfl rfl (Nat.le_of_ble_eq_true rfl) dX6_restore_62 ?_
        exact ps_end_i h hfin dX6_restore_65 rfl
      · replace h := ps_ip c6 h
        refine ps_bipush C dX6_restore_21 pb_m5 ?_
        exact ps_end_i h hfin dX6_restore_23 rfl
    · replace h := ps_in0 c7 h
      refine ps_bipush C dX6_restore_9 pb_m2 ?_
      exact ps_end_i h hfin dX6_restore_11 rfl
set_option maxRecDepth 10000 in
theorem bk_L_next_69 {X : ps_X} (C : ps_C X RL cL_next) (hRm : xR X = ps_lvl 7) {r : Int32} {M9 : ps_M} (hfin : ∀ pc lv, decode cL_next pc = .ok (.ireturn, 1) → narrow .int (.int r) = .int r → ps_G X M9 pc lv [.int r]) {K : Nat → Int32 → Int32 → Int32 → Int32 → Int32 → ps_M → Option (Int32 × ps_M)} (hK : ∀ (b0 : Nat) (a1 : Int32) (a2 : Int32) (a3 : Int32) (a4 : Int32) (a5 : Int32) (hb0 : ps_ck 0 b0 = true) (M : ps_M), K b0 a1 a2 a3 a4 a5 M = some (r, M9) → ps_G X M 9 [some (.ref (xb X + b0)), some (.int a1), some (.int a2), some (.int a3), some (.int a4), some (.int a5), none] []) (b0 : Nat) (a1 : Int32) (a2 : Int32) (a3 : Int32) (a4 : Int32) (a5 : Int32) (a6 : Int32) (s0 : Int32) (hb0 : ps_ck 0 b0 = true) (M : ps_M) (h : fk_L_next_69 K b0 a1 a2 a3 a4 a5 a6 s0 M = some (r, M9)) : ps_G X M 69 [some (.ref (xb X + b0)), some (.int a1), some (.int a2), some (.int a3), some (.int a4), some (.int a5), some (.int a6)] [.int s0] := by
  unfold fk_L_next_69 at h
  refine ps_istoren3 C rfl dL_next_69 ?_
  refine ps_iload6 C dL_next_70 ?_
  refine ps_if_eq C 86 dL_next_72 rfl (fun c6 => ?_) (fun c6 => ?_)
  · replace h := ps_ip c6 h
    refine ps_iload4 C dL_next_86 ?_
    refine ps_istore4 C rfl dL_next_88 ?_
    refine ps_iinc5 C rfl (nI 1) pi_1 dL_next_90 (fun x3 ex3 => ?_)
    replace h := ps_lt ex3 h
    refine ps_goto C 9 dL_next_93 rfl ?_
    refine ps_wk (lv' := [some (.ref (xb X + b0)), some (.int a1), some (.int a2), some (.int s0), some (.int a4), some (.int x3), none]) (ps_le_s rfl (ps_le_s rfl (ps_le_s rfl (ps_le_s rfl (ps_le_s rfl (ps_le_s rfl (ps_le_n ps_le_0))))))) ?_
    exact hK b0 a1 a2 s0 a4 x3 hb0 _ h
  · replace h := ps_in0 c6 h
    refine ps_aloadn0 C dL_next_75 ?_
    refine ps_iloadn1 C dL_next_76 ?_
    refine ps_iload5 C dL_next_77 ?_
    refine ps_iconst C dL_next_79 pi_2 ?_
    obtain ⟨r4, M4, hM4, h⟩ := ps_bd h
    refine ps_goV_i C (rest := []) (tt_X6_link (xl X) (xb X) (xD X) hb0 hM4) cw_L_15 ps_rc0 hb0 (ps_room hRm (by decide)) rfl rfl (Nat.le_of_ble_eq_true rfl) dL_next_80 ?_
    refine ps_goto C 88 dL_next_83 rfl ?_
    refine ps_istore4 C rfl dL_next_88 ?_
    refine ps_iinc5 C rfl (nI 1) pi_1 dL_next_90 (fun x5 ex5 => ?_)
    replace h := ps_lt ex5 h
    refine ps_goto C 9 dL_next_93 rfl ?_
    refine ps_wk (lv' := [some (.ref (xb X + b0)), some (.int a1), some (.int a2), some (.int s0), some (.int r4), some (.int x5), none]) (ps_le_s rfl (ps_le_s rfl (ps_le_s rfl (ps_le_s rfl (ps_le_s rfl (ps_le_s rfl (ps_le_n ps_le_0))))))) ?_
    exact hK b0 a1 a2 s0 r4 x5 hb0 _ h
set_option maxRecDepth 10000 in
theorem bk_L_next_50 {X : ps_X} (C : ps_C X RL cL_next) (hRm : xR X = ps_lvl 7) {r : Int32} {M9 : ps_M} (hfin : ∀ pc lv, decode cL_next pc = .ok (.ireturn, 1) → narrow .int (.int r) = .int r → ps_G X M9 pc lv [.int r]) {K : Nat → Int32 → Int32 → Int32 → Int32 → Int32 → ps_M → Option (Int32 × ps_M)} (hK : ∀ (b0 : Nat) (a1 : Int32) (a2 : Int32) (a3 : Int32) (a4 : Int32) (a5 : Int32) (hb0 : ps_ck 0 b0 = true) (M : ps_M), K b0 a1 a2 a3 a4 a5 M = some (r, M9) → ps_G X M 9 [some (.ref (xb X + b0)), some (.int a1), some (.int a2), some (.int a3), some (.int a4), some (.int a5), none] []) (b0 : Nat) (a1 : Int32) (a2 : Int32) (a3 : Int32) (a4 : Int32) (a5 : Int32) (s0 : Int32) (hb0 : ps_ck 0 b0 = true) (M : ps_M) (h : fk_L_next_50 K b0 a1 a2 a3 a4 a5 s0 M = some (r, M9)) : ps_G X M 50 [some (.ref (xb X + b0)), some (.int a1), some (.int a2), some (.int a3), some (.int a4), some (.int a5), none] [.int s0] := by
  unfold fk_L_next_50 at h
  refine ps_istore6 C rfl dL_next_50 ?_
  refine ps_iload6 C dL_next_52 ?_
  refine ps_if_eq C 68 dL_next_54 rfl (fun c8 => ?_) (fun c8 => ?_)
  · replace h := ps_ip c8 h
    refine ps_iloadn3 C dL_next_68 ?_
    exact bk_L_next_69 C hRm hfin hK b0 a1 a2 a3 a4 a5 s0 a3 hb0 _ h
  · replace h := ps_in0 c8 h
    refine ps_aloadn0 C dL_next_57 ?_
    refine ps_iloadn1 C dL_next_58 ?_
    refine ps_iload5 C dL_next_59 ?_
    refine ps_iconst C dL_next_61 pi_1 ?_
    obtain ⟨r7, M7, hM7, h⟩ := ps_bd h
    refine ps_goV_i C (rest := []) (tt_X6_link (xl X) (xb X) (xD X) hb0 hM7) cw_L_15 ps_rc0 hb0 (ps_room hRm (by decide)) rfl rfl (Nat.le_of_ble_eq_true rfl) dL_next_62 ?_
    refine ps_goto C 69 dL_next_65 rfl ?_
    exact bk_L_next_69 C hRm hfin hK b0 a1 a2 a3 a4 a5 s0 r7 hb0 _ h
set_option maxRecDepth 10000 in
theorem bk_L_next_49 {X : ps_X} (C : ps_C X RL cL_next) (hRm : xR X = ps_lvl 7) {r : Int32} {M9 : ps_M} (hfin : ∀ pc lv, decode cL_next pc = .ok (.ireturn, 1) → narrow .int (.int r) = .int r → ps_G X M9 pc lv [.int r]) {K : Nat → Int32 → Int32 → Int32 → Int32 → Int32 → ps_M → Option (Int32 × ps_M)} (hK : ∀ (b0 : Nat) (a1 : Int32) (a2 : Int32) (a3 : Int32) (a4 : Int32) (a5 : Int32) (hb0 : ps_ck 0 b0 = true) (M : ps_M), K b0 a1 a2 a3 a4 a5 M = some (r, M9) → ps_G X M 9 [some (.ref (xb X + b0)), some (.int a1), some (.int a2), some (.int a3), some (.int a4), some (.int a5), none] []) (b0 : Nat) (a1 : Int32) (a2 : Int32) (a3 : Int32) (a4 : Int32) (a5 : Int32) (hb0 : ps_ck 0 b0 = true) (M : ps_M) (h : fk_L_next_49 K b0 a1 a2 a3 a4 a5 M = some (r, M9)) : ps_G X M 49 [some (.ref (xb X + b0)), some (.int a1), some (.int a2), some (.int a3), some (.int a4), some (.int a5), none] [] := by
  unfold fk_L_next_49 at h
  refine ps_iconst C dL_next_49 pi_0 ?_
  exact bk_L_next_50 C hRm hfin hK b0 a1 a2 a3 a4 a5 (nI 0) hb0 _ h
set_option maxRecDepth 10000 in
theorem bk_L_next_9 {X : ps_X} (C : ps_C X RL cL_next) (hRm : xR X = ps_lvl 7) {r : Int32} {M9 : ps_M} (hfin : ∀ pc lv, decode cL_next pc = .ok (.ireturn, 1) → narrow .int (.int r) = .int r → ps_G X M9 pc lv [.int r]) : ∀ (n : Nat) (b0 : Nat) (a1 : Int32) (a2 : Int32) (a3 : Int32) (a4 : Int32) (a5 : Int32) (hb0 : ps_ck 0 b0 = true) (M : ps_M), fk_L_next_9 n b0 a1 a2 a3 a4 a5 M = some (r, M9) → ps_G X M 9 [some (.ref (xb X + b0)), some (.int a1), some (.int a2), some (.int a3), some (.int a4), some (.int a5), none] [] := by
  intro n
  induction n with
  | zero => intro b0 a1 a2 a3 a4 a5 hb0 M h; rw [fk_L_next_9] at h; cases h
  | succ n ih =>
    intro b0 a1 a2 a3 a4 a5 hb0 M h
    rw [fk_L_next_9] at h
    refine ps_iload5 C dL_next_9 ?_
    refine ps_aloadn0 C dL_next_11 ?_
    refine ps_iloadn1 C dL_next_12 ?_
    refine ps_iconst C dL_next_13 pi_0 ?_
    obtain ⟨r1, M1, hM1, h⟩ := ps_bd h
    refine ps_goV_i C (rest := [.int a5]) (tt_X6_of (xl X) (xb X) (xD X) hb0 hM1) cw_L_9 ps_rc0 hb0 (ps_room hRm (by decide)) rfl rfl (Nat.le_of_ble_eq_true rfl) dL_next_14 ?_
    refine ps_ic_ge C 96 dL_next_17 rfl (fun c12 => ?_) (fun c12 => ?_)
    · replace h := ps_ip c12 h
      refine ps_iloadn3 C dL_next_96 ?_
      exact ps_end_i h hfin dL_next_97 rfl
    · replace h := ps_in0 c12 h
      refine ps_aloadn0 C dL_next_20 ?_
      refine ps_iloadn1 C dL_next_21 ?_
      refine ps_iload5 C dL_next_22 ?_
      refine ps_iconst C dL_next_24 pi_0 ?_
      obtain ⟨r2, M2, hM2, h⟩ := ps_bd h
      refine ps_goV_i C (rest := []) (tt_X6_link (xl X) (xb X) (xD X) hb0 hM2) cw_L_15 ps_rc0 hb0 (ps_room hRm (by decide)) rfl rfl (Nat.le_of_ble_eq_true rfl) dL_next_25 ?_
      refine ps_iloadn2 C dL_next_28 ?_
      refine ps_ic_ne C 49 dL_next_29 rfl (fun c11 => ?_) (fun c11 => ?_)
      · replace h := ps_in0 c11 h
        exact bk_L_next_49 C hRm hfin (fun b0' a1' a2' a3' a4' a5' hb0' M' h' => ih b0' a1' a2' a3' a4' a5' hb0' M' h') b0 a1 a2 a3 a4 a5 hb0 _ h
      · replace h := ps_ip c11 h
        refine ps_aloadn0 C dL_next_32 ?_
        refine ps_iloadn1 C dL_next_33 ?_
        refine ps_iload5 C dL_next_34 ?_
        refine ps_iconst C dL_next_36 pi_2 ?_
        obtain ⟨r9, M9, hM9, h⟩ := ps_bd h
        refine ps_goV_i C (rest := []) (tt_X6_link (xl X) (xb X) (xD X) hb0 hM9) cw_L_15 ps_rc0 hb0 (ps_room hRm (by decide)) rfl rfl (Nat.le_of_ble_eq_true rfl) dL_next_37 ?_
        refine ps_iload4 C dL_next_40 ?_
        refine ps_ic_le C 49 dL_next_42 rfl (fun c10 => ?_) (fun c10 => ?_)
        · replace h := ps_ip c10 h
          exact bk_L_next_49 C hRm hfin (fun b0' a1' a2' a3' a4' a5' hb0' M' h' => ih b0' a1' a2' a3' a4' a5' hb0' M' h') b0 a1 a2 a3 a4 a5 hb0 _ h
        · replace h := ps_in0 c10 h
          refine ps_iconst C dL_next_45 pi_1 ?_
          refine ps_goto C 50 dL_next_46 rfl ?_
          exact bk_L_next_50 C hRm hfin (fun b0' a1' a2' a3' a4' a5' hb0' M' h' => ih b0' a1' a2' a3' a4' a5' hb0' M' h') b0 a1 a2 a3 a4 a5 (nI 1) hb0 _ h
set_option maxRecDepth 10000 in
theorem tt_L_next (l : Launch) (b : Nat) (D : va_G) {b0 : Nat} (hb0 : ps_ck 0 b0 = true) {a1 : Int32} {a2 : Int32} {M M9 : ps_M} {r : Int32} (h : ff_L_next b0 a1 a2 M = some (r, M9)) : ps_Ti l b D yL_next cL_next 7 .int 7 [.ref (b + b0), .int a1, .int a2] M r M9 := by
  refine ps_met_i (own := RL) (lv := [some (.ref (b + b0)), some (.int a1), some (.int a2), none, none, none, none]) (by decide) rfl rfl (Nat.le_of_ble_eq_true rfl) rfl (fun X eX1 eX2 eX3 hRm eX5 C hfin => ?_)
  subst eX1 eX2 eX3
  unfold ff_L_next at h
  refine ps_bipush C dL_next_0 pb_m6 ?_
  refine ps_istoren3 C rfl dL_next_2 ?_
  refine ps_iconst C dL_next_3 pi_0 ?_
  refine ps_istore4 C rfl dL_next_4 ?_
  refine ps_iconst C dL_next_6 pi_0 ?_
  refine ps_istore5 C rfl dL_next_7 ?_
  exact bk_L_next_9 C hRm hfin ps_fu b0 a1 a2 (ps_m 6) (nI 0) (nI 0) hb0 _ h
set_option maxRecDepth 10000 in
theorem bk_L_areLinks_169 {X : ps_X} (C : ps_C X RL cL_areLinks) (hRm : xR X = ps_lvl 8) {r : Int32} {M9 : ps_M} (hfin : ∀ pc lv, decode cL_areLinks pc = .ok (.ireturn, 1) → narrow .boolean (.int r) = .int r → ps_G X M9 pc lv [.int r]) (b0 : Nat) (a1 : Int32) (a2 : Int32) (a3 : Int32) (a4 : Int32) (a5 : Int32) (hb0 : ps_ck 0 b0 = true) (M : ps_M) (h : fk_L_areLinks_169 b0 a1 a2 a3 a4 a5 M = some (r, M9)) : ps_G X M 169 [some (.ref (xb X + b0)), some (.int a1), some (.int a2), some (.int a3), some (.int a4), some (.int a5), none] [] := by
  unfold fk_L_areLinks_169 at h
  refine ps_iload4 C dL_areLinks_169 ?_
  refine ps_if_eq C 188 dL_areLinks_171 rfl (fun c5 => ?_) (fun c5 => ?_)
  · replace h := ps_ip c5 h
    refine ps_iconst C dL_areLinks_188 pi_0 ?_
    exact ps_end_i h hfin dL_areLinks_189 rfl
  · replace h := ps_in0 c5 h
    refine ps_iloadn3 C dL_areLinks_174 ?_
    refine ps_aloadn0 C dL_areLinks_175 ?_
    refine ps_iloadn1 C dL_areLinks_176 ?_
    refine ps_iconst C dL_areLinks_177 pi_1 ?_
    obtain ⟨r3, M3, hM3, h⟩ := ps_bd h
    refine ps_goV_i C (rest := [.int a3]) (tt_X6_of (xl X) (xb X) (xD X) hb0 hM3) cw_L_9 ps_rc0 hb0 (ps_room hRm (by decide)) rfl rfl (Nat.le_of_ble_eq_true rfl) dL_areLinks_178 ?_
    refine ps_ic_ne C 188 dL_areLinks_181 rfl (fun c4 => ?_) (fun c4 => ?_)
    · replace h := ps_in0 c4 h
      refine ps_iconst C dL_areLinks_188 pi_0 ?_
      exact ps_end_i h hfin dL_areLinks_189 rfl
    · replace h := ps_ip c4 h
      refine ps_iconst C dL_areLinks_184 pi_1 ?_
      refine ps_goto C 189 dL_areLinks_185 rfl ?_
      exact ps_end_i h hfin dL_areLinks_189 rfl
set_option maxRecDepth 10000 in
theorem bk_L_areLinks_56 {X : ps_X} (C : ps_C X RL cL_areLinks) (hRm : xR X = ps_lvl 8) {r : Int32} {M9 : ps_M} (hfin : ∀ pc lv, decode cL_areLinks pc = .ok (.ireturn, 1) → narrow .boolean (.int r) = .int r → ps_G X M9 pc lv [.int r]) : ∀ (n : Nat) (b0 : Nat) (a1 : Int32) (a2 : Int32) (a3 : Int32) (a4 : Int32) (a5 : Int32) (hb0 : ps_ck 0 b0 = true) (M : ps_M), fk_L_areLinks_56 n b0 a1 a2 a3 a4 a5 M = some (r, M9) → ps_G X M 56 [some (.ref (xb X + b0)), some (.int a1), some (.int a2), some (.int a3), some (.int a4), some (.int a5), none] [] := by
  intro n
  induction n with
  | zero => intro b0 a1 a2 a3 a4 a5 hb0 M h; rw [fk_L_areLinks_56] at h; cases h
  | succ n ih =>
    intro b0 a1 a2 a3 a4 a5 hb0 M h
    rw [fk_L_areLinks_56] at h
    refine ps_iload5 C dL_areLinks_56 ?_
    refine ps_iloadn2 C dL_areLinks_58 ?_
    refine ps_ic_ge C 169 dL_areLinks_59 rfl (fun c28 => ?_) (fun c28 => ?_)
    · replace h := ps_ip c28 h
      exact bk_L_areLinks_169 C hRm hfin b0 a1 a2 a3 a4 a5 hb0 _ h
    · replace h := ps_in0 c28 h
      refine ps_iload4 C dL_areLinks_62 ?_
      refine ps_if_eq C 169 dL_areLinks_64 rfl (fun c27 => ?_) (fun c27 => ?_)
      · replace h := ps_ip c27 h
        exact bk_L_areLinks_169 C hRm hfin b0 a1 a2 a3 a4 a5 hb0 _ h
      · replace h := ps_in0 c27 h
        refine ps_aloadn0 C dL_areLinks_67 ?_
        refine ps_iloadn1 C dL_areLinks_68 ?_
        refine ps_iload5 C dL_areLinks_69 ?_
        refine ps_iconst C dL_areLinks_71 pi_0 ?_
        obtain ⟨r6, M6, hM6, h⟩ := ps_bd h
        refine ps_goV_i C (rest := []) (tt_X6_link (xl X) (xb X) (xD X) hb0 hM6) cw_L_15 ps_rc0 hb0 (ps_room hRm (by decide)) rfl rfl (Nat.le_of_ble_eq_true rfl) dL_areLinks_72 ?_
        refine ps_istore6 C rfl dL_areLinks_75 ?_
        refine ps_iloadn3 C dL_areLinks_77 ?_
        refine ps_aloadn0 C dL_areLinks_78 ?_
        refine ps_iloadn1 C dL_areLinks_79 ?_
        refine ps_iload5 C dL_areLinks_80 ?_
        refine ps_iconst C dL_areLinks_82 pi_2 ?_
        obtain ⟨r7, M7, hM7, h⟩ := ps_bd h
        refine ps_goV_i C (rest := [.int a3]) (tt_X6_link (xl X) (xb X) (xD X) hb0 hM7) cw_L_15 ps_rc0 hb0 (ps_room hRm (by decide)) rfl rfl (Nat.le_of_ble_eq_true rfl) dL_areLinks_83 ?_
        refine ps_iadd C dL_areLinks_86 ?_
        refine ps_nmi (fun x8 ex8 => ?_)
        replace h := ps_lt ex8 h
        refine ps_istoren3 C rfl dL_areLinks_87 ?_
        refine ps_aloadn0 C dL_areLinks_88 ?_
        refine ps_iloadn1 C dL_areLinks_89 ?_
        refine ps_iload5 C dL_areLinks_90 ?_
        refine ps_iconst C dL_areLinks_92 pi_2 ?_
        obtain ⟨r9, M9, hM9, h⟩ := ps_bd h
        refine ps_goV_i C (rest := []) (tt_X6_link (xl X) (xb X) (xD X) hb0 hM9) cw_L_15 ps_rc0 hb0 (ps_room hRm (by decide)) rfl rfl (Nat.le_of_ble_eq_true rfl) dL_areLinks_93 ?_
        refine ps_iconst C dL_areLinks_96 pi_1 ?_
        refine ps_ic_lt C 160 dL_areLinks_97 rfl (fun c26 => ?_) (fun c26 => ?_)
        · replace h := ps_ip c26 h
          refine ps_iconst C dL_areLinks_160 pi_0 ?_
          refine ps_istore4 C rfl dL_areLinks_161 ?_
          refine ps_iinc5 C rfl (nI 1) pi_1 dL_areLinks_163 (fun x10 ex10 => ?_)
          replace h := ps_lt ex10 h
          refine ps_goto C 56 dL_areLinks_166 rfl ?_
          refine ps_wk (lv' := [some (.ref (xb X + b0)), some (.int a1), some (.int a2), some (.int x8), some (.int (nI 0)), some (.int x10), none]) (ps_le_s rfl (ps_le_s rfl (ps_le_s rfl (ps_le_s rfl (ps_le_s rfl (ps_le_s rfl (ps_le_n ps_le_0))))))) ?_
          exact ih b0 a1 a2 x8 (nI 0) x10 hb0 _ h
        · replace h := ps_in0 c26 h
          refine ps_aloadn0 C dL_areLinks_100 ?_
          refine ps_iloadn1 C dL_areLinks_101 ?_
          refine ps_iload5 C dL_areLinks_102 ?_
          refine ps_iconst C dL_areLinks_104 pi_2 ?_
          obtain ⟨r11, M11, hM11, h⟩ := ps_bd h
          refine ps_goV_i C (rest := []) (tt_X6_link (xl X) (xb X) (xD X) hb0 hM11) cw_L_15 ps_rc0 hb0 (ps_room hRm (by decide)) rfl rfl (Nat.le_of_ble_eq_true rfl) dL_areLinks_105 ?_
          refine ps_bipush C dL_areLinks_108 pb_9 ?_
          refine ps_ic_gt C 160 dL_areLinks_110 rfl (fun c25 => ?_) (fun c25 => ?_)
          · replace h := ps_ip c25 h
            refine ps_iconst C dL_areLinks_160 pi_0 ?_
            refine ps_istore4 C rfl dL_areLinks_161 ?_
            refine ps_iinc5 C rfl (nI 1) pi_1 dL_areLinks_163 (fun x12 ex12 => ?_)
            replace h := ps_lt ex12 h
            refine ps_goto C 56 dL_areLinks_166 rfl ?_
            refine ps_wk (lv' := [some (.ref (xb X + b0)), some (.int a1), some (.int a2), some (.int x8), some (.int (nI 0)), some (.int x12), none]) (ps_le_s rfl (ps_le_s rfl (ps_le_s rfl (ps_le_s rfl (ps_le_s rfl (ps_le_s rfl (ps_le_n ps_le_0))))))) ?_
            exact ih b0 a1 a2 x8 (nI 0) x12 hb0 _ h
          · replace h := ps_in0 c25 h
            refine ps_iload6 C dL_areLinks_113 ?_
            refine ps_if_lt C 160 dL_areLinks_115 rfl (fun c24 => ?_) (fun c24 => ?_)
            · replace h := ps_ip c24 h
              refine ps_iconst C dL_areLinks_160 pi_0 ?_
              refine ps_istore4 C rfl dL_areLinks_161 ?_
              refine ps_iinc5 C rfl (nI 1) pi_1 dL_areLinks_163 (fun x13 ex13 => ?_)
              replace h := ps_lt ex13 h
              refine ps_goto C 56 dL_areLinks_166 rfl ?_
              refine ps_wk (lv' := [some (.ref (xb X + b0)), some (.int a1), some (.int a2), some (.int x8), some (.int (nI 0)), some (.int x13), none]) (ps_le_s rfl (ps_le_s rfl (ps_le_s rfl (ps_le_s rfl (ps_le_s rfl (ps_le_s rfl (ps_le_n ps_le_0))))))) ?_
              exact ih b0 a1 a2 x8 (nI 0) x13 hb0 _ h
            · replace h := ps_in0 c24 h
              refine ps_iload6 C dL_areLinks_118 ?_
              refine ps_bipush C dL_areLinks_120 pb_26 ?_
              refine ps_ic_ge C 160 dL_areLinks_122 rfl (fun c23 => ?_) (fun c23 => ?_)
              · replace h := ps_ip c23 h
                refine ps_iconst C dL_areLinks_160 pi_0 ?_
                refine ps_istore4 C rfl dL_areLinks_161 ?_
                refine ps_iinc5 C rfl (nI 1) pi_1 dL_areLinks_163 (fun x14 ex14 => ?_)
                replace h := ps_lt ex14 h
                refine ps_goto C 56 dL_areLinks_166 rfl ?_
                refine ps_wk (lv' := [some (.ref (xb X + b0)), some (.int a1), some (.int a2), some (.int x8), some (.int (nI 0)), some (.int x14), none]) (ps_le_s rfl (ps_le_s rfl (ps_le_s rfl (ps_le_s rfl (ps_le_s rfl (ps_le_s rfl (ps_le_n ps_le_0))))))) ?_
                exact ih b0 a1 a2 x8 (nI 0) x14 hb0 _ h
              · replace h := ps_in0 c23 h
                refine ps_aloadn0 C dL_areLinks_125 ?_
                refine ps_iloadn1 C dL_areLinks_126 ?_
                refine ps_iload6 C dL_areLinks_127 ?_
                refine ps_iconst C dL_areLinks_129 pi_1 ?_
                obtain ⟨r15, M15, hM15, h⟩ := ps_bd h
                refine ps_goV_i C (rest := []) (tt_X6_sings (xl X) (xb X) (xD X) hb0 hM15) cw_L_19 ps_rc0 hb0 (ps_room hRm (by decide)) rfl rfl (Nat.le_of_ble_eq_true rfl) dL_areLinks_130 ?_
                refine ps_aloadn0 C dL_areLinks_133 ?_
                refine ps_iloadn1 C dL_areLinks_134 ?_
                refine ps_iload6 C dL_areLinks_135 ?_
                obtain ⟨r16, M16, hM16, h⟩ := ps_bd h
                refine ps_goS_i C (rest := [.int r15]) (tt_L_next (xl X) (xb X) (xD X) hb0 hM16) cw_L_22 (ps_room hRm (by decide)) rfl rfl (Nat.le_of_ble_eq_true rfl) dL_areLinks_137 ?_
                refine ps_ic_ne C 160 dL_areLinks_140 rfl (fun c22 => ?_) (fun c22 => ?_)
                · replace h := ps_in0 c22 h
                  refine ps_iconst C dL_areLinks_160 pi_0 ?_
                  refine ps_istore4 C rfl dL_areLinks_161 ?_
                  refine ps_iinc5 C rfl (nI 1) pi_1 dL_areLinks_163 (fun x17 ex17 => ?_)
                  replace h := ps_lt ex17 h
                  refine ps_goto C 56 dL_areLinks_166 rfl ?_
                  refine ps_wk (lv' := [some (.ref (xb X + b0)), some (.int a1), some (.int a2), some (.int x8), some (.int (nI 0)), some (.int x17), none]) (ps_le_s rfl (ps_le_s rfl (ps_le_s rfl (ps_le_s rfl (ps_le_s rfl (ps_le_s rfl (ps_le_n ps_le_0))))))) ?_
                  exact ih b0 a1 a2 x8 (nI 0) x17 hb0 _ h
                · replace h := ps_ip c22 h
                  refine ps_aloadn0 C dL_areLinks_143 ?_
                  refine ps_iloadn1 C dL_areLinks_144 ?_
                  refine ps_iload6 C dL_areLinks_145 ?_
                  refine ps_iconst C dL_areLinks_147 pi_0 ?_
                  obtain ⟨r18, M18, hM18, h⟩ := ps_bd h
                  refine ps_goV_i C (rest := []) (tt_X6_sings (xl X) (xb X) (xD X) hb0 hM18) cw_L_19 ps_rc0 hb0 (ps_room hRm (by decide)) rfl rfl (Nat.le_of_ble_eq_true rfl) dL_areLinks_148 ?_
                  refine ps_iload6 C dL_areLinks_151 ?_
                  refine ps_ic_ne C 160 dL_areLinks_153 rfl (fun c21 => ?_) (fun c21 => ?_)
                  · replace h := ps_in0 c21 h
                    refine ps_iconst C dL_areLinks_160 pi_0 ?_
                    refine ps_istore4 C rfl dL_areLinks_161 ?_
                    refine ps_iinc5 C rfl (nI 1) pi_1 dL_areLinks_163 (fun x19 ex19 => ?_)
                    replace h := ps_lt ex19 h
                    refine ps_goto C 56 dL_areLinks_166 rfl ?_
                    refine ps_wk (lv' := [some (.ref (xb X + b0)), some (.int a1), some (.int a2), some (.int x8), some (.int (nI 0)), some (.int x19), none]) (ps_le_s rfl (ps_le_s rfl (ps_le_s rfl (ps_le_s rfl (ps_le_s rfl (ps_le_s rfl (ps_le_n ps_le_0))))))) ?_
                    exact ih b0 a1 a2 x8 (nI 0) x19 hb0 _ h
                  · replace h := ps_ip c21 h
                    refine ps_iconst C dL_areLinks_156 pi_1 ?_
                    refine ps_goto C 161 dL_areLinks_157 rfl ?_
                    refine ps_istore4 C rfl dL_areLinks_161 ?_
                    refine ps_iinc5 C rfl (nI 1) pi_1 dL_areLinks_163 (fun x20 ex20 => ?_)
                    replace h := ps_lt ex20 h
                    refine ps_goto C 56 dL_areLinks_166 rfl ?_
                    refine ps_wk (lv' := [some (.ref (xb X + b0)), some (.int a1), some (.int a2), some (.int x8), some (.int (nI 1)), some (.int x20), none]) (ps_le_s rfl (ps_le_s rfl (ps_le_s rfl (ps_le_s rfl (ps_le_s rfl (ps_le_s rfl (ps_le_n ps_le_0))))))) ?_
                    exact ih b0 a1 a2 x8 (nI 1) x20 hb0 _ h
set_option maxRecDepth 10000 in
theorem tt_L_areLinks (l : Launch) (b : Nat) (D : va_G) {b0 : Nat} (hb0 : ps_ck 0 b0 = true) {a1 : Int32} {M M9 : ps_M} {r : Int32} (h : ff_L_areLinks b0 a1 M = some (r, M9)) : ps_Ti l b D yL_areLinks cL_areLinks 7 .boolean 8 [.ref (b + b0), .int a1] M r M9 := by
  refine ps_met_i (own := RL) (lv := [some (.ref (b + b0)), some (.int a1), none, none, none, none, none]) (by decide) rfl rfl (Nat.le_of_ble_eq_true rfl) rfl (fun X eX1 eX2 eX3 hRm eX5 C hfin => ?_)
  subst eX1 eX2 eX3
  unfold ff_L_areLinks at h
  refine ps_aloadn0 C dL_areLinks_0 ?_
  refine ps_iloadn1 C dL_areLinks_1 ?_
  refine ps_iconst C dL_areLinks_2 pi_0 ?_
  obtain ⟨r1, M1, hM1, h⟩ := ps_bd h
  refine ps_goV_i C (rest := []) (tt_X6_of (xl X) (xb X) (xD X) hb0 hM1) cw_L_9 ps_rc0 hb0 (ps_room hRm (by decide)) rfl rfl (Nat.le_of_ble_eq_true rfl) dL_areLinks_3 ?_
  refine ps_istoren2 C rfl dL_areLinks_6 ?_
  refine ps_iconst C dL_areLinks_7 pi_0 ?_
  refine ps_istoren3 C rfl dL_areLinks_8 ?_
  refine ps_aloadn0 C dL_areLinks_9 ?_
  refine ps_iloadn1 C dL_areLinks_10 ?_
  refine ps_iloadn2 C dL_areLinks_11 ?_
  refine ps_iconst C dL_areLinks_12 pi_0 ?_
  obtain ⟨r2, M2, hM2, h⟩ := ps_bd h
  refine ps_goV_i C (rest := []) (tt_X6_link (xl X) (xb X) (xD X) hb0 hM2) cw_L_15 ps_rc0 hb0 (ps_room hRm (by decide)) rfl rfl (Nat.le_of_ble_eq_true rfl) dL_areLinks_13 ?_
  refine ps_iconst C dL_areLinks_16 pi_m1 ?_
  refine ps_ic_ne C 50 dL_areLinks_17 rfl (fun c34 => ?_) (fun c34 => ?_)
  · replace h := ps_in0 c34 h
    refine ps_iconst C dL_areLinks_50 pi_0 ?_
    refine ps_istore4 C rfl dL_areLinks_51 ?_
    refine ps_iconst C dL_areLinks_53 pi_0 ?_
    refine ps_istore5 C rfl dL_areLinks_54 ?_
    exact bk_L_areLinks_56 C hRm hfin ps_fu b0 a1 r1 (nI 0) (nI 0) (nI 0) hb0 _ h
  · replace h := ps_ip c34 h
    refine ps_aloadn0 C dL_areLinks_20 ?_
    refine ps_iloadn1 C dL_areLinks_21 ?_
    refine ps_iconst C dL_areLinks_22 pi_m1 ?_
    refine ps_iconst C dL_areLinks_23 pi_0 ?_
    obtain ⟨r29, M29, hM29, h⟩ := ps_bd h
    refine ps_goV_i C (rest := []) (tt_X6_link (xl X) (xb X) (xD X) hb0 hM29) cw_L_15 ps_rc0 hb0 (ps_room hRm (by decide)) rfl rfl (Nat.le_of_ble_eq_true rfl) dL_areLinks_24 ?_
    refine ps_iconst C dL_areLinks_27 pi_m1 ?_
    refine ps_ic_ne C 50 dL_areLinks_28 rfl (fun c33 => ?_) (fun c33 => ?_)
    · replace h := ps_in0 c33 h
      refine ps_iconst C dL_areLinks_50 pi_0 ?_
      refine ps_istore4 C rfl dL_areLinks_51 ?_
      refine ps_iconst C dL_areLinks_53 pi_0 ?_
      refine ps_istore5 C rfl dL_areLinks_54 ?_
      exact bk_L_areLinks_56 C hRm hfin ps_fu b0 a1 r1 (nI 0) (nI 0) (nI 0) hb0 _ h
    · replace h := ps_ip c33 h
      refine ps_aloadn0 C dL_areLinks_31 ?_
      refine ps_iloadn1 C dL_areLinks_32 ?_
      refine ps_iconst C dL_areLinks_33 pi_3 ?_
      obtain ⟨r30, M30, hM30, h⟩ := ps_bd h
      refine ps_goV_i C (rest := []) (tt_X6_of (xl X) (xb X) (xD X) hb0 hM30) cw_L_9 ps_rc0 hb0 (ps_room hRm (by decide)) rfl rfl (Nat.le_of_ble_eq_true rfl) dL_areLinks_34 ?_
      refine ps_aloadn0 C dL_areLinks_37 ?_
      refine ps_iloadn1 C dL_areLinks_38 ?_
      refine ps_iconst C dL_areLinks_39 pi_4 ?_
      obtain ⟨r31, M31, hM31, h⟩ := ps_bd h
      refine ps_goV_i C (rest := [.int r30]) (tt_X6_of (xl X) (xb X) (xD X) hb0 hM31) cw_L_9 ps_rc0 hb0 (ps_room hRm (by decide)) rfl rfl (Nat.le_of_ble_eq_true rfl) dL_areLinks_40 ?_
      refine ps_ic_gt C 50 dL_areLinks_43 rfl (fun c32 => ?_) (fun c32 => ?_)
      · replace h := ps_ip c32 h
        refine ps_iconst C dL_areLinks_50 pi_0 ?_
        refine ps_istore4 C rfl dL_areLinks_51 ?_
        refine ps_iconst C dL_areLinks_53 pi_0 ?_
        refine ps_istore5 C rfl dL_areLinks_54 ?_
        exact bk_L_areLinks_56 C hRm hfin ps_fu b0 a1 r1 (nI 0) (nI 0) (nI 0) hb0 _ h
      · replace h := ps_in0 c32 h
        refine ps_iconst C dL_areLinks_46 pi_1 ?_
        refine ps_goto C 51 dL_areLinks_47 rfl ?_
        refine ps_istore4 C rfl dL_areLinks_51 ?_
        refine ps_iconst C dL_areLinks_53 pi_0 ?_
        refine ps_istore5 C rfl dL_areLinks_54 ?_
        exact bk_L_areLinks_56 C hRm hfin ps_fu b0 a1 r1 (nI 0) (nI 1) (nI 0) hb0 _ h
set_option maxRecDepth 10000 in
theorem bk_L_areSongs_496 {X : ps_X} (C : ps_C X RL cL_areSongs) (hRm : xR X = ps_lvl 7) {r : Int32} {M9 : ps_M} (hfin : ∀ pc lv, decode cL_areSongs pc = .ok (.ireturn, 1) → narrow .boolean (.int r) = .int r → ps_G X M9 pc lv [.int r]) {K : Nat → Int32 → Int32 → ps_M → Option (Int32 × ps_M)} (hK : ∀ (b0 : Nat) (a1 : Int32) (a2 : Int32) (hb0 : ps_ck 0 b0 = true) (M : ps_M), K b0 a1 a2 M = some (r, M9) → ps_G X M 36 [some (.ref (xb X + b0)), some (.int a1), some (.int a2), none, none, none, none, none, none, none] []) (b0 : Nat) (a1 : Int32) (a2 : Int32) (a3 : Int32) (a4 : Int32) (a5 : Int32) (hb0 : ps_ck 0 b0 = true) (M : ps_M) (h : fk_L_areSongs_496 K b0 a1 a2 a3 a4 a5 M = some (r, M9)) : ps_G X M 496 [some (.ref (xb X + b0)), some (.int a1), some (.int a2), some (.int a3), some (.int a4), some (.int a5), none, none, none, none] [] := by
  unfold fk_L_areSongs_496 at h
  refine ps_iloadn1 C dL_areSongs_496 ?_
  refine ps_if_eq C 515 dL_areSongs_497 rfl (fun c13 => ?_) (fun c13 => ?_)
  · replace h := ps_ip c13 h
    refine ps_iconst C dL_areSongs_515 pi_0 ?_
    refine ps_istoren1 C rfl dL_areSongs_516 ?_
    refine ps_iinc2 C rfl (nI 1) pi_1 dL_areSongs_517 (fun x8 ex8 => ?_)
    replace h := ps_lt ex8 h
    refine ps_goto C 36 dL_areSongs_520 rfl ?_
    refine ps_wk (lv' := [some (.ref (xb X + b0)), some (.int (nI 0)), some (.int x8), none, none, none, none, none, none, none]) (ps_le_s rfl (ps_le_s rfl (ps_le_s rfl (ps_le_n (ps_le_n (ps_le_n (ps_le_n (ps_le_n (ps_le_n (ps_le_n ps_le_0)))))))))) ?_
    exact hK b0 (nI 0) x8 hb0 _ h
  · replace h := ps_in0 c13 h
    refine ps_aloadn0 C dL_areSongs_500 ?_
    refine ps_iloadn2 C dL_areSongs_501 ?_
    refine ps_iconst C dL_areSongs_502 pi_5 ?_
    obtain ⟨r9, M9, hM9, h⟩ := ps_bd h
    refine ps_goV_i C (rest := []) (tt_X6_ofSong (xl X) (xb X) (xD X) hb0 hM9) cw_L_32 ps_rc0 hb0 (ps_room hRm (by decide)) rfl rfl (Nat.le_of_ble_eq_true rfl) dL_areSongs_503 ?_
    refine ps_iload4 C dL_areSongs_506 ?_
    refine ps_ic_ne C 515 dL_areSongs_508 rfl (fun c12 => ?_) (fun c12 => ?_)
    · replace h := ps_in0 c12 h
      refine ps_iconst C dL_areSongs_515 pi_0 ?_
      refine ps_istoren1 C rfl dL_areSongs_516 ?_
      refine ps_iinc2 C rfl (nI 1) pi_1 dL_areSongs_517 (fun x10 ex10 => ?_)
      replace h := ps_lt ex10 h
      refine ps_goto C 36 dL_areSongs_520 rfl ?_
      refine ps_wk (lv' := [some (.ref (xb X + b0)), some (.int (nI 0)), some (.int x10), none, none, none, none, none, none, none]) (ps_le_s rfl (ps_le_s rfl (ps_le_s rfl (ps_le_n (ps_le_n (ps_le_n (ps_le_n (ps_le_n (ps_le_n (ps_le_n ps_le_0)))))))))) ?_
      exact hK b0 (nI 0) x10 hb0 _ h
    · replace h := ps_ip c12 h
      refine ps_iconst C dL_areSongs_511 pi_1 ?_
      refine ps_goto C 516 dL_areSongs_512 rfl ?_
      refine ps_istoren1 C rfl dL_areSongs_516 ?_
      refine ps_iinc2 C rfl (nI 1) pi_1 dL_areSongs_517 (fun x11 ex11 => ?_)
      replace h := ps_lt ex11 h
      refine ps_goto C 36 dL_areSongs_520 rfl ?_
      refine ps_wk (lv' := [some (.ref (xb X + b0)), some (.int (nI 1)), some (.int x11), none, none, none, none, none, none, none]) (ps_le_s rfl (ps_le_s rfl (ps_le_s rfl (ps_le_n (ps_le_n (ps_le_n (ps_le_n (ps_le_n (ps_le_n (ps_le_n ps_le_0)))))))))) ?_
      exact hK b0 (nI 1) x11 hb0 _ h
set_option maxRecDepth 10000 in
theorem bk_L_areSongs_458 {X : ps_X} (C : ps_C X RL cL_areSongs) (hRm : xR X = ps_lvl 7) {r : Int32} {M9 : ps_M} (hfin : ∀ pc lv, decode cL_areSongs pc = .ok (.ireturn, 1) → narrow .boolean (.int r) = .int r → ps_G X M9 pc lv [.int r]) {K : Nat → Int32 → Int32 → Int32 → Int32 → Int32 → Int32 → Int32 → Int32 → Int32 → ps_M → Option (Int32 × ps_M)} (hK : ∀ (b0 : Nat) (a1 : Int32) (a2 : Int32) (a3 : Int32) (a4 : Int32) (a5 : Int32) (a6 : Int32) (a7 : Int32) (a8 : Int32) (a9 : Int32) (hb0 : ps_ck 0 b0 = true) (M : ps_M), K b0 a1 a2 a3 a4 a5 a6 a7 a8 a9 M = some (r, M9) → ps_G X M 410 [some (.ref (xb X + b0)), some (.int a1), some (.int a2), some (.int a3), some (.int a4), some (.int a5), some (.int a6), some (.int a7), some (.int a8), some (.int a9)] []) (b0 : Nat) (a1 : Int32) (a2 : Int32) (a3 : Int32) (a4 : Int32) (a5 : Int32) (a6 : Int32) (a7 : Int32) (a8 : Int32) (a9 : Int32) (s0 : Int32) (s1 : Int32) (hb0 : ps_ck 0 b0 = true) (M : ps_M) (h : fk_L_areSongs_458 K b0 a1 a2 a3 a4 a5 a6 a7 a8 a9 s0 s1 M = some (r, M9)) : ps_G X M 458 [some (.ref (xb X + b0)), some (.int a1), some (.int a2), some (.int a3), some (.int a4), some (.int a5), some (.int a6), some (.int a7), some (.int a8), some (.int a9)] [.int s1, .int s0] := by
  unfold fk_L_areSongs_458 at h
  refine ps_ic_ne C 482 dL_areSongs_458 rfl (fun c29 => ?_) (fun c29 => ?_)
  · replace h := ps_in0 c29 h
    refine ps_iconst C dL_areSongs_482 pi_0 ?_
    refine ps_istoren1 C rfl dL_areSongs_483 ?_
    refine ps_iinc9 C rfl (nI 1) pi_1 dL_areSongs_484 (fun x23 ex23 => ?_)
    replace h := ps_lt ex23 h
    refine ps_goto C 410 dL_areSongs_487 rfl ?_
    exact hK b0 (nI 0) a2 a3 a4 a5 a6 a7 a8 x23 hb0 _ h
  · replace h := ps_ip c29 h
    refine ps_aloadn0 C dL_areSongs_461 ?_
    refine ps_iloadn2 C dL_areSongs_462 ?_
    refine ps_iload9 C dL_areSongs_463 ?_
    obtain ⟨r24, M24, hM24, h⟩ := ps_bd h
    refine ps_goV_i C (rest := []) (tt_X6_rhymes (xl X) (xb X) (xD X) hb0 hM24) cw_L_38 ps_rc0 hb0 (ps_room hRm (by decide)) rfl rfl (Nat.le_of_ble_eq_true rfl) dL_areSongs_465 ?_
    refine ps_aloadn0 C dL_areSongs_468 ?_
    refine ps_iload9 C dL_areSongs_469 ?_
    refine ps_iloadn2 C dL_areSongs_471 ?_
    obtain ⟨r25, M25, hM25, h⟩ := ps_bd h
    refine ps_goV_i C (rest := [.int r24]) (tt_X6_rhymes (xl X) (xb X) (xD X) hb0 hM25) cw_L_38 ps_rc0 hb0 (ps_room hRm (by decide)) rfl rfl (Nat.le_of_ble_eq_true rfl) dL_areSongs_472 ?_
    refine ps_ic_ne C 482 dL_areSongs_475 rfl (fun c28 => ?_) (fun c28 => ?_)
    · replace h := ps_in0 c28 h
      refine ps_iconst C dL_areSongs_482 pi_0 ?_
      refine ps_istoren1 C rfl dL_areSongs_483 ?_
      refine ps_iinc9 C rfl (nI 1) pi_1 dL_areSongs_484 (fun x26 ex26 => ?_)
      replace h := ps_lt ex26 h
      refine ps_goto C 410 dL_areSongs_487 rfl ?_
      exact hK b0 (nI 0) a2 a3 a4 a5 a6 a7 a8 x26 hb0 _ h
    · replace h := ps_ip c28 h
      refine ps_iconst C dL_areSongs_478 pi_1 ?_
      refine ps_goto C 483 dL_areSongs_479 rfl ?_
      refine ps_istoren1 C rfl dL_areSongs_483 ?_
      refine ps_iinc9 C rfl (nI 1) pi_1 dL_areSongs_484 (fun x27 ex27 => ?_)
      replace h := ps_lt ex27 h
      refine ps_goto C 410 dL_areSongs_487 rfl ?_
      exact hK b0 (nI 1) a2 a3 a4 a5 a6 a7 a8 x27 hb0 _ h
set_option maxRecDepth 10000 in
theorem bk_L_areSongs_457 {X : ps_X} (C : ps_C X RL cL_areSongs) (hRm : xR X = ps_lvl 7) {r : Int32} {M9 : ps_M} (hfin : ∀ pc lv, decode cL_areSongs pc = .ok (.ireturn, 1) → narrow .boolean (.int r) = .int r → ps_G X M9 pc lv [.int r]) {K : Nat → Int32 → Int32 → Int32 → Int32 → Int32 → Int32 → Int32 → Int32 → Int32 → ps_M → Option (Int32 × ps_M)} (hK : ∀ (b0 : Nat) (a1 : Int32) (a2 : Int32) (a3 : Int32) (a4 : Int32) (a5 : Int32) (a6 : Int32) (a7 : Int32) (a8 : Int32) (a9 : Int32) (hb0 : ps_ck 0 b0 = true) (M : ps_M), K b0 a1 a2 a3 a4 a5 a6 a7 a8 a9 M = some (r, M9) → ps_G X M 410 [some (.ref (xb X + b0)), some (.int a1), some (.int a2), some (.int a3), some (.int a4), some (.int a5), some (.int a6), some (.int a7), some (.int a8), some (.int a9)] []) (b0 : Nat) (a1 : Int32) (a2 : Int32) (a3 : Int32) (a4 : Int32) (a5 : Int32) (a6 : Int32) (a7 : Int32) (a8 : Int32) (a9 : Int32) (s0 : Int32) (hb0 : ps_ck 0 b0 = true) (M : ps_M) (h : fk_L_areSongs_457 K b0 a1 a2 a3 a4 a5 a6 a7 a8 a9 s0 M = some (r, M9)) : ps_G X M 457 [some (.ref (xb X + b0)), some (.int a1), some (.int a2), some (.int a3), some (.int a4), some (.int a5), some (.int a6), some (.int a7), some (.int a8), some (.int a9)] [.int s0] := by
  unfold fk_L_areSongs_457 at h
  refine ps_iconst C dL_areSongs_457 pi_0 ?_
  exact bk_L_areSongs_458 C hRm hfin hK b0 a1 a2 a3 a4 a5 a6 a7 a8 a9 s0 (nI 0) hb0 _ h
set_option maxRecDepth 10000 in
theorem bk_L_areSongs_410 {X : ps_X} (C : ps_C X RL cL_areSongs) (hRm : xR X = ps_lvl 7) {r : Int32} {M9 : ps_M} (hfin : ∀ pc lv, decode cL_areSongs pc = .ok (.ireturn, 1) → narrow .boolean (.int r) = .int r → ps_G X M9 pc lv [.int r]) {K : Nat → Int32 → Int32 → Int32 → Int32 → Int32 → ps_M → Option (Int32 × ps_M)} (hK : ∀ (b0 : Nat) (a1 : Int32) (a2 : Int32) (a3 : Int32) (a4 : Int32) (a5 : Int32) (hb0 : ps_ck 0 b0 = true) (M : ps_M), K b0 a1 a2 a3 a4 a5 M = some (r, M9) → ps_G X M 141 [some (.ref (xb X + b0)), some (.int a1), some (.int a2), some (.int a3), some (.int a4), some (.int a5), none, none, none, none] []) : ∀ (n : Nat) (b0 : Nat) (a1 : Int32) (a2 : Int32) (a3 : Int32) (a4 : Int32) (a5 : Int32) (a6 : Int32) (a7 : Int32) (a8 : Int32) (a9 : Int32) (hb0 : ps_ck 0 b0 = true) (M : ps_M), fk_L_areSongs_410 K n b0 a1 a2 a3 a4 a5 a6 a7 a8 a9 M = some (r, M9) → ps_G X M 410 [some (.ref (xb X + b0)), some (.int a1), some (.int a2), some (.int a3), some (.int a4), some (.int a5), some (.int a6), some (.int a7), some (.int a8), some (.int a9)] [] := by
  intro n
  induction n with
  | zero => intro b0 a1 a2 a3 a4 a5 a6 a7 a8 a9 hb0 M h; rw [fk_L_areSongs_410] at h; cases h
  | succ n ih =>
    intro b0 a1 a2 a3 a4 a5 a6 a7 a8 a9 hb0 M h
    rw [fk_L_areSongs_410] at h
    refine ps_iload9 C dL_areSongs_410 ?_
    refine ps_aloadn0 C dL_areSongs_412 ?_
    refine ps_iconst C dL_areSongs_413 pi_1 ?_
    obtain ⟨r19, M19, hM19, h⟩ := ps_bd h
    refine ps_goV_i C (rest := [.int a9]) (tt_X6_count (xl X) (xb X) (xD X) hb0 hM19) cw_L_28 ps_rc0 hb0 (ps_room hRm (by decide)) rfl rfl (Nat.le_of_ble_eq_true rfl) dL_areSongs_414 ?_
    refine ps_ic_ge C 490 dL_areSongs_417 rfl (fun c34 => ?_) (fun c34 => ?_)
    · replace h := ps_ip c34 h
      refine ps_iinc5 C rfl (nI 1) pi_1 dL_areSongs_490 (fun x20 ex20 => ?_)
      replace h := ps_lt ex20 h
      refine ps_goto C 141 dL_areSongs_493 rfl ?_
      refine ps_wk (lv' := [some (.ref (xb X + b0)), some (.int a1), some (.int a2), some (.int a3), some (.int a4), some (.int x20), none, none, none, none]) (ps_le_s rfl (ps_le_s rfl (ps_le_s rfl (ps_le_s rfl (ps_le_s rfl (ps_le_s rfl (ps_le_n (ps_le_n (ps_le_n (ps_le_n ps_le_0)))))))))) ?_
      exact hK b0 a1 a2 a3 a4 x20 hb0 _ h
    · replace h := ps_in0 c34 h
      refine ps_iloadn1 C dL_areSongs_420 ?_
      refine ps_if_eq C 490 dL_areSongs_421 rfl (fun c33 => ?_) (fun c33 => ?_)
      · replace h := ps_ip c33 h
        refine ps_iinc5 C rfl (nI 1) pi_1 dL_areSongs_490 (fun x21 ex21 => ?_)
        replace h := ps_lt ex21 h
        refine ps_goto C 141 dL_areSongs_493 rfl ?_
        refine ps_wk (lv' := [some (.ref (xb X + b0)), some (.int a1), some (.int a2), some (.int a3), some (.int a4), some (.int x21), none, none, none, none]) (ps_le_s rfl (ps_le_s rfl (ps_le_s rfl (ps_le_s rfl (ps_le_s rfl (ps_le_s rfl (ps_le_n (ps_le_n (ps_le_n (ps_le_n ps_le_0)))))))))) ?_
        exact hK b0 a1 a2 a3 a4 x21 hb0 _ h
      · replace h := ps_in0 c33 h
        refine ps_aloadn0 C dL_areSongs_424 ?_
        refine ps_iload5 C dL_areSongs_425 ?_
        refine ps_iloadn2 C dL_areSongs_427 ?_
        obtain ⟨r22, M22, hM22, h⟩ := ps_bd h
        refine ps_goV_i C (rest := []) (tt_X6_follows (xl X) (xb X) (xD X) hb0 hM22) cw_L_53 ps_rc0 hb0 (ps_room hRm (by decide)) rfl rfl (Nat.le_of_ble_eq_true rfl) dL_areSongs_428 ?_
        refine ps_iload9 C dL_areSongs_431 ?_
        refine ps_ishr C dL_areSongs_433 ?_
        refine ps_iconst C dL_areSongs_434 pi_1 ?_
        refine ps_iand C dL_areSongs_435 ?_
        refine ps_iload8 C dL_areSongs_436 ?_
        refine ps_if_lt C 457 dL_areSongs_438 rfl (fun c32 => ?_) (fun c32 => ?_)
        · replace h := ps_ip c32 h
          exact bk_L_areSongs_457 C hRm hfin (fun b0' a1' a2' a3' a4' a5' a6' a7' a8' a9' hb0' M' h' => ih b0' a1' a2' a3' a4' a5' a6' a7' a8' a9' hb0' M' h') b0 a1 a2 a3 a4 a5 a6 a7 a8 a9 ((r22 >>> (a9 &&& 31)) &&& (nI 1)) hb0 _ h
        · replace h := ps_in0 c32 h
          refine ps_aloadn0 C dL_areSongs_441 ?_
          refine ps_iload9 C dL_areSongs_442 ?_
          refine ps_iconst C dL_areSongs_444 pi_2 ?_
          obtain ⟨r30, M30, hM30, h⟩ := ps_bd h
          refine ps_goV_i C (rest := [.int ((r22 >>> (a9 &&& 31)) &&& (nI 1))]) (tt_X6_ofSong (xl X) (xb X) (xD X) hb0 hM30) cw_L_32 ps_rc0 hb0 (ps_room hRm (by decide)) rfl rfl (Nat.le_of_ble_eq_true rfl) dL_areSongs_445 ?_
          refine ps_iload8 C dL_areSongs_448 ?_
          refine ps_ic_ne C 457 dL_areSongs_450 rfl (fun c31 => ?_) (fun c31 => ?_)
          · replace h := ps_in0 c31 h
            exact bk_L_areSongs_457 C hRm hfin (fun b0' a1' a2' a3' a4' a5' a6' a7' a8' a9' hb0' M' h' => ih b0' a1' a2' a3' a4' a5' a6' a7' a8' a9' hb0' M' h') b0 a1 a2 a3 a4 a5 a6 a7 a8 a9 ((r22 >>> (a9 &&& 31)) &&& (nI 1)) hb0 _ h
          · replace h := ps_ip c31 h
            refine ps_iconst C dL_areSongs_453 pi_1 ?_
            refine ps_goto C 458 dL_areSongs_454 rfl ?_
            exact bk_L_areSongs_458 C hRm hfin (fun b0' a1' a2' a3' a4' a5' a6' a7' a8' a9' hb0' M' h' => ih b0' a1' a2' a3' a4' a5' a6' a7' a8' a9' hb0' M' h') b0 a1 a2 a3 a4 a5 a6 a7 a8 a9 ((r22 >>> (a9 &&& 31)) &&& (nI 1)) (nI 1) hb0 _ h
set_option maxRecDepth 10000 in
theorem bk_L_areSongs_383 {X : ps_X} (C : ps_C X RL cL_areSongs) (hRm : xR X = ps_lvl 7) {r : Int32} {M9 : ps_M} (hfin : ∀ pc lv, decode cL_areSongs pc = .ok (.ireturn, 1) → narrow .boolean (.int r) = .int r → ps_G X M9 pc lv [.int r]) {K : Nat → Int32 → Int32 → Int32 → Int32 → Int32 → ps_M → Option (Int32 × ps_M)} (hK : ∀ (b0 : Nat) (a1 : Int32) (a2 : Int32) (a3 : Int32) (a4 : Int32) (a5 : Int32) (hb0 : ps_ck 0 b0 = true) (M : ps_M), K b0 a1 a2 a3 a4 a5 M = some (r, M9) → ps_G X M 141 [some (.ref (xb X + b0)), some (.int a1), some (.int a2), some (.int a3), some (.int a4), some (.int a5), none, none, none, none] []) (b0 : Nat) (a1 : Int32) (a2 : Int32) (a3 : Int32) (a4 : Int32) (a5 : Int32) (a6 : Int32) (a7 : Int32) (a8 : Int32) (s0 : Int32) (hb0 : ps_ck 0 b0 = true) (M : ps_M) (h : fk_L_areSongs_383 K b0 a1 a2 a3 a4 a5 a6 a7 a8 s0 M = some (r, M9)) : ps_G X M 383 [some (.ref (xb X + b0)), some (.int a1), some (.int a2), some (.int a3), some (.int a4), some (.int a5), some (.int a6), some (.int a7), some (.int a8), none] [.int s0] := by
  unfold fk_L_areSongs_383 at h
  refine ps_aloadn0 C dL_areSongs_383 ?_
  refine ps_iload5 C dL_areSongs_384 ?_
  refine ps_iloadn2 C dL_areSongs_386 ?_
  obtain ⟨r37, M37, hM37, h⟩ := ps_bd h
  refine ps_goV_i C (rest := [.int s0]) (tt_X6_keeps (xl X) (xb X) (xD X) hb0 hM37) cw_L_50 ps_rc0 hb0 (ps_room hRm (by decide)) rfl rfl (Nat.le_of_ble_eq_true rfl) dL_areSongs_387 ?_
  refine ps_if_eq C 397 dL_areSongs_390 rfl (fun c40 => ?_) (fun c40 => ?_)
  · replace h := ps_ip c40 h
    refine ps_iconst C dL_areSongs_397 pi_0 ?_
    refine ps_ic_ne C 405 dL_areSongs_398 rfl (fun c38 => ?_) (fun c38 => ?_)
    · replace h := ps_in0 c38 h
      refine ps_iconst C dL_areSongs_405 pi_0 ?_
      refine ps_istoren1 C rfl dL_areSongs_406 ?_
      refine ps_iconst C dL_areSongs_407 pi_0 ?_
      refine ps_istore9 C rfl dL_areSongs_408 ?_
      exact bk_L_areSongs_410 C hRm hfin hK ps_fu b0 (nI 0) a2 a3 a4 a5 a6 a7 a8 (nI 0) hb0 _ h
    · replace h := ps_ip c38 h
      refine ps_iconst C dL_areSongs_401 pi_1 ?_
      refine ps_goto C 406 dL_areSongs_402 rfl ?_
      refine ps_istoren1 C rfl dL_areSongs_406 ?_
      refine ps_iconst C dL_areSongs_407 pi_0 ?_
      refine ps_istore9 C rfl dL_areSongs_408 ?_
      exact bk_L_areSongs_410 C hRm hfin hK ps_fu b0 (nI 1) a2 a3 a4 a5 a6 a7 a8 (nI 0) hb0 _ h
  · replace h := ps_in0 c40 h
    refine ps_iconst C dL_areSongs_393 pi_1 ?_
    refine ps_goto C 398 dL_areSongs_394 rfl ?_
    refine ps_ic_ne C 405 dL_areSongs_398 rfl (fun c39 => ?_) (fun c39 => ?_)
    · replace h := ps_in0 c39 h
      refine ps_iconst C dL_areSongs_405 pi_0 ?_
      refine ps_istoren1 C rfl dL_areSongs_406 ?_
      refine ps_iconst C dL_areSongs_407 pi_0 ?_
      refine ps_istore9 C rfl dL_areSongs_408 ?_
      exact bk_L_areSongs_410 C hRm hfin hK ps_fu b0 (nI 0) a2 a3 a4 a5 a6 a7 a8 (nI 0) hb0 _ h
    · replace h := ps_ip c39 h
      refine ps_iconst C dL_areSongs_401 pi_1 ?_
      refine ps_goto C 406 dL_areSongs_402 rfl ?_
      refine ps_istoren1 C rfl dL_areSongs_406 ?_
      refine ps_iconst C dL_areSongs_407 pi_0 ?_
      refine ps_istore9 C rfl dL_areSongs_408 ?_
      exact bk_L_areSongs_410 C hRm hfin hK ps_fu b0 (nI 1) a2 a3 a4 a5 a6 a7 a8 (nI 0) hb0 _ h
set_option maxRecDepth 10000 in
theorem bk_L_areSongs_371 {X : ps_X} (C : ps_C X RL cL_areSongs) (hRm : xR X = ps_lvl 7) {r : Int32} {M9 : ps_M} (hfin : ∀ pc lv, decode cL_areSongs pc = .ok (.ireturn, 1) → narrow .boolean (.int r) = .int r → ps_G X M9 pc lv [.int r]) {K : Nat → Int32 → Int32 → Int32 → Int32 → Int32 → ps_M → Option (Int32 × ps_M)} (hK : ∀ (b0 : Nat) (a1 : Int32) (a2 : Int32) (a3 : Int32) (a4 : Int32) (a5 : Int32) (hb0 : ps_ck 0 b0 = true) (M : ps_M), K b0 a1 a2 a3 a4 a5 M = some (r, M9) → ps_G X M 141 [some (.ref (xb X + b0)), some (.int a1), some (.int a2), some (.int a3), some (.int a4), some (.int a5), none, none, none, none] []) (b0 : Nat) (a1 : Int32) (a2 : Int32) (a3 : Int32) (a4 : Int32) (a5 : Int32) (a6 : Int32) (a7 : Int32) (a8 : Int32) (hb0 : ps_ck 0 b0 = true) (M : ps_M) (h : fk_L_areSongs_371 K b0 a1 a2 a3 a4 a5 a6 a7 a8 M = some (r, M9)) : ps_G X M 371 [some (.ref (xb X + b0)), some (.int a1), some (.int a2), some (.int a3), some (.int a4), some (.int a5), some (.int a6), some (.int a7), some (.int a8), none] [] := by
  unfold fk_L_areSongs_371 at h
  refine ps_iload7 C dL_areSongs_371 ?_
  refine ps_bipush C dL_areSongs_373 pb_100 ?_
  refine ps_ic_ne C 382 dL_areSongs_375 rfl (fun c41 => ?_) (fun c41 => ?_)
  · replace h := ps_in0 c41 h
    refine ps_iconst C dL_areSongs_382 pi_0 ?_
    exact bk_L_areSongs_383 C hRm hfin hK b0 a1 a2 a3 a4 a5 a6 a7 a8 (nI 0) hb0 _ h
  · replace h := ps_ip c41 h
    refine ps_iconst C dL_areSongs_378 pi_1 ?_
    refine ps_goto C 383 dL_areSongs_379 rfl ?_
    exact bk_L_areSongs_383 C hRm hfin hK b0 a1 a2 a3 a4 a5 a6 a7 a8 (nI 1) hb0 _ h
set_option maxRecDepth 10000 in
theorem bk_L_areSongs_354 {X : ps_X} (C : ps_C X RL cL_areSongs) (hRm : xR X = ps_lvl 7) {r : Int32} {M9 : ps_M} (hfin : ∀ pc lv, decode cL_areSongs pc = .ok (.ireturn, 1) → narrow .boolean (.int r) = .int r → ps_G X M9 pc lv [.int r]) {K : Nat → Int32 → Int32 → Int32 → Int32 → Int32 → ps_M → Option (Int32 × ps_M)} (hK : ∀ (b0 : Nat) (a1 : Int32) (a2 : Int32) (a3 : Int32) (a4 : Int32) (a5 : Int32) (hb0 : ps_ck 0 b0 = true) (M : ps_M), K b0 a1 a2 a3 a4 a5 M = some (r, M9) → ps_G X M 141 [some (.ref (xb X + b0)), some (.int a1), some (.int a2), some (.int a3), some (.int a4), some (.int a5), none, none, none, none] []) (b0 : Nat) (a1 : Int32) (a2 : Int32) (a3 : Int32) (a4 : Int32) (a5 : Int32) (a6 : Int32) (a7 : Int32) (a8 : Int32) (hb0 : ps_ck 0 b0 = true) (M : ps_M) (h : fk_L_areSongs_354 K b0 a1 a2 a3 a4 a5 a6 a7 a8 M = some (r, M9)) : ps_G X M 354 [some (.ref (xb X + b0)), some (.int a1), some (.int a2), some (.int a3), some (.int a4), some (.int a5), some (.int a6), some (.int a7), some (.int a8), none] [] := by
  unfold fk_L_areSongs_354 at h
  refine ps_iload7 C dL_areSongs_354 ?_
  refine ps_bipush C dL_areSongs_356 pb_100 ?_
  refine ps_ic_lt C 371 dL_areSongs_358 rfl (fun c44 => ?_) (fun c44 => ?_)
  · replace h := ps_ip c44 h
    exact bk_L_areSongs_371 C hRm hfin hK b0 a1 a2 a3 a4 a5 a6 a7 a8 hb0 _ h
  · replace h := ps_in0 c44 h
    refine ps_aloadn0 C dL_areSongs_361 ?_
    refine ps_iload5 C dL_areSongs_362 ?_
    refine ps_iloadn2 C dL_areSongs_364 ?_
    obtain ⟨r42, M42, hM42, h⟩ := ps_bd h
    refine ps_goV_i C (rest := []) (tt_X6_lessonsFor (xl X) (xb X) (xD X) hb0 hM42) cw_L_47 ps_rc0 hb0 (ps_room hRm (by decide)) rfl rfl (Nat.le_of_ble_eq_true rfl) dL_areSongs_365 ?_
    refine ps_if_ne C 405 dL_areSongs_368 rfl (fun c43 => ?_) (fun c43 => ?_)
    · replace h := ps_in0 c43 h
      refine ps_iconst C dL_areSongs_405 pi_0 ?_
      refine ps_istoren1 C rfl dL_areSongs_406 ?_
      refine ps_iconst C dL_areSongs_407 pi_0 ?_
      refine ps_istore9 C rfl dL_areSongs_408 ?_
      exact bk_L_areSongs_410 C hRm hfin hK ps_fu b0 (nI 0) a2 a3 a4 a5 a6 a7 a8 (nI 0) hb0 _ h
    · replace h := ps_ip c43 h
      exact bk_L_areSongs_371 C hRm hfin hK b0 a1 a2 a3 a4 a5 a6 a7 a8 hb0 _ h
set_option maxRecDepth 10000 in
theorem bk_L_areSongs_319 {X : ps_X} (C : ps_C X RL cL_areSongs) (hRm : xR X = ps_lvl 7) {r : Int32} {M9 : ps_M} (hfin : ∀ pc lv, decode cL_areSongs pc = .ok (.ireturn, 1) → narrow .boolean (.int r) = .int r → ps_G X M9 pc lv [.int r]) {K : Nat → Int32 → Int32 → Int32 → Int32 → Int32 → ps_M → Option (Int32 × ps_M)} (hK : ∀ (b0 : Nat) (a1 : Int32) (a2 : Int32) (a3 : Int32) (a4 : Int32) (a5 : Int32) (hb0 : ps_ck 0 b0 = true) (M : ps_M), K b0 a1 a2 a3 a4 a5 M = some (r, M9) → ps_G X M 141 [some (.ref (xb X + b0)), some (.int a1), some (.int a2), some (.int a3), some (.int a4), some (.int a5), none, none, none, none] []) (b0 : Nat) (a1 : Int32) (a2 : Int32) (a3 : Int32) (a4 : Int32) (a5 : Int32) (a6 : Int32) (a7 : Int32) (a8 : Int32) (s0 : Int32) (s1 : Int32) (hb0 : ps_ck 0 b0 = true) (M : ps_M) (h : fk_L_areSongs_319 K b0 a1 a2 a3 a4 a5 a6 a7 a8 s0 s1 M = some (r, M9)) : ps_G X M 319 [some (.ref (xb X + b0)), some (.int a1), some (.int a2), some (.int a3), some (.int a4), some (.int a5), some (.int a6), some (.int a7), some (.int a8), none] [.int s1, .int s0] := by
  unfold fk_L_areSongs_319 at h
  refine ps_ic_ne C 405 dL_areSongs_319 rfl (fun c50 => ?_) (fun c50 => ?_)
  · replace h := ps_in0 c50 h
    refine ps_iconst C dL_areSongs_405 pi_0 ?_
    refine ps_istoren1 C rfl dL_areSongs_406 ?_
    refine ps_iconst C dL_areSongs_407 pi_0 ?_
    refine ps_istore9 C rfl dL_areSongs_408 ?_
    exact bk_L_areSongs_410 C hRm hfin hK ps_fu b0 (nI 0) a2 a3 a4 a5 a6 a7 a8 (nI 0) hb0 _ h
  · replace h := ps_ip c50 h
    refine ps_iload7 C dL_areSongs_322 ?_
    refine ps_bipush C dL_areSongs_324 pb_100 ?_
    refine ps_ic_eq C 354 dL_areSongs_326 rfl (fun c49 => ?_) (fun c49 => ?_)
    · replace h := ps_ip c49 h
      exact bk_L_areSongs_354 C hRm hfin hK b0 a1 a2 a3 a4 a5 a6 a7 a8 hb0 _ h
    · replace h := ps_in0 c49 h
      refine ps_aloadn0 C dL_areSongs_329 ?_
      refine ps_iload5 C dL_areSongs_330 ?_
      refine ps_iloadn2 C dL_areSongs_332 ?_
      refine ps_iconst C dL_areSongs_333 pi_1 ?_
      obtain ⟨r45, M45, hM45, h⟩ := ps_bd h
      refine ps_goV_i C (rest := []) (tt_X6_mistake (xl X) (xb X) (xD X) hb0 hM45) cw_L_44 ps_rc0 hb0 (ps_room hRm (by decide)) rfl rfl (Nat.le_of_ble_eq_true rfl) dL_areSongs_334 ?_
      refine ps_aloadn0 C dL_areSongs_337 ?_
      refine ps_iload5 C dL_areSongs_338 ?_
      refine ps_aloadn0 C dL_areSongs_340 ?_
      refine ps_iloadn2 C dL_areSongs_341 ?_
      refine ps_iload6 C dL_areSongs_342 ?_
      obtain ⟨r46, M46, hM46, h⟩ := ps_bd h
      refine ps_goV_i C (rest := [.int a5, .ref (xb X + b0), .int r45]) (tt_X6_bar (xl X) (xb X) (xD X) hb0 hM46) cw_L_35 ps_rc0 hb0 (ps_room hRm (by decide)) rfl rfl (Nat.le_of_ble_eq_true rfl) dL_areSongs_344 ?_
      refine ps_iconst C dL_areSongs_347 pi_1 ?_
      obtain ⟨r47, M47, hM47, h⟩ := ps_bd h
      refine ps_goV_i C (rest := [.int r45]) (tt_X6_sings (xl X) (xb X) (xD X) hb0 hM47) cw_L_19 ps_rc0 hb0 (ps_room hRm (by decide)) rfl rfl (Nat.le_of_ble_eq_true rfl) dL_areSongs_348 ?_
      refine ps_ic_ne C 405 dL_areSongs_351 rfl (fun c48 => ?_) (fun c48 => ?_)
      · replace h := ps_in0 c48 h
        refine ps_iconst C dL_areSongs_405 pi_0 ?_
        refine ps_istoren1 C rfl dL_areSongs_406 ?_
        refine ps_iconst C dL_areSongs_407 pi_0 ?_
        refine ps_istore9 C rfl dL_areSongs_408 ?_
        exact bk_L_areSongs_410 C hRm hfin hK ps_fu b0 (nI 0) a2 a3 a4 a5 a6 a7 a8 (nI 0) hb0 _ h
      · replace h := ps_ip c48 h
        exact bk_L_areSongs_354 C hRm hfin hK b0 a1 a2 a3 a4 a5 a6 a7 a8 hb0 _ h
set_option maxRecDepth 10000 in
theorem bk_L_areSongs_292 {X : ps_X} (C : ps_C X RL cL_areSongs) (hRm : xR X = ps_lvl 7) {r : Int32} {M9 : ps_M} (hfin : ∀ pc lv, decode cL_areSongs pc = .ok (.ireturn, 1) → narrow .boolean (.int r) = .int r → ps_G X M9 pc lv [.int r]) {K : Nat → Int32 → Int32 → Int32 → Int32 → Int32 → ps_M → Option (Int32 × ps_M)} (hK : ∀ (b0 : Nat) (a1 : Int32) (a2 : Int32) (a3 : Int32) (a4 : Int32) (a5 : Int32) (hb0 : ps_ck 0 b0 = true) (M : ps_M), K b0 a1 a2 a3 a4 a5 M = some (r, M9) → ps_G X M 141 [some (.ref (xb X + b0)), some (.int a1), some (.int a2), some (.int a3), some (.int a4), some (.int a5), none, none, none, none] []) (b0 : Nat) (a1 : Int32) (a2 : Int32) (a3 : Int32) (a4 : Int32) (a5 : Int32) (a6 : Int32) (a7 : Int32) (a8 : Int32) (s0 : Int32) (s1 : Int32) (hb0 : ps_ck 0 b0 = true) (M : ps_M) (h : fk_L_areSongs_292 K b0 a1 a2 a3 a4 a5 a6 a7 a8 s0 s1 M = some (r, M9)) : ps_G X M 292 [some (.ref (xb X + b0)), some (.int a1), some (.int a2), some (.int a3), some (.int a4), some (.int a5), some (.int a6), some (.int a7), some (.int a8), none] [.int s1, .int s0] := by
  unfold fk_L_areSongs_292 at h
  refine ps_ic_ne C 405 dL_areSongs_292 rfl (fun c52 => ?_) (fun c52 => ?_)
  · replace h := ps_in0 c52 h
    refine ps_iconst C dL_areSongs_405 pi_0 ?_
    refine ps_istoren1 C rfl dL_areSongs_406 ?_
    refine ps_iconst C dL_areSongs_407 pi_0 ?_
    refine ps_istore9 C rfl dL_areSongs_408 ?_
    exact bk_L_areSongs_410 C hRm hfin hK ps_fu b0 (nI 0) a2 a3 a4 a5 a6 a7 a8 (nI 0) hb0 _ h
  · replace h := ps_ip c52 h
    refine ps_aloadn0 C dL_areSongs_295 ?_
    refine ps_iload5 C dL_areSongs_296 ?_
    refine ps_iloadn2 C dL_areSongs_298 ?_
    refine ps_iconst C dL_areSongs_299 pi_0 ?_
    obtain ⟨r36, M36, hM36, h⟩ := ps_bd h
    refine ps_goV_i C (rest := []) (tt_X6_mistake (xl X) (xb X) (xD X) hb0 hM36) cw_L_44 ps_rc0 hb0 (ps_room hRm (by decide)) rfl rfl (Nat.le_of_ble_eq_true rfl) dL_areSongs_300 ?_
    refine ps_iload7 C dL_areSongs_303 ?_
    refine ps_bipush C dL_areSongs_305 pb_100 ?_
    refine ps_ic_ne C 315 dL_areSongs_307 rfl (fun c51 => ?_) (fun c51 => ?_)
    · replace h := ps_in0 c51 h
      refine ps_iload6 C dL_areSongs_315 ?_
      refine ps_iconst C dL_areSongs_317 pi_1 ?_
      refine ps_iadd C dL_areSongs_318 ?_
      exact bk_L_areSongs_319 C hRm hfin hK b0 a1 a2 a3 a4 a5 a6 a7 a8 r36 (a6 + (nI 1)) hb0 _ h
    · replace h := ps_ip c51 h
      refine ps_bipush C dL_areSongs_310 pb_m5 ?_
      refine ps_goto C 319 dL_areSongs_312 rfl ?_
      exact bk_L_areSongs_319 C hRm hfin hK b0 a1 a2 a3 a4 a5 a6 a7 a8 r36 (ps_m 5) hb0 _ h
set_option maxRecDepth 10000 in
theorem bk_L_areSongs_238 {X : ps_X} (C : ps_C X RL cL_areSongs) (hRm : xR X = ps_lvl 7) {r : Int32} {M9 : ps_M} (hfin : ∀ pc lv, decode cL_areSongs pc = .ok (.ireturn, 1) → narrow .boolean (.int r) = .int r → ps_G X M9 pc lv [.int r]) {K : Nat → Int32 → Int32 → Int32 → Int32 → Int32 → ps_M → Option (Int32 × ps_M)} (hK : ∀ (b0 : Nat) (a1 : Int32) (a2 : Int32) (a3 : Int32) (a4 : Int32) (a5 : Int32) (hb0 : ps_ck 0 b0 = true) (M : ps_M), K b0 a1 a2 a3 a4 a5 M = some (r, M9) → ps_G X M 141 [some (.ref (xb X + b0)), some (.int a1), some (.int a2), some (.int a3), some (.int a4), some (.int a5), none, none, none, none] []) (b0 : Nat) (a1 : Int32) (a2 : Int32) (a3 : Int32) (a4 : Int32) (a5 : Int32) (a6 : Int32) (a7 : Int32) (s0 : Int32) (s1 : Int32) (hb0 : ps_ck 0 b0 = true) (M : ps_M) (h : fk_L_areSongs_238 K b0 a1 a2 a3 a4 a5 a6 a7 s0 s1 M = some (r, M9)) : ps_G X M 238 [some (.ref (xb X + b0)), some (.int a1), some (.int a2), some (.int a3), some (.int a4), some (.int a5), some (.int a6), some (.int a7), none, none] [.int s1, .int s0] := by
  unfold fk_L_areSongs_238 at h
  refine ps_ior C dL_areSongs_238 ?_
  refine ps_nmi (fun x15 ex15 => ?_)
  replace h := ps_lt ex15 h
  refine ps_istore4 C rfl dL_areSongs_239 ?_
  refine ps_aloadn0 C dL_areSongs_241 ?_
  refine ps_iload5 C dL_areSongs_242 ?_
  refine ps_aloadn0 C dL_areSongs_244 ?_
  refine ps_iloadn2 C dL_areSongs_245 ?_
  refine ps_iconst C dL_areSongs_246 pi_3 ?_
  obtain ⟨r16, M16, hM16, h⟩ := ps_bd h
  refine ps_goV_i C (rest := [.int a5, .ref (xb X + b0)]) (tt_X6_ofSong (xl X) (xb X) (xD X) hb0 hM16) cw_L_32 ps_rc0 hb0 (ps_room hRm (by decide)) rfl rfl (Nat.le_of_ble_eq_true rfl) dL_areSongs_247 ?_
  refine ps_iconst C dL_areSongs_250 pi_1 ?_
  obtain ⟨r17, M17, hM17, h⟩ := ps_bd h
  refine ps_goV_i C (rest := []) (tt_X6_sings (xl X) (xb X) (xD X) hb0 hM17) cw_L_19 ps_rc0 hb0 (ps_room hRm (by decide)) rfl rfl (Nat.le_of_ble_eq_true rfl) dL_areSongs_251 ?_
  refine ps_istore8 C rfl dL_areSongs_254 ?_
  refine ps_aloadn0 C dL_areSongs_256 ?_
  refine ps_iload5 C dL_areSongs_257 ?_
  refine ps_iloadn2 C dL_areSongs_259 ?_
  obtain ⟨r18, M18, hM18, h⟩ := ps_bd h
  refine ps_goV_i C (rest := []) (tt_X6_knows (xl X) (xb X) (xD X) hb0 hM18) cw_L_41 ps_rc0 hb0 (ps_room hRm (by decide)) rfl rfl (Nat.le_of_ble_eq_true rfl) dL_areSongs_260 ?_
  refine ps_iload7 C dL_areSongs_263 ?_
  refine ps_ic_ne C 405 dL_areSongs_265 rfl (fun c54 => ?_) (fun c54 => ?_)
  · replace h := ps_in0 c54 h
    refine ps_iconst C dL_areSongs_405 pi_0 ?_
    refine ps_istoren1 C rfl dL_areSongs_406 ?_
    refine ps_iconst C dL_areSongs_407 pi_0 ?_
    refine ps_istore9 C rfl dL_areSongs_408 ?_
    exact bk_L_areSongs_410 C hRm hfin hK ps_fu b0 (nI 0) a2 a3 x15 a5 a6 a7 r17 (nI 0) hb0 _ h
  · replace h := ps_ip c54 h
    refine ps_aloadn0 C dL_areSongs_268 ?_
    refine ps_iload5 C dL_areSongs_269 ?_
    refine ps_bipush C dL_areSongs_271 pb_6 ?_
    obtain ⟨r35, M35, hM35, h⟩ := ps_bd h
    refine ps_goV_i C (rest := []) (tt_X6_of (xl X) (xb X) (xD X) hb0 hM35) cw_L_9 ps_rc0 hb0 (ps_room hRm (by decide)) rfl rfl (Nat.le_of_ble_eq_true rfl) dL_areSongs_273 ?_
    refine ps_iloadn2 C dL_areSongs_276 ?_
    refine ps_ishr C dL_areSongs_277 ?_
    refine ps_iconst C dL_areSongs_278 pi_1 ?_
    refine ps_iand C dL_areSongs_279 ?_
    refine ps_iload7 C dL_areSongs_280 ?_
    refine ps_bipush C dL_areSongs_282 pb_100 ?_
    refine ps_ic_ne C 291 dL_areSongs_284 rfl (fun c53 => ?_) (fun c53 => ?_)
    · replace h := ps_in0 c53 h
      refine ps_iconst C dL_areSongs_291 pi_0 ?_
      exact bk_L_areSongs_292 C hRm hfin hK b0 a1 a2 a3 x15 a5 a6 a7 r17 ((r35 >>> (a2 &&& 31)) &&& (nI 1)) (nI 0) hb0 _ h
    · replace h := ps_ip c53 h
      refine ps_iconst C dL_areSongs_287 pi_1 ?_
      refine ps_goto C 292 dL_areSongs_288 rfl ?_
      exact bk_L_areSongs_292 C hRm hfin hK b0 a1 a2 a3 x15 a5 a6 a7 r17 ((r35 >>> (a2 &&& 31)) &&& (nI 1)) (nI 1) hb0 _ h
set_option maxRecDepth 10000 in
theorem bk_L_areSongs_219 {X : ps_X} (C : ps_C X RL cL_areSongs) (hRm : xR X = ps_lvl 7) {r : Int32} {M9 : ps_M} (hfin : ∀ pc lv, decode cL_areSongs pc = .ok (.ireturn, 1) → narrow .boolean (.int r) = .int r → ps_G X M9 pc lv [.int r]) {K : Nat → Int32 → Int32 → Int32 → Int32 → Int32 → ps_M → Option (Int32 × ps_M)} (hK : ∀ (b0 : Nat) (a1 : Int32) (a2 : Int32) (a3 : Int32) (a4 : Int32) (a5 : Int32) (hb0 : ps_ck 0 b0 = true) (M : ps_M), K b0 a1 a2 a3 a4 a5 M = some (r, M9) → ps_G X M 141 [some (.ref (xb X + b0)), some (.int a1), some (.int a2), some (.int a3), some (.int a4), some (.int a5), none, none, none, none] []) (b0 : Nat) (a1 : Int32) (a2 : Int32) (a3 : Int32) (a4 : Int32) (a5 : Int32) (a6 : Int32) (s0 : Int32) (hb0 : ps_ck 0 b0 = true) (M : ps_M) (h : fk_L_areSongs_219 K b0 a1 a2 a3 a4 a5 a6 s0 M = some (r, M9)) : ps_G X M 219 [some (.ref (xb X + b0)), some (.int a1), some (.int a2), some (.int a3), some (.int a4), some (.int a5), some (.int a6), none, none, none] [.int s0] := by
  unfold fk_L_areSongs_219 at h
  refine ps_istore7 C rfl dL_areSongs_219 ?_
  refine ps_iload4 C dL_areSongs_221 ?_
  refine ps_iload7 C dL_areSongs_223 ?_
  refine ps_bipush C dL_areSongs_225 pb_100 ?_
  refine ps_ic_ne C 237 dL_areSongs_227 rfl (fun c55 => ?_) (fun c55 => ?_)
  · replace h := ps_in0 c55 h
    refine ps_iconst C dL_areSongs_237 pi_0 ?_
    exact bk_L_areSongs_238 C hRm hfin hK b0 a1 a2 a3 a4 a5 a6 s0 a4 (nI 0) hb0 _ h
  · replace h := ps_ip c55 h
    refine ps_iconst C dL_areSongs_230 pi_1 ?_
    refine ps_iload5 C dL_areSongs_231 ?_
    refine ps_ishl C dL_areSongs_233 ?_
    refine ps_goto C 238 dL_areSongs_234 rfl ?_
    exact bk_L_areSongs_238 C hRm hfin hK b0 a1 a2 a3 a4 a5 a6 s0 a4 ((nI 1) <<< (a5 &&& 31)) hb0 _ h
set_option maxRecDepth 10000 in
theorem bk_L_areSongs_200 {X : ps_X} (C : ps_C X RL cL_areSongs) (hRm : xR X = ps_lvl 7) {r : Int32} {M9 : ps_M} (hfin : ∀ pc lv, decode cL_areSongs pc = .ok (.ireturn, 1) → narrow .boolean (.int r) = .int r → ps_G X M9 pc lv [.int r]) {K : Nat → Int32 → Int32 → Int32 → Int32 → Int32 → ps_M → Option (Int32 × ps_M)} (hK : ∀ (b0 : Nat) (a1 : Int32) (a2 : Int32) (a3 : Int32) (a4 : Int32) (a5 : Int32) (hb0 : ps_ck 0 b0 = true) (M : ps_M), K b0 a1 a2 a3 a4 a5 M = some (r, M9) → ps_G X M 141 [some (.ref (xb X + b0)), some (.int a1), some (.int a2), some (.int a3), some (.int a4), some (.int a5), none, none, none, none] []) (b0 : Nat) (a1 : Int32) (a2 : Int32) (a3 : Int32) (a4 : Int32) (a5 : Int32) (a6 : Int32) (hb0 : ps_ck 0 b0 = true) (M : ps_M) (h : fk_L_areSongs_200 K b0 a1 a2 a3 a4 a5 a6 M = some (r, M9)) : ps_G X M 200 [some (.ref (xb X + b0)), some (.int a1), some (.int a2), some (.int a3), some (.int a4), some (.int a5), some (.int a6), none, none, none] [] := by
  unfold fk_L_areSongs_200 at h
  refine ps_iloadn3 C dL_areSongs_200 ?_
  refine ps_iconst C dL_areSongs_201 pi_1 ?_
  refine ps_ic_ne C 210 dL_areSongs_202 rfl (fun c56 => ?_) (fun c56 => ?_)
  · replace h := ps_in0 c56 h
    refine ps_bipush C dL_areSongs_210 pb_100 ?_
    refine ps_iload6 C dL_areSongs_212 ?_
    refine ps_imul C dL_areSongs_214 ?_
    refine ps_iloadn3 C dL_areSongs_215 ?_
    refine ps_iconst C dL_areSongs_216 pi_1 ?_
    refine ps_isub C dL_areSongs_217 ?_
    obtain ⟨hz14, h⟩ := ps_gd h
    refine ps_idiv C hz14 dL_areSongs_218 ?_
    exact bk_L_areSongs_219 C hRm hfin hK b0 a1 a2 a3 a4 a5 a6 (((nI 100) * a6) / (a3 - (nI 1))) hb0 _ h
  · replace h := ps_ip c56 h
    refine ps_bipush C dL_areSongs_205 pb_100 ?_
    refine ps_goto C 219 dL_areSongs_207 rfl ?_
    exact bk_L_areSongs_219 C hRm hfin hK b0 a1 a2 a3 a4 a5 a6 (nI 100) hb0 _ h
set_option maxRecDepth 10000 in
theorem bk_L_areSongs_158 {X : ps_X} (C : ps_C X RL cL_areSongs) (hRm : xR X = ps_lvl 7) {r : Int32} {M9 : ps_M} (hfin : ∀ pc lv, decode cL_areSongs pc = .ok (.ireturn, 1) → narrow .boolean (.int r) = .int r → ps_G X M9 pc lv [.int r]) {K : Nat → Int32 → Int32 → Int32 → Int32 → Int32 → ps_M → Option (Int32 × ps_M)} (hK : ∀ (b0 : Nat) (a1 : Int32) (a2 : Int32) (a3 : Int32) (a4 : Int32) (a5 : Int32) (hb0 : ps_ck 0 b0 = true) (M : ps_M), K b0 a1 a2 a3 a4 a5 M = some (r, M9) → ps_G X M 141 [some (.ref (xb X + b0)), some (.int a1), some (.int a2), some (.int a3), some (.int a4), some (.int a5), none, none, none, none] []) : ∀ (n : Nat) (b0 : Nat) (a1 : Int32) (a2 : Int32) (a3 : Int32) (a4 : Int32) (a5 : Int32) (a6 : Int32) (hb0 : ps_ck 0 b0 = true) (M : ps_M), fk_L_areSongs_158 K n b0 a1 a2 a3 a4 a5 a6 M = some (r, M9) → ps_G X M 158 [some (.ref (xb X + b0)), some (.int a1), some (.int a2), some (.int a3), some (.int a4), some (.int a5), some (.int a6), none, none, none] [] := by
  intro n
  induction n with
  | zero => intro b0 a1 a2 a3 a4 a5 a6 hb0 M h; rw [fk_L_areSongs_158] at h; cases h
  | succ n ih =>
    intro b0 a1 a2 a3 a4 a5 a6 hb0 M h
    rw [fk_L_areSongs_158] at h
    refine ps_iload6 C dL_areSongs_158 ?_
    refine ps_iconst C dL_areSongs_160 pi_1 ?_
    refine ps_iadd C dL_areSongs_161 ?_
    refine ps_iloadn3 C dL_areSongs_162 ?_
    refine ps_ic_ge C 200 dL_areSongs_163 rfl (fun c62 => ?_) (fun c62 => ?_)
    · replace h := ps_ip c62 h
      exact bk_L_areSongs_200 C hRm hfin hK b0 a1 a2 a3 a4 a5 a6 hb0 _ h
    · replace h := ps_in0 c62 h
      refine ps_aloadn0 C dL_areSongs_166 ?_
      refine ps_iload5 C dL_areSongs_167 ?_
      refine ps_aloadn0 C dL_areSongs_169 ?_
      refine ps_iloadn2 C dL_areSongs_170 ?_
      refine ps_iconst C dL_areSongs_171 pi_0 ?_
      obtain ⟨r57, M57, hM57, h⟩ := ps_bd h
      refine ps_goV_i C (rest := [.int a5, .ref (xb X + b0)]) (tt_X6_bar (xl X) (xb X) (xD X) hb0 hM57) cw_L_35 ps_rc0 hb0 (ps_room hRm (by decide)) rfl rfl (Nat.le_of_ble_eq_true rfl) dL_areSongs_172 ?_
      refine ps_iload6 C dL_areSongs_175 ?_
      refine ps_iconst C dL_areSongs_177 pi_1 ?_
      refine ps_iadd C dL_areSongs_178 ?_
      obtain ⟨r58, M58, hM58, h⟩ := ps_bd h
      refine ps_goV_i C (rest := []) (tt_X6_sings (xl X) (xb X) (xD X) hb0 hM58) cw_L_19 ps_rc0 hb0 (ps_room hRm (by decide)) rfl rfl (Nat.le_of_ble_eq_true rfl) dL_areSongs_179 ?_
      refine ps_aloadn0 C dL_areSongs_182 ?_
      refine ps_iloadn2 C dL_areSongs_183 ?_
      refine ps_iload6 C dL_areSongs_184 ?_
      refine ps_iconst C dL_areSongs_186 pi_1 ?_
      refine ps_iadd C dL_areSongs_187 ?_
      obtain ⟨r59, M59, hM59, h⟩ := ps_bd h
      refine ps_goV_i C (rest := [.int r58]) (tt_X6_bar (xl X) (xb X) (xD X) hb0 hM59) cw_L_35 ps_rc0 hb0 (ps_room hRm (by decide)) rfl rfl (Nat.le_of_ble_eq_true rfl) dL_areSongs_188 ?_
      refine ps_ic_ne C 200 dL_areSongs_191 rfl (fun c61 => ?_) (fun c61 => ?_)
      · replace h := ps_in0 c61 h
        exact bk_L_areSongs_200 C hRm hfin hK b0 a1 a2 a3 a4 a5 a6 hb0 _ h
      · replace h := ps_ip c61 h
        refine ps_iinc6 C rfl (nI 1) pi_1 dL_areSongs_194 (fun x60 ex60 => ?_)
        replace h := ps_lt ex60 h
        refine ps_goto C 158 dL_areSongs_197 rfl ?_
        exact ih b0 a1 a2 a3 a4 a5 x60 hb0 _ h
set_option maxRecDepth 10000 in
theorem bk_L_areSongs_141 {X : ps_X} (C : ps_C X RL cL_areSongs) (hRm : xR X = ps_lvl 7) {r : Int32} {M9 : ps_M} (hfin : ∀ pc lv, decode cL_areSongs pc = .ok (.ireturn, 1) → narrow .boolean (.int r) = .int r → ps_G X M9 pc lv [.int r]) {K : Nat → Int32 → Int32 → ps_M → Option (Int32 × ps_M)} (hK : ∀ (b0 : Nat) (a1 : Int32) (a2 : Int32) (hb0 : ps_ck 0 b0 = true) (M : ps_M), K b0 a1 a2 M = some (r, M9) → ps_G X M 36 [some (.ref (xb X + b0)), some (.int a1), some (.int a2), none, none, none, none, none, none, none] []) : ∀ (n : Nat) (b0 : Nat) (a1 : Int32) (a2 : Int32) (a3 : Int32) (a4 : Int32) (a5 : Int32) (hb0 : ps_ck 0 b0 = true) (M : ps_M), fk_L_areSongs_141 K n b0 a1 a2 a3 a4 a5 M = some (r, M9) → ps_G X M 141 [some (.ref (xb X + b0)), some (.int a1), some (.int a2), some (.int a3), some (.int a4), some (.int a5), none, none, none, none] [] := by
  intro n
  induction n with
  | zero => intro b0 a1 a2 a3 a4 a5 hb0 M h; rw [fk_L_areSongs_141] at h; cases h
  | succ n ih =>
    intro b0 a1 a2 a3 a4 a5 hb0 M h
    rw [fk_L_areSongs_141] at h
    refine ps_iload5 C dL_areSongs_141 ?_
    refine ps_aloadn0 C dL_areSongs_143 ?_
    refine ps_iconst C dL_areSongs_144 pi_2 ?_
    obtain ⟨r7, M7, hM7, h⟩ := ps_bd h
    refine ps_goV_i C (rest := [.int a5]) (tt_X6_count (xl X) (xb X) (xD X) hb0 hM7) cw_L_28 ps_rc0 hb0 (ps_room hRm (by decide)) rfl rfl (Nat.le_of_ble_eq_true rfl) dL_areSongs_145 ?_
    refine ps_ic_ge C 496 dL_areSongs_148 rfl (fun c64 => ?_) (fun c64 => ?_)
    · replace h := ps_ip c64 h
      exact bk_L_areSongs_496 C hRm hfin hK b0 a1 a2 a3 a4 a5 hb0 _ h
    · replace h := ps_in0 c64 h
      refine ps_iloadn1 C dL_areSongs_151 ?_
      refine ps_if_eq C 496 dL_areSongs_152 rfl (fun c63 => ?_) (fun c63 => ?_)
      · replace h := ps_ip c63 h
        exact bk_L_areSongs_496 C hRm hfin hK b0 a1 a2 a3 a4 a5 hb0 _ h
      · replace h := ps_in0 c63 h
        refine ps_iconst C dL_areSongs_155 pi_0 ?_
        refine ps_istore6 C rfl dL_areSongs_156 ?_
        exact bk_L_areSongs_158 C hRm hfin (fun b0' a1' a2' a3' a4' a5' hb0' M' h' => ih b0' a1' a2' a3' a4' a5' hb0' M' h') ps_fu b0 a1 a2 a3 a4 a5 (nI 0) hb0 _ h
set_option maxRecDepth 10000 in
theorem bk_L_areSongs_36 {X : ps_X} (C : ps_C X RL cL_areSongs) (hRm : xR X = ps_lvl 7) {r : Int32} {M9 : ps_M} (hfin : ∀ pc lv, decode cL_areSongs pc = .ok (.ireturn, 1) → narrow .boolean (.int r) = .int r → ps_G X M9 pc lv [.int r]) : ∀ (n : Nat) (b0 : Nat) (a1 : Int32) (a2 : Int32) (hb0 : ps_ck 0 b0 = true) (M : ps_M), fk_L_areSongs_36 n b0 a1 a2 M = some (r, M9) → ps_G X M 36 [some (.ref (xb X + b0)), some (.int a1), some (.int a2), none, none, none, none, none, none, none] [] := by
  intro n
  induction n with
  | zero => intro b0 a1 a2 hb0 M h; rw [fk_L_areSongs_36] at h; cases h
  | succ n ih =>
    intro b0 a1 a2 hb0 M h
    rw [fk_L_areSongs_36] at h
    refine ps_iloadn2 C dL_areSongs_36 ?_
    refine ps_aloadn0 C dL_areSongs_37 ?_
    refine ps_iconst C dL_areSongs_38 pi_1 ?_
    obtain ⟨r3, M3, hM3, h⟩ := ps_bd h
    refine ps_goV_i C (rest := [.int a2]) (tt_X6_count (xl X) (xb X) (xD X) hb0 hM3) cw_L_28 ps_rc0 hb0 (ps_room hRm (by decide)) rfl rfl (Nat.le_of_ble_eq_true rfl) dL_areSongs_39 ?_
    refine ps_ic_ge C 523 dL_areSongs_42 rfl (fun c80 => ?_) (fun c80 => ?_)
    · replace h := ps_ip c80 h
      refine ps_iloadn1 C dL_areSongs_523 ?_
      obtain ⟨hc4, h⟩ := ps_gd h
      exact ps_end_i h hfin dL_areSongs_524 (ps_isB_n hc4)
    · replace h := ps_in0 c80 h
      refine ps_iloadn1 C dL_areSongs_45 ?_
      refine ps_if_eq C 523 dL_areSongs_46 rfl (fun c79 => ?_) (fun c79 => ?_)
      · replace h := ps_ip c79 h
        refine ps_iloadn1 C dL_areSongs_523 ?_
        obtain ⟨hc5, h⟩ := ps_gd h
        exact ps_end_i h hfin dL_areSongs_524 (ps_isB_n hc5)
      · replace h := ps_in0 c79 h
        refine ps_aloadn0 C dL_areSongs_49 ?_
        refine ps_iloadn2 C dL_areSongs_50 ?_
        refine ps_iconst C dL_areSongs_51 pi_0 ?_
        obtain ⟨r6, M6, hM6, h⟩ := ps_bd h
        refine ps_goV_i C (rest := []) (tt_X6_ofSong (xl X) (xb X) (xD X) hb0 hM6) cw_L_32 ps_rc0 hb0 (ps_room hRm (by decide)) rfl rfl (Nat.le_of_ble_eq_true rfl) dL_areSongs_52 ?_
        refine ps_istoren3 C rfl dL_areSongs_55 ?_
        refine ps_iconst C dL_areSongs_56 pi_0 ?_
        refine ps_istore4 C rfl dL_areSongs_57 ?_
        refine ps_iloadn3 C dL_areSongs_59 ?_
        refine ps_iconst C dL_areSongs_60 pi_1 ?_
        refine ps_ic_lt C 136 dL_areSongs_61 rfl (fun c78 => ?_) (fun c78 => ?_)
        · replace h := ps_ip c78 h
          refine ps_iconst C dL_areSongs_136 pi_0 ?_
          refine ps_istoren1 C rfl dL_areSongs_137 ?_
          refine ps_iconst C dL_areSongs_138 pi_0 ?_
          refine ps_istore5 C rfl dL_areSongs_139 ?_
          exact bk_L_areSongs_141 C hRm hfin (fun b0' a1' a2' hb0' M' h' => ih b0' a1' a2' hb0' M' h') ps_fu b0 (nI 0) a2 r6 (nI 0) (nI 0) hb0 _ h
        · replace h := ps_in0 c78 h
          refine ps_iloadn3 C dL_areSongs_64 ?_
          refine ps_bipush C dL_areSongs_65 pb_20 ?_
          refine ps_ic_gt C 136 dL_areSongs_67 rfl (fun c77 => ?_) (fun c77 => ?_)
          · replace h := ps_ip c77 h
            refine ps_iconst C dL_areSongs_136 pi_0 ?_
            refine ps_istoren1 C rfl dL_areSongs_137 ?_
            refine ps_iconst C dL_areSongs_138 pi_0 ?_
            refine ps_istore5 C rfl dL_areSongs_139 ?_
            exact bk_L_areSongs_141 C hRm hfin (fun b0' a1' a2' hb0' M' h' => ih b0' a1' a2' hb0' M' h') ps_fu b0 (nI 0) a2 r6 (nI 0) (nI 0) hb0 _ h
          · replace h := ps_in0 c77 h
            refine ps_aloadn0 C dL_areSongs_70 ?_
            refine ps_iloadn2 C dL_areSongs_71 ?_
            refine ps_iloadn3 C dL_areSongs_72 ?_
            obtain ⟨r65, M65, hM65, h⟩ := ps_bd h
            refine ps_goV_i C (rest := []) (tt_X6_bar (xl X) (xb X) (xD X) hb0 hM65) cw_L_35 ps_rc0 hb0 (ps_room hRm (by decide)) rfl rfl (Nat.le_of_ble_eq_true rfl) dL_areSongs_73 ?_
            refine ps_iconst C dL_areSongs_76 pi_m1 ?_
            refine ps_ic_ne C 136 dL_areSongs_77 rfl (fun c76 => ?_) (fun c76 => ?_)
            · replace h := ps_in0 c76 h
              refine ps_iconst C dL_areSongs_136 pi_0 ?_
              refine ps_istoren1 C rfl dL_areSongs_137 ?_
              refine ps_iconst C dL_areSongs_138 pi_0 ?_
              refine ps_istore5 C rfl dL_areSongs_139 ?_
              exact bk_L_areSongs_141 C hRm hfin (fun b0' a1' a2' hb0' M' h' => ih b0' a1' a2' hb0' M' h') ps_fu b0 (nI 0) a2 r6 (nI 0) (nI 0) hb0 _ h
            · replace h := ps_ip c76 h
              refine ps_aloadn0 C dL_areSongs_80 ?_
              refine ps_iloadn2 C dL_areSongs_81 ?_
              refine ps_iconst C dL_areSongs_82 pi_0 ?_
              obtain ⟨r66, M66, hM66, h⟩ := ps_bd h
              refine ps_goV_i C (rest := []) (tt_X6_bar (xl X) (xb X) (xD X) hb0 hM66) cw_L_35 ps_rc0 hb0 (ps_room hRm (by decide)) rfl rfl (Nat.le_of_ble_eq_true rfl) dL_areSongs_83 ?_
              refine ps_aloadn0 C dL_areSongs_86 ?_
              refine ps_iloadn2 C dL_areSongs_87 ?_
              refine ps_iconst C dL_areSongs_88 pi_2 ?_
              obtain ⟨r67, M67, hM67, h⟩ := ps_bd h
              refine ps_goV_i C (rest := [.int r66]) (tt_X6_ofSong (xl X) (xb X) (xD X) hb0 hM67) cw_L_32 ps_rc0 hb0 (ps_room hRm (by decide)) rfl rfl (Nat.le_of_ble_eq_true rfl) dL_areSongs_89 ?_
              refine ps_ic_ne C 136 dL_areSongs_92 rfl (fun c75 => ?_) (fun c75 => ?_)
              · replace h := ps_in0 c75 h
                refine ps_iconst C dL_areSongs_136 pi_0 ?_
                refine ps_istoren1 C rfl dL_areSongs_137 ?_
                refine ps_iconst C dL_areSongs_138 pi_0 ?_
                refine ps_istore5 C rfl dL_areSongs_139 ?_
                exact bk_L_areSongs_141 C hRm hfin (fun b0' a1' a2' hb0' M' h' => ih b0' a1' a2' hb0' M' h') ps_fu b0 (nI 0) a2 r6 (nI 0) (nI 0) hb0 _ h
              · replace h := ps_ip c75 h
                refine ps_aloadn0 C dL_areSongs_95 ?_
                refine ps_iloadn2 C dL_areSongs_96 ?_
                refine ps_iloadn3 C dL_areSongs_97 ?_
                refine ps_iconst C dL_areSongs_98 pi_1 ?_
                refine ps_isub C dL_areSongs_99 ?_
                obtain ⟨r68, M68, hM68, h⟩ := ps_bd h
                refine ps_goV_i C (rest := []) (tt_X6_bar (xl X) (xb X) (xD X) hb0 hM68) cw_L_35 ps_rc0 hb0 (ps_room hRm (by decide)) rfl rfl (Nat.le_of_ble_eq_true rfl) dL_areSongs_100 ?_
                refine ps_aloadn0 C dL_areSongs_103 ?_
                refine ps_iloadn2 C dL_areSongs_104 ?_
                refine ps_iconst C dL_areSongs_105 pi_3 ?_
                obtain ⟨r69, M69, hM69, h⟩ := ps_bd h
                refine ps_goV_i C (rest := [.int r68]) (tt_X6_ofSong (xl X) (xb X) (xD X) hb0 hM69) cw_L_32 ps_rc0 hb0 (ps_room hRm (by decide)) rfl rfl (Nat.le_of_ble_eq_true rfl) dL_areSongs_106 ?_
                refine ps_ic_ne C 136 dL_areSongs_109 rfl (fun c74 => ?_) (fun c74 => ?_)
                · replace h := ps_in0 c74 h
                  refine ps_iconst C dL_areSongs_136 pi_0 ?_
                  refine ps_istoren1 C rfl dL_areSongs_137 ?_
                  refine ps_iconst C dL_areSongs_138 pi_0 ?_
                  refine ps_istore5 C rfl dL_areSongs_139 ?_
                  exact bk_L_areSongs_141 C hRm hfin (fun b0' a1' a2' hb0' M' h' => ih b0' a1' a2' hb0' M' h') ps_fu b0 (nI 0) a2 r6 (nI 0) (nI 0) hb0 _ h
                · replace h := ps_ip c74 h
                  refine ps_aloadn0 C dL_areSongs_112 ?_
                  refine ps_iloadn2 C dL_areSongs_113 ?_
                  refine ps_iloadn2 C dL_areSongs_114 ?_
                  obtain ⟨r70, M70, hM70, h⟩ := ps_bd h
                  refine ps_goV_i C (rest := []) (tt_X6_rhymes (xl X) (xb X) (xD X) hb0 hM70) cw_L_38 ps_rc0 hb0 (ps_room hRm (by decide)) rfl rfl (Nat.le_of_ble_eq_true rfl) dL_areSongs_115 ?_
                  refine ps_iloadn3 C dL_areSongs_118 ?_
                  refine ps_ic_ne C 136 dL_areSongs_119 rfl (fun c73 => ?_) (fun c73 => ?_)
                  · replace h := ps_in0 c73 h
                    refine ps_iconst C dL_areSongs_136 pi_0 ?_
                    refine ps_istoren1 C rfl dL_areSongs_137 ?_
                    refine ps_iconst C dL_areSongs_138 pi_0 ?_
                    refine ps_istore5 C rfl dL_areSongs_139 ?_
                    exact bk_L_areSongs_141 C hRm hfin (fun b0' a1' a2' hb0' M' h' => ih b0' a1' a2' hb0' M' h') ps_fu b0 (nI 0) a2 r6 (nI 0) (nI 0) hb0 _ h
                  · replace h := ps_ip c73 h
                    refine ps_aloadn0 C dL_areSongs_122 ?_
                    refine ps_iloadn2 C dL_areSongs_123 ?_
                    refine ps_iconst C dL_areSongs_124 pi_1 ?_
                    obtain ⟨r71, M71, hM71, h⟩ := ps_bd h
                    refine ps_goV_i C (rest := []) (tt_X6_ofSong (xl X) (xb X) (xD X) hb0 hM71) cw_L_32 ps_rc0 hb0 (ps_room hRm (by decide)) rfl rfl (Nat.le_of_ble_eq_true rfl) dL_areSongs_125 ?_
                    refine ps_iloadn3 C dL_areSongs_128 ?_
                    refine ps_ic_gt C 136 dL_areSongs_129 rfl (fun c72 => ?_) (fun c72 => ?_)
                    · replace h := ps_ip c72 h
                      refine ps_iconst C dL_areSongs_136 pi_0 ?_
                      refine ps_istoren1 C rfl dL_areSongs_137 ?_
                      refine ps_iconst C dL_areSongs_138 pi_0 ?_
                      refine ps_istore5 C rfl dL_areSongs_139 ?_
                      exact bk_L_areSongs_141 C hRm hfin (fun b0' a1' a2' hb0' M' h' => ih b0' a1' a2' hb0' M' h') ps_fu b0 (nI 0) a2 r6 (nI 0) (nI 0) hb0 _ h
                    · replace h := ps_in0 c72 h
                      refine ps_iconst C dL_areSongs_132 pi_1 ?_
                      refine ps_goto C 137 dL_areSongs_133 rfl ?_
                      refine ps_istoren1 C rfl dL_areSongs_137 ?_
                      refine ps_iconst C dL_areSongs_138 pi_0 ?_
                      refine ps_istore5 C rfl dL_areSongs_139 ?_
                      exact bk_L_areSongs_141 C hRm hfin (fun b0' a1' a2' hb0' M' h' => ih b0' a1' a2' hb0' M' h') ps_fu b0 (nI 1) a2 r6 (nI 0) (nI 0) hb0 _ h
set_option maxRecDepth 10000 in
theorem tt_L_areSongs (l : Launch) (b : Nat) (D : va_G) {b0 : Nat} (hb0 : ps_ck 0 b0 = true) {M M9 : ps_M} {r : Int32} (h : ff_L_areSongs b0 M = some (r, M9)) : ps_Ti l b D yL_areSongs cL_areSongs 10 .boolean 7 [.ref (b + b0)] M r M9 := by
  refine ps_met_i (own := RL) (lv := [some (.ref (b + b0)), none, none, none, none, none, none, none, none, none]) (by decide) rfl rfl (Nat.le_of_ble_eq_true rfl) rfl (fun X eX1 eX2 eX3 hRm eX5 C hfin => ?_)
  subst eX1 eX2 eX3
  unfold ff_L_areSongs at h
  refine ps_aloadn0 C dL_areSongs_0 ?_
  refine ps_aloadn0 C dL_areSongs_1 ?_
  refine ps_iconst C dL_areSongs_2 pi_1 ?_
  obtain ⟨r1, M1, hM1, h⟩ := ps_bd h
  refine ps_goV_i C (rest := [.ref (xb X + b0)]) (tt_X6_count (xl X) (xb X) (xD X) hb0 hM1) cw_L_28 ps_rc0 hb0 (ps_room hRm (by decide)) rfl rfl (Nat.le_of_ble_eq_true rfl) dL_areSongs_3 ?_
  refine ps_iconst C dL_areSongs_6 pi_0 ?_
  obtain ⟨r2, M2, hM2, h⟩ := ps_bd h
  refine ps_goV_i C (rest := []) (tt_X6_ofSong (xl X) (xb X) (xD X) hb0 hM2) cw_L_32 ps_rc0 hb0 (ps_room hRm (by decide)) rfl rfl (Nat.le_of_ble_eq_true rfl) dL_areSongs_7 ?_
  refine ps_iconst C dL_areSongs_10 pi_m1 ?_
  refine ps_ic_ne C 32 dL_areSongs_11 rfl (fun c84 => ?_) (fun c84 => ?_)
  · replace h := ps_in0 c84 h
    refine ps_iconst C dL_areSongs_32 pi_0 ?_
    refine ps_istoren1 C rfl dL_areSongs_33 ?_
    refine ps_iconst C dL_areSongs_34 pi_0 ?_
    refine ps_istoren2 C rfl dL_areSongs_35 ?_
    exact bk_L_areSongs_36 C hRm hfin ps_fu b0 (nI 0) (nI 0) hb0 _ h
  · replace h := ps_ip c84 h
    refine ps_aloadn0 C dL_areSongs_14 ?_
    refine ps_aloadn0 C dL_areSongs_15 ?_
    refine ps_iconst C dL_areSongs_16 pi_2 ?_
    obtain ⟨r81, M81, hM81, h⟩ := ps_bd h
    refine ps_goV_i C (rest := [.ref (xb X + b0)]) (tt_X6_count (xl X) (xb X) (xD X) hb0 hM81) cw_L_28 ps_rc0 hb0 (ps_room hRm (by decide)) rfl rfl (Nat.le_of_ble_eq_true rfl) dL_areSongs_17 ?_
    refine ps_iconst C dL_areSongs_20 pi_0 ?_
    obtain ⟨r82, M82, hM82, h⟩ := ps_bd h
    refine ps_goV_i C (rest := []) (tt_X6_of (xl X) (xb X) (xD X) hb0 hM82) cw_L_9 ps_rc0 hb0 (ps_room hRm (by decide)) rfl rfl (Nat.le_of_ble_eq_true rfl) dL_areSongs_21 ?_
    refine ps_iconst C dL_areSongs_24 pi_m1 ?_
    refine ps_ic_ne C 32 dL_areSongs_25 rfl (fun c83 => ?_) (fun c83 => ?_)
    · replace h := ps_in0 c83 h
      refine ps_iconst C dL_areSongs_32 pi_0 ?_
      refine ps_istoren1 C rfl dL_areSongs_33 ?_
      refine ps_iconst C dL_areSongs_34 pi_0 ?_
      refine ps_istoren2 C rfl dL_areSongs_35 ?_
      exact bk_L_areSongs_36 C hRm hfin ps_fu b0 (nI 0) (nI 0) hb0 _ h
    · replace h := ps_ip c83 h
      refine ps_iconst C dL_areSongs_28 pi_1 ?_
      refine ps_goto C 33 dL_areSongs_29 rfl ?_
      refine ps_istoren1 C rfl dL_areSongs_33 ?_
      refine ps_iconst C dL_areSongs_34 pi_0 ?_
      refine ps_istoren2 C rfl dL_areSongs_35 ?_
      exact bk_L_areSongs_36 C hRm hfin ps_fu b0 (nI 1) (nI 0) hb0 _ h
set_option maxRecDepth 10000 in
theorem bk_L_areSums_139 {X : ps_X} (C : ps_C X RL cL_areSums) (hRm : xR X = ps_lvl 9) {r : Int32} {M9 : ps_M} (hfin : ∀ pc lv, decode cL_areSums pc = .ok (.ireturn, 1) → narrow .boolean (.int r) = .int r → ps_G X M9 pc lv [.int r]) : ∀ (n : Nat) (b0 : Nat) (a1 : Int32) (a2 : Int32) (a3 : Int32) (a4 : Int32) (a5 : Int32) (a6 : Int32) (a7 : Int32) (hb0 : ps_ck 0 b0 = true) (M : ps_M), fk_L_areSums_139 n b0 a1 a2 a3 a4 a5 a6 a7 M = some (r, M9) → ps_G X M 139 [some (.ref (xb X + b0)), some (.int a1), some (.int a2), some (.int a3), some (.int a4), some (.int a5), some (.int a6), some (.int a7)] [] := by
  intro n
  induction n with
  | zero => intro b0 a1 a2 a3 a4 a5 a6 a7 hb0 M h; rw [fk_L_areSums_139] at h; cases h
  | succ n ih =>
    intro b0 a1 a2 a3 a4 a5 a6 a7 hb0 M h
    rw [fk_L_areSums_139] at h
    refine ps_iload7 C dL_areSums_139 ?_
    refine ps_aloadn0 C dL_areSums_141 ?_
    refine ps_iconst C dL_areSums_142 pi_1 ?_
    obtain ⟨r2, M2, hM2, h⟩ := ps_bd h
    refine ps_goV_i C (rest := [.int a7]) (tt_X6_count (xl X) (xb X) (xD X) hb0 hM2) cw_L_28 ps_rc0 hb0 (ps_room hRm (by decide)) rfl rfl (Nat.le_of_ble_eq_true rfl) dL_areSums_143 ?_
    refine ps_ic_ge C 167 dL_areSums_146 rfl (fun c17 => ?_) (fun c17 => ?_)
    · replace h := ps_ip c17 h
      refine ps_iload6 C dL_areSums_167 ?_
      refine ps_if_eq C 225 dL_areSums_169 rfl (fun c13 => ?_) (fun c13 => ?_)
      · replace h := ps_ip c13 h
        refine ps_iconst C dL_areSums_225 pi_0 ?_
        exact ps_end_i h hfin dL_areSums_226 rfl
      · replace h := ps_in0 c13 h
        refine ps_iloadn1 C dL_areSums_172 ?_
        refine ps_aloadn0 C dL_areSums_173 ?_
        refine ps_iconst C dL_areSums_174 pi_5 ?_
        obtain ⟨r3, M3, hM3, h⟩ := ps_bd h
        refine ps_goV_i C (rest := [.int a1]) (tt_X6_count (xl X) (xb X) (xD X) hb0 hM3) cw_L_28 ps_rc0 hb0 (ps_room hRm (by decide)) rfl rfl (Nat.le_of_ble_eq_true rfl) dL_areSums_175 ?_
        refine ps_ic_ne C 225 dL_areSums_178 rfl (fun c12 => ?_) (fun c12 => ?_)
        · replace h := ps_in0 c12 h
          refine ps_iconst C dL_areSums_225 pi_0 ?_
          exact ps_end_i h hfin dL_areSums_226 rfl
        · replace h := ps_ip c12 h
          refine ps_iloadn2 C dL_areSums_181 ?_
          refine ps_aloadn0 C dL_areSums_182 ?_
          refine ps_iconst C dL_areSums_183 pi_4 ?_
          obtain ⟨r4, M4, hM4, h⟩ := ps_bd h
          refine ps_goV_i C (rest := [.int a2]) (tt_X6_count (xl X) (xb X) (xD X) hb0 hM4) cw_L_28 ps_rc0 hb0 (ps_room hRm (by decide)) rfl rfl (Nat.le_of_ble_eq_true rfl) dL_areSums_184 ?_
          refine ps_ic_ne C 225 dL_areSums_187 rfl (fun c11 => ?_) (fun c11 => ?_)
          · replace h := ps_in0 c11 h
            refine ps_iconst C dL_areSums_225 pi_0 ?_
            exact ps_end_i h hfin dL_areSums_226 rfl
          · replace h := ps_ip c11 h
            refine ps_iloadn3 C dL_areSums_190 ?_
            refine ps_aloadn0 C dL_areSums_191 ?_
            refine ps_bipush C dL_areSums_192 pb_6 ?_
            obtain ⟨r5, M5, hM5, h⟩ := ps_bd h
            refine ps_goV_i C (rest := [.int a3]) (tt_X6_count (xl X) (xb X) (xD X) hb0 hM5) cw_L_28 ps_rc0 hb0 (ps_room hRm (by decide)) rfl rfl (Nat.le_of_ble_eq_true rfl) dL_areSums_194 ?_
            refine ps_ic_ne C 225 dL_areSums_197 rfl (fun c10 => ?_) (fun c10 => ?_)
            · replace h := ps_in0 c10 h
              refine ps_iconst C dL_areSums_225 pi_0 ?_
              exact ps_end_i h hfin dL_areSums_226 rfl
            · replace h := ps_ip c10 h
              refine ps_iload4 C dL_areSums_200 ?_
              refine ps_aloadn0 C dL_areSums_202 ?_
              refine ps_iconst C dL_areSums_203 pi_3 ?_
              obtain ⟨r6, M6, hM6, h⟩ := ps_bd h
              refine ps_goV_i C (rest := [.int a4]) (tt_X6_count (xl X) (xb X) (xD X) hb0 hM6) cw_L_28 ps_rc0 hb0 (ps_room hRm (by decide)) rfl rfl (Nat.le_of_ble_eq_true rfl) dL_areSums_204 ?_
              refine ps_ic_ne C 225 dL_areSums_207 rfl (fun c9 => ?_) (fun c9 => ?_)
              · replace h := ps_in0 c9 h
                refine ps_iconst C dL_areSums_225 pi_0 ?_
                exact ps_end_i h hfin dL_areSums_226 rfl
              · replace h := ps_ip c9 h
                refine ps_iload5 C dL_areSums_210 ?_
                refine ps_aloadn0 C dL_areSums_212 ?_
                refine ps_bipush C dL_areSums_213 pb_7 ?_
                obtain ⟨r7, M7, hM7, h⟩ := ps_bd h
                refine ps_goV_i C (rest := [.int a5]) (tt_X6_count (xl X) (xb X) (xD X) hb0 hM7) cw_L_28 ps_rc0 hb0 (ps_room hRm (by decide)) rfl rfl (Nat.le_of_ble_eq_true rfl) dL_areSums_215 ?_
                refine ps_ic_ne C 225 dL_areSums_218 rfl (fun c8 => ?_) (fun c8 => ?_)
                · replace h := ps_in0 c8 h
                  refine ps_iconst C dL_areSums_225 pi_0 ?_
                  exact ps_end_i h hfin dL_areSums_226 rfl
                · replace h := ps_ip c8 h
                  refine ps_iconst C dL_areSums_221 pi_1 ?_
                  refine ps_goto C 226 dL_areSums_222 rfl ?_
                  exact ps_end_i h hfin dL_areSums_226 rfl
    · replace h := ps_in0 c17 h
      refine ps_iload4 C dL_areSums_149 ?_
      refine ps_aloadn0 C dL_areSums_151 ?_
      refine ps_iload7 C dL_areSums_152 ?_
      refine ps_iconst C dL_areSums_154 pi_4 ?_
      obtain ⟨r14, M14, hM14, h⟩ := ps_bd h
      refine ps_goV_i C (rest := [.int a4]) (tt_X6_ofSong (xl X) (xb X) (xD X) hb0 hM14) cw_L_32 ps_rc0 hb0 (ps_room hRm (by decide)) rfl rfl (Nat.le_of_ble_eq_true rfl) dL_areSums_155 ?_
      refine ps_iadd C dL_areSums_158 ?_
      refine ps_nmi (fun x15 ex15 => ?_)
      replace h := ps_lt ex15 h
      refine ps_istore4 C rfl dL_areSums_159 ?_
      refine ps_iinc7 C rfl (nI 1) pi_1 dL_areSums_161 (fun x16 ex16 => ?_)
      replace h := ps_lt ex16 h
      refine ps_goto C 139 dL_areSums_164 rfl ?_
      exact ih b0 a1 a2 a3 x15 a5 a6 x16 hb0 _ h
set_option maxRecDepth 10000 in
theorem bk_L_areSums_89 {X : ps_X} (C : ps_C X RL cL_areSums) (hRm : xR X = ps_lvl 9) {r : Int32} {M9 : ps_M} (hfin : ∀ pc lv, decode cL_areSums pc = .ok (.ireturn, 1) → narrow .boolean (.int r) = .int r → ps_G X M9 pc lv [.int r]) {K : Nat → Int32 → Int32 → Int32 → Int32 → Int32 → Int32 → Int32 → ps_M → Option (Int32 × ps_M)} (hK : ∀ (b0 : Nat) (a1 : Int32) (a2 : Int32) (a3 : Int32) (a4 : Int32) (a5 : Int32) (a6 : Int32) (a7 : Int32) (hb0 : ps_ck 0 b0 = true) (M : ps_M), K b0 a1 a2 a3 a4 a5 a6 a7 M = some (r, M9) → ps_G X M 18 [some (.ref (xb X + b0)), some (.int a1), some (.int a2), some (.int a3), some (.int a4), some (.int a5), some (.int a6), some (.int a7)] []) (b0 : Nat) (a1 : Int32) (a2 : Int32) (a3 : Int32) (a4 : Int32) (a5 : Int32) (a6 : Int32) (a7 : Int32) (s0 : Int32) (s1 : Int32) (hb0 : ps_ck 0 b0 = true) (M : ps_M) (h : fk_L_areSums_89 K b0 a1 a2 a3 a4 a5 a6 a7 s0 s1 M = some (r, M9)) : ps_G X M 89 [some (.ref (xb X + b0)), some (.int a1), some (.int a2), some (.int a3), some (.int a4), some (.int a5), some (.int a6), some (.int a7)] [.int s1, .int s0] := by
  unfold fk_L_areSums_89 at h
  refine ps_ior C dL_areSums_89 ?_
  refine ps_nmi (fun x26 ex26 => ?_)
  replace h := ps_lt ex26 h
  refine ps_istore5 C rfl dL_areSums_90 ?_
  refine ps_aloadn0 C dL_areSums_92 ?_
  refine ps_iload7 C dL_areSums_93 ?_
  obtain ⟨r27, M27, hM27, h⟩ := ps_bd h
  refine ps_goS_i C (rest := []) (tt_L_areLinks (xl X) (xb X) (xD X) hb0 hM27) cw_L_56 (ps_room hRm (by decide)) rfl rfl (Nat.le_of_ble_eq_true rfl) dL_areSums_95 ?_
  refine ps_if_eq C 127 dL_areSums_98 rfl (fun c36 => ?_) (fun c36 => ?_)
  · replace h := ps_ip c36 h
    refine ps_iconst C dL_areSums_127 pi_0 ?_
    refine ps_istore6 C rfl dL_areSums_128 ?_
    refine ps_iinc7 C rfl (nI 1) pi_1 dL_areSums_130 (fun x28 ex28 => ?_)
    replace h := ps_lt ex28 h
    refine ps_goto C 18 dL_areSums_133 rfl ?_
    exact hK b0 a1 a2 a3 a4 x26 (nI 0) x28 hb0 _ h
  · replace h := ps_in0 c36 h
    refine ps_aloadn0 C dL_areSums_101 ?_
    refine ps_iload7 C dL_areSums_102 ?_
    refine ps_iconst C dL_areSums_104 pi_2 ?_
    obtain ⟨r29, M29, hM29, h⟩ := ps_bd h
    refine ps_goV_i C (rest := []) (tt_X6_of (xl X) (xb X) (xD X) hb0 hM29) cw_L_9 ps_rc0 hb0 (ps_room hRm (by decide)) rfl rfl (Nat.le_of_ble_eq_true rfl) dL_areSums_105 ?_
    refine ps_bipush C dL_areSums_108 pb_m6 ?_
    refine ps_ic_eq C 123 dL_areSums_110 rfl (fun c35 => ?_) (fun c35 => ?_)
    · replace h := ps_ip c35 h
      refine ps_iconst C dL_areSums_123 pi_1 ?_
      refine ps_goto C 128 dL_areSums_124 rfl ?_
      refine ps_istore6 C rfl dL_areSums_128 ?_
      refine ps_iinc7 C rfl (nI 1) pi_1 dL_areSums_130 (fun x30 ex30 => ?_)
      replace h := ps_lt ex30 h
      refine ps_goto C 18 dL_areSums_133 rfl ?_
      exact hK b0 a1 a2 a3 a4 x26 (nI 1) x30 hb0 _ h
    · replace h := ps_in0 c35 h
      refine ps_aloadn0 C dL_areSums_113 ?_
      refine ps_iload7 C dL_areSums_114 ?_
      refine ps_iconst C dL_areSums_116 pi_3 ?_
      obtain ⟨r31, M31, hM31, h⟩ := ps_bd h
      refine ps_goV_i C (rest := []) (tt_X6_of (xl X) (xb X) (xD X) hb0 hM31) cw_L_9 ps_rc0 hb0 (ps_room hRm (by decide)) rfl rfl (Nat.le_of_ble_eq_true rfl) dL_areSums_117 ?_
      refine ps_if_le C 127 dL_areSums_120 rfl (fun c34 => ?_) (fun c34 => ?_)
      · replace h := ps_ip c34 h
        refine ps_iconst C dL_areSums_127 pi_0 ?_
        refine ps_istore6 C rfl dL_areSums_128 ?_
        refine ps_iinc7 C rfl (nI 1) pi_1 dL_areSums_130 (fun x32 ex32 => ?_)
        replace h := ps_lt ex32 h
        refine ps_goto C 18 dL_areSums_133 rfl ?_
        exact hK b0 a1 a2 a3 a4 x26 (nI 0) x32 hb0 _ h
      · replace h := ps_in0 c34 h
        refine ps_iconst C dL_areSums_123 pi_1 ?_
        refine ps_goto C 128 dL_areSums_124 rfl ?_
        refine ps_istore6 C rfl dL_areSums_128 ?_
        refine ps_iinc7 C rfl (nI 1) pi_1 dL_areSums_130 (fun x33 ex33 => ?_)
        replace h := ps_lt ex33 h
        refine ps_goto C 18 dL_areSums_133 rfl ?_
        exact hK b0 a1 a2 a3 a4 x26 (nI 1) x33 hb0 _ h
set_option maxRecDepth 10000 in
theorem bk_L_areSums_18 {X : ps_X} (C : ps_C X RL cL_areSums) (hRm : xR X = ps_lvl 9) {r : Int32} {M9 : ps_M} (hfin : ∀ pc lv, decode cL_areSums pc = .ok (.ireturn, 1) → narrow .boolean (.int r) = .int r → ps_G X M9 pc lv [.int r]) : ∀ (n : Nat) (b0 : Nat) (a1 : Int32) (a2 : Int32) (a3 : Int32) (a4 : Int32) (a5 : Int32) (a6 : Int32) (a7 : Int32) (hb0 : ps_ck 0 b0 = true) (M : ps_M), fk_L_areSums_18 n b0 a1 a2 a3 a4 a5 a6 a7 M = some (r, M9) → ps_G X M 18 [some (.ref (xb X + b0)), some (.int a1), some (.int a2), some (.int a3), some (.int a4), some (.int a5), some (.int a6), some (.int a7)] [] := by
  intro n
  induction n with
  | zero => intro b0 a1 a2 a3 a4 a5 a6 a7 hb0 M h; rw [fk_L_areSums_18] at h; cases h
  | succ n ih =>
    intro b0 a1 a2 a3 a4 a5 a6 a7 hb0 M h
    rw [fk_L_areSums_18] at h
    refine ps_iload7 C dL_areSums_18 ?_
    refine ps_aloadn0 C dL_areSums_20 ?_
    refine ps_iconst C dL_areSums_21 pi_2 ?_
    obtain ⟨r1, M1, hM1, h⟩ := ps_bd h
    refine ps_goV_i C (rest := [.int a7]) (tt_X6_count (xl X) (xb X) (xD X) hb0 hM1) cw_L_28 ps_rc0 hb0 (ps_room hRm (by decide)) rfl rfl (Nat.le_of_ble_eq_true rfl) dL_areSums_22 ?_
    refine ps_ic_ge C 136 dL_areSums_25 rfl (fun c39 => ?_) (fun c39 => ?_)
    · replace h := ps_ip c39 h
      refine ps_iconst C dL_areSums_136 pi_0 ?_
      refine ps_istore7 C rfl dL_areSums_137 ?_
      exact bk_L_areSums_139 C hRm hfin ps_fu b0 a1 a2 a3 a4 a5 a6 (nI 0) hb0 _ h
    · replace h := ps_in0 c39 h
      refine ps_iload6 C dL_areSums_28 ?_
      refine ps_if_eq C 136 dL_areSums_30 rfl (fun c38 => ?_) (fun c38 => ?_)
      · replace h := ps_ip c38 h
        refine ps_iconst C dL_areSums_136 pi_0 ?_
        refine ps_istore7 C rfl dL_areSums_137 ?_
        exact bk_L_areSums_139 C hRm hfin ps_fu b0 a1 a2 a3 a4 a5 a6 (nI 0) hb0 _ h
      · replace h := ps_in0 c38 h
        refine ps_iloadn1 C dL_areSums_33 ?_
        refine ps_aloadn0 C dL_areSums_34 ?_
        refine ps_iload7 C dL_areSums_35 ?_
        refine ps_iconst C dL_areSums_37 pi_0 ?_
        obtain ⟨r18, M18, hM18, h⟩ := ps_bd h
        refine ps_goV_i C (rest := [.int a1]) (tt_X6_of (xl X) (xb X) (xD X) hb0 hM18) cw_L_9 ps_rc0 hb0 (ps_room hRm (by decide)) rfl rfl (Nat.le_of_ble_eq_true rfl) dL_areSums_38 ?_
        refine ps_iadd C dL_areSums_41 ?_
        refine ps_nmi (fun x19 ex19 => ?_)
        replace h := ps_lt ex19 h
        refine ps_istoren1 C rfl dL_areSums_42 ?_
        refine ps_iloadn2 C dL_areSums_43 ?_
        refine ps_aloadn0 C dL_areSums_44 ?_
        refine ps_iload7 C dL_areSums_45 ?_
        refine ps_iconst C dL_areSums_47 pi_4 ?_
        obtain ⟨r20, M20, hM20, h⟩ := ps_bd h
        refine ps_goV_i C (rest := [.int a2]) (tt_X6_of (xl X) (xb X) (xD X) hb0 hM20) cw_L_9 ps_rc0 hb0 (ps_room hRm (by decide)) rfl rfl (Nat.le_of_ble_eq_true rfl) dL_areSums_48 ?_
        refine ps_iadd C dL_areSums_51 ?_
        refine ps_nmi (fun x21 ex21 => ?_)
        replace h := ps_lt ex21 h
        refine ps_istoren2 C rfl dL_areSums_52 ?_
        refine ps_iloadn3 C dL_areSums_53 ?_
        refine ps_aloadn0 C dL_areSums_54 ?_
        refine ps_iload7 C dL_areSums_55 ?_
        refine ps_iconst C dL_areSums_57 pi_5 ?_
        obtain ⟨r22, M22, hM22, h⟩ := ps_bd h
        refine ps_goV_i C (rest := [.int a3]) (tt_X6_of (xl X) (xb X) (xD X) hb0 hM22) cw_L_9 ps_rc0 hb0 (ps_room hRm (by decide)) rfl rfl (Nat.le_of_ble_eq_true rfl) dL_areSums_58 ?_
        refine ps_iadd C dL_areSums_61 ?_
        refine ps_nmi (fun x23 ex23 => ?_)
        replace h := ps_lt ex23 h
        refine ps_istoren3 C rfl dL_areSums_62 ?_
        refine ps_iload5 C dL_areSums_63 ?_
        refine ps_aloadn0 C dL_areSums_65 ?_
        refine ps_iload7 C dL_areSums_66 ?_
        refine ps_iconst C dL_areSums_68 pi_3 ?_
        obtain ⟨r24, M24, hM24, h⟩ := ps_bd h
        refine ps_goV_i C (rest := [.int a5]) (tt_X6_of (xl X) (xb X) (xD X) hb0 hM24) cw_L_9 ps_rc0 hb0 (ps_room hRm (by decide)) rfl rfl (Nat.le_of_ble_eq_true rfl) dL_areSums_69 ?_
        refine ps_aloadn0 C dL_areSums_72 ?_
        refine ps_bipush C dL_areSums_73 pb_11 ?_
        obtain ⟨r25, M25, hM25, h⟩ := ps_bd h
        refine ps_goV_i C (rest := [.int r24, .int a5]) (tt_X6_count (xl X) (xb X) (xD X) hb0 hM25) cw_L_28 ps_rc0 hb0 (ps_room hRm (by decide)) rfl rfl (Nat.le_of_ble_eq_true rfl) dL_areSums_75 ?_
        refine ps_ic_lt C 88 dL_areSums_78 rfl (fun c37 => ?_) (fun c37 => ?_)
        · replace h := ps_ip c37 h
          refine ps_iconst C dL_areSums_88 pi_0 ?_
          exact bk_L_areSums_89 C hRm hfin (fun b0' a1' a2' a3' a4' a5' a6' a7' hb0' M' h' => ih b0' a1' a2' a3' a4' a5' a6' a7' hb0' M' h') b0 x19 x21 x23 a4 a5 a6 a7 a5 (nI 0) hb0 _ h
        · replace h := ps_in0 c37 h
          refine ps_iconst C dL_areSums_81 pi_1 ?_
          refine ps_iload7 C dL_areSums_82 ?_
          refine ps_ishl C dL_areSums_84 ?_
          refine ps_goto C 89 dL_areSums_85 rfl ?_
          exact bk_L_areSums_89 C hRm hfin (fun b0' a1' a2' a3' a4' a5' a6' a7' hb0' M' h' => ih b0' a1' a2' a3' a4' a5' a6' a7' hb0' M' h') b0 x19 x21 x23 a4 a5 a6 a7 a5 ((nI 1) <<< (a7 &&& 31)) hb0 _ h
set_option maxRecDepth 10000 in
theorem tt_L_areSums (l : Launch) (b : Nat) (D : va_G) {b0 : Nat} (hb0 : ps_ck 0 b0 = true) {M M9 : ps_M} {r : Int32} (h : ff_L_areSums b0 M = some (r, M9)) : ps_Ti l b D yL_areSums cL_areSums 8 .boolean 9 [.ref (b + b0)] M r M9 := by
  refine ps_met_i (own := RL) (lv := [some (.ref (b + b0)), none, none, none, none, none, none, none]) (by decide) rfl rfl (Nat.le_of_ble_eq_true rfl) rfl (fun X eX1 eX2 eX3 hRm eX5 C hfin => ?_)
  subst eX1 eX2 eX3
  unfold ff_L_areSums at h
  refine ps_iconst C dL_areSums_0 pi_0 ?_
  refine ps_istoren1 C rfl dL_areSums_1 ?_
  refine ps_iconst C dL_areSums_2 pi_0 ?_
  refine ps_istoren2 C rfl dL_areSums_3 ?_
  refine ps_iconst C dL_areSums_4 pi_0 ?_
  refine ps_istoren3 C rfl dL_areSums_5 ?_
  refine ps_iconst C dL_areSums_6 pi_0 ?_
  refine ps_istore4 C rfl dL_areSums_7 ?_
  refine ps_iconst C dL_areSums_9 pi_0 ?_
  refine ps_istore5 C rfl dL_areSums_10 ?_
  refine ps_iconst C dL_areSums_12 pi_1 ?_
  refine ps_istore6 C rfl dL_areSums_13 ?_
  refine ps_iconst C dL_areSums_15 pi_0 ?_
  refine ps_istore7 C rfl dL_areSums_16 ?_
  exact bk_L_areSums_18 C hRm hfin ps_fu b0 (nI 0) (nI 0) (nI 0) (nI 0) (nI 0) (nI 1) (nI 0) hb0 _ h
set_option maxRecDepth 10000 in
theorem bk_L_sings_145 {X : ps_X} (C : ps_C X RL cL_sings) (hRm : xR X = ps_lvl 8) {r : Int32} {M9 : ps_M} (hfin : ∀ pc lv, decode cL_sings pc = .ok (.ireturn, 1) → narrow .boolean (.int r) = .int r → ps_G X M9 pc lv [.int r]) (b0 : Nat) (a1 : Int32) (a2 : Int32) (a3 : Int32) (a4 : Int32) (a5 : Int32) (s0 : Int32) (hb0 : ps_ck 0 b0 = true) (M : ps_M) (h : fk_L_sings_145 b0 a1 a2 a3 a4 a5 s0 M = some (r, M9)) : ps_G X M 145 [some (.ref (xb X + b0)), some (.int a1), some (.int a2), some (.int a3), some (.int a4), some (.int a5)] [.int s0] := by
  unfold fk_L_sings_145 at h
  refine ps_istore4 C rfl dL_sings_145 ?_
  refine ps_iload4 C dL_sings_147 ?_
  refine ps_if_eq C 184 dL_sings_149 rfl (fun c9 => ?_) (fun c9 => ?_)
  · replace h := ps_ip c9 h
    refine ps_iconst C dL_sings_184 pi_0 ?_
    exact ps_end_i h hfin dL_sings_185 rfl
  · replace h := ps_in0 c9 h
    refine ps_iloadn3 C dL_sings_152 ?_
    refine ps_bipush C dL_sings_153 pb_8 ?_
    refine ps_ic_eq C 180 dL_sings_155 rfl (fun c8 => ?_) (fun c8 => ?_)
    · replace h := ps_ip c8 h
      refine ps_iconst C dL_sings_180 pi_1 ?_
      refine ps_goto C 185 dL_sings_181 rfl ?_
      exact ps_end_i h hfin dL_sings_185 rfl
    · replace h := ps_in0 c8 h
      refine ps_aloadn0 C dL_sings_158 ?_
      refine ps_iloadn3 C dL_sings_159 ?_
      refine ps_iconst C dL_sings_160 pi_0 ?_
      obtain ⟨r4, M4, hM4, h⟩ := ps_bd h
      refine ps_goV_i C (rest := []) (tt_X6_ofSong (xl X) (xb X) (xD X) hb0 hM4) cw_L_32 ps_rc0 hb0 (ps_room hRm (by decide)) rfl rfl (Nat.le_of_ble_eq_true rfl) dL_sings_161 ?_
      refine ps_iloadn2 C dL_sings_164 ?_
      refine ps_ic_ne C 184 dL_sings_165 rfl (fun c7 => ?_) (fun c7 => ?_)
      · replace h := ps_in0 c7 h
        refine ps_iconst C dL_sings_184 pi_0 ?_
        exact ps_end_i h hfin dL_sings_185 rfl
      · replace h := ps_ip c7 h
        refine ps_aloadn0 C dL_sings_168 ?_
        refine ps_iloadn3 C dL_sings_169 ?_
        refine ps_iconst C dL_sings_170 pi_0 ?_
        obtain ⟨r5, M5, hM5, h⟩ := ps_bd h
        refine ps_goV_i C (rest := []) (tt_X6_bar (xl X) (xb X) (xD X) hb0 hM5) cw_L_35 ps_rc0 hb0 (ps_room hRm (by decide)) rfl rfl (Nat.le_of_ble_eq_true rfl) dL_sings_171 ?_
        refine ps_iloadn1 C dL_sings_174 ?_
        refine ps_iconst C dL_sings_175 pi_5 ?_
        refine ps_irem C (by decide) dL_sings_176 ?_
        refine ps_ic_ne C 184 dL_sings_177 rfl (fun c6 => ?_) (fun c6 => ?_)
        · replace h := ps_in0 c6 h
          refine ps_iconst C dL_sings_184 pi_0 ?_
          exact ps_end_i h hfin dL_sings_185 rfl
        · replace h := ps_ip c6 h
          refine ps_iconst C dL_sings_180 pi_1 ?_
          refine ps_goto C 185 dL_sings_181 rfl ?_
          exact ps_end_i h hfin dL_sings_185 rfl
set_option maxRecDepth 10000 in
theorem bk_L_sings_144 {X : ps_X} (C : ps_C X RL cL_sings) (hRm : xR X = ps_lvl 8) {r : Int32} {M9 : ps_M} (hfin : ∀ pc lv, decode cL_sings pc = .ok (.ireturn, 1) → narrow .boolean (.int r) = .int r → ps_G X M9 pc lv [.int r]) (b0 : Nat) (a1 : Int32) (a2 : Int32) (a3 : Int32) (a4 : Int32) (a5 : Int32) (hb0 : ps_ck 0 b0 = true) (M : ps_M) (h : fk_L_sings_144 b0 a1 a2 a3 a4 a5 M = some (r, M9)) : ps_G X M 144 [some (.ref (xb X + b0)), some (.int a1), some (.int a2), some (.int a3), some (.int a4), some (.int a5)] [] := by
  unfold fk_L_sings_144 at h
  refine ps_iconst C dL_sings_144 pi_0 ?_
  exact bk_L_sings_145 C hRm hfin b0 a1 a2 a3 a4 a5 (nI 0) hb0 _ h
set_option maxRecDepth 10000 in
theorem bk_L_sings_137 {X : ps_X} (C : ps_C X RL cL_sings) (hRm : xR X = ps_lvl 8) {r : Int32} {M9 : ps_M} (hfin : ∀ pc lv, decode cL_sings pc = .ok (.ireturn, 1) → narrow .boolean (.int r) = .int r → ps_G X M9 pc lv [.int r]) (b0 : Nat) (a1 : Int32) (a2 : Int32) (a3 : Int32) (a4 : Int32) (a5 : Int32) (s0 : Int32) (s1 : Int32) (hb0 : ps_ck 0 b0 = true) (M : ps_M) (h : fk_L_sings_137 b0 a1 a2 a3 a4 a5 s0 s1 M = some (r, M9)) : ps_G X M 137 [some (.ref (xb X + b0)), some (.int a1), some (.int a2), some (.int a3), some (.int a4), some (.int a5)] [.int s1, .int s0] := by
  unfold fk_L_sings_137 at h
  refine ps_ic_ne C 144 dL_sings_137 rfl (fun c13 => ?_) (fun c13 => ?_)
  · replace h := ps_in0 c13 h
    exact bk_L_sings_144 C hRm hfin b0 a1 a2 a3 a4 a5 hb0 _ h
  · replace h := ps_ip c13 h
    refine ps_iconst C dL_sings_140 pi_1 ?_
    refine ps_goto C 145 dL_sings_141 rfl ?_
    exact bk_L_sings_145 C hRm hfin b0 a1 a2 a3 a4 a5 (nI 1) hb0 _ h
set_option maxRecDepth 10000 in
theorem bk_L_sings_115 {X : ps_X} (C : ps_C X RL cL_sings) (hRm : xR X = ps_lvl 8) {r : Int32} {M9 : ps_M} (hfin : ∀ pc lv, decode cL_sings pc = .ok (.ireturn, 1) → narrow .boolean (.int r) = .int r → ps_G X M9 pc lv [.int r]) (b0 : Nat) (a1 : Int32) (a2 : Int32) (a3 : Int32) (a4 : Int32) (a5 : Int32) (s0 : Int32) (s1 : Int32) (hb0 : ps_ck 0 b0 = true) (M : ps_M) (h : fk_L_sings_115 b0 a1 a2 a3 a4 a5 s0 s1 M = some (r, M9)) : ps_G X M 115 [some (.ref (xb X + b0)), some (.int a1), some (.int a2), some (.int a3), some (.int a4), some (.int a5)] [.int s1, .int s0] := by
  unfold fk_L_sings_115 at h
  refine ps_ic_ne C 144 dL_sings_115 rfl (fun c15 => ?_) (fun c15 => ?_)
  · replace h := ps_in0 c15 h
    exact bk_L_sings_144 C hRm hfin b0 a1 a2 a3 a4 a5 hb0 _ h
  · replace h := ps_ip c15 h
    refine ps_aloadn0 C dL_sings_118 ?_
    refine ps_iconst C dL_sings_119 pi_1 ?_
    obtain ⟨r12, M12, hM12, h⟩ := ps_bd h
    refine ps_goV_i C (rest := []) (tt_X6_count (xl X) (xb X) (xD X) hb0 hM12) cw_L_28 ps_rc0 hb0 (ps_room hRm (by decide)) rfl rfl (Nat.le_of_ble_eq_true rfl) dL_sings_120 ?_
    refine ps_iloadn3 C dL_sings_123 ?_
    refine ps_bipush C dL_sings_124 pb_8 ?_
    refine ps_ic_ne C 134 dL_sings_126 rfl (fun c14 => ?_) (fun c14 => ?_)
    · replace h := ps_in0 c14 h
      refine ps_iloadn3 C dL_sings_134 ?_
      refine ps_iconst C dL_sings_135 pi_1 ?_
      refine ps_iadd C dL_sings_136 ?_
      exact bk_L_sings_137 C hRm hfin b0 a1 a2 a3 a4 a5 r12 (a3 + (nI 1)) hb0 _ h
    · replace h := ps_ip c14 h
      refine ps_bipush C dL_sings_129 pb_8 ?_
      refine ps_goto C 137 dL_sings_131 rfl ?_
      exact bk_L_sings_137 C hRm hfin b0 a1 a2 a3 a4 a5 r12 (nI 8) hb0 _ h
set_option maxRecDepth 10000 in
theorem bk_L_sings_86 {X : ps_X} (C : ps_C X RL cL_sings) (hRm : xR X = ps_lvl 8) {r : Int32} {M9 : ps_M} (hfin : ∀ pc lv, decode cL_sings pc = .ok (.ireturn, 1) → narrow .boolean (.int r) = .int r → ps_G X M9 pc lv [.int r]) (b0 : Nat) (a1 : Int32) (a2 : Int32) (a3 : Int32) (a4 : Int32) (a5 : Int32) (hb0 : ps_ck 0 b0 = true) (M : ps_M) (h : fk_L_sings_86 b0 a1 a2 a3 a4 a5 M = some (r, M9)) : ps_G X M 86 [some (.ref (xb X + b0)), some (.int a1), some (.int a2), some (.int a3), some (.int a4), some (.int a5)] [] := by
  unfold fk_L_sings_86 at h
  refine ps_iload4 C dL_sings_86 ?_
  refine ps_if_eq C 144 dL_sings_88 rfl (fun c18 => ?_) (fun c18 => ?_)
  · replace h := ps_ip c18 h
    exact bk_L_sings_144 C hRm hfin b0 a1 a2 a3 a4 a5 hb0 _ h
  · replace h := ps_in0 c18 h
    refine ps_aloadn0 C dL_sings_91 ?_
    obtain ⟨r10, M10, hM10, h⟩ := ps_bd h
    refine ps_goV_i C (rest := []) (tt_X6_fault (xl X) (xb X) (xD X) hb0 hM10) cw_L_70 ps_rc0 hb0 (ps_room hRm (by decide)) rfl rfl (Nat.le_of_ble_eq_true rfl) dL_sings_92 ?_
    refine ps_bipush C dL_sings_95 pb_m6 ?_
    refine ps_ic_ne C 144 dL_sings_97 rfl (fun c17 => ?_) (fun c17 => ?_)
    · replace h := ps_in0 c17 h
      exact bk_L_sings_144 C hRm hfin b0 a1 a2 a3 a4 a5 hb0 _ h
    · replace h := ps_ip c17 h
      refine ps_aloadn0 C dL_sings_100 ?_
      obtain ⟨r11, M11, hM11, h⟩ := ps_bd h
      refine ps_goV_i C (rest := []) (tt_X6_carryOut (xl X) (xb X) (xD X) hb0 hM11) cw_L_73 ps_rc0 hb0 (ps_room hRm (by decide)) rfl rfl (Nat.le_of_ble_eq_true rfl) dL_sings_101 ?_
      refine ps_iloadn3 C dL_sings_104 ?_
      refine ps_bipush C dL_sings_105 pb_8 ?_
      refine ps_ic_ne C 114 dL_sings_107 rfl (fun c16 => ?_) (fun c16 => ?_)
      · replace h := ps_in0 c16 h
        refine ps_iconst C dL_sings_114 pi_1 ?_
        exact bk_L_sings_115 C hRm hfin b0 a1 a2 a3 a4 a5 r11 (nI 1) hb0 _ h
      · replace h := ps_ip c16 h
        refine ps_iconst C dL_sings_110 pi_0 ?_
        refine ps_goto C 115 dL_sings_111 rfl ?_
        exact bk_L_sings_115 C hRm hfin b0 a1 a2 a3 a4 a5 r11 (nI 0) hb0 _ h
set_option maxRecDepth 10000 in
theorem bk_L_sings_41 {X : ps_X} (C : ps_C X RL cL_sings) (hRm : xR X = ps_lvl 8) {r : Int32} {M9 : ps_M} (hfin : ∀ pc lv, decode cL_sings pc = .ok (.ireturn, 1) → narrow .boolean (.int r) = .int r → ps_G X M9 pc lv [.int r]) : ∀ (n : Nat) (b0 : Nat) (a1 : Int32) (a2 : Int32) (a3 : Int32) (a4 : Int32) (a5 : Int32) (hb0 : ps_ck 0 b0 = true) (M : ps_M), fk_L_sings_41 n b0 a1 a2 a3 a4 a5 M = some (r, M9) → ps_G X M 41 [some (.ref (xb X + b0)), some (.int a1), some (.int a2), some (.int a3), some (.int a4), some (.int a5)] [] := by
  intro n
  induction n with
  | zero => intro b0 a1 a2 a3 a4 a5 hb0 M h; rw [fk_L_sings_41] at h; cases h
  | succ n ih =>
    intro b0 a1 a2 a3 a4 a5 hb0 M h
    rw [fk_L_sings_41] at h
    refine ps_iload5 C dL_sings_41 ?_
    refine ps_iloadn2 C dL_sings_43 ?_
    refine ps_ic_ge C 86 dL_sings_44 rfl (fun c24 => ?_) (fun c24 => ?_)
    · replace h := ps_ip c24 h
      exact bk_L_sings_86 C hRm hfin b0 a1 a2 a3 a4 a5 hb0 _ h
    · replace h := ps_in0 c24 h
      refine ps_iload4 C dL_sings_47 ?_
      refine ps_if_eq C 86 dL_sings_49 rfl (fun c23 => ?_) (fun c23 => ?_)
      · replace h := ps_ip c23 h
        exact bk_L_sings_86 C hRm hfin b0 a1 a2 a3 a4 a5 hb0 _ h
      · replace h := ps_in0 c23 h
        refine ps_aloadn0 C dL_sings_52 ?_
        refine ps_bipush C dL_sings_53 pb_97 ?_
        refine ps_iloadn1 C dL_sings_55 ?_
        refine ps_iload5 C dL_sings_56 ?_
        refine ps_ishr C dL_sings_58 ?_
        refine ps_iconst C dL_sings_59 pi_5 ?_
        refine ps_irem C (by decide) dL_sings_60 ?_
        refine ps_iadd C dL_sings_61 ?_
        refine ps_i2l C dL_sings_62 ?_
        obtain ⟨r19, M19, hM19, h⟩ := ps_bd h
        refine ps_goV_i C (rest := []) (tt_X6_put (xl X) (xb X) (xD X) hb0 hM19) cw_L_66 ps_rc0 hb0 (ps_room hRm (by decide)) rfl rfl (Nat.le_of_ble_eq_true rfl) dL_sings_63 ?_
        refine ps_iload5 C dL_sings_66 ?_
        refine ps_iconst C dL_sings_68 pi_2 ?_
        refine ps_iadd C dL_sings_69 ?_
        refine ps_ic_ne C 77 dL_sings_70 rfl (fun c22 => ?_) (fun c22 => ?_)
        · replace h := ps_in0 c22 h
          refine ps_iconst C dL_sings_77 pi_0 ?_
          refine ps_istore4 C rfl dL_sings_78 ?_
          refine ps_iinc5 C rfl (nI 1) pi_1 dL_sings_80 (fun x20 ex20 => ?_)
          replace h := ps_lt ex20 h
          refine ps_goto C 41 dL_sings_83 rfl ?_
          exact ih b0 a1 a2 a3 (nI 0) x20 hb0 _ h
        · replace h := ps_ip c22 h
          refine ps_iconst C dL_sings_73 pi_1 ?_
          refine ps_goto C 78 dL_sings_74 rfl ?_
          refine ps_istore4 C rfl dL_sings_78 ?_
          refine ps_iinc5 C rfl (nI 1) pi_1 dL_sings_80 (fun x21 ex21 => ?_)
          replace h := ps_lt ex21 h
          refine ps_goto C 41 dL_sings_83 rfl ?_
          exact ih b0 a1 a2 a3 (nI 1) x21 hb0 _ h
set_option maxRecDepth 10000 in
theorem tt_L_sings (l : Launch) (b : Nat) (D : va_G) {b0 : Nat} (hb0 : ps_ck 0 b0 = true) {a1 : Int32} {M M9 : ps_M} {r : Int32} (h : ff_L_sings b0 a1 M = some (r, M9)) : ps_Ti l b D yL_sings cL_sings 6 .boolean 8 [.ref (b + b0), .int a1] M r M9 := by
  refine ps_met_i (own := RL) (lv := [some (.ref (b + b0)), some (.int a1), none, none, none, none]) (by decide) rfl rfl (Nat.le_of_ble_eq_true rfl) rfl (fun X eX1 eX2 eX3 hRm eX5 C hfin => ?_)
  subst eX1 eX2 eX3
  unfold ff_L_sings at h
  refine ps_iconst C dL_sings_0 pi_1 ?_
  refine ps_iloadn1 C dL_sings_1 ?_
  refine ps_bipush C dL_sings_2 pb_12 ?_
  refine ps_irem C (by decide) dL_sings_4 ?_
  refine ps_iadd C dL_sings_5 ?_
  refine ps_nmi (fun x1 ex1 => ?_)
  replace h := ps_lt ex1 h
  refine ps_istoren2 C rfl dL_sings_6 ?_
  refine ps_aloadn0 C dL_sings_7 ?_
  refine ps_iconst C dL_sings_8 pi_1 ?_
  obtain ⟨r2, M2, hM2, h⟩ := ps_bd h
  refine ps_goV_i C (rest := []) (tt_X6_count (xl X) (xb X) (xD X) hb0 hM2) cw_L_28 ps_rc0 hb0 (ps_room hRm (by decide)) rfl rfl (Nat.le_of_ble_eq_true rfl) dL_sings_9 ?_
  refine ps_istoren3 C rfl dL_sings_12 ?_
  refine ps_aloadn0 C dL_sings_13 ?_
  obtain ⟨r3, M3, hM3, h⟩ := ps_bd h
  refine ps_goV_i C (rest := []) (tt_X6_wipe (xl X) (xb X) (xD X) hb0 hM3) cw_L_60 ps_rc0 hb0 (ps_room hRm (by decide)) rfl rfl (Nat.le_of_ble_eq_true rfl) dL_sings_14 ?_
  refine ps_if_lt C 35 dL_sings_17 rfl (fun c27 => ?_) (fun c27 => ?_)
  · replace h := ps_ip c27 h
    refine ps_iconst C dL_sings_35 pi_0 ?_
    refine ps_istore4 C rfl dL_sings_36 ?_
    refine ps_iconst C dL_sings_38 pi_0 ?_
    refine ps_istore5 C rfl dL_sings_39 ?_
    exact bk_L_sings_41 C hRm hfin ps_fu b0 a1 x1 r2 (nI 0) (nI 0) hb0 _ h
  · replace h := ps_in0 c27 h
    refine ps_aloadn0 C dL_sings_20 ?_
    refine ps_ldc2 C pm_530 dL_sings_21 ?_
    obtain ⟨r25, M25, hM25, h⟩ := ps_bd h
    refine ps_goV_i C (rest := []) (tt_X6_put (xl X) (xb X) (xD X) hb0 hM25) cw_L_66 ps_rc0 hb0 (ps_room hRm (by decide)) rfl rfl (Nat.le_of_ble_eq_true rfl) dL_sings_24 ?_
    refine ps_iconst C dL_sings_27 pi_1 ?_
    refine ps_ic_ne C 35 dL_sings_28 rfl (fun c26 => ?_) (fun c26 => ?_)
    · replace h := ps_in0 c26 h
      refine ps_iconst C dL_sings_35 pi_0 ?_
      refine ps_istore4 C rfl dL_sings_36 ?_
      refine ps_iconst C dL_sings_38 pi_0 ?_
      refine ps_istore5 C rfl dL_sings_39 ?_
      exact bk_L_sings_41 C hRm hfin ps_fu b0 a1 x1 r2 (nI 0) (nI 0) hb0 _ h
    · replace h := ps_ip c26 h
      refine ps_iconst C dL_sings_31 pi_1 ?_
      refine ps_goto C 36 dL_sings_32 rfl ?_
      refine ps_istore4 C rfl dL_sings_36 ?_
      refine ps_iconst C dL_sings_38 pi_0 ?_
      refine ps_istore5 C rfl dL_sings_39 ?_
      exact bk_L_sings_41 C hRm hfin ps_fu b0 a1 x1 r2 (nI 1) (nI 0) hb0 _ h
set_option maxRecDepth 10000 in
theorem bk_L_acts_615 {X : ps_X} (C : ps_C X RL cL_acts) (hRm : xR X = ps_lvl 9) {r : Int32} {M9 : ps_M} (hfin : ∀ pc lv, decode cL_acts pc = .ok (.ireturn, 1) → narrow .boolean (.int r) = .int r → ps_G X M9 pc lv [.int r]) (b0 : Nat) (a1 : Int32) (a2 : Int32) (a3 : Int32) (a4 : Int32) (a5 : Int32) (a6 : Int32) (a7 : Int32) (a8 : Int32) (a16 : Int32) (s0 : Int32) (hb0 : ps_ck 0 b0 = true) (M : ps_M) (h : fk_L_acts_615 b0 a1 a2 a3 a4 a5 a6 a7 a8 a16 s0 M = some (r, M9)) : ps_G X M 615 [some (.ref (xb X + b0)), some (.int a1), some (.int a2), some (.int a3), some (.int a4), some (.int a5), some (.int a6), some (.int a7), some (.int a8), none, none, none, none, none, none, none, some (.int a16), none, none, none, none, none] [.int s0] := by
  unfold fk_L_acts_615 at h
  refine ps_istore17 C rfl dL_acts_615 ?_
  refine ps_aloadn0 C dL_acts_617 ?_
  refine ps_bipush C dL_acts_618 pb_8 ?_
  refine ps_iload16 C dL_acts_620 ?_
  refine ps_iadd C dL_acts_622 ?_
  obtain ⟨r20, M20, hM20, h⟩ := ps_bd h
  refine ps_goV_i C (rest := []) (tt_X6_count (xl X) (xb X) (xD X) hb0 hM20) cw_L_28 ps_rc0 hb0 (ps_room hRm (by decide)) rfl rfl (Nat.le_of_ble_eq_true rfl) dL_acts_623 ?_
  refine ps_istore18 C rfl dL_acts_626 ?_
  refine ps_aloadn0 C dL_acts_628 ?_
  refine ps_iload16 C dL_acts_629 ?_
  refine ps_iload17 C dL_acts_631 ?_
  obtain ⟨r21, M21, hM21, h⟩ := ps_bd h
  refine ps_goV_i C (rest := []) (tt_X6_set (xl X) (xb X) (xD X) hb0 hM21) cw_L_90 ps_rc0 hb0 (ps_room hRm (by decide)) rfl rfl (Nat.le_of_ble_eq_true rfl) dL_acts_633 ?_
  refine ps_iload18 C dL_acts_636 ?_
  refine ps_ic_ne C 659 dL_acts_638 rfl (fun c24 => ?_) (fun c24 => ?_)
  · replace h := ps_in0 c24 h
    refine ps_iconst C dL_acts_659 pi_0 ?_
    exact ps_end_i h hfin dL_acts_660 rfl
  · replace h := ps_ip c24 h
    refine ps_aloadn0 C dL_acts_641 ?_
    refine ps_bipush C dL_acts_642 pb_8 ?_
    refine ps_iload16 C dL_acts_644 ?_
    refine ps_iadd C dL_acts_646 ?_
    obtain ⟨r22, M22, hM22, h⟩ := ps_bd h
    refine ps_goV_i C (rest := []) (tt_X6_count (xl X) (xb X) (xD X) hb0 hM22) cw_L_28 ps_rc0 hb0 (ps_room hRm (by decide)) rfl rfl (Nat.le_of_ble_eq_true rfl) dL_acts_647 ?_
    refine ps_iload17 C dL_acts_650 ?_
    refine ps_ic_ne C 659 dL_acts_652 rfl (fun c23 => ?_) (fun c23 => ?_)
    · replace h := ps_in0 c23 h
      refine ps_iconst C dL_acts_659 pi_0 ?_
      exact ps_end_i h hfin dL_acts_660 rfl
    · replace h := ps_ip c23 h
      refine ps_iconst C dL_acts_655 pi_1 ?_
      refine ps_goto C 660 dL_acts_656 rfl ?_
      exact ps_end_i h hfin dL_acts_660 rfl
set_option maxRecDepth 10000 in
theorem bk_L_acts_457 {X : ps_X} (C : ps_C X RL cL_acts) (hRm : xR X = ps_lvl 9) {r : Int32} {M9 : ps_M} (hfin : ∀ pc lv, decode cL_acts pc = .ok (.ireturn, 1) → narrow .boolean (.int r) = .int r → ps_G X M9 pc lv [.int r]) (b0 : Nat) (a1 : Int32) (a2 : Int32) (a3 : Int32) (a4 : Int32) (a5 : Int32) (a6 : Int32) (a7 : Int32) (a8 : Int32) (a13 : Int32) (s0 : Int32) (hb0 : ps_ck 0 b0 = true) (M : ps_M) (h : fk_L_acts_457 b0 a1 a2 a3 a4 a5 a6 a7 a8 a13 s0 M = some (r, M9)) : ps_G X M 457 [some (.ref (xb X + b0)), some (.int a1), some (.int a2), some (.int a3), some (.int a4), some (.int a5), some (.int a6), some (.int a7), some (.int a8), none, none, none, none, some (.int a13), none, none, none, none, none, none, none, none] [.int s0] := by
  unfold fk_L_acts_457 at h
  refine ps_istore14 C rfl dL_acts_457 ?_
  refine ps_aloadn0 C dL_acts_459 ?_
  refine ps_iload4 C dL_acts_460 ?_
  refine ps_iload13 C dL_acts_462 ?_
  obtain ⟨r30, M30, hM30, h⟩ := ps_bd h
  refine ps_goV_i C (rest := []) (tt_X6_practise (xl X) (xb X) (xD X) hb0 hM30) cw_L_87 ps_rc0 hb0 (ps_room hRm (by decide)) rfl rfl (Nat.le_of_ble_eq_true rfl) dL_acts_464 ?_
  refine ps_istore15 C rfl dL_acts_467 ?_
  refine ps_iloadn2 C dL_acts_469 ?_
  refine ps_if_ne C 487 dL_acts_470 rfl (fun c40 => ?_) (fun c40 => ?_)
  · replace h := ps_in0 c40 h
    refine ps_iload7 C dL_acts_487 ?_
    refine ps_if_lt C 497 dL_acts_489 rfl (fun c38 => ?_) (fun c38 => ?_)
    · replace h := ps_ip c38 h
      refine ps_iload15 C dL_acts_497 ?_
      refine ps_bipush C dL_acts_499 pb_m5 ?_
      refine ps_ic_ne C 508 dL_acts_501 rfl (fun c31 => ?_) (fun c31 => ?_)
      · replace h := ps_in0 c31 h
        refine ps_iconst C dL_acts_508 pi_0 ?_
        refine ps_goto C 549 dL_acts_509 rfl ?_
        exact ps_end_i h hfin dL_acts_549 rfl
      · replace h := ps_ip c31 h
        refine ps_iconst C dL_acts_504 pi_1 ?_
        refine ps_goto C 549 dL_acts_505 rfl ?_
        exact ps_end_i h hfin dL_acts_549 rfl
    · replace h := ps_in0 c38 h
      refine ps_iload6 C dL_acts_492 ?_
      refine ps_if_eq C 512 dL_acts_494 rfl (fun c37 => ?_) (fun c37 => ?_)
      · replace h := ps_ip c37 h
        refine ps_iload15 C dL_acts_512 ?_
        refine ps_iload13 C dL_acts_514 ?_
        refine ps_ic_gt C 548 dL_acts_516 rfl (fun c35 => ?_) (fun c35 => ?_)
        · replace h := ps_ip c35 h
          refine ps_iconst C dL_acts_548 pi_0 ?_
          exact ps_end_i h hfin dL_acts_549 rfl
        · replace h := ps_in0 c35 h
          refine ps_iload15 C dL_acts_519 ?_
          refine ps_iload13 C dL_acts_521 ?_
          refine ps_ic_ne C 530 dL_acts_523 rfl (fun c34 => ?_) (fun c34 => ?_)
          · replace h := ps_in0 c34 h
            refine ps_iconst C dL_acts_530 pi_0 ?_
            refine ps_iload14 C dL_acts_531 ?_
            refine ps_if_lt C 540 dL_acts_533 rfl (fun c32 => ?_) (fun c32 => ?_)
            · replace h := ps_ip c32 h
              refine ps_iconst C dL_acts_540 pi_0 ?_
              refine ps_ic_ne C 548 dL_acts_541 rfl (fun c => absurd c (by decide)) (fun _ => ?_)
              refine ps_iconst C dL_acts_544 pi_1 ?_
              refine ps_goto C 549 dL_acts_545 rfl ?_
              exact ps_end_i h hfin dL_acts_549 rfl
            · replace h := ps_in0 c32 h
              refine ps_iconst C dL_acts_536 pi_1 ?_
              refine ps_goto C 541 dL_acts_537 rfl ?_
              refine ps_ic_ne C 548 dL_acts_541 rfl (fun _ => ?_) (fun c => absurd c (by decide))
              refine ps_iconst C dL_acts_548 pi_0 ?_
              exact ps_end_i h hfin dL_acts_549 rfl
          · replace h := ps_ip c34 h
            refine ps_iconst C dL_acts_526 pi_1 ?_
            refine ps_goto C 531 dL_acts_527 rfl ?_
            refine ps_iload14 C dL_acts_531 ?_
            refine ps_if_lt C 540 dL_acts_533 rfl (fun c33 => ?_) (fun c33 => ?_)
            · replace h := ps_ip c33 h
              refine ps_iconst C dL_acts_540 pi_0 ?_
              refine ps_ic_ne C 548 dL_acts_541 rfl (fun _ => ?_) (fun c => absurd c (by decide))
              refine ps_iconst C dL_acts_548 pi_0 ?_
              exact ps_end_i h hfin dL_acts_549 rfl
            · replace h := ps_in0 c33 h
              refine ps_iconst C dL_acts_536 pi_1 ?_
              refine ps_goto C 541 dL_acts_537 rfl ?_
              refine ps_ic_ne C 548 dL_acts_541 rfl (fun c => absurd c (by decide)) (fun _ => ?_)
              refine ps_iconst C dL_acts_544 pi_1 ?_
              refine ps_goto C 549 dL_acts_545 rfl ?_
              exact ps_end_i h hfin dL_acts_549 rfl
      · replace h := ps_in0 c37 h
        refine ps_iload15 C dL_acts_497 ?_
        refine ps_bipush C dL_acts_499 pb_m5 ?_
        refine ps_ic_ne C 508 dL_acts_501 rfl (fun c36 => ?_) (fun c36 => ?_)
        · replace h := ps_in0 c36 h
          refine ps_iconst C dL_acts_508 pi_0 ?_
          refine ps_goto C 549 dL_acts_509 rfl ?_
          exact ps_end_i h hfin dL_acts_549 rfl
        · replace h := ps_ip c36 h
          refine ps_iconst C dL_acts_504 pi_1 ?_
          refine ps_goto C 549 dL_acts_505 rfl ?_
          exact ps_end_i h hfin dL_acts_549 rfl
  · replace h := ps_ip c40 h
    refine ps_iload15 C dL_acts_473 ?_
    refine ps_iconst C dL_acts_475 pi_m1 ?_
    refine ps_ic_ne C 483 dL_acts_476 rfl (fun c39 => ?_) (fun c39 => ?_)
    · replace h := ps_in0 c39 h
      refine ps_iconst C dL_acts_483 pi_0 ?_
      refine ps_goto C 549 dL_acts_484 rfl ?_
      exact ps_end_i h hfin dL_acts_549 rfl
    · replace h := ps_ip c39 h
      refine ps_iconst C dL_acts_479 pi_1 ?_
      refine ps_goto C 549 dL_acts_480 rfl ?_
      exact ps_end_i h hfin dL_acts_549 rfl
set_option maxRecDepth 10000 in
theorem bk_L_acts_401 {X : ps_X} (C : ps_C X RL cL_acts) (hRm : xR X = ps_lvl 9) {r : Int32} {M9 : ps_M} (hfin : ∀ pc lv, decode cL_acts pc = .ok (.ireturn, 1) → narrow .boolean (.int r) = .int r → ps_G X M9 pc lv [.int r]) (b0 : Nat) (a1 : Int32) (a2 : Int32) (a3 : Int32) (a4 : Int32) (a5 : Int32) (a6 : Int32) (a7 : Int32) (a8 : Int32) (s0 : Int32) (s1 : Int32) (hb0 : ps_ck 0 b0 = true) (M : ps_M) (h : fk_L_acts_401 b0 a1 a2 a3 a4 a5 a6 a7 a8 s0 s1 M = some (r, M9)) : ps_G X M 401 [some (.ref (xb X + b0)), some (.int a1), some (.int a2), some (.int a3), some (.int a4), some (.int a5), some (.int a6), some (.int a7), some (.int a8), none, none, none, none, none, none, none, none, none, none, none, none, none] [.int s1, .int s0] := by
  unfold fk_L_acts_401 at h
  refine ps_ic_ne C 424 dL_acts_401 rfl (fun c46 => ?_) (fun c46 => ?_)
  · replace h := ps_in0 c46 h
    refine ps_iconst C dL_acts_424 pi_0 ?_
    exact ps_end_i h hfin dL_acts_425 rfl
  · replace h := ps_ip c46 h
    refine ps_iloadn2 C dL_acts_404 ?_
    refine ps_if_eq C 420 dL_acts_405 rfl (fun c45 => ?_) (fun c45 => ?_)
    · replace h := ps_ip c45 h
      refine ps_iconst C dL_acts_420 pi_1 ?_
      refine ps_goto C 425 dL_acts_421 rfl ?_
      exact ps_end_i h hfin dL_acts_425 rfl
    · replace h := ps_in0 c45 h
      refine ps_aloadn0 C dL_acts_408 ?_
      refine ps_iload4 C dL_acts_409 ?_
      refine ps_iconst C dL_acts_411 pi_2 ?_
      obtain ⟨r43, M43, hM43, h⟩ := ps_bd h
      refine ps_goV_i C (rest := []) (tt_X6_of (xl X) (xb X) (xD X) hb0 hM43) cw_L_9 ps_rc0 hb0 (ps_room hRm (by decide)) rfl rfl (Nat.le_of_ble_eq_true rfl) dL_acts_412 ?_
      refine ps_bipush C dL_acts_415 pb_m6 ?_
      refine ps_ic_ne C 424 dL_acts_417 rfl (fun c44 => ?_) (fun c44 => ?_)
      · replace h := ps_in0 c44 h
        refine ps_iconst C dL_acts_424 pi_0 ?_
        exact ps_end_i h hfin dL_acts_425 rfl
      · replace h := ps_ip c44 h
        refine ps_iconst C dL_acts_420 pi_1 ?_
        refine ps_goto C 425 dL_acts_421 rfl ?_
        exact ps_end_i h hfin dL_acts_425 rfl
set_option maxRecDepth 10000 in
theorem bk_L_acts_234 {X : ps_X} (C : ps_C X RL cL_acts) (hRm : xR X = ps_lvl 9) {r : Int32} {M9 : ps_M} (hfin : ∀ pc lv, decode cL_acts pc = .ok (.ireturn, 1) → narrow .boolean (.int r) = .int r → ps_G X M9 pc lv [.int r]) (b0 : Nat) (a1 : Int32) (a2 : Int32) (a3 : Int32) (a4 : Int32) (a5 : Int32) (a6 : Int32) (a7 : Int32) (a8 : Int32) (a10 : Int32) (s0 : Int32) (hb0 : ps_ck 0 b0 = true) (M : ps_M) (h : fk_L_acts_234 b0 a1 a2 a3 a4 a5 a6 a7 a8 a10 s0 M = some (r, M9)) : ps_G X M 234 [some (.ref (xb X + b0)), some (.int a1), some (.int a2), some (.int a3), some (.int a4), some (.int a5), some (.int a6), some (.int a7), some (.int a8), none, some (.int a10), none, none, none, none, none, none, none, none, none, none, none] [.int s0] := by
  unfold fk_L_acts_234 at h
  refine ps_istore11 C rfl dL_acts_234 ?_
  refine ps_aloadn0 C dL_acts_236 ?_
  refine ps_iload4 C dL_acts_237 ?_
  refine ps_iload5 C dL_acts_239 ?_
  refine ps_iload11 C dL_acts_241 ?_
  obtain ⟨r51, M51, hM51, h⟩ := ps_bd h
  refine ps_goV_i C (rest := []) (tt_X6_lesson (xl X) (xb X) (xD X) hb0 hM51) cw_L_81 ps_rc0 hb0 (ps_room hRm (by decide)) rfl rfl (Nat.le_of_ble_eq_true rfl) dL_acts_243 ?_
  refine ps_istore12 C rfl dL_acts_246 ?_
  refine ps_iloadn2 C dL_acts_248 ?_
  refine ps_if_eq C 256 dL_acts_249 rfl (fun c68 => ?_) (fun c68 => ?_)
  · replace h := ps_ip c68 h
    refine ps_iload12 C dL_acts_256 ?_
    refine ps_iconst C dL_acts_258 pi_m1 ?_
    refine ps_ic_ne C 266 dL_acts_259 rfl (fun c52 => ?_) (fun c52 => ?_)
    · replace h := ps_in0 c52 h
      refine ps_iconst C dL_acts_266 pi_0 ?_
      refine ps_goto C 375 dL_acts_267 rfl ?_
      exact ps_end_i h hfin dL_acts_375 rfl
    · replace h := ps_ip c52 h
      refine ps_iconst C dL_acts_262 pi_1 ?_
      refine ps_goto C 375 dL_acts_263 rfl ?_
      exact ps_end_i h hfin dL_acts_375 rfl
  · replace h := ps_in0 c68 h
    refine ps_iloadn3 C dL_acts_252 ?_
    refine ps_if_ne C 270 dL_acts_253 rfl (fun c67 => ?_) (fun c67 => ?_)
    · replace h := ps_in0 c67 h
      refine ps_iload6 C dL_acts_270 ?_
      refine ps_if_eq C 290 dL_acts_272 rfl (fun c65 => ?_) (fun c65 => ?_)
      · replace h := ps_ip c65 h
        refine ps_iload12 C dL_acts_290 ?_
        refine ps_iconst C dL_acts_292 pi_1 ?_
        refine ps_ic_lt C 374 dL_acts_293 rfl (fun c63 => ?_) (fun c63 => ?_)
        · replace h := ps_ip c63 h
          refine ps_iconst C dL_acts_374 pi_0 ?_
          exact ps_end_i h hfin dL_acts_375 rfl
        · replace h := ps_in0 c63 h
          refine ps_iload12 C dL_acts_296 ?_
          refine ps_iload10 C dL_acts_298 ?_
          refine ps_iload11 C dL_acts_300 ?_
          refine ps_isub C dL_acts_302 ?_
          refine ps_ic_gt C 374 dL_acts_303 rfl (fun c62 => ?_) (fun c62 => ?_)
          · replace h := ps_ip c62 h
            refine ps_iconst C dL_acts_374 pi_0 ?_
            exact ps_end_i h hfin dL_acts_375 rfl
          · replace h := ps_in0 c62 h
            refine ps_aloadn0 C dL_acts_306 ?_
            refine ps_iload4 C dL_acts_307 ?_
            refine ps_iconst C dL_acts_309 pi_4 ?_
            obtain ⟨r53, M53, hM53, h⟩ := ps_bd h
            refine ps_goV_i C (rest := []) (tt_X6_of (xl X) (xb X) (xD X) hb0 hM53) cw_L_9 ps_rc0 hb0 (ps_room hRm (by decide)) rfl rfl (Nat.le_of_ble_eq_true rfl) dL_acts_310 ?_
            refine ps_iload8 C dL_acts_313 ?_
            refine ps_iload12 C dL_acts_315 ?_
            refine ps_iadd C dL_acts_317 ?_
            refine ps_ic_ne C 374 dL_acts_318 rfl (fun c61 => ?_) (fun c61 => ?_)
            · replace h := ps_in0 c61 h
              refine ps_iconst C dL_acts_374 pi_0 ?_
              exact ps_end_i h hfin dL_acts_375 rfl
            · replace h := ps_ip c61 h
              refine ps_aloadn0 C dL_acts_321 ?_
              refine ps_iload4 C dL_acts_322 ?_
              refine ps_iconst C dL_acts_324 pi_2 ?_
              obtain ⟨r54, M54, hM54, h⟩ := ps_bd h
              refine ps_goV_i C (rest := []) (tt_X6_of (xl X) (xb X) (xD X) hb0 hM54) cw_L_9 ps_rc0 hb0 (ps_room hRm (by decide)) rfl rfl (Nat.le_of_ble_eq_true rfl) dL_acts_325 ?_
              refine ps_aloadn0 C dL_acts_328 ?_
              refine ps_iload5 C dL_acts_329 ?_
              refine ps_iload11 C dL_acts_331 ?_
              refine ps_iload12 C dL_acts_333 ?_
              refine ps_iadd C dL_acts_335 ?_
              refine ps_iconst C dL_acts_336 pi_1 ?_
              refine ps_isub C dL_acts_337 ?_
              obtain ⟨r55, M55, hM55, h⟩ := ps_bd h
              refine ps_goV_i C (rest := [.int r54]) (tt_X6_bar (xl X) (xb X) (xD X) hb0 hM55) cw_L_35 ps_rc0 hb0 (ps_room hRm (by decide)) rfl rfl (Nat.le_of_ble_eq_true rfl) dL_acts_338 ?_
              refine ps_ic_ne C 374 dL_acts_341 rfl (fun c60 => ?_) (fun c60 => ?_)
              · replace h := ps_in0 c60 h
                refine ps_iconst C dL_acts_374 pi_0 ?_
                exact ps_end_i h hfin dL_acts_375 rfl
              · replace h := ps_ip c60 h
                refine ps_iload12 C dL_acts_344 ?_
                refine ps_iload10 C dL_acts_346 ?_
                refine ps_iload11 C dL_acts_348 ?_
                refine ps_isub C dL_acts_350 ?_
                refine ps_ic_eq C 370 dL_acts_351 rfl (fun c59 => ?_) (fun c59 => ?_)
                · replace h := ps_ip c59 h
                  refine ps_iconst C dL_acts_370 pi_1 ?_
                  refine ps_goto C 375 dL_acts_371 rfl ?_
                  exact ps_end_i h hfin dL_acts_375 rfl
                · replace h := ps_in0 c59 h
                  refine ps_aloadn0 C dL_acts_354 ?_
                  refine ps_iload4 C dL_acts_355 ?_
                  refine ps_iconst C dL_acts_357 pi_3 ?_
                  obtain ⟨r56, M56, hM56, h⟩ := ps_bd h
                  refine ps_goV_i C (rest := []) (tt_X6_of (xl X) (xb X) (xD X) hb0 hM56) cw_L_9 ps_rc0 hb0 (ps_room hRm (by decide)) rfl rfl (Nat.le_of_ble_eq_true rfl) dL_acts_358 ?_
                  refine ps_aloadn0 C dL_acts_361 ?_
                  refine ps_bipush C dL_acts_362 pb_11 ?_
                  obtain ⟨r57, M57, hM57, h⟩ := ps_bd h
                  refine ps_goV_i C (rest := [.int r56]) (tt_X6_count (xl X) (xb X) (xD X) hb0 hM57) cw_L_28 ps_rc0 hb0 (ps_room hRm (by decide)) rfl rfl (Nat.le_of_ble_eq_true rfl) dL_acts_364 ?_
                  refine ps_ic_lt C 374 dL_acts_367 rfl (fun c58 => ?_) (fun c58 => ?_)
                  · replace h := ps_ip c58 h
                    refine ps_iconst C dL_acts_374 pi_0 ?_
                    exact ps_end_i h hfin dL_acts_375 rfl
                  · replace h := ps_in0 c58 h
                    refine ps_iconst C dL_acts_370 pi_1 ?_
                    refine ps_goto C 375 dL_acts_371 rfl ?_
                    exact ps_end_i h hfin dL_acts_375 rfl
      · replace h := ps_in0 c65 h
        refine ps_iload12 C dL_acts_275 ?_
        refine ps_bipush C dL_acts_277 pb_m5 ?_
        refine ps_ic_ne C 286 dL_acts_279 rfl (fun c64 => ?_) (fun c64 => ?_)
        · replace h := ps_in0 c64 h
          refine ps_iconst C dL_acts_286 pi_0 ?_
          refine ps_goto C 375 dL_acts_287 rfl ?_
          exact ps_end_i h hfin dL_acts_375 rfl
        · replace h := ps_ip c64 h
          refine ps_iconst C dL_acts_282 pi_1 ?_
          refine ps_goto C 375 dL_acts_283 rfl ?_
          exact ps_end_i h hfin dL_acts_375 rfl
    · replace h := ps_ip c67 h
      refine ps_iload12 C dL_acts_256 ?_
      refine ps_iconst C dL_acts_258 pi_m1 ?_
      refine ps_ic_ne C 266 dL_acts_259 rfl (fun c66 => ?_) (fun c66 => ?_)
      · replace h := ps_in0 c66 h
        refine ps_iconst C dL_acts_266 pi_0 ?_
        refine ps_goto C 375 dL_acts_267 rfl ?_
        exact ps_end_i h hfin dL_acts_375 rfl
      · replace h := ps_ip c66 h
        refine ps_iconst C dL_acts_262 pi_1 ?_
        refine ps_goto C 375 dL_acts_263 rfl ?_
        exact ps_end_i h hfin dL_acts_375 rfl
set_option maxRecDepth 10000 in
theorem bk_L_acts_63 {X : ps_X} (C : ps_C X RL cL_acts) (hRm : xR X = ps_lvl 9) {r : Int32} {M9 : ps_M} (hfin : ∀ pc lv, decode cL_acts pc = .ok (.ireturn, 1) → narrow .boolean (.int r) = .int r → ps_G X M9 pc lv [.int r]) (b0 : Nat) (a1 : Int32) (a2 : Int32) (a3 : Int32) (a4 : Int32) (a5 : Int32) (s0 : Int32) (hb0 : ps_ck 0 b0 = true) (M : ps_M) (h : fk_L_acts_63 b0 a1 a2 a3 a4 a5 s0 M = some (r, M9)) : ps_G X M 63 [some (.ref (xb X + b0)), some (.int a1), some (.int a2), some (.int a3), some (.int a4), some (.int a5), none, none, none, none, none, none, none, none, none, none, none, none, none, none, none, none] [.int s0] := by
  unfold fk_L_acts_63 at h
  refine ps_istore6 C rfl dL_acts_63 ?_
  refine ps_aloadn0 C dL_acts_65 ?_
  refine ps_iload4 C dL_acts_66 ?_
  refine ps_iconst C dL_acts_68 pi_2 ?_
  obtain ⟨r6, M6, hM6, h⟩ := ps_bd h
  refine ps_goV_i C (rest := []) (tt_X6_of (xl X) (xb X) (xD X) hb0 hM6) cw_L_9 ps_rc0 hb0 (ps_room hRm (by decide)) rfl rfl (Nat.le_of_ble_eq_true rfl) dL_acts_69 ?_
  refine ps_istore7 C rfl dL_acts_72 ?_
  refine ps_aloadn0 C dL_acts_74 ?_
  refine ps_iload4 C dL_acts_75 ?_
  refine ps_iconst C dL_acts_77 pi_4 ?_
  obtain ⟨r7, M7, hM7, h⟩ := ps_bd h
  refine ps_goV_i C (rest := []) (tt_X6_of (xl X) (xb X) (xD X) hb0 hM7) cw_L_9 ps_rc0 hb0 (ps_room hRm (by decide)) rfl rfl (Nat.le_of_ble_eq_true rfl) dL_acts_78 ?_
  refine ps_istore8 C rfl dL_acts_81 ?_
  refine ps_iloadn1 C dL_acts_83 ?_
  refine ps_bipush C dL_acts_84 pb_12 ?_
  refine ps_irem C (by decide) dL_acts_86 ?_
  refine ps_nmi (fun x8 ex8 => ?_)
  replace h := ps_lt ex8 h
  by_cases c_87_0 : x8 = nI 0
  · replace h := ps_ip c_87_0 h
    refine ps_tabI C 0 (by rw [c_87_0]; rfl) 140 dL_acts_87 (by decide) (by decide) rfl rfl ?_
    refine ps_aloadn0 C dL_acts_140 ?_
    obtain ⟨r83, M83, hM83, h⟩ := ps_bd h
    refine ps_goV_i C (rest := []) (tt_X6_parrot (xl X) (xb X) (xD X) hb0 hM83) cw_L_76 ps_rc0 hb0 (ps_room hRm (by decide)) rfl rfl (Nat.le_of_ble_eq_true rfl) dL_acts_141 ?_
    refine ps_istore9 C rfl dL_acts_144 ?_
    refine ps_iloadn2 C dL_acts_146 ?_
    refine ps_iconst C dL_acts_147 pi_4 ?_
    refine ps_ic_ne C 166 dL_acts_148 rfl (fun c90 => ?_) (fun c90 => ?_)
    · replace h := ps_in0 c90 h
      refine ps_iload9 C dL_acts_166 ?_
      refine ps_iloadn2 C dL_acts_168 ?_
      refine ps_ic_ne C 198 dL_acts_169 rfl (fun c88 => ?_) (fun c88 => ?_)
      · replace h := ps_in0 c88 h
        refine ps_iconst C dL_acts_198 pi_0 ?_
        exact ps_end_i h hfin dL_acts_199 rfl
      · replace h := ps_ip c88 h
        refine ps_aloadn0 C dL_acts_172 ?_
        refine ps_iload9 C dL_acts_173 ?_
        refine ps_iconst C dL_acts_175 pi_0 ?_
        obtain ⟨r84, M84, hM84, h⟩ := ps_bd h
        refine ps_goV_i C (rest := []) (tt_X6_of (xl X) (xb X) (xD X) hb0 hM84) cw_L_9 ps_rc0 hb0 (ps_room hRm (by decide)) rfl rfl (Nat.le_of_ble_eq_true rfl) dL_acts_176 ?_
        refine ps_if_ne C 198 dL_acts_179 rfl (fun c87 => ?_) (fun c87 => ?_)
        · replace h := ps_in0 c87 h
          refine ps_iconst C dL_acts_198 pi_0 ?_
          exact ps_end_i h hfin dL_acts_199 rfl
        · replace h := ps_ip c87 h
          refine ps_aloadn0 C dL_acts_182 ?_
          refine ps_iload9 C dL_acts_183 ?_
          refine ps_iconst C dL_acts_185 pi_2 ?_
          obtain ⟨r85, M85, hM85, h⟩ := ps_bd h
          refine ps_goV_i C (rest := []) (tt_X6_of (xl X) (xb X) (xD X) hb0 hM85) cw_L_9 ps_rc0 hb0 (ps_room hRm (by decide)) rfl rfl (Nat.le_of_ble_eq_true rfl) dL_acts_186 ?_
          refine ps_bipush C dL_acts_189 pb_m6 ?_
          refine ps_ic_ne C 198 dL_acts_191 rfl (fun c86 => ?_) (fun c86 => ?_)
          · replace h := ps_in0 c86 h
            refine ps_iconst C dL_acts_198 pi_0 ?_
            exact ps_end_i h hfin dL_acts_199 rfl
          · replace h := ps_ip c86 h
            refine ps_iconst C dL_acts_194 pi_1 ?_
            refine ps_goto C 199 dL_acts_195 rfl ?_
            exact ps_end_i h hfin dL_acts_199 rfl
    · replace h := ps_ip c90 h
      refine ps_iload9 C dL_acts_151 ?_
      refine ps_bipush C dL_acts_153 pb_m4 ?_
      refine ps_ic_ne C 162 dL_acts_155 rfl (fun c89 => ?_) (fun c89 => ?_)
      · replace h := ps_in0 c89 h
        refine ps_iconst C dL_acts_162 pi_0 ?_
        refine ps_goto C 199 dL_acts_163 rfl ?_
        exact ps_end_i h hfin dL_acts_199 rfl
      · replace h := ps_ip c89 h
        refine ps_iconst C dL_acts_158 pi_1 ?_
        refine ps_goto C 199 dL_acts_159 rfl ?_
        exact ps_end_i h hfin dL_acts_199 rfl
  · replace h := ps_in0 c_87_0 h
    by_cases c_87_1 : x8 = nI 1
    · replace h := ps_ip c_87_1 h
      refine ps_tabI C 1 (by rw [c_87_1]; rfl) 200 dL_acts_87 (by decide) (by decide) rfl rfl ?_
      refine ps_aloadn0 C dL_acts_200 ?_
      refine ps_iloadn1 C dL_acts_201 ?_
      refine ps_iconst C dL_acts_202 pi_4 ?_
      refine ps_ishr C dL_acts_203 ?_
      obtain ⟨r81, M81, hM81, h⟩ := ps_bd h
      refine ps_goS_i C (rest := []) (tt_L_sings (xl X) (xb X) (xD X) hb0 hM81) cw_L_79 (ps_room hRm (by decide)) rfl rfl (Nat.le_of_ble_eq_true rfl) dL_acts_204 ?_
      obtain ⟨hc82, h⟩ := ps_gd h
      exact ps_end_i h hfin dL_acts_207 (ps_isB_n hc82)
    · replace h := ps_in0 c_87_1 h
      by_cases c_87_2 : x8 = nI 2
      · replace h := ps_ip c_87_2 h
        refine ps_tabI C 2 (by rw [c_87_2]; rfl) 200 dL_acts_87 (by decide) (by decide) rfl rfl ?_
        refine ps_aloadn0 C dL_acts_200 ?_
        refine ps_iloadn1 C dL_acts_201 ?_
        refine ps_iconst C dL_acts_202 pi_4 ?_
        refine ps_ishr C dL_acts_203 ?_
        obtain ⟨r79, M79, hM79, h⟩ := ps_bd h
        refine ps_goS_i C (rest := []) (tt_L_sings (xl X) (xb X) (xD X) hb0 hM79) cw_L_79 (ps_room hRm (by decide)) rfl rfl (Nat.le_of_ble_eq_true rfl) dL_acts_204 ?_
        obtain ⟨hc80, h⟩ := ps_gd h
        exact ps_end_i h hfin dL_acts_207 (ps_isB_n hc80)
      · replace h := ps_in0 c_87_2 h
        by_cases c_87_3 : x8 = nI 3
        · replace h := ps_ip c_87_3 h
          refine ps_tabI C 3 (by rw [c_87_3]; rfl) 208 dL_acts_87 (by decide) (by decide) rfl rfl ?_
          refine ps_aloadn0 C dL_acts_208 ?_
          refine ps_iload5 C dL_acts_209 ?_
          refine ps_iconst C dL_acts_211 pi_0 ?_
          obtain ⟨r76, M76, hM76, h⟩ := ps_bd h
          refine ps_goV_i C (rest := []) (tt_X6_ofSong (xl X) (xb X) (xD X) hb0 hM76) cw_L_32 ps_rc0 hb0 (ps_room hRm (by decide)) rfl rfl (Nat.le_of_ble_eq_true rfl) dL_acts_212 ?_
          refine ps_istore10 C rfl dL_acts_215 ?_
          refine ps_iload10 C dL_acts_217 ?_
          refine ps_iconst C dL_acts_219 pi_1 ?_
          refine ps_ic_ge C 227 dL_acts_220 rfl (fun c78 => ?_) (fun c78 => ?_)
          · replace h := ps_ip c78 h
            refine ps_iloadn1 C dL_acts_227 ?_
            refine ps_bipush C dL_acts_228 pb_10 ?_
            refine ps_ishr C dL_acts_230 ?_
            refine ps_iload10 C dL_acts_231 ?_
            obtain ⟨hz77, h⟩ := ps_gd h
            refine ps_irem C hz77 dL_acts_233 ?_
            exact bk_L_acts_234 C hRm hfin b0 a1 a2 a3 a4 a5 s0 r6 r7 r76 ((a1 >>> ((nI 10) &&& 31)) - (a1 >>> ((nI 10) &&& 31)) / r76 * r76) hb0 _ h
          · replace h := ps_in0 c78 h
            refine ps_iconst C dL_acts_223 pi_0 ?_
            refine ps_goto C 234 dL_acts_224 rfl ?_
            exact bk_L_acts_234 C hRm hfin b0 a1 a2 a3 a4 a5 s0 r6 r7 r76 (nI 0) hb0 _ h
        · replace h := ps_in0 c_87_3 h
          by_cases c_87_4 : x8 = nI 4
          · replace h := ps_ip c_87_4 h
            refine ps_tabI C 4 (by rw [c_87_4]; rfl) 208 dL_acts_87 (by decide) (by decide) rfl rfl ?_
            refine ps_aloadn0 C dL_acts_208 ?_
            refine ps_iload5 C dL_acts_209 ?_
            refine ps_iconst C dL_acts_211 pi_0 ?_
            obtain ⟨r73, M73, hM73, h⟩ := ps_bd h
            refine ps_goV_i C (rest := []) (tt_X6_ofSong (xl X) (xb X) (xD X) hb0 hM73) cw_L_32 ps_rc0 hb0 (ps_room hRm (by decide)) rfl rfl (Nat.le_of_ble_eq_true rfl) dL_acts_212 ?_
            refine ps_istore10 C rfl dL_acts_215 ?_
            refine ps_iload10 C dL_acts_217 ?_
            refine ps_iconst C dL_acts_219 pi_1 ?_
            refine ps_ic_ge C 227 dL_acts_220 rfl (fun c75 => ?_) (fun c75 => ?_)
            · replace h := ps_ip c75 h
              refine ps_iloadn1 C dL_acts_227 ?_
              refine ps_bipush C dL_acts_228 pb_10 ?_
              refine ps_ishr C dL_acts_230 ?_
              refine ps_iload10 C dL_acts_231 ?_
              obtain ⟨hz74, h⟩ := ps_gd h
              refine ps_irem C hz74 dL_acts_233 ?_
              exact bk_L_acts_234 C hRm hfin b0 a1 a2 a3 a4 a5 s0 r6 r7 r73 ((a1 >>> ((nI 10) &&& 31)) - (a1 >>> ((nI 10) &&& 31)) / r73 * r73) hb0 _ h
            · replace h := ps_in0 c75 h
              refine ps_iconst C dL_acts_223 pi_0 ?_
              refine ps_goto C 234 dL_acts_224 rfl ?_
              exact bk_L_acts_234 C hRm hfin b0 a1 a2 a3 a4 a5 s0 r6 r7 r73 (nI 0) hb0 _ h
          · replace h := ps_in0 c_87_4 h
            by_cases c_87_5 : x8 = nI 5
            · replace h := ps_ip c_87_5 h
              refine ps_tabI C 5 (by rw [c_87_5]; rfl) 208 dL_acts_87 (by decide) (by decide) rfl rfl ?_
              refine ps_aloadn0 C dL_acts_208 ?_
              refine ps_iload5 C dL_acts_209 ?_
              refine ps_iconst C dL_acts_211 pi_0 ?_
              obtain ⟨r70, M70, hM70, h⟩ := ps_bd h
              refine ps_goV_i C (rest := []) (tt_X6_ofSong (xl X) (xb X) (xD X) hb0 hM70) cw_L_32 ps_rc0 hb0 (ps_room hRm (by decide)) rfl rfl (Nat.le_of_ble_eq_true rfl) dL_acts_212 ?_
              refine ps_istore10 C rfl dL_acts_215 ?_
              refine ps_iload10 C dL_acts_217 ?_
              refine ps_iconst C dL_acts_219 pi_1 ?_
              refine ps_ic_ge C 227 dL_acts_220 rfl (fun c72 => ?_) (fun c72 => ?_)
              · replace h := ps_ip c72 h
                refine ps_iloadn1 C dL_acts_227 ?_
                refine ps_bipush C dL_acts_228 pb_10 ?_
                refine ps_ishr C dL_acts_230 ?_
                refine ps_iload10 C dL_acts_231 ?_
                obtain ⟨hz71, h⟩ := ps_gd h
                refine ps_irem C hz71 dL_acts_233 ?_
                exact bk_L_acts_234 C hRm hfin b0 a1 a2 a3 a4 a5 s0 r6 r7 r70 ((a1 >>> ((nI 10) &&& 31)) - (a1 >>> ((nI 10) &&& 31)) / r70 * r70) hb0 _ h
              · replace h := ps_in0 c72 h
                refine ps_iconst C dL_acts_223 pi_0 ?_
                refine ps_goto C 234 dL_acts_224 rfl ?_
                exact bk_L_acts_234 C hRm hfin b0 a1 a2 a3 a4 a5 s0 r6 r7 r70 (nI 0) hb0 _ h
            · replace h := ps_in0 c_87_5 h
              by_cases c_87_6 : x8 = nI 6
              · replace h := ps_ip c_87_6 h
                refine ps_tabI C 6 (by rw [c_87_6]; rfl) 208 dL_acts_87 (by decide) (by decide) rfl rfl ?_
                refine ps_aloadn0 C dL_acts_208 ?_
                refine ps_iload5 C dL_acts_209 ?_
                refine ps_iconst C dL_acts_211 pi_0 ?_
                obtain ⟨r49, M49, hM49, h⟩ := ps_bd h
                refine ps_goV_i C (rest := []) (tt_X6_ofSong (xl X) (xb X) (xD X) hb0 hM49) cw_L_32 ps_rc0 hb0 (ps_room hRm (by decide)) rfl rfl (Nat.le_of_ble_eq_true rfl) dL_acts_212 ?_
                refine ps_istore10 C rfl dL_acts_215 ?_
                refine ps_iload10 C dL_acts_217 ?_
                refine ps_iconst C dL_acts_219 pi_1 ?_
                refine ps_ic_ge C 227 dL_acts_220 rfl (fun c69 => ?_) (fun c69 => ?_)
                · replace h := ps_ip c69 h
                  refine ps_iloadn1 C dL_acts_227 ?_
                  refine ps_bipush C dL_acts_228 pb_10 ?_
                  refine ps_ishr C dL_acts_230 ?_
                  refine ps_iload10 C dL_acts_231 ?_
                  obtain ⟨hz50, h⟩ := ps_gd h
                  refine ps_irem C hz50 dL_acts_233 ?_
                  exact bk_L_acts_234 C hRm hfin b0 a1 a2 a3 a4 a5 s0 r6 r7 r49 ((a1 >>> ((nI 10) &&& 31)) - (a1 >>> ((nI 10) &&& 31)) / r49 * r49) hb0 _ h
                · replace h := ps_in0 c69 h
                  refine ps_iconst C dL_acts_223 pi_0 ?_
                  refine ps_goto C 234 dL_acts_224 rfl ?_
                  exact bk_L_acts_234 C hRm hfin b0 a1 a2 a3 a4 a5 s0 r6 r7 r49 (nI 0) hb0 _ h
              · replace h := ps_in0 c_87_6 h
                by_cases c_87_7 : x8 = nI 7
                · replace h := ps_ip c_87_7 h
                  refine ps_tabI C 7 (by rw [c_87_7]; rfl) 376 dL_acts_87 (by decide) (by decide) rfl rfl ?_
                  refine ps_iloadn1 C dL_acts_376 ?_
                  refine ps_bipush C dL_acts_377 pb_10 ?_
                  refine ps_ishr C dL_acts_379 ?_
                  refine ps_iconst C dL_acts_380 pi_2 ?_
                  refine ps_irem C (by decide) dL_acts_381 ?_
                  refine ps_if_eq C 420 dL_acts_382 rfl (fun c48 => ?_) (fun c48 => ?_)
                  · replace h := ps_ip c48 h
                    refine ps_iconst C dL_acts_420 pi_1 ?_
                    refine ps_goto C 425 dL_acts_421 rfl ?_
                    exact ps_end_i h hfin dL_acts_425 rfl
                  · replace h := ps_in0 c48 h
                    refine ps_aloadn0 C dL_acts_385 ?_
                    refine ps_iload4 C dL_acts_386 ?_
                    obtain ⟨r42, M42, hM42, h⟩ := ps_bd h
                    refine ps_goV_i C (rest := []) (tt_X6_hush (xl X) (xb X) (xD X) hb0 hM42) cw_L_84 ps_rc0 hb0 (ps_room hRm (by decide)) rfl rfl (Nat.le_of_ble_eq_true rfl) dL_acts_388 ?_
                    refine ps_iloadn2 C dL_acts_391 ?_
                    refine ps_if_ne C 399 dL_acts_392 rfl (fun c47 => ?_) (fun c47 => ?_)
                    · replace h := ps_in0 c47 h
                      refine ps_iload7 C dL_acts_399 ?_
                      exact bk_L_acts_401 C hRm hfin b0 a1 a2 a3 a4 a5 s0 r6 r7 r42 r6 hb0 _ h
                    · replace h := ps_ip c47 h
                      refine ps_iconst C dL_acts_395 pi_m1 ?_
                      refine ps_goto C 401 dL_acts_396 rfl ?_
                      exact bk_L_acts_401 C hRm hfin b0 a1 a2 a3 a4 a5 s0 r6 r7 r42 (ps_m 1) hb0 _ h
                · replace h := ps_in0 c_87_7 h
                  by_cases c_87_8 : x8 = nI 8
                  · replace h := ps_ip c_87_8 h
                    refine ps_tabI C 8 (by rw [c_87_8]; rfl) 426 dL_acts_87 (by decide) (by decide) rfl rfl ?_
                    refine ps_iconst C dL_acts_426 pi_1 ?_
                    refine ps_iloadn1 C dL_acts_427 ?_
                    refine ps_bipush C dL_acts_428 pb_10 ?_
                    refine ps_ishr C dL_acts_430 ?_
                    refine ps_bipush C dL_acts_431 pb_40 ?_
                    refine ps_irem C (by decide) dL_acts_433 ?_
                    refine ps_iadd C dL_acts_434 ?_
                    refine ps_nmi (fun x28 ex28 => ?_)
                    replace h := ps_lt ex28 h
                    refine ps_istore13 C rfl dL_acts_435 ?_
                    refine ps_iload7 C dL_acts_437 ?_
                    refine ps_if_ge C 447 dL_acts_439 rfl (fun c41 => ?_) (fun c41 => ?_)
                    · replace h := ps_ip c41 h
                      refine ps_aloadn0 C dL_acts_447 ?_
                      refine ps_iload4 C dL_acts_448 ?_
                      refine ps_iload7 C dL_acts_450 ?_
                      refine ps_iload13 C dL_acts_452 ?_
                      obtain ⟨r29, M29, hM29, h⟩ := ps_bd h
                      refine ps_goV_i C (rest := []) (tt_X6_sings (xl X) (xb X) (xD X) hb0 hM29) cw_L_19 ps_rc0 hb0 (ps_room hRm (by decide)) rfl rfl (Nat.le_of_ble_eq_true rfl) dL_acts_454 ?_
                      exact bk_L_acts_457 C hRm hfin b0 a1 a2 a3 a4 a5 s0 r6 r7 x28 r29 hb0 _ h
                    · replace h := ps_in0 c41 h
                      refine ps_bipush C dL_acts_442 pb_m6 ?_
                      refine ps_goto C 457 dL_acts_444 rfl ?_
                      exact bk_L_acts_457 C hRm hfin b0 a1 a2 a3 a4 a5 s0 r6 r7 x28 (ps_m 6) hb0 _ h
                  · replace h := ps_in0 c_87_8 h
                    by_cases c_87_9 : x8 = nI 9
                    · replace h := ps_ip c_87_9 h
                      refine ps_tabI C 9 (by rw [c_87_9]; rfl) 550 dL_acts_87 (by decide) (by decide) rfl rfl ?_
                      refine ps_iloadn1 C dL_acts_550 ?_
                      refine ps_iconst C dL_acts_551 pi_4 ?_
                      refine ps_ishr C dL_acts_552 ?_
                      refine ps_iconst C dL_acts_553 pi_4 ?_
                      refine ps_irem C (by decide) dL_acts_554 ?_
                      refine ps_nmi (fun x19 ex19 => ?_)
                      replace h := ps_lt ex19 h
                      refine ps_istore16 C rfl dL_acts_555 ?_
                      refine ps_iload16 C dL_acts_557 ?_
                      refine ps_if_ne C 574 dL_acts_559 rfl (fun c27 => ?_) (fun c27 => ?_)
                      · replace h := ps_in0 c27 h
                        refine ps_iload16 C dL_acts_574 ?_
                        refine ps_iconst C dL_acts_576 pi_1 ?_
                        refine ps_ic_ne C 589 dL_acts_577 rfl (fun c26 => ?_) (fun c26 => ?_)
                        · replace h := ps_in0 c26 h
                          refine ps_iload16 C dL_acts_589 ?_
                          refine ps_iconst C dL_acts_591 pi_2 ?_
                          refine ps_ic_ne C 606 dL_acts_592 rfl (fun c25 => ?_) (fun c25 => ?_)
                          · replace h := ps_in0 c25 h
                            refine ps_iconst C dL_acts_606 pi_1 ?_
                            refine ps_iloadn1 C dL_acts_607 ?_
                            refine ps_bipush C dL_acts_608 pb_8 ?_
                            refine ps_ishr C dL_acts_610 ?_
                            refine ps_bipush C dL_acts_611 pb_60 ?_
                            refine ps_irem C (by decide) dL_acts_613 ?_
                            refine ps_iadd C dL_acts_614 ?_
                            exact bk_L_acts_615 C hRm hfin b0 a1 a2 a3 a4 a5 s0 r6 r7 x19 ((nI 1) + ((a1 >>> ((nI 8) &&& 31)) - (a1 >>> ((nI 8) &&& 31)) / (nI 60) * (nI 60))) hb0 _ h
                          · replace h := ps_ip c25 h
                            refine ps_iconst C dL_acts_595 pi_1 ?_
                            refine ps_iloadn1 C dL_acts_596 ?_
                            refine ps_bipush C dL_acts_597 pb_8 ?_
                            refine ps_ishr C dL_acts_599 ?_
                            refine ps_iconst C dL_acts_600 pi_3 ?_
                            refine ps_irem C (by decide) dL_acts_601 ?_
                            refine ps_iadd C dL_acts_602 ?_
                            refine ps_goto C 615 dL_acts_603 rfl ?_
                            exact bk_L_acts_615 C hRm hfin b0 a1 a2 a3 a4 a5 s0 r6 r7 x19 ((nI 1) + ((a1 >>> ((nI 8) &&& 31)) - (a1 >>> ((nI 8) &&& 31)) / (nI 3) * (nI 3))) hb0 _ h
                        · replace h := ps_ip c26 h
                          refine ps_iloadn1 C dL_acts_580 ?_
                          refine ps_bipush C dL_acts_581 pb_8 ?_
                          refine ps_ishr C dL_acts_583 ?_
                          refine ps_iconst C dL_acts_584 pi_4 ?_
                          refine ps_irem C (by decide) dL_acts_585 ?_
                          refine ps_goto C 615 dL_acts_586 rfl ?_
                          exact bk_L_acts_615 C hRm hfin b0 a1 a2 a3 a4 a5 s0 r6 r7 x19 ((a1 >>> ((nI 8) &&& 31)) - (a1 >>> ((nI 8) &&& 31)) / (nI 4) * (nI 4)) hb0 _ h
                      · replace h := ps_ip c27 h
                        refine ps_iconst C dL_acts_562 pi_4 ?_
                        refine ps_iloadn1 C dL_acts_563 ?_
                        refine ps_bipush C dL_acts_564 pb_8 ?_
                        refine ps_ishr C dL_acts_566 ?_
                        refine ps_bipush C dL_acts_567 pb_57 ?_
                        refine ps_irem C (by decide) dL_acts_569 ?_
                        refine ps_iadd C dL_acts_570 ?_
                        refine ps_goto C 615 dL_acts_571 rfl ?_
                        exact bk_L_acts_615 C hRm hfin b0 a1 a2 a3 a4 a5 s0 r6 r7 x19 ((nI 4) + ((a1 >>> ((nI 8) &&& 31)) - (a1 >>> ((nI 8) &&& 31)) / (nI 57) * (nI 57))) hb0 _ h
                    · replace h := ps_in0 c_87_9 h
                      have hdf : ps_G X M7 661 [some (.ref (xb X + b0)), some (.int a1), some (.int a2), some (.int a3), some (.int a4), some (.int a5), some (.int s0), some (.int r6), some (.int r7), none, none, none, none, none, none, none, none, none, none, none, none, none] [] := by
                        refine ps_aloadn0 C dL_acts_661 ?_
                        refine ps_iconst C dL_acts_662 pi_0 ?_
                        obtain ⟨r9, M9, hM9, h⟩ := ps_bd h
                        refine ps_goV_i C (rest := []) (tt_X6_count (xl X) (xb X) (xD X) hb0 hM9) cw_L_28 ps_rc0 hb0 (ps_room hRm (by decide)) rfl rfl (Nat.le_of_ble_eq_true rfl) dL_acts_663 ?_
                        refine ps_istore19 C rfl dL_acts_666 ?_
                        refine ps_aloadn0 C dL_acts_668 ?_
                        refine ps_iconst C dL_acts_669 pi_5 ?_
                        obtain ⟨r10, M10, hM10, h⟩ := ps_bd h
                        refine ps_goV_i C (rest := []) (tt_X6_count (xl X) (xb X) (xD X) hb0 hM10) cw_L_28 ps_rc0 hb0 (ps_room hRm (by decide)) rfl rfl (Nat.le_of_ble_eq_true rfl) dL_acts_670 ?_
                        refine ps_istore20 C rfl dL_acts_673 ?_
                        refine ps_aloadn0 C dL_acts_675 ?_
                        obtain ⟨r11, M11, hM11, h⟩ := ps_bd h
                        refine ps_goV_i C (rest := []) (tt_X6_night (xl X) (xb X) (xD X) hb0 hM11) cw_L_93 ps_rc0 hb0 (ps_room hRm (by decide)) rfl rfl (Nat.le_of_ble_eq_true rfl) dL_acts_676 ?_
                        refine ps_istore21 C rfl dL_acts_679 ?_
                        refine ps_iload21 C dL_acts_681 ?_
                        refine ps_if_lt C 724 dL_acts_683 rfl (fun c18 => ?_) (fun c18 => ?_)
                        · replace h := ps_ip c18 h
                          refine ps_iconst C dL_acts_724 pi_0 ?_
                          exact ps_end_i h hfin dL_acts_725 rfl
                        · replace h := ps_in0 c18 h
                          refine ps_aloadn0 C dL_acts_686 ?_
                          refine ps_iconst C dL_acts_687 pi_0 ?_
                          obtain ⟨r12, M12, hM12, h⟩ := ps_bd h
                          refine ps_goV_i C (rest := []) (tt_X6_count (xl X) (xb X) (xD X) hb0 hM12) cw_L_28 ps_rc0 hb0 (ps_room hRm (by decide)) rfl rfl (Nat.le_of_ble_eq_true rfl) dL_acts_688 ?_
                          refine ps_iload19 C dL_acts_691 ?_
                          refine ps_iconst C dL_acts_693 pi_1 ?_
                          refine ps_iadd C dL_acts_694 ?_
                          refine ps_ic_ne C 724 dL_acts_695 rfl (fun c17 => ?_) (fun c17 => ?_)
                          · replace h := ps_in0 c17 h
                            refine ps_iconst C dL_acts_724 pi_0 ?_
                            exact ps_end_i h hfin dL_acts_725 rfl
                          · replace h := ps_ip c17 h
                            refine ps_aloadn0 C dL_acts_698 ?_
                            refine ps_iconst C dL_acts_699 pi_5 ?_
                            obtain ⟨r13, M13, hM13, h⟩ := ps_bd h
                            refine ps_goV_i C (rest := []) (tt_X6_count (xl X) (xb X) (xD X) hb0 hM13) cw_L_28 ps_rc0 hb0 (ps_room hRm (by decide)) rfl rfl (Nat.le_of_ble_eq_true rfl) dL_acts_700 ?_
                            refine ps_iload20 C dL_acts_703 ?_
                            refine ps_iload21 C dL_acts_705 ?_
                            refine ps_isub C dL_acts_707 ?_
                            refine ps_ic_ne C 724 dL_acts_708 rfl (fun c16 => ?_) (fun c16 => ?_)
                            · replace h := ps_in0 c16 h
                              refine ps_iconst C dL_acts_724 pi_0 ?_
                              exact ps_end_i h hfin dL_acts_725 rfl
                            · replace h := ps_ip c16 h
                              refine ps_aloadn0 C dL_acts_711 ?_
                              refine ps_bipush C dL_acts_712 pb_7 ?_
                              obtain ⟨r14, M14, hM14, h⟩ := ps_bd h
                              refine ps_goV_i C (rest := []) (tt_X6_count (xl X) (xb X) (xD X) hb0 hM14) cw_L_28 ps_rc0 hb0 (ps_room hRm (by decide)) rfl rfl (Nat.le_of_ble_eq_true rfl) dL_acts_714 ?_
                              refine ps_if_ne C 724 dL_acts_717 rfl (fun c15 => ?_) (fun c15 => ?_)
                              · replace h := ps_in0 c15 h
                                refine ps_iconst C dL_acts_724 pi_0 ?_
                                exact ps_end_i h hfin dL_acts_725 rfl
                              · replace h := ps_ip c15 h
                                refine ps_iconst C dL_acts_720 pi_1 ?_
                                refine ps_goto C 725 dL_acts_721 rfl ?_
                                exact ps_end_i h hfin dL_acts_725 rfl
                      by_cases q1 : x8.toInt < 0
                      · exact ps_tabO C 661 dL_acts_87 (Or.inl q1) rfl hdf
                      by_cases q2 : 9 < x8.toInt
                      · exact ps_tabO C 661 dL_acts_87 (Or.inr q2) rfl hdf
                      exfalso
                      rcases (by omega : x8.toInt = 0 ∨ x8.toInt = 1 ∨ x8.toInt = 2 ∨ x8.toInt = 3 ∨ x8.toInt = 4 ∨ x8.toInt = 5 ∨ x8.toInt = 6 ∨ x8.toInt = 7 ∨ x8.toInt = 8 ∨ x8.toInt = 9) with q3 | q3 | q3 | q3 | q3 | q3 | q3 | q3 | q3 | q3
                      · exact absurd (pz_0 q3) c_87_0
                      · exact absurd (pz_1 q3) c_87_1
                      · exact absurd (pz_2 q3) c_87_2
                      · exact absurd (pz_3 q3) c_87_3
                      · exact absurd (pz_4 q3) c_87_4
                      · exact absurd (pz_5 q3) c_87_5
                      · exact absurd (pz_6 q3) c_87_6
                      · exact absurd (pz_7 q3) c_87_7
                      · exact absurd (pz_8 q3) c_87_8
                      · exact absurd (pz_9 q3) c_87_9
set_option maxRecDepth 10000 in
theorem bk_L_acts_41 {X : ps_X} (C : ps_C X RL cL_acts) (hRm : xR X = ps_lvl 9) {r : Int32} {M9 : ps_M} (hfin : ∀ pc lv, decode cL_acts pc = .ok (.ireturn, 1) → narrow .boolean (.int r) = .int r → ps_G X M9 pc lv [.int r]) (b0 : Nat) (a1 : Int32) (a2 : Int32) (a3 : Int32) (a4 : Int32) (s0 : Int32) (hb0 : ps_ck 0 b0 = true) (M : ps_M) (h : fk_L_acts_41 b0 a1 a2 a3 a4 s0 M = some (r, M9)) : ps_G X M 41 [some (.ref (xb X + b0)), some (.int a1), some (.int a2), some (.int a3), some (.int a4), none, none, none, none, none, none, none, none, none, none, none, none, none, none, none, none, none] [.int s0] := by
  unfold fk_L_acts_41 at h
  refine ps_istore5 C rfl dL_acts_41 ?_
  refine ps_aloadn0 C dL_acts_43 ?_
  refine ps_bipush C dL_acts_44 pb_7 ?_
  obtain ⟨r5, M5, hM5, h⟩ := ps_bd h
  refine ps_goV_i C (rest := []) (tt_X6_count (xl X) (xb X) (xD X) hb0 hM5) cw_L_28 ps_rc0 hb0 (ps_room hRm (by decide)) rfl rfl (Nat.le_of_ble_eq_true rfl) dL_acts_46 ?_
  refine ps_iload4 C dL_acts_49 ?_
  refine ps_ishr C dL_acts_51 ?_
  refine ps_iconst C dL_acts_52 pi_1 ?_
  refine ps_iand C dL_acts_53 ?_
  refine ps_iconst C dL_acts_54 pi_1 ?_
  refine ps_ic_ne C 62 dL_acts_55 rfl (fun c91 => ?_) (fun c91 => ?_)
  · replace h := ps_in0 c91 h
    refine ps_iconst C dL_acts_62 pi_0 ?_
    exact bk_L_acts_63 C hRm hfin b0 a1 a2 a3 a4 s0 (nI 0) hb0 _ h
  · replace h := ps_ip c91 h
    refine ps_iconst C dL_acts_58 pi_1 ?_
    refine ps_goto C 63 dL_acts_59 rfl ?_
    exact bk_L_acts_63 C hRm hfin b0 a1 a2 a3 a4 s0 (nI 1) hb0 _ h
set_option maxRecDepth 10000 in
theorem bk_L_acts_25 {X : ps_X} (C : ps_C X RL cL_acts) (hRm : xR X = ps_lvl 9) {r : Int32} {M9 : ps_M} (hfin : ∀ pc lv, decode cL_acts pc = .ok (.ireturn, 1) → narrow .boolean (.int r) = .int r → ps_G X M9 pc lv [.int r]) (b0 : Nat) (a1 : Int32) (a2 : Int32) (a3 : Int32) (s0 : Int32) (hb0 : ps_ck 0 b0 = true) (M : ps_M) (h : fk_L_acts_25 b0 a1 a2 a3 s0 M = some (r, M9)) : ps_G X M 25 [some (.ref (xb X + b0)), some (.int a1), some (.int a2), some (.int a3), none, none, none, none, none, none, none, none, none, none, none, none, none, none, none, none, none, none] [.int s0] := by
  unfold fk_L_acts_25 at h
  refine ps_istore4 C rfl dL_acts_25 ?_
  refine ps_iloadn3 C dL_acts_27 ?_
  refine ps_if_ne C 35 dL_acts_28 rfl (fun c92 => ?_) (fun c92 => ?_)
  · replace h := ps_in0 c92 h
    refine ps_iloadn1 C dL_acts_35 ?_
    refine ps_bipush C dL_acts_36 pb_7 ?_
    refine ps_ishr C dL_acts_38 ?_
    refine ps_iloadn3 C dL_acts_39 ?_
    obtain ⟨hz4, h⟩ := ps_gd h
    refine ps_irem C hz4 dL_acts_40 ?_
    exact bk_L_acts_41 C hRm hfin b0 a1 a2 a3 s0 ((a1 >>> ((nI 7) &&& 31)) - (a1 >>> ((nI 7) &&& 31)) / a3 * a3) hb0 _ h
  · replace h := ps_ip c92 h
    refine ps_iconst C dL_acts_31 pi_0 ?_
    refine ps_goto C 41 dL_acts_32 rfl ?_
    exact bk_L_acts_41 C hRm hfin b0 a1 a2 a3 s0 (nI 0) hb0 _ h
set_option maxRecDepth 10000 in
theorem tt_L_acts (l : Launch) (b : Nat) (D : va_G) {b0 : Nat} (hb0 : ps_ck 0 b0 = true) {a1 : Int32} {M M9 : ps_M} {r : Int32} (h : ff_L_acts b0 a1 M = some (r, M9)) : ps_Ti l b D yL_acts cL_acts 22 .boolean 9 [.ref (b + b0), .int a1] M r M9 := by
  refine ps_met_i (own := RL) (lv := [some (.ref (b + b0)), some (.int a1), none, none, none, none, none, none, none, none, none, none, none, none, none, none, none, none, none, none, none, none]) (by decide) rfl rfl (Nat.le_of_ble_eq_true rfl) rfl (fun X eX1 eX2 eX3 hRm eX5 C hfin => ?_)
  subst eX1 eX2 eX3
  unfold ff_L_acts at h
  refine ps_aloadn0 C dL_acts_0 ?_
  refine ps_iconst C dL_acts_1 pi_2 ?_
  obtain ⟨r1, M1, hM1, h⟩ := ps_bd h
  refine ps_goV_i C (rest := []) (tt_X6_count (xl X) (xb X) (xD X) hb0 hM1) cw_L_28 ps_rc0 hb0 (ps_room hRm (by decide)) rfl rfl (Nat.le_of_ble_eq_true rfl) dL_acts_2 ?_
  refine ps_istoren2 C rfl dL_acts_5 ?_
  refine ps_aloadn0 C dL_acts_6 ?_
  refine ps_iconst C dL_acts_7 pi_1 ?_
  obtain ⟨r2, M2, hM2, h⟩ := ps_bd h
  refine ps_goV_i C (rest := []) (tt_X6_count (xl X) (xb X) (xD X) hb0 hM2) cw_L_28 ps_rc0 hb0 (ps_room hRm (by decide)) rfl rfl (Nat.le_of_ble_eq_true rfl) dL_acts_8 ?_
  refine ps_istoren3 C rfl dL_acts_11 ?_
  refine ps_iloadn2 C dL_acts_12 ?_
  refine ps_if_ne C 20 dL_acts_13 rfl (fun c93 => ?_) (fun c93 => ?_)
  · replace h := ps_in0 c93 h
    refine ps_iloadn1 C dL_acts_20 ?_
    refine ps_iconst C dL_acts_21 pi_4 ?_
    refine ps_ishr C dL_acts_22 ?_
    refine ps_iloadn2 C dL_acts_23 ?_
    obtain ⟨hz3, h⟩ := ps_gd h
    refine ps_irem C hz3 dL_acts_24 ?_
    exact bk_L_acts_25 C hRm hfin b0 a1 r1 r2 ((a1 >>> ((nI 4) &&& 31)) - (a1 >>> ((nI 4) &&& 31)) / r1 * r1) hb0 _ h
  · replace h := ps_ip c93 h
    refine ps_iconst C dL_acts_16 pi_0 ?_
    refine ps_goto C 25 dL_acts_17 rfl ?_
    exact bk_L_acts_25 C hRm hfin b0 a1 r1 r2 (nI 0) hb0 _ h
