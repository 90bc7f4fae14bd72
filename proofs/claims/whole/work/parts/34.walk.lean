set_option maxRecDepth 10000 in
theorem tt_X7_wipe (l : Launch) (b : Nat) (D : va_G) {q : Nat} (hq : ps_ck 20 q = true) {M M9 : ps_M} {r : Int32} (h : ff_X7_wipe q  M = some (r, M9)) : ps_Ti l b D yX7_wipe cX7_wipe 2 .int 0 [.ref (b + q)] M r M9 := by
  refine ps_met_i (own := RX7) (lv := [some (.ref (b + q)), none]) (by decide) rfl rfl (Nat.le_of_ble_eq_true rfl) rfl (fun X eX1 eX2 eX3 hRm eX5 C hfin => ?_)
  subst eX1 eX2 eX3
  unfold ff_X7_wipe at h
  refine ps_aloadn0 C dX7_wipe_0 ?_
  refine gf_X7_140 C hq dX7_wipe_1 ?_
  refine ps_nmi (fun x1 ex1 => ?_)
  replace h := ps_lt ex1 h
  refine ps_istoren1 C rfl dX7_wipe_4 ?_
  refine ps_aloadn0 C dX7_wipe_5 ?_
  refine ps_iconst C dX7_wipe_6 pi_0 ?_
  refine pf_X7_140 C hq dX7_wipe_7 (fun M2 eM2 => ?_)
  replace h := ps_lt eM2 h
  refine ps_iloadn1 C dX7_wipe_10 ?_
  exact ps_end_i h hfin dX7_wipe_11 rfl
set_option maxRecDepth 10000 in
theorem tt_X7_fault (l : Launch) (b : Nat) (D : va_G) {q : Nat} (hq : ps_ck 20 q = true) {M M9 : ps_M} {r : Int32} (h : ff_X7_fault q  M = some (r, M9)) : ps_Ti l b D yX7_fault cX7_fault 2 .int 5 [.ref (b + q)] M r M9 := by
  refine ps_met_i (own := RX7) (lv := [some (.ref (b + q)), none]) (by decide) rfl rfl (Nat.le_of_ble_eq_true rfl) rfl (fun X eX1 eX2 eX3 hRm eX5 C hfin => ?_)
  subst eX1 eX2 eX3
  unfold ff_X7_fault at h
  refine ps_aloadn0 C dX7_fault_0 ?_
  obtain ⟨r1, M1, hM1, h⟩ := ps_bd h
  refine ps_goV_i C (rest := []) (tt_X7_faultOf (xl X) (xb X) (xD X) hq hM1) cw_X7_191 ps_rc20 hq (ps_room hRm (by decide)) rfl rfl (Nat.le_of_ble_eq_true rfl) dX7_fault_1 ?_
  refine ps_istoren1 C rfl dX7_fault_4 ?_
  refine ps_iloadn1 C dX7_fault_5 ?_
  refine ps_if_ge C 14 dX7_fault_6 rfl (fun c2 => ?_) (fun c2 => ?_)
  · replace h := ps_ip c2 h
    refine ps_iloadn1 C dX7_fault_14 ?_
    exact ps_end_i h hfin dX7_fault_15 rfl
  · replace h := ps_in0 c2 h
    refine ps_bipush C dX7_fault_9 pb_m6 ?_
    refine ps_goto C 15 dX7_fault_11 rfl ?_
    exact ps_end_i h hfin dX7_fault_15 rfl
set_option maxRecDepth 10000 in
theorem bk_X7_carryOut_46 {X : ps_X} (C : ps_C X RX7 cX7_carryOut) (hRm : xR X = ps_lvl 6) {r : Int32} {M9 : ps_M} (hfin : ∀ pc lv, decode cX7_carryOut pc = .ok (.ireturn, 1) → narrow .int (.int r) = .int r → ps_G X M9 pc lv [.int r]) {q : Nat} (hq : ps_ck 20 q = true) {K : Int32 → Int32 → ps_M → Option (Int32 × ps_M)} (hK : ∀ (a1 : Int32) (a2 : Int32) (M : ps_M), K a1 a2 M = some (r, M9) → ps_G X M 18 [some (.ref (xb X + q)), some (.int a1), some (.int a2), none] []) (a1 : Int32) (a2 : Int32) (a3 : Int32) (M : ps_M) (h : fk_X7_carryOut_46 q K a1 a2 a3 M = some (r, M9)) : ps_G X M 46 [some (.ref (xb X + q)), some (.int a1), some (.int a2), some (.int a3)] [] := by
  unfold fk_X7_carryOut_46 at h
  refine ps_iconst C dX7_carryOut_46 pi_1 ?_
  refine ps_goto C 51 dX7_carryOut_47 rfl ?_
  refine ps_istoren2 C rfl dX7_carryOut_51 ?_
  refine ps_iloadn1 C dX7_carryOut_52 ?_
  refine ps_iloadn2 C dX7_carryOut_53 ?_
  refine ps_if_eq C 61 dX7_carryOut_54 rfl (fun c => absurd c (by decide)) (fun _ => ?_)
  refine ps_iconst C dX7_carryOut_57 pi_1 ?_
  refine ps_goto C 62 dX7_carryOut_58 rfl ?_
  refine ps_iadd C dX7_carryOut_62 ?_
  refine ps_nmi (fun x8 ex8 => ?_)
  replace h := ps_lt ex8 h
  refine ps_istoren1 C rfl dX7_carryOut_63 ?_
  refine ps_goto C 18 dX7_carryOut_64 rfl ?_
  refine ps_wk (lv' := [some (.ref (xb X + q)), some (.int x8), some (.int (nI 1)), none]) (ps_le_s rfl (ps_le_s rfl (ps_le_s rfl (ps_le_n ps_le_0)))) ?_
  exact hK x8 (nI 1) _ h
set_option maxRecDepth 10000 in
theorem bk_X7_carryOut_18 {X : ps_X} (C : ps_C X RX7 cX7_carryOut) (hRm : xR X = ps_lvl 6) {r : Int32} {M9 : ps_M} (hfin : ∀ pc lv, decode cX7_carryOut pc = .ok (.ireturn, 1) → narrow .int (.int r) = .int r → ps_G X M9 pc lv [.int r]) {q : Nat} (hq : ps_ck 20 q = true) : ∀ (n : Nat) (a1 : Int32) (a2 : Int32) (M : ps_M), fk_X7_carryOut_18 q n a1 a2 M = some (r, M9) → ps_G X M 18 [some (.ref (xb X + q)), some (.int a1), some (.int a2), none] [] := by
  intro n
  induction n with
  | zero => intro a1 a2 M h; rw [fk_X7_carryOut_18] at h; cases h
  | succ n ih =>
    intro a1 a2 M h
    rw [fk_X7_carryOut_18] at h
    refine ps_iloadn2 C dX7_carryOut_18 ?_
    refine ps_if_eq C 67 dX7_carryOut_19 rfl (fun c13 => ?_) (fun c13 => ?_)
    · replace h := ps_ip c13 h
      refine ps_aloadn0 C dX7_carryOut_67 ?_
      refine ps_iconst C dX7_carryOut_68 pi_0 ?_
      refine pf_X7_140 C hq dX7_carryOut_69 (fun M3 eM3 => ?_)
      replace h := ps_lt eM3 h
      refine ps_aloadn0 C dX7_carryOut_72 ?_
      refine ps_iloadn1 C dX7_carryOut_73 ?_
      obtain ⟨r4, M4, hM4, h⟩ := ps_bd h
      refine ps_goV_i C (rest := []) (tt_X7_recorded (xl X) (xb X) (xD X) hq hM4) cw_X7_103 ps_rc20 hq (ps_room hRm (by decide)) rfl rfl (Nat.le_of_ble_eq_true rfl) dX7_carryOut_74 ?_
      exact ps_end_i h hfin dX7_carryOut_77 rfl
    · replace h := ps_in0 c13 h
      refine ps_iloadn1 C dX7_carryOut_22 ?_
      refine ps_aloadn0 C dX7_carryOut_23 ?_
      refine gf_X7_162 C hq dX7_carryOut_24 ?_
      refine ps_ic_ge C 67 dX7_carryOut_27 rfl (fun c12 => ?_) (fun c12 => ?_)
      · replace h := ps_ip c12 h
        refine ps_aloadn0 C dX7_carryOut_67 ?_
        refine ps_iconst C dX7_carryOut_68 pi_0 ?_
        refine pf_X7_140 C hq dX7_carryOut_69 (fun M5 eM5 => ?_)
        replace h := ps_lt eM5 h
        refine ps_aloadn0 C dX7_carryOut_72 ?_
        refine ps_iloadn1 C dX7_carryOut_73 ?_
        obtain ⟨r6, M6, hM6, h⟩ := ps_bd h
        refine ps_goV_i C (rest := []) (tt_X7_recorded (xl X) (xb X) (xD X) hq hM6) cw_X7_103 ps_rc20 hq (ps_room hRm (by decide)) rfl rfl (Nat.le_of_ble_eq_true rfl) dX7_carryOut_74 ?_
        exact ps_end_i h hfin dX7_carryOut_77 rfl
      · replace h := ps_in0 c12 h
        refine ps_aloadn0 C dX7_carryOut_30 ?_
        refine ps_iloadn1 C dX7_carryOut_31 ?_
        obtain ⟨r7, M7, hM7, h⟩ := ps_bd h
        refine ps_goV_i C (rest := []) (tt_X7_does (xl X) (xb X) (xD X) hq hM7) cw_X7_194 ps_rc20 hq (ps_room hRm (by decide)) rfl rfl (Nat.le_of_ble_eq_true rfl) dX7_carryOut_32 ?_
        refine ps_istoren3 C rfl dX7_carryOut_35 ?_
        refine ps_iloadn3 C dX7_carryOut_36 ?_
        refine ps_if_ge C 46 dX7_carryOut_37 rfl (fun c11 => ?_) (fun c11 => ?_)
        · replace h := ps_ip c11 h
          exact bk_X7_carryOut_46 C hRm hfin hq (fun a1' a2' M' h' => ih a1' a2' M' h') a1 a2 r7 _ h
        · replace h := ps_in0 c11 h
          refine ps_iloadn3 C dX7_carryOut_40 ?_
          refine ps_bipush C dX7_carryOut_41 pb_m6 ?_
          refine ps_ic_ne C 50 dX7_carryOut_43 rfl (fun c10 => ?_) (fun c10 => ?_)
          · replace h := ps_in0 c10 h
            refine ps_iconst C dX7_carryOut_50 pi_0 ?_
            refine ps_istoren2 C rfl dX7_carryOut_51 ?_
            refine ps_iloadn1 C dX7_carryOut_52 ?_
            refine ps_iloadn2 C dX7_carryOut_53 ?_
            refine ps_if_eq C 61 dX7_carryOut_54 rfl (fun _ => ?_) (fun c => absurd c (by decide))
            refine ps_iconst C dX7_carryOut_61 pi_0 ?_
            refine ps_iadd C dX7_carryOut_62 ?_
            refine ps_nmi (fun x9 ex9 => ?_)
            replace h := ps_lt ex9 h
            refine ps_istoren1 C rfl dX7_carryOut_63 ?_
            refine ps_goto C 18 dX7_carryOut_64 rfl ?_
            refine ps_wk (lv' := [some (.ref (xb X + q)), some (.int x9), some (.int (nI 0)), none]) (ps_le_s rfl (ps_le_s rfl (ps_le_s rfl (ps_le_n ps_le_0)))) ?_
            exact ih x9 (nI 0) _ h
          · replace h := ps_ip c10 h
            exact bk_X7_carryOut_46 C hRm hfin hq (fun a1' a2' M' h' => ih a1' a2' M' h') a1 a2 r7 _ h
set_option maxRecDepth 10000 in
theorem tt_X7_carryOut (l : Launch) (b : Nat) (D : va_G) {q : Nat} (hq : ps_ck 20 q = true) {M M9 : ps_M} {r : Int32} (h : ff_X7_carryOut q  M = some (r, M9)) : ps_Ti l b D yX7_carryOut cX7_carryOut 4 .int 6 [.ref (b + q)] M r M9 := by
  refine ps_met_i (own := RX7) (lv := [some (.ref (b + q)), none, none, none]) (by decide) rfl rfl (Nat.le_of_ble_eq_true rfl) rfl (fun X eX1 eX2 eX3 hRm eX5 C hfin => ?_)
  subst eX1 eX2 eX3
  unfold ff_X7_carryOut at h
  refine ps_aloadn0 C dX7_carryOut_0 ?_
  obtain ⟨r1, M1, hM1, h⟩ := ps_bd h
  refine ps_goV_i C (rest := []) (tt_X7_faultOf (xl X) (xb X) (xD X) hq hM1) cw_X7_191 ps_rc20 hq (ps_room hRm (by decide)) rfl rfl (Nat.le_of_ble_eq_true rfl) dX7_carryOut_1 ?_
  refine ps_if_lt C 10 dX7_carryOut_4 rfl (fun c14 => ?_) (fun c14 => ?_)
  · replace h := ps_ip c14 h
    refine ps_aloadn0 C dX7_carryOut_10 ?_
    obtain ⟨r2, M2, hM2, h⟩ := ps_bd h
    refine ps_goV_v C (rest := []) (tt_X7_hold (xl X) (xb X) (xD X) hq hM2) cw_X7_100 ps_rc20 hq (ps_room hRm (by decide)) rfl rfl (Nat.le_of_ble_eq_true rfl) dX7_carryOut_11 ?_
    refine ps_iconst C dX7_carryOut_14 pi_0 ?_
    refine ps_istoren1 C rfl dX7_carryOut_15 ?_
    refine ps_iconst C dX7_carryOut_16 pi_1 ?_
    refine ps_istoren2 C rfl dX7_carryOut_17 ?_
    exact bk_X7_carryOut_18 C hRm hfin hq ps_fu (nI 0) (nI 1) _ h
  · replace h := ps_in0 c14 h
    refine ps_bipush C dX7_carryOut_7 pb_m3 ?_
    exact ps_end_i h hfin dX7_carryOut_9 rfl
set_option maxRecDepth 10000 in
theorem bk_X7_undo_22 {X : ps_X} (C : ps_C X RX7 cX7_undo) (hRm : xR X = ps_lvl 0) {r : Int32} {M9 : ps_M} (hfin : ∀ pc lv, decode cX7_undo pc = .ok (.ireturn, 1) → narrow .int (.int r) = .int r → ps_G X M9 pc lv [.int r]) {q : Nat} (hq : ps_ck 20 q = true) : ∀ (n : Nat) (a1 : Int32) (M : ps_M), fk_X7_undo_22 q n a1 M = some (r, M9) → ps_G X M 22 [some (.ref (xb X + q)), some (.int a1)] [] := by
  intro n
  induction n with
  | zero => intro a1 M h; rw [fk_X7_undo_22] at h; cases h
  | succ n ih =>
    intro a1 M h
    rw [fk_X7_undo_22] at h
    refine ps_iloadn1 C dX7_undo_22 ?_
    refine ps_sipush C dX7_undo_23 pj_937 ?_
    refine ps_ic_ge C 56 dX7_undo_26 rfl (fun c6 => ?_) (fun c6 => ?_)
    · replace h := ps_ip c6 h
      refine ps_aloadn0 C dX7_undo_56 ?_
      refine gf_X7_43 C hq dX7_undo_57 ?_
      exact ps_end_i h hfin dX7_undo_60 rfl
    · replace h := ps_in0 c6 h
      refine ps_aloadn0 C dX7_undo_29 ?_
      refine gf_X7_7 C hq dX7_undo_30 ?_
      refine ps_iloadn1 C dX7_undo_33 ?_
      refine ps_aloadn0 C dX7_undo_34 ?_
      refine gf_X7_19 C hq dX7_undo_35 ?_
      refine ps_sipush C dX7_undo_38 pj_937 ?_
      refine ps_aloadn0 C dX7_undo_41 ?_
      refine gf_X7_43 C hq dX7_undo_42 ?_
      refine ps_imul C dX7_undo_45 ?_
      refine ps_iloadn1 C dX7_undo_46 ?_
      refine ps_iadd C dX7_undo_47 ?_
      obtain ⟨hi2, h⟩ := ps_gd h
      refine ps_iald C (kf_20_4 hq) (fun _ _ => rfl) hi2 dX7_undo_48 ?_
      obtain ⟨hi3, h⟩ := ps_gd h
      refine ps_iast C (kf_20_1 hq) (fun _ _ => rfl) hi3 dX7_undo_49 (fun M4 eM4 => ?_)
      replace h := ps_lt eM4 h
      refine ps_iinc1 C rfl (nI 1) pi_1 dX7_undo_50 (fun x5 ex5 => ?_)
      replace h := ps_lt ex5 h
      refine ps_goto C 22 dX7_undo_53 rfl ?_
      exact ih x5 _ h
set_option maxRecDepth 10000 in
theorem tt_X7_undo (l : Launch) (b : Nat) (D : va_G) {q : Nat} (hq : ps_ck 20 q = true) {M M9 : ps_M} {r : Int32} (h : ff_X7_undo q  M = some (r, M9)) : ps_Ti l b D yX7_undo cX7_undo 2 .int 0 [.ref (b + q)] M r M9 := by
  refine ps_met_i (own := RX7) (lv := [some (.ref (b + q)), none]) (by decide) rfl rfl (Nat.le_of_ble_eq_true rfl) rfl (fun X eX1 eX2 eX3 hRm eX5 C hfin => ?_)
  subst eX1 eX2 eX3
  unfold ff_X7_undo at h
  refine ps_aloadn0 C dX7_undo_0 ?_
  refine gf_X7_43 C hq dX7_undo_1 ?_
  refine ps_if_ne C 10 dX7_undo_4 rfl (fun c7 => ?_) (fun c7 => ?_)
  · replace h := ps_in0 c7 h
    refine ps_aloadn0 C dX7_undo_10 ?_
    refine ps_dup C rfl dX7_undo_11 ?_
    refine gf_X7_43 C hq dX7_undo_12 ?_
    refine ps_iconst C dX7_undo_15 pi_1 ?_
    refine ps_isub C dX7_undo_16 ?_
    refine pf_X7_43 C hq dX7_undo_17 (fun M1 eM1 => ?_)
    replace h := ps_lt eM1 h
    refine ps_iconst C dX7_undo_20 pi_0 ?_
    refine ps_istoren1 C rfl dX7_undo_21 ?_
    exact bk_X7_undo_22 C hRm hfin hq ps_fu (nI 0) _ h
  · replace h := ps_ip c7 h
    refine ps_bipush C dX7_undo_7 pb_m5 ?_
    exact ps_end_i h hfin dX7_undo_9 rfl
set_option maxRecDepth 10000 in
theorem bk_X7_save_14 {X : ps_X} (C : ps_C X RX7 cX7_save) (hRm : xR X = ps_lvl 1) {r : Int32} {M9 : ps_M} (hfin : ∀ pc lv, decode cX7_save pc = .ok (.ireturn, 1) → narrow .int (.int r) = .int r → ps_G X M9 pc lv [.int r]) {q : Nat} (hq : ps_ck 20 q = true) : ∀ (n : Nat) (a1 : Int32) (a2 : Int32) (M : ps_M), fk_X7_save_14 q n a1 a2 M = some (r, M9) → ps_G X M 14 [some (.ref (xb X + q)), some (.int a1), some (.int a2)] [] := by
  intro n
  induction n with
  | zero => intro a1 a2 M h; rw [fk_X7_save_14] at h; cases h
  | succ n ih =>
    intro a1 a2 M h
    rw [fk_X7_save_14] at h
    refine ps_iloadn2 C dX7_save_14 ?_
    refine ps_sipush C dX7_save_15 pj_937 ?_
    refine ps_ic_ge C 45 dX7_save_18 rfl (fun c9 => ?_) (fun c9 => ?_)
    · replace h := ps_ip c9 h
      refine ps_aloadn0 C dX7_save_45 ?_
      refine gf_X7_25 C hq dX7_save_46 ?_
      refine ps_iloadn1 C dX7_save_49 ?_
      refine ps_iconst C dX7_save_50 pi_1 ?_
      obtain ⟨hi2, h⟩ := ps_gd h
      refine ps_zast C (kf_20_6 hq) (fun _ _ => rfl) hi2 (by decide) dX7_save_51 (fun M3 eM3 => ?_)
      replace h := ps_lt eM3 h
      refine ps_aloadn0 C dX7_save_52 ?_
      refine gf_X7_7 C hq dX7_save_53 ?_
      refine ps_iconst C dX7_save_56 pi_5 ?_
      obtain ⟨hi4, h⟩ := ps_gd h
      refine ps_iald C (kf_20_1 hq) (fun _ _ => rfl) hi4 dX7_save_57 ?_
      exact ps_end_i h hfin dX7_save_58 rfl
    · replace h := ps_in0 c9 h
      refine ps_aloadn0 C dX7_save_21 ?_
      refine gf_X7_22 C hq dX7_save_22 ?_
      refine ps_sipush C dX7_save_25 pj_937 ?_
      refine ps_iloadn1 C dX7_save_28 ?_
      refine ps_imul C dX7_save_29 ?_
      refine ps_iloadn2 C dX7_save_30 ?_
      refine ps_iadd C dX7_save_31 ?_
      refine ps_aloadn0 C dX7_save_32 ?_
      refine gf_X7_7 C hq dX7_save_33 ?_
      refine ps_iloadn2 C dX7_save_36 ?_
      obtain ⟨hi5, h⟩ := ps_gd h
      refine ps_iald C (kf_20_1 hq) (fun _ _ => rfl) hi5 dX7_save_37 ?_
      obtain ⟨hi6, h⟩ := ps_gd h
      refine ps_iast C (kf_20_5 hq) (fun _ _ => rfl) hi6 dX7_save_38 (fun M7 eM7 => ?_)
      replace h := ps_lt eM7 h
      refine ps_iinc2 C rfl (nI 1) pi_1 dX7_save_39 (fun x8 ex8 => ?_)
      replace h := ps_lt ex8 h
      refine ps_goto C 14 dX7_save_42 rfl ?_
      exact ih a1 x8 _ h
set_option maxRecDepth 10000 in
theorem tt_X7_save (l : Launch) (b : Nat) (D : va_G) {q : Nat} (hq : ps_ck 20 q = true) {a1 : Int32} {M M9 : ps_M} {r : Int32} (h : ff_X7_save q a1 M = some (r, M9)) : ps_Ti l b D yX7_save cX7_save 3 .int 1 [.ref (b + q), .int a1] M r M9 := by
  refine ps_met_i (own := RX7) (lv := [some (.ref (b + q)), some (.int a1), none]) (by decide) rfl rfl (Nat.le_of_ble_eq_true rfl) rfl (fun X eX1 eX2 eX3 hRm eX5 C hfin => ?_)
  subst eX1 eX2 eX3
  unfold ff_X7_save at h
  refine ps_iloadn1 C dX7_save_0 ?_
  refine ps_iconst C dX7_save_1 pi_0 ?_
  refine ps_iconst C dX7_save_2 pi_1 ?_
  obtain ⟨r1, M1, hM1, h⟩ := ps_bd h
  refine ps_goS_i C (rest := []) (tt_X7_in (xl X) (xb X) (xD X) hM1) cw_X7_39 (ps_room hRm (by decide)) rfl rfl (Nat.le_of_ble_eq_true rfl) dX7_save_3 ?_
  refine ps_if_ne C 12 dX7_save_6 rfl (fun c10 => ?_) (fun c10 => ?_)
  · replace h := ps_in0 c10 h
    refine ps_iconst C dX7_save_12 pi_0 ?_
    refine ps_istoren2 C rfl dX7_save_13 ?_
    exact bk_X7_save_14 C hRm hfin hq ps_fu a1 (nI 0) _ h
  · replace h := ps_ip c10 h
    refine ps_bipush C dX7_save_9 pb_m2 ?_
    exact ps_end_i h hfin dX7_save_11 rfl
set_option maxRecDepth 10000 in
theorem bk_X7_restore_30 {X : ps_X} (C : ps_C X RX7 cX7_restore) (hRm : xR X = ps_lvl 1) {r : Int32} {M9 : ps_M} (hfin : ∀ pc lv, decode cX7_restore pc = .ok (.ireturn, 1) → narrow .int (.int r) = .int r → ps_G X M9 pc lv [.int r]) {q : Nat} (hq : ps_ck 20 q = true) : ∀ (n : Nat) (a1 : Int32) (a2 : Int32) (M : ps_M), fk_X7_restore_30 q n a1 a2 M = some (r, M9) → ps_G X M 30 [some (.ref (xb X + q)), some (.int a1), some (.int a2)] [] := by
  intro n
  induction n with
  | zero => intro a1 a2 M h; rw [fk_X7_restore_30] at h; cases h
  | succ n ih =>
    intro a1 a2 M h
    rw [fk_X7_restore_30] at h
    refine ps_iloadn2 C dX7_restore_30 ?_
    refine ps_sipush C dX7_restore_31 pj_937 ?_
    refine ps_ic_ge C 61 dX7_restore_34 rfl (fun c10 => ?_) (fun c10 => ?_)
    · replace h := ps_ip c10 h
      refine ps_aloadn0 C dX7_restore_61 ?_
      refine ps_aloadn0 C dX7_restore_62 ?_
      refine gf_X7_7 C hq dX7_restore_63 ?_
      refine ps_iconst C dX7_restore_66 pi_5 ?_
      obtain ⟨hi4, h⟩ := ps_gd h
      refine ps_iald C (kf_20_1 hq) (fun _ _ => rfl) hi4 dX7_restore_67 ?_
      obtain ⟨r5, M5, hM5, h⟩ := ps_bd h
      refine ps_goV_i C (rest := []) (tt_X7_recorded (xl X) (xb X) (xD X) hq hM5) cw_X7_103 ps_rc20 hq (ps_room hRm (by decide)) rfl rfl (Nat.le_of_ble_eq_true rfl) dX7_restore_68 ?_
      exact ps_end_i h hfin dX7_restore_71 rfl
    · replace h := ps_in0 c10 h
      refine ps_aloadn0 C dX7_restore_37 ?_
      refine gf_X7_7 C hq dX7_restore_38 ?_
      refine ps_iloadn2 C dX7_restore_41 ?_
      refine ps_aloadn0 C dX7_restore_42 ?_
      refine gf_X7_22 C hq dX7_restore_43 ?_
      refine ps_sipush C dX7_restore_46 pj_937 ?_
      refine ps_iloadn1 C dX7_restore_49 ?_
      refine ps_imul C dX7_restore_50 ?_
      refine ps_iloadn2 C dX7_restore_51 ?_
      refine ps_iadd C dX7_restore_52 ?_
      obtain ⟨hi6, h⟩ := ps_gd h
      refine ps_iald C (kf_20_5 hq) (fun _ _ => rfl) hi6 dX7_restore_53 ?_
      obtain ⟨hi7, h⟩ := ps_gd h
      refine ps_iast C (kf_20_1 hq) (fun _ _ => rfl) hi7 dX7_restore_54 (fun M8 eM8 => ?_)
      replace h := ps_lt eM8 h
      refine ps_iinc2 C rfl (nI 1) pi_1 dX7_restore_55 (fun x9 ex9 => ?_)
      replace h := ps_lt ex9 h
      refine ps_goto C 30 dX7_restore_58 rfl ?_
      exact ih a1 x9 _ h
set_option maxRecDepth 10000 in
theorem tt_X7_restore (l : Launch) (b : Nat) (D : va_G) {q : Nat} (hq : ps_ck 20 q = true) {a1 : Int32} {M M9 : ps_M} {r : Int32} (h : ff_X7_restore q a1 M = some (r, M9)) : ps_Ti l b D yX7_restore cX7_restore 3 .int 1 [.ref (b + q), .int a1] M r M9 := by
  refine ps_met_i (own := RX7) (lv := [some (.ref (b + q)), some (.int a1), none]) (by decide) rfl rfl (Nat.le_of_ble_eq_true rfl) rfl (fun X eX1 eX2 eX3 hRm eX5 C hfin => ?_)
  subst eX1 eX2 eX3
  unfold ff_X7_restore at h
  refine ps_iloadn1 C dX7_restore_0 ?_
  refine ps_iconst C dX7_restore_1 pi_0 ?_
  refine ps_iconst C dX7_restore_2 pi_1 ?_
  obtain ⟨r1, M1, hM1, h⟩ := ps_bd h
  refine ps_goS_i C (rest := []) (tt_X7_in (xl X) (xb X) (xD X) hM1) cw_X7_39 (ps_room hRm (by decide)) rfl rfl (Nat.le_of_ble_eq_true rfl) dX7_restore_3 ?_
  refine ps_if_ne C 12 dX7_restore_6 rfl (fun c12 => ?_) (fun c12 => ?_)
  · replace h := ps_in0 c12 h
    refine ps_aloadn0 C dX7_restore_12 ?_
    refine gf_X7_25 C hq dX7_restore_13 ?_
    refine ps_iloadn1 C dX7_restore_16 ?_
    obtain ⟨hi2, h⟩ := ps_gd h
    refine ps_zald C (kf_20_6 hq) (fun _ _ => rfl) hi2 dX7_restore_17 ?_
    refine ps_if_ne C 24 dX7_restore_18 rfl (fun c11 => ?_) (fun c11 => ?_)
    · replace h := ps_in0 c11 h
      refine ps_aloadn0 C dX7_restore_24 ?_
      obtain ⟨r3, M3, hM3, h⟩ := ps_bd h
      refine ps_goV_v C (rest := []) (tt_X7_hold (xl X) (xb X) (xD X) hq hM3) cw_X7_100 ps_rc20 hq (ps_room hRm (by decide)) rfl rfl (Nat.le_of_ble_eq_true rfl) dX7_restore_25 ?_
      refine ps_iconst C dX7_restore_28 pi_0 ?_
      refine ps_istoren2 C rfl dX7_restore_29 ?_
      exact bk_X7_restore_30 C hRm hfin hq ps_fu a1 (nI 0) _ h
    · replace h := ps_ip c11 h
      refine ps_bipush C dX7_restore_21 pb_m5 ?_
      exact ps_end_i h hfin dX7_restore_23 rfl
  · replace h := ps_ip c12 h
    refine ps_bipush C dX7_restore_9 pb_m2 ?_
    exact ps_end_i h hfin dX7_restore_11 rfl
