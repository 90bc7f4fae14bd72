set_option maxRecDepth 10000 in
theorem bk_X5_copyFrom_2 {X : ps_X} (C : ps_C X RX5 cX5_copyFrom) (hRm : xR X = ps_lvl 1) {r : Int32} {M9 : ps_M} (hfin : ∀ pc lv, decode cX5_copyFrom pc = .ok (.return_, 1) → ps_G X M9 pc lv []) {q : Nat} (hq : ps_ck 3 q = true) : ∀ (n : Nat) (b1 : Nat) (a2 : Int32) (hb1 : ps_ck 3 b1 = true) (M : ps_M), fk_X5_copyFrom_2 q n b1 a2 M = some (r, M9) → ps_G X M 2 [some (.ref (xb X + q)), some (.ref (xb X + b1)), some (.int a2)] [] := by
  intro n
  induction n with
  | zero => intro b1 a2 hb1 M h; rw [fk_X5_copyFrom_2] at h; cases h
  | succ n ih =>
    intro b1 a2 hb1 M h
    rw [fk_X5_copyFrom_2] at h
    refine ps_iloadn2 C dX5_copyFrom_2 ?_
    refine ps_bipush C dX5_copyFrom_3 pb_8 ?_
    refine ps_ic_ge C 33 dX5_copyFrom_5 rfl (fun c11 => ?_) (fun c11 => ?_)
    · replace h := ps_ip c11 h
      refine ps_aloadn1 C dX5_copyFrom_33 ?_
      refine gf_X5_16 C hb1 dX5_copyFrom_34 ?_
      refine ps_iconst C dX5_copyFrom_37 pi_0 ?_
      refine ps_aloadn0 C dX5_copyFrom_38 ?_
      refine gf_X5_16 C hq dX5_copyFrom_39 ?_
      refine ps_iconst C dX5_copyFrom_42 pi_0 ?_
      refine ps_bipush C dX5_copyFrom_43 pb_8 ?_
      obtain ⟨ho1, h⟩ := ps_gd h
      refine ps_copy C (kf_3_10 hb1) (fun _ _ => rfl) (kf_3_10 hq) (fun _ _ => rfl) cw_X5_27 ho1 (by rw [hRm]; exact Nat.le_of_ble_eq_true rfl) (by rw [hRm]; exact Nat.le_of_ble_eq_true rfl) dX5_copyFrom_45 (fun M2 eM2 => ?_)
      replace h := ps_lt eM2 h
      refine ps_aloadn1 C dX5_copyFrom_48 ?_
      refine gf_X5_20 C hb1 dX5_copyFrom_49 ?_
      refine ps_iconst C dX5_copyFrom_52 pi_0 ?_
      refine ps_aloadn0 C dX5_copyFrom_53 ?_
      refine gf_X5_20 C hq dX5_copyFrom_54 ?_
      refine ps_iconst C dX5_copyFrom_57 pi_0 ?_
      refine ps_bipush C dX5_copyFrom_58 pb_8 ?_
      obtain ⟨ho3, h⟩ := ps_gd h
      refine ps_copy C (kf_3_11 hb1) (fun _ _ => rfl) (kf_3_11 hq) (fun _ _ => rfl) cw_X5_27 ho3 (by rw [hRm]; exact Nat.le_of_ble_eq_true rfl) (by rw [hRm]; exact Nat.le_of_ble_eq_true rfl) dX5_copyFrom_60 (fun M4 eM4 => ?_)
      replace h := ps_lt eM4 h
      refine ps_aloadn0 C dX5_copyFrom_63 ?_
      refine ps_aloadn1 C dX5_copyFrom_64 ?_
      refine gf_X5_23 C hb1 dX5_copyFrom_65 ?_
      refine pf_X5_23 C hq dX5_copyFrom_68 (fun M5 eM5 => ?_)
      replace h := ps_lt eM5 h
      exact ps_end_v h hfin dX5_copyFrom_71
    · replace h := ps_in0 c11 h
      refine ps_aloadn1 C dX5_copyFrom_8 ?_
      refine gf_X5_11 C hb1 dX5_copyFrom_9 ?_
      refine ps_iloadn2 C dX5_copyFrom_12 ?_
      obtain ⟨hi6, h⟩ := ps_gd h
      refine ps_ald4 C (kf_3_1 hb1) hi6 dX5_copyFrom_13 ?_
      refine ps_iconst C dX5_copyFrom_14 pi_0 ?_
      refine ps_aloadn0 C dX5_copyFrom_15 ?_
      refine gf_X5_11 C hq dX5_copyFrom_16 ?_
      refine ps_iloadn2 C dX5_copyFrom_19 ?_
      obtain ⟨hi7, h⟩ := ps_gd h
      refine ps_ald4 C (kf_3_1 hq) hi7 dX5_copyFrom_20 ?_
      refine ps_iconst C dX5_copyFrom_21 pi_0 ?_
      refine ps_bipush C dX5_copyFrom_22 pb_20 ?_
      obtain ⟨ho8, h⟩ := ps_gd h
      refine ps_copy C (ke_4 (kf_3_1 hb1) hi6) (fun _ _ => rfl) (ke_4 (kf_3_1 hq) hi7) (fun _ _ => rfl) cw_X5_27 ho8 (by rw [hRm]; exact Nat.le_of_ble_eq_true rfl) (by rw [hRm]; exact Nat.le_of_ble_eq_true rfl) dX5_copyFrom_24 (fun M9 eM9 => ?_)
      replace h := ps_lt eM9 h
      refine ps_iinc2 C rfl (nI 1) pi_1 dX5_copyFrom_27 (fun x10 ex10 => ?_)
      replace h := ps_lt ex10 h
      refine ps_goto C 2 dX5_copyFrom_30 rfl ?_
      exact ih b1 x10 hb1 _ h
set_option maxRecDepth 10000 in
theorem tt_X5_copyFrom (l : Launch) (b : Nat) (D : va_G) {q : Nat} (hq : ps_ck 3 q = true) {b1 : Nat} (hb1 : ps_ck 3 b1 = true) {M M9 : ps_M} {r : Int32} (h : ff_X5_copyFrom q b1 M = some (r, M9)) : ps_Tv l b D yX5_copyFrom cX5_copyFrom 3 1 [.ref (b + q), .ref (b + b1)] M M9 := by
  refine ps_met_v (own := RX5) (lv := [some (.ref (b + q)), some (.ref (b + b1)), none]) (by decide) rfl rfl (Nat.le_of_ble_eq_true rfl) rfl (fun X eX1 eX2 eX3 hRm eX5 C hfin => ?_)
  subst eX1 eX2 eX3
  unfold ff_X5_copyFrom at h
  refine ps_iconst C dX5_copyFrom_0 pi_0 ?_
  refine ps_istoren2 C rfl dX5_copyFrom_1 ?_
  exact bk_X5_copyFrom_2 C hRm hfin hq ps_fu b1 (nI 0) hb1 _ h
set_option maxRecDepth 10000 in
theorem bk_X3_copyFrom_2 {X : ps_X} (C : ps_C X RX3 cX3_copyFrom) (hRm : xR X = ps_lvl 1) {r : Int32} {M9 : ps_M} (hfin : ∀ pc lv, decode cX3_copyFrom pc = .ok (.return_, 1) → ps_G X M9 pc lv []) {q : Nat} (hq : ps_ck 9 q = true) : ∀ (n : Nat) (b1 : Nat) (a2 : Int32) (hb1 : ps_ck 9 b1 = true) (M : ps_M), fk_X3_copyFrom_2 q n b1 a2 M = some (r, M9) → ps_G X M 2 [some (.ref (xb X + q)), some (.ref (xb X + b1)), some (.int a2)] [] := by
  intro n
  induction n with
  | zero => intro b1 a2 hb1 M h; rw [fk_X3_copyFrom_2] at h; cases h
  | succ n ih =>
    intro b1 a2 hb1 M h
    rw [fk_X3_copyFrom_2] at h
    refine ps_iloadn2 C dX3_copyFrom_2 ?_
    refine ps_iconst C dX3_copyFrom_3 pi_4 ?_
    refine ps_ic_ge C 32 dX3_copyFrom_4 rfl (fun c11 => ?_) (fun c11 => ?_)
    · replace h := ps_ip c11 h
      refine ps_aloadn0 C dX3_copyFrom_32 ?_
      refine ps_aloadn1 C dX3_copyFrom_33 ?_
      refine gf_X3_16 C hb1 dX3_copyFrom_34 ?_
      refine pf_X3_16 C hq dX3_copyFrom_37 (fun M1 eM1 => ?_)
      replace h := ps_lt eM1 h
      refine ps_aloadn0 C dX3_copyFrom_40 ?_
      refine ps_aloadn1 C dX3_copyFrom_41 ?_
      refine gf_X3_20 C hb1 dX3_copyFrom_42 ?_
      refine pf_X3_20 C hq dX3_copyFrom_45 (fun M2 eM2 => ?_)
      replace h := ps_lt eM2 h
      refine ps_aloadn0 C dX3_copyFrom_48 ?_
      refine ps_aloadn1 C dX3_copyFrom_49 ?_
      refine gf_X3_23 C hb1 dX3_copyFrom_50 ?_
      refine pf_X3_23 C hq dX3_copyFrom_53 (fun M3 eM3 => ?_)
      replace h := ps_lt eM3 h
      refine ps_aloadn0 C dX3_copyFrom_56 ?_
      refine ps_aloadn1 C dX3_copyFrom_57 ?_
      refine gf_X3_26 C hb1 dX3_copyFrom_58 ?_
      refine pf_X3_26 C hq dX3_copyFrom_61 (fun M4 eM4 => ?_)
      replace h := ps_lt eM4 h
      refine ps_aloadn0 C dX3_copyFrom_64 ?_
      refine ps_aloadn1 C dX3_copyFrom_65 ?_
      refine gf_X3_29 C hb1 dX3_copyFrom_66 ?_
      refine pf_X3_29 C hq dX3_copyFrom_69 (fun M5 eM5 => ?_)
      replace h := ps_lt eM5 h
      exact ps_end_v h hfin dX3_copyFrom_72
    · replace h := ps_in0 c11 h
      refine ps_aloadn1 C dX3_copyFrom_7 ?_
      refine gf_X3_13 C hb1 dX3_copyFrom_8 ?_
      refine ps_iloadn2 C dX3_copyFrom_11 ?_
      obtain ⟨hi6, h⟩ := ps_gd h
      refine ps_ald10 C (kf_9_1 hb1) hi6 dX3_copyFrom_12 ?_
      refine ps_iconst C dX3_copyFrom_13 pi_0 ?_
      refine ps_aloadn0 C dX3_copyFrom_14 ?_
      refine gf_X3_13 C hq dX3_copyFrom_15 ?_
      refine ps_iloadn2 C dX3_copyFrom_18 ?_
      obtain ⟨hi7, h⟩ := ps_gd h
      refine ps_ald10 C (kf_9_1 hq) hi7 dX3_copyFrom_19 ?_
      refine ps_iconst C dX3_copyFrom_20 pi_0 ?_
      refine ps_bipush C dX3_copyFrom_21 pb_61 ?_
      obtain ⟨ho8, h⟩ := ps_gd h
      refine ps_copy C (ke_10 (kf_9_1 hb1) hi6) (fun _ _ => rfl) (ke_10 (kf_9_1 hq) hi7) (fun _ _ => rfl) cw_X3_32 ho8 (by rw [hRm]; exact Nat.le_of_ble_eq_true rfl) (by rw [hRm]; exact Nat.le_of_ble_eq_true rfl) dX3_copyFrom_23 (fun M9 eM9 => ?_)
      replace h := ps_lt eM9 h
      refine ps_iinc2 C rfl (nI 1) pi_1 dX3_copyFrom_26 (fun x10 ex10 => ?_)
      replace h := ps_lt ex10 h
      refine ps_goto C 2 dX3_copyFrom_29 rfl ?_
      exact ih b1 x10 hb1 _ h
set_option maxRecDepth 10000 in
theorem tt_X3_copyFrom (l : Launch) (b : Nat) (D : va_G) {q : Nat} (hq : ps_ck 9 q = true) {b1 : Nat} (hb1 : ps_ck 9 b1 = true) {M M9 : ps_M} {r : Int32} (h : ff_X3_copyFrom q b1 M = some (r, M9)) : ps_Tv l b D yX3_copyFrom cX3_copyFrom 3 1 [.ref (b + q), .ref (b + b1)] M M9 := by
  refine ps_met_v (own := RX3) (lv := [some (.ref (b + q)), some (.ref (b + b1)), none]) (by decide) rfl rfl (Nat.le_of_ble_eq_true rfl) rfl (fun X eX1 eX2 eX3 hRm eX5 C hfin => ?_)
  subst eX1 eX2 eX3
  unfold ff_X3_copyFrom at h
  refine ps_iconst C dX3_copyFrom_0 pi_0 ?_
  refine ps_istoren2 C rfl dX3_copyFrom_1 ?_
  exact bk_X3_copyFrom_2 C hRm hfin hq ps_fu b1 (nI 0) hb1 _ h
set_option maxRecDepth 10000 in
theorem bk_X1_copyFrom_27 {X : ps_X} (C : ps_C X RX1 cX1_copyFrom) (hRm : xR X = ps_lvl 2) {r : Int32} {M9 : ps_M} (hfin : ∀ pc lv, decode cX1_copyFrom pc = .ok (.return_, 1) → ps_G X M9 pc lv []) {q : Nat} (hq : ps_ck 1 q = true) : ∀ (n : Nat) (b1 : Nat) (a2 : Int32) (hb1 : ps_ck 1 b1 = true) (M : ps_M), fk_X1_copyFrom_27 q n b1 a2 M = some (r, M9) → ps_G X M 27 [some (.ref (xb X + q)), some (.ref (xb X + b1)), some (.int a2)] [] := by
  intro n
  induction n with
  | zero => intro b1 a2 hb1 M h; rw [fk_X1_copyFrom_27] at h; cases h
  | succ n ih =>
    intro b1 a2 hb1 M h
    rw [fk_X1_copyFrom_27] at h
    refine ps_iloadn2 C dX1_copyFrom_27 ?_
    refine ps_iconst C dX1_copyFrom_28 pi_4 ?_
    refine ps_ic_ge C 53 dX1_copyFrom_29 rfl (fun c10 => ?_) (fun c10 => ?_)
    · replace h := ps_ip c10 h
      refine ps_aloadn0 C dX1_copyFrom_53 ?_
      refine ps_aloadn1 C dX1_copyFrom_54 ?_
      refine gf_X1_28 C hb1 dX1_copyFrom_55 ?_
      refine pf_X1_28 C hq dX1_copyFrom_58 (fun M4 eM4 => ?_)
      replace h := ps_lt eM4 h
      refine ps_aloadn0 C dX1_copyFrom_61 ?_
      refine ps_aloadn1 C dX1_copyFrom_62 ?_
      refine gf_X1_32 C hb1 dX1_copyFrom_63 ?_
      refine pf_X1_32 C hq dX1_copyFrom_66 (fun M5 eM5 => ?_)
      replace h := ps_lt eM5 h
      exact ps_end_v h hfin dX1_copyFrom_69
    · replace h := ps_in0 c10 h
      refine ps_aloadn0 C dX1_copyFrom_32 ?_
      refine gf_X1_24 C hq dX1_copyFrom_33 ?_
      refine ps_iloadn2 C dX1_copyFrom_36 ?_
      obtain ⟨hi6, h⟩ := ps_gd h
      refine ps_ald7 C (kf_1_14 hq) hi6 dX1_copyFrom_37 ?_
      refine ps_aloadn1 C dX1_copyFrom_38 ?_
      refine gf_X1_24 C hb1 dX1_copyFrom_39 ?_
      refine ps_iloadn2 C dX1_copyFrom_42 ?_
      obtain ⟨hi7, h⟩ := ps_gd h
      refine ps_ald7 C (kf_1_14 hb1) hi7 dX1_copyFrom_43 ?_
      obtain ⟨r8, M8, hM8, h⟩ := ps_bd h
      refine ps_goV_v C (rest := []) (tt_X3_copyFrom (xl X) (xb X) (xD X) (ke_7 (kf_1_14 hq) hi6) (ke_7 (kf_1_14 hb1) hi7) hM8) cw_X1_52 ps_rc9 (ke_7 (kf_1_14 hq) hi6) (ps_room hRm (by decide)) rfl rfl (Nat.le_of_ble_eq_true rfl) dX1_copyFrom_44 ?_
      refine ps_iinc2 C rfl (nI 1) pi_1 dX1_copyFrom_47 (fun x9 ex9 => ?_)
      replace h := ps_lt ex9 h
      refine ps_goto C 27 dX1_copyFrom_50 rfl ?_
      exact ih b1 x9 hb1 _ h
set_option maxRecDepth 10000 in
theorem tt_X1_copyFrom (l : Launch) (b : Nat) (D : va_G) {q : Nat} (hq : ps_ck 1 q = true) {b1 : Nat} (hb1 : ps_ck 1 b1 = true) {M M9 : ps_M} {r : Int32} (h : ff_X1_copyFrom q b1 M = some (r, M9)) : ps_Tv l b D yX1_copyFrom cX1_copyFrom 3 2 [.ref (b + q), .ref (b + b1)] M M9 := by
  refine ps_met_v (own := RX1) (lv := [some (.ref (b + q)), some (.ref (b + b1)), none]) (by decide) rfl rfl (Nat.le_of_ble_eq_true rfl) rfl (fun X eX1 eX2 eX3 hRm eX5 C hfin => ?_)
  subst eX1 eX2 eX3
  unfold ff_X1_copyFrom at h
  refine ps_aloadn1 C dX1_copyFrom_0 ?_
  refine gf_X1_9 C hb1 dX1_copyFrom_1 ?_
  refine ps_iconst C dX1_copyFrom_4 pi_0 ?_
  refine ps_aloadn0 C dX1_copyFrom_5 ?_
  refine gf_X1_9 C hq dX1_copyFrom_6 ?_
  refine ps_iconst C dX1_copyFrom_9 pi_0 ?_
  refine ps_iconst C dX1_copyFrom_10 pi_4 ?_
  obtain ⟨ho1, h⟩ := ps_gd h
  refine ps_copy C (kf_1_1 hb1) (fun _ _ => rfl) (kf_1_1 hq) (fun _ _ => rfl) cw_X1_41 ho1 (by rw [hRm]; exact Nat.le_of_ble_eq_true rfl) (by rw [hRm]; exact Nat.le_of_ble_eq_true rfl) dX1_copyFrom_11 (fun M2 eM2 => ?_)
  replace h := ps_lt eM2 h
  refine ps_aloadn0 C dX1_copyFrom_14 ?_
  refine gf_X1_18 C hq dX1_copyFrom_15 ?_
  refine ps_aloadn1 C dX1_copyFrom_18 ?_
  refine gf_X1_18 C hb1 dX1_copyFrom_19 ?_
  obtain ⟨r3, M3, hM3, h⟩ := ps_bd h
  refine ps_goV_v C (rest := []) (tt_X5_copyFrom (xl X) (xb X) (xD X) (kf_1_2 hq) (kf_1_2 hb1) hM3) cw_X1_48 ps_rc3 (kf_1_2 hq) (ps_room hRm (by decide)) rfl rfl (Nat.le_of_ble_eq_true rfl) dX1_copyFrom_22 ?_
  refine ps_iconst C dX1_copyFrom_25 pi_0 ?_
  refine ps_istoren2 C rfl dX1_copyFrom_26 ?_
  exact bk_X1_copyFrom_27 C hRm hfin hq ps_fu b1 (nI 0) hb1 _ h
set_option maxRecDepth 10000 in
theorem tt_X0_noteBefore (l : Launch) (b : Nat) (D : va_G) {q : Nat} (hq : ps_ck 12 q = true) {b1 : Nat} (hb1 : ps_ck 1 b1 = true) {M M9 : ps_M} {r : Int32} (h : ff_X0_noteBefore q b1 M = some (r, M9)) : ps_Tv l b D yX0_noteBefore cX0_noteBefore 2 3 [.ref (b + q), .ref (b + b1)] M M9 := by
  refine ps_met_v (own := RX0) (lv := [some (.ref (b + q)), some (.ref (b + b1))]) (by decide) rfl rfl (Nat.le_of_ble_eq_true rfl) rfl (fun X eX1 eX2 eX3 hRm eX5 C hfin => ?_)
  subst eX1 eX2 eX3
  unfold ff_X0_noteBefore at h
  refine ps_aloadn0 C dX0_noteBefore_0 ?_
  refine gf_X0_16 C hq dX0_noteBefore_1 (fun hk1 => ?_)
  refine ps_aloadn1 C dX0_noteBefore_4 ?_
  obtain ⟨r2, M2, hM2, h⟩ := ps_bd h
  refine ps_goV_v C (rest := []) (tt_X1_copyFrom (xl X) (xb X) (xD X) hk1 hb1 hM2) cw_X0_24 ps_rc1 hk1 (ps_room hRm (by decide)) rfl rfl (Nat.le_of_ble_eq_true rfl) dX0_noteBefore_5 ?_
  exact ps_end_v h hfin dX0_noteBefore_8
set_option maxRecDepth 10000 in
theorem tt_X6_isError (l : Launch) (b : Nat) (D : va_G) {a0 : Int32} {M M9 : ps_M} {r : Int32} (h : ff_X6_isError a0 M = some (r, M9)) : ps_Ti l b D yX6_isError cX6_isError 1 .boolean 0 [.int a0] M r M9 := by
  refine ps_met_i (own := RX6) (lv := [some (.int a0)]) (by decide) rfl rfl (Nat.le_of_ble_eq_true rfl) rfl (fun X eX1 eX2 eX3 hRm eX5 C hfin => ?_)
  subst eX1 eX2 eX3
  unfold ff_X6_isError at h
  refine ps_iloadn0 C dX6_isError_0 ?_
  refine ps_iconst C dX6_isError_1 pi_m1 ?_
  refine ps_ic_gt C 15 dX6_isError_2 rfl (fun c2 => ?_) (fun c2 => ?_)
  · replace h := ps_ip c2 h
    refine ps_iconst C dX6_isError_15 pi_0 ?_
    exact ps_end_i h hfin dX6_isError_16 rfl
  · replace h := ps_in0 c2 h
    refine ps_iloadn0 C dX6_isError_5 ?_
    refine ps_bipush C dX6_isError_6 pb_m5 ?_
    refine ps_ic_lt C 15 dX6_isError_8 rfl (fun c1 => ?_) (fun c1 => ?_)
    · replace h := ps_ip c1 h
      refine ps_iconst C dX6_isError_15 pi_0 ?_
      exact ps_end_i h hfin dX6_isError_16 rfl
    · replace h := ps_in0 c1 h
      refine ps_iconst C dX6_isError_11 pi_1 ?_
      refine ps_goto C 16 dX6_isError_12 rfl ?_
      exact ps_end_i h hfin dX6_isError_16 rfl
set_option maxRecDepth 10000 in
theorem bk_X0_dropOldest_9 {X : ps_X} (C : ps_C X RX0 cX0_dropOldest) (hRm : xR X = ps_lvl 0) {r : Int32} {M9 : ps_M} (hfin : ∀ pc lv, decode cX0_dropOldest pc = .ok (.return_, 1) → ps_G X M9 pc lv []) {q : Nat} (hq : ps_ck 12 q = true) : ∀ (n : Nat) (b1 : Nat) (a2 : Int32) (hb1 : ps_ck 1 b1 = true) (M : ps_M), fk_X0_dropOldest_9 q n b1 a2 M = some (r, M9) → ps_G X M 9 [some (.ref (xb X + q)), some (.ref (xb X + b1)), some (.int a2)] [] := by
  intro n
  induction n with
  | zero => intro b1 a2 hb1 M h; rw [fk_X0_dropOldest_9] at h; cases h
  | succ n ih =>
    intro b1 a2 hb1 M h
    rw [fk_X0_dropOldest_9] at h
    refine ps_iloadn2 C dX0_dropOldest_9 ?_
    refine ps_bipush C dX0_dropOldest_10 pb_6 ?_
    refine ps_ic_ge C 35 dX0_dropOldest_12 rfl (fun c11 => ?_) (fun c11 => ?_)
    · replace h := ps_ip c11 h
      refine ps_aloadn0 C dX0_dropOldest_35 ?_
      refine gf_X0_11 C hq dX0_dropOldest_36 ?_
      refine ps_iconst C dX0_dropOldest_39 pi_5 ?_
      refine ps_aloadn1 C dX0_dropOldest_40 ?_
      obtain ⟨hi3, h⟩ := ps_gd h
      refine ps_ast13 C (kf_12_1 hq) hi3 hb1 dX0_dropOldest_41 (fun M4 eM4 => ?_)
      replace h := ps_lt eM4 h
      refine ps_aloadn0 C dX0_dropOldest_42 ?_
      refine ps_iconst C dX0_dropOldest_43 pi_5 ?_
      refine pf_X0_20 C hq dX0_dropOldest_44 (fun M5 eM5 => ?_)
      replace h := ps_lt eM5 h
      exact ps_end_v h hfin dX0_dropOldest_47
    · replace h := ps_in0 c11 h
      refine ps_aloadn0 C dX0_dropOldest_15 ?_
      refine gf_X0_11 C hq dX0_dropOldest_16 ?_
      refine ps_iloadn2 C dX0_dropOldest_19 ?_
      refine ps_iconst C dX0_dropOldest_20 pi_1 ?_
      refine ps_isub C dX0_dropOldest_21 ?_
      refine ps_aloadn0 C dX0_dropOldest_22 ?_
      refine gf_X0_11 C hq dX0_dropOldest_23 ?_
      refine ps_iloadn2 C dX0_dropOldest_26 ?_
      obtain ⟨hi6, h⟩ := ps_gd h
      refine ps_ald13 C (kf_12_1 hq) hi6 dX0_dropOldest_27 (fun hk7 => ?_)
      obtain ⟨hi8, h⟩ := ps_gd h
      refine ps_ast13 C (kf_12_1 hq) hi8 hk7 dX0_dropOldest_28 (fun M9 eM9 => ?_)
      replace h := ps_lt eM9 h
      refine ps_iinc2 C rfl (nI 1) pi_1 dX0_dropOldest_29 (fun x10 ex10 => ?_)
      replace h := ps_lt ex10 h
      refine ps_goto C 9 dX0_dropOldest_32 rfl ?_
      exact ih b1 x10 hb1 _ h
set_option maxRecDepth 10000 in
theorem tt_X0_dropOldest (l : Launch) (b : Nat) (D : va_G) {q : Nat} (hq : ps_ck 12 q = true) {M M9 : ps_M} {r : Int32} (h : ff_X0_dropOldest q  M = some (r, M9)) : ps_Tv l b D yX0_dropOldest cX0_dropOldest 3 0 [.ref (b + q)] M M9 := by
  refine ps_met_v (own := RX0) (lv := [some (.ref (b + q)), none, none]) (by decide) rfl rfl (Nat.le_of_ble_eq_true rfl) rfl (fun X eX1 eX2 eX3 hRm eX5 C hfin => ?_)
  subst eX1 eX2 eX3
  unfold ff_X0_dropOldest at h
  refine ps_aloadn0 C dX0_dropOldest_0 ?_
  refine gf_X0_11 C hq dX0_dropOldest_1 ?_
  refine ps_iconst C dX0_dropOldest_4 pi_0 ?_
  obtain ⟨hi1, h⟩ := ps_gd h
  refine ps_ald13 C (kf_12_1 hq) hi1 dX0_dropOldest_5 (fun hk2 => ?_)
  refine ps_astoren1 C rfl dX0_dropOldest_6 ?_
  refine ps_iconst C dX0_dropOldest_7 pi_1 ?_
  refine ps_istoren2 C rfl dX0_dropOldest_8 ?_
  exact bk_X0_dropOldest_9 C hRm hfin hq ps_fu (ps_rr M (nI 0).toNatClampNeg) (nI 1) hk2 _ h
set_option maxRecDepth 10000 in
theorem bk_X0_record_13 {X : ps_X} (C : ps_C X RX0 cX0_record) (hRm : xR X = ps_lvl 1) {r : Int32} {M9 : ps_M} (hfin : ∀ pc lv, decode cX0_record pc = .ok (.return_, 1) → ps_G X M9 pc lv []) {q : Nat} (hq : ps_ck 12 q = true)  (M : ps_M) (h : fk_X0_record_13 q  M = some (r, M9)) : ps_G X M 13 [some (.ref (xb X + q)), none] [] := by
  unfold fk_X0_record_13 at h
  refine ps_aloadn0 C dX0_record_13 ?_
  refine gf_X0_20 C hq dX0_record_14 ?_
  refine ps_if_lt C 67 dX0_record_17 rfl (fun c9 => ?_) (fun c9 => ?_)
  · replace h := ps_ip c9 h
    exact ps_end_v h hfin dX0_record_67
  · replace h := ps_in0 c9 h
    refine ps_aloadn0 C dX0_record_20 ?_
    refine gf_X0_20 C hq dX0_record_21 ?_
    refine ps_bipush C dX0_record_24 pb_6 ?_
    refine ps_ic_ge C 67 dX0_record_26 rfl (fun c8 => ?_) (fun c8 => ?_)
    · replace h := ps_ip c8 h
      exact ps_end_v h hfin dX0_record_67
    · replace h := ps_in0 c8 h
      refine ps_aloadn0 C dX0_record_29 ?_
      refine gf_X0_11 C hq dX0_record_30 ?_
      refine ps_aloadn0 C dX0_record_33 ?_
      refine gf_X0_20 C hq dX0_record_34 ?_
      obtain ⟨hi1, h⟩ := ps_gd h
      refine ps_ald13 C (kf_12_1 hq) hi1 dX0_record_37 (fun hk2 => ?_)
      refine ps_astoren1 C rfl dX0_record_38 ?_
      refine ps_aloadn0 C dX0_record_39 ?_
      refine gf_X0_11 C hq dX0_record_40 ?_
      refine ps_aloadn0 C dX0_record_43 ?_
      refine gf_X0_20 C hq dX0_record_44 ?_
      refine ps_aloadn0 C dX0_record_47 ?_
      refine gf_X0_16 C hq dX0_record_48 (fun hk3 => ?_)
      obtain ⟨hi4, h⟩ := ps_gd h
      refine ps_ast13 C (kf_12_1 hq) hi4 hk3 dX0_record_51 (fun M5 eM5 => ?_)
      replace h := ps_lt eM5 h
      refine ps_aloadn0 C dX0_record_52 ?_
      refine ps_aloadn1 C dX0_record_53 ?_
      refine pf_X0_16 C hq hk2 dX0_record_54 (fun M6 eM6 => ?_)
      replace h := ps_lt eM6 h
      refine ps_aloadn0 C dX0_record_57 ?_
      refine ps_dup C rfl dX0_record_58 ?_
      refine gf_X0_20 C hq dX0_record_59 ?_
      refine ps_iconst C dX0_record_62 pi_1 ?_
      refine ps_iadd C dX0_record_63 ?_
      refine pf_X0_20 C hq dX0_record_64 (fun M7 eM7 => ?_)
      replace h := ps_lt eM7 h
      exact ps_end_v h hfin dX0_record_67
set_option maxRecDepth 10000 in
theorem tt_X0_record (l : Launch) (b : Nat) (D : va_G) {q : Nat} (hq : ps_ck 12 q = true) {M M9 : ps_M} {r : Int32} (h : ff_X0_record q  M = some (r, M9)) : ps_Tv l b D yX0_record cX0_record 2 1 [.ref (b + q)] M M9 := by
  refine ps_met_v (own := RX0) (lv := [some (.ref (b + q)), none]) (by decide) rfl rfl (Nat.le_of_ble_eq_true rfl) rfl (fun X eX1 eX2 eX3 hRm eX5 C hfin => ?_)
  subst eX1 eX2 eX3
  unfold ff_X0_record at h
  refine ps_aloadn0 C dX0_record_0 ?_
  refine gf_X0_20 C hq dX0_record_1 ?_
  refine ps_bipush C dX0_record_4 pb_6 ?_
  refine ps_ic_ne C 13 dX0_record_6 rfl (fun c11 => ?_) (fun c11 => ?_)
  · replace h := ps_in0 c11 h
    exact bk_X0_record_13 C hRm hfin hq _ h
  · replace h := ps_ip c11 h
    refine ps_aloadn0 C dX0_record_9 ?_
    obtain ⟨r10, M10, hM10, h⟩ := ps_bd h
    refine ps_goV_v C (rest := []) (tt_X0_dropOldest (xl X) (xb X) (xD X) hq hM10) cw_X0_37 ps_rc12 hq (ps_room hRm (by decide)) rfl rfl (Nat.le_of_ble_eq_true rfl) dX0_record_10 ?_
    exact bk_X0_record_13 C hRm hfin hq _ h
set_option maxRecDepth 10000 in
theorem tt_X0_keepUnlessError (l : Launch) (b : Nat) (D : va_G) {q : Nat} (hq : ps_ck 12 q = true) {a1 : Int32} {M M9 : ps_M} {r : Int32} (h : ff_X0_keepUnlessError q a1 M = some (r, M9)) : ps_Ti l b D yX0_keepUnlessError cX0_keepUnlessError 2 .int 2 [.ref (b + q), .int a1] M r M9 := by
  refine ps_met_i (own := RX0) (lv := [some (.ref (b + q)), some (.int a1)]) (by decide) rfl rfl (Nat.le_of_ble_eq_true rfl) rfl (fun X eX1 eX2 eX3 hRm eX5 C hfin => ?_)
  subst eX1 eX2 eX3
  unfold ff_X0_keepUnlessError at h
  refine ps_iloadn1 C dX0_keepUnlessError_0 ?_
  obtain ⟨r1, M1, hM1, h⟩ := ps_bd h
  refine ps_goN_i C (n := 1) (rest := []) (tt_X6_isError (xl X) (xb X) (xD X) hM1) (fun K => K.2.2) ⟨⟨pm_248, pm_1, pm_249⟩, ⟨by decide, by decide⟩, by decide +kernel⟩ (ps_room hRm (by decide)) rfl rfl (Nat.le_of_ble_eq_true rfl) dX0_keepUnlessError_1 ?_
  refine ps_if_ne C 11 dX0_keepUnlessError_4 rfl (fun c3 => ?_) (fun c3 => ?_)
  · replace h := ps_in0 c3 h
    refine ps_iloadn1 C dX0_keepUnlessError_11 ?_
    exact ps_end_i h hfin dX0_keepUnlessError_12 rfl
  · replace h := ps_ip c3 h
    refine ps_aloadn0 C dX0_keepUnlessError_7 ?_
    obtain ⟨r2, M2, hM2, h⟩ := ps_bd h
    refine ps_goV_v C (rest := []) (tt_X0_record (xl X) (xb X) (xD X) hq hM2) cw_X0_34 ps_rc12 hq (ps_room hRm (by decide)) rfl rfl (Nat.le_of_ble_eq_true rfl) dX0_keepUnlessError_8 ?_
    refine ps_iloadn1 C dX0_keepUnlessError_11 ?_
    exact ps_end_i h hfin dX0_keepUnlessError_12 rfl
set_option maxRecDepth 10000 in
theorem tt_X0_takeBack (l : Launch) (b : Nat) (D : va_G) {q : Nat} (hq : ps_ck 12 q = true) {b1 : Nat} (hb1 : ps_ck 1 b1 = true) {M M9 : ps_M} {r : Int32} (h : ff_X0_takeBack q b1 M = some (r, M9)) : ps_Ti l b D yX0_takeBack cX0_takeBack 2 .int 3 [.ref (b + q), .ref (b + b1)] M r M9 := by
  refine ps_met_i (own := RX0) (lv := [some (.ref (b + q)), some (.ref (b + b1))]) (by decide) rfl rfl (Nat.le_of_ble_eq_true rfl) rfl (fun X eX1 eX2 eX3 hRm eX5 C hfin => ?_)
  subst eX1 eX2 eX3
  unfold ff_X0_takeBack at h
  refine ps_aloadn0 C dX0_takeBack_0 ?_
  refine gf_X0_20 C hq dX0_takeBack_1 ?_
  refine ps_if_le C 39 dX0_takeBack_4 rfl (fun c6 => ?_) (fun c6 => ?_)
  · replace h := ps_ip c6 h
    refine ps_aloadn0 C dX0_takeBack_39 ?_
    refine gf_X0_20 C hq dX0_takeBack_40 ?_
    exact ps_end_i h hfin dX0_takeBack_43 rfl
  · replace h := ps_in0 c6 h
    refine ps_aloadn0 C dX0_takeBack_7 ?_
    refine gf_X0_20 C hq dX0_takeBack_8 ?_
    refine ps_bipush C dX0_takeBack_11 pb_6 ?_
    refine ps_ic_gt C 39 dX0_takeBack_13 rfl (fun c5 => ?_) (fun c5 => ?_)
    · replace h := ps_ip c5 h
      refine ps_aloadn0 C dX0_takeBack_39 ?_
      refine gf_X0_20 C hq dX0_takeBack_40 ?_
      exact ps_end_i h hfin dX0_takeBack_43 rfl
    · replace h := ps_in0 c5 h
      refine ps_aloadn0 C dX0_takeBack_16 ?_
      refine ps_dup C rfl dX0_takeBack_17 ?_
      refine gf_X0_20 C hq dX0_takeBack_18 ?_
      refine ps_iconst C dX0_takeBack_21 pi_1 ?_
      refine ps_isub C dX0_takeBack_22 ?_
      refine pf_X0_20 C hq dX0_takeBack_23 (fun M1 eM1 => ?_)
      replace h := ps_lt eM1 h
      refine ps_aloadn1 C dX0_takeBack_26 ?_
      refine ps_aloadn0 C dX0_takeBack_27 ?_
      refine gf_X0_11 C hq dX0_takeBack_28 ?_
      refine ps_aloadn0 C dX0_takeBack_31 ?_
      refine gf_X0_20 C hq dX0_takeBack_32 ?_
      obtain ⟨hi2, h⟩ := ps_gd h
      refine ps_ald13 C (kf_12_1 hq) hi2 dX0_takeBack_35 (fun hk3 => ?_)
      obtain ⟨r4, M4, hM4, h⟩ := ps_bd h
      refine ps_goV_v C (rest := []) (tt_X1_copyFrom (xl X) (xb X) (xD X) hb1 hk3 hM4) cw_X0_24 ps_rc1 hb1 (ps_room hRm (by decide)) rfl rfl (Nat.le_of_ble_eq_true rfl) dX0_takeBack_36 ?_
      refine ps_aloadn0 C dX0_takeBack_39 ?_
      refine gf_X0_20 C hq dX0_takeBack_40 ?_
      exact ps_end_i h hfin dX0_takeBack_43 rfl
set_option maxRecDepth 10000 in
theorem tt_X1_changeSetting (l : Launch) (b : Nat) (D : va_G) {q : Nat} (hq : ps_ck 1 q = true) {a1 : Int32} {a2 : Int32} {M M9 : ps_M} {r : Int32} (h : ff_X1_changeSetting q a1 a2 M = some (r, M9)) : ps_Ti l b D yX1_changeSetting cX1_changeSetting 4 .int 0 [.ref (b + q), .int a1, .int a2] M r M9 := by
  refine ps_met_i (own := RX1) (lv := [some (.ref (b + q)), some (.int a1), some (.int a2), none]) (by decide) rfl rfl (Nat.le_of_ble_eq_true rfl) rfl (fun X eX1 eX2 eX3 hRm eX5 C hfin => ?_)
  subst eX1 eX2 eX3
  unfold ff_X1_changeSetting at h
  refine ps_iloadn1 C dX1_changeSetting_0 ?_
  refine ps_if_lt C 9 dX1_changeSetting_1 rfl (fun c12 => ?_) (fun c12 => ?_)
  · replace h := ps_ip c12 h
    refine ps_bipush C dX1_changeSetting_9 pb_m2 ?_
    exact ps_end_i h hfin dX1_changeSetting_11 rfl
  · replace h := ps_in0 c12 h
    refine ps_iloadn1 C dX1_changeSetting_4 ?_
    refine ps_iconst C dX1_changeSetting_5 pi_4 ?_
    refine ps_ic_lt C 12 dX1_changeSetting_6 rfl (fun c11 => ?_) (fun c11 => ?_)
    · replace h := ps_ip c11 h
      refine ps_iloadn2 C dX1_changeSetting_12 ?_
      refine ps_sget C (f := ps_least) (fun K => by obtain ⟨t1, t2, t3, z1, z2, z3⟩ := K.2.2; exact ⟨t1, z1⟩) (fun K => K.2.1.1) dX1_changeSetting_13 (fun t1 ht1 => ?_)
      refine ps_iloadn1 C dX1_changeSetting_16 ?_
      obtain ⟨hi2, h⟩ := ps_gd h
      refine ps_sald C ht1 hi2 dX1_changeSetting_17 ?_
      refine ps_ic_lt C 30 dX1_changeSetting_18 rfl (fun c10 => ?_) (fun c10 => ?_)
      · replace h := ps_ip c10 h
        refine ps_bipush C dX1_changeSetting_30 pb_m2 ?_
        exact ps_end_i h hfin dX1_changeSetting_32 rfl
      · replace h := ps_in0 c10 h
        refine ps_iloadn2 C dX1_changeSetting_21 ?_
        refine ps_sget C (f := ps_most) (fun K => by obtain ⟨t1, t2, t3, z1, z2, z3⟩ := K.2.2; exact ⟨t2, z2⟩) (fun K => K.2.1.2.1) dX1_changeSetting_22 (fun t3 ht3 => ?_)
        refine ps_iloadn1 C dX1_changeSetting_25 ?_
        obtain ⟨hi4, h⟩ := ps_gd h
        refine ps_sald C ht3 hi4 dX1_changeSetting_26 ?_
        refine ps_ic_le C 33 dX1_changeSetting_27 rfl (fun c9 => ?_) (fun c9 => ?_)
        · replace h := ps_ip c9 h
          refine ps_aloadn0 C dX1_changeSetting_33 ?_
          refine gf_X1_9 C hq dX1_changeSetting_34 ?_
          refine ps_iloadn1 C dX1_changeSetting_37 ?_
          obtain ⟨hi5, h⟩ := ps_gd h
          refine ps_iald C (kf_1_1 hq) (fun _ _ => rfl) hi5 dX1_changeSetting_38 ?_
          refine ps_nmi (fun x6 ex6 => ?_)
          replace h := ps_lt ex6 h
          refine ps_istoren3 C rfl dX1_changeSetting_39 ?_
          refine ps_aloadn0 C dX1_changeSetting_40 ?_
          refine gf_X1_9 C hq dX1_changeSetting_41 ?_
          refine ps_iloadn1 C dX1_changeSetting_44 ?_
          refine ps_iloadn2 C dX1_changeSetting_45 ?_
          obtain ⟨hi7, h⟩ := ps_gd h
          refine ps_iast C (kf_1_1 hq) (fun _ _ => rfl) hi7 dX1_changeSetting_46 (fun M8 eM8 => ?_)
          replace h := ps_lt eM8 h
          refine ps_iloadn3 C dX1_changeSetting_47 ?_
          exact ps_end_i h hfin dX1_changeSetting_48 rfl
        · replace h := ps_in0 c9 h
          refine ps_bipush C dX1_changeSetting_30 pb_m2 ?_
          exact ps_end_i h hfin dX1_changeSetting_32 rfl
    · replace h := ps_in0 c11 h
      refine ps_bipush C dX1_changeSetting_9 pb_m2 ?_
      exact ps_end_i h hfin dX1_changeSetting_11 rfl
set_option maxRecDepth 10000 in
theorem tt_X1_addParrot (l : Launch) (b : Nat) (D : va_G) {q : Nat} (hq : ps_ck 1 q = true) {M M9 : ps_M} {r : Int32} (h : ff_X1_addParrot q  M = some (r, M9)) : ps_Ti l b D yX1_addParrot cX1_addParrot 1 .int 0 [.ref (b + q)] M r M9 := by
  refine ps_met_i (own := RX1) (lv := [some (.ref (b + q))]) (by decide) rfl rfl (Nat.le_of_ble_eq_true rfl) rfl (fun X eX1 eX2 eX3 hRm eX5 C hfin => ?_)
  subst eX1 eX2 eX3
  unfold ff_X1_addParrot at h
  refine ps_aloadn0 C dX1_addParrot_0 ?_
  refine gf_X1_28 C hq dX1_addParrot_1 ?_
  refine ps_iconst C dX1_addParrot_4 pi_4 ?_
  refine ps_ic_lt C 11 dX1_addParrot_5 rfl (fun c2 => ?_) (fun c2 => ?_)
  · replace h := ps_ip c2 h
    refine ps_aloadn0 C dX1_addParrot_11 ?_
    refine ps_dup C rfl dX1_addParrot_12 ?_
    refine gf_X1_28 C hq dX1_addParrot_13 ?_
    refine ps_iconst C dX1_addParrot_16 pi_1 ?_
    refine ps_iadd C dX1_addParrot_17 ?_
    refine pf_X1_28 C hq dX1_addParrot_18 (fun M1 eM1 => ?_)
    replace h := ps_lt eM1 h
    refine ps_aloadn0 C dX1_addParrot_21 ?_
    refine gf_X1_28 C hq dX1_addParrot_22 ?_
    refine ps_iconst C dX1_addParrot_25 pi_1 ?_
    refine ps_isub C dX1_addParrot_26 ?_
    exact ps_end_i h hfin dX1_addParrot_27 rfl
  · replace h := ps_in0 c2 h
    refine ps_bipush C dX1_addParrot_8 pb_m4 ?_
    exact ps_end_i h hfin dX1_addParrot_10 rfl
set_option maxRecDepth 10000 in
theorem tt_X1_hasParrot (l : Launch) (b : Nat) (D : va_G) {q : Nat} (hq : ps_ck 1 q = true) {a1 : Int32} {M M9 : ps_M} {r : Int32} (h : ff_X1_hasParrot q a1 M = some (r, M9)) : ps_Ti l b D yX1_hasParrot cX1_hasParrot 2 .boolean 0 [.ref (b + q), .int a1] M r M9 := by
  refine ps_met_i (own := RX1) (lv := [some (.ref (b + q)), some (.int a1)]) (by decide) rfl rfl (Nat.le_of_ble_eq_true rfl) rfl (fun X eX1 eX2 eX3 hRm eX5 C hfin => ?_)
  subst eX1 eX2 eX3
  unfold ff_X1_hasParrot at h
  refine ps_iloadn1 C dX1_hasParrot_0 ?_
  refine ps_if_lt C 16 dX1_hasParrot_1 rfl (fun c2 => ?_) (fun c2 => ?_)
  · replace h := ps_ip c2 h
    refine ps_iconst C dX1_hasParrot_16 pi_0 ?_
    exact ps_end_i h hfin dX1_hasParrot_17 rfl
  · replace h := ps_in0 c2 h
    refine ps_iloadn1 C dX1_hasParrot_4 ?_
    refine ps_aloadn0 C dX1_hasParrot_5 ?_
    refine gf_X1_28 C hq dX1_hasParrot_6 ?_
    refine ps_ic_ge C 16 dX1_hasParrot_9 rfl (fun c1 => ?_) (fun c1 => ?_)
    · replace h := ps_ip c1 h
      refine ps_iconst C dX1_hasParrot_16 pi_0 ?_
      exact ps_end_i h hfin dX1_hasParrot_17 rfl
    · replace h := ps_in0 c1 h
      refine ps_iconst C dX1_hasParrot_12 pi_1 ?_
      refine ps_goto C 17 dX1_hasParrot_13 rfl ?_
      exact ps_end_i h hfin dX1_hasParrot_17 rfl
set_option maxRecDepth 10000 in
theorem tt_X1_isTired (l : Launch) (b : Nat) (D : va_G) {q : Nat} (hq : ps_ck 1 q = true) {b1 : Nat} (hb1 : ps_ck 9 b1 = true) {M M9 : ps_M} {r : Int32} (h : ff_X1_isTired q b1 M = some (r, M9)) : ps_Ti l b D yX1_isTired cX1_isTired 2 .boolean 0 [.ref (b + q), .ref (b + b1)] M r M9 := by
  refine ps_met_i (own := RX1) (lv := [some (.ref (b + q)), some (.ref (b + b1))]) (by decide) rfl rfl (Nat.le_of_ble_eq_true rfl) rfl (fun X eX1 eX2 eX3 hRm eX5 C hfin => ?_)
  subst eX1 eX2 eX3
  unfold ff_X1_isTired at h
  refine ps_aloadn1 C dX1_isTired_0 ?_
  refine gf_X1_61 C hb1 dX1_isTired_1 ?_
  refine ps_aloadn0 C dX1_isTired_4 ?_
  refine gf_X1_9 C hq dX1_isTired_5 ?_
  refine ps_iconst C dX1_isTired_8 pi_3 ?_
  obtain ⟨hi1, h⟩ := ps_gd h
  refine ps_iald C (kf_1_1 hq) (fun _ _ => rfl) hi1 dX1_isTired_9 ?_
  refine ps_ic_lt C 17 dX1_isTired_10 rfl (fun c2 => ?_) (fun c2 => ?_)
  · replace h := ps_ip c2 h
    refine ps_iconst C dX1_isTired_17 pi_0 ?_
    exact ps_end_i h hfin dX1_isTired_18 rfl
  · replace h := ps_in0 c2 h
    refine ps_iconst C dX1_isTired_13 pi_1 ?_
    refine ps_goto C 18 dX1_isTired_14 rfl ?_
    exact ps_end_i h hfin dX1_isTired_18 rfl
set_option maxRecDepth 10000 in
theorem tt_X5_has (l : Launch) (b : Nat) (D : va_G) {q : Nat} (hq : ps_ck 3 q = true) {a1 : Int32} {M M9 : ps_M} {r : Int32} (h : ff_X5_has q a1 M = some (r, M9)) : ps_Ti l b D yX5_has cX5_has 2 .boolean 0 [.ref (b + q), .int a1] M r M9 := by
  refine ps_met_i (own := RX5) (lv := [some (.ref (b + q)), some (.int a1)]) (by decide) rfl rfl (Nat.le_of_ble_eq_true rfl) rfl (fun X eX1 eX2 eX3 hRm eX5 C hfin => ?_)
  subst eX1 eX2 eX3
  unfold ff_X5_has at h
  refine ps_iloadn1 C dX5_has_0 ?_
  refine ps_if_lt C 16 dX5_has_1 rfl (fun c2 => ?_) (fun c2 => ?_)
  · replace h := ps_ip c2 h
    refine ps_iconst C dX5_has_16 pi_0 ?_
    exact ps_end_i h hfin dX5_has_17 rfl
  · replace h := ps_in0 c2 h
    refine ps_iloadn1 C dX5_has_4 ?_
    refine ps_aloadn0 C dX5_has_5 ?_
    refine gf_X5_23 C hq dX5_has_6 ?_
    refine ps_ic_ge C 16 dX5_has_9 rfl (fun c1 => ?_) (fun c1 => ?_)
    · replace h := ps_ip c1 h
      refine ps_iconst C dX5_has_16 pi_0 ?_
      exact ps_end_i h hfin dX5_has_17 rfl
    · replace h := ps_in0 c1 h
      refine ps_iconst C dX5_has_12 pi_1 ?_
      refine ps_goto C 17 dX5_has_13 rfl ?_
      exact ps_end_i h hfin dX5_has_17 rfl
set_option maxRecDepth 10000 in
theorem tt_X5_hasBar (l : Launch) (b : Nat) (D : va_G) {q : Nat} (hq : ps_ck 3 q = true) {a1 : Int32} {a2 : Int32} {M M9 : ps_M} {r : Int32} (h : ff_X5_hasBar q a1 a2 M = some (r, M9)) : ps_Ti l b D yX5_hasBar cX5_hasBar 3 .boolean 1 [.ref (b + q), .int a1, .int a2] M r M9 := by
  refine ps_met_i (own := RX5) (lv := [some (.ref (b + q)), some (.int a1), some (.int a2)]) (by decide) rfl rfl (Nat.le_of_ble_eq_true rfl) rfl (fun X eX1 eX2 eX3 hRm eX5 C hfin => ?_)
  subst eX1 eX2 eX3
  unfold ff_X5_hasBar at h
  refine ps_aloadn0 C dX5_hasBar_0 ?_
  refine ps_iloadn1 C dX5_hasBar_1 ?_
  obtain ⟨r1, M1, hM1, h⟩ := ps_bd h
  refine ps_goV_i C (rest := []) (tt_X5_has (xl X) (xb X) (xD X) hq hM1) cw_X5_42 ps_rc3 hq (ps_room hRm (by decide)) rfl rfl (Nat.le_of_ble_eq_true rfl) dX5_hasBar_2 ?_
  refine ps_if_eq C 26 dX5_hasBar_5 rfl (fun c5 => ?_) (fun c5 => ?_)
  · replace h := ps_ip c5 h
    refine ps_iconst C dX5_hasBar_26 pi_0 ?_
    exact ps_end_i h hfin dX5_hasBar_27 rfl
  · replace h := ps_in0 c5 h
    refine ps_iloadn2 C dX5_hasBar_8 ?_
    refine ps_if_lt C 26 dX5_hasBar_9 rfl (fun c4 => ?_) (fun c4 => ?_)
    · replace h := ps_ip c4 h
      refine ps_iconst C dX5_hasBar_26 pi_0 ?_
      exact ps_end_i h hfin dX5_hasBar_27 rfl
    · replace h := ps_in0 c4 h
      refine ps_iloadn2 C dX5_hasBar_12 ?_
      refine ps_aloadn0 C dX5_hasBar_13 ?_
      refine gf_X5_16 C hq dX5_hasBar_14 ?_
      refine ps_iloadn1 C dX5_hasBar_17 ?_
      obtain ⟨hi2, h⟩ := ps_gd h
      refine ps_iald C (kf_3_10 hq) (fun _ _ => rfl) hi2 dX5_hasBar_18 ?_
      refine ps_ic_ge C 26 dX5_hasBar_19 rfl (fun c3 => ?_) (fun c3 => ?_)
      · replace h := ps_ip c3 h
        refine ps_iconst C dX5_hasBar_26 pi_0 ?_
        exact ps_end_i h hfin dX5_hasBar_27 rfl
      · replace h := ps_in0 c3 h
        refine ps_iconst C dX5_hasBar_22 pi_1 ?_
        refine ps_goto C 27 dX5_hasBar_23 rfl ?_
        exact ps_end_i h hfin dX5_hasBar_27 rfl
set_option maxRecDepth 10000 in
theorem tt_X5_lengthOf (l : Launch) (b : Nat) (D : va_G) {q : Nat} (hq : ps_ck 3 q = true) {a1 : Int32} {M M9 : ps_M} {r : Int32} (h : ff_X5_lengthOf q a1 M = some (r, M9)) : ps_Ti l b D yX5_lengthOf cX5_lengthOf 2 .int 1 [.ref (b + q), .int a1] M r M9 := by
  refine ps_met_i (own := RX5) (lv := [some (.ref (b + q)), some (.int a1)]) (by decide) rfl rfl (Nat.le_of_ble_eq_true rfl) rfl (fun X eX1 eX2 eX3 hRm eX5 C hfin => ?_)
  subst eX1 eX2 eX3
  unfold ff_X5_lengthOf at h
  refine ps_aloadn0 C dX5_lengthOf_0 ?_
  refine ps_iloadn1 C dX5_lengthOf_1 ?_
  obtain ⟨r1, M1, hM1, h⟩ := ps_bd h
  refine ps_goV_i C (rest := []) (tt_X5_has (xl X) (xb X) (xD X) hq hM1) cw_X5_42 ps_rc3 hq (ps_room hRm (by decide)) rfl rfl (Nat.le_of_ble_eq_true rfl) dX5_lengthOf_2 ?_
  refine ps_if_eq C 17 dX5_lengthOf_5 rfl (fun c3 => ?_) (fun c3 => ?_)
  · replace h := ps_ip c3 h
    refine ps_iconst C dX5_lengthOf_17 pi_0 ?_
    exact ps_end_i h hfin dX5_lengthOf_18 rfl
  · replace h := ps_in0 c3 h
    refine ps_aloadn0 C dX5_lengthOf_8 ?_
    refine gf_X5_16 C hq dX5_lengthOf_9 ?_
    refine ps_iloadn1 C dX5_lengthOf_12 ?_
    obtain ⟨hi2, h⟩ := ps_gd h
    refine ps_iald C (kf_3_10 hq) (fun _ _ => rfl) hi2 dX5_lengthOf_13 ?_
    refine ps_goto C 18 dX5_lengthOf_14 rfl ?_
    exact ps_end_i h hfin dX5_lengthOf_18 rfl
set_option maxRecDepth 10000 in
theorem tt_X5_barAt (l : Launch) (b : Nat) (D : va_G) {q : Nat} (hq : ps_ck 3 q = true) {a1 : Int32} {a2 : Int32} {M M9 : ps_M} {r : Int32} (h : ff_X5_barAt q a1 a2 M = some (r, M9)) : ps_Ti l b D yX5_barAt cX5_barAt 3 .int 2 [.ref (b + q), .int a1, .int a2] M r M9 := by
  refine ps_met_i (own := RX5) (lv := [some (.ref (b + q)), some (.int a1), some (.int a2)]) (by decide) rfl rfl (Nat.le_of_ble_eq_true rfl) rfl (fun X eX1 eX2 eX3 hRm eX5 C hfin => ?_)
  subst eX1 eX2 eX3
  unfold ff_X5_barAt at h
  refine ps_aloadn0 C dX5_barAt_0 ?_
  refine ps_iloadn1 C dX5_barAt_1 ?_
  refine ps_iloadn2 C dX5_barAt_2 ?_
  obtain ⟨r1, M1, hM1, h⟩ := ps_bd h
  refine ps_goV_i C (rest := []) (tt_X5_hasBar (xl X) (xb X) (xD X) hq hM1) cw_X5_46 ps_rc3 hq (ps_room hRm (by decide)) rfl rfl (Nat.le_of_ble_eq_true rfl) dX5_barAt_3 ?_
  refine ps_if_eq C 20 dX5_barAt_6 rfl (fun c4 => ?_) (fun c4 => ?_)
  · replace h := ps_ip c4 h
    refine ps_bipush C dX5_barAt_20 pb_m6 ?_
    exact ps_end_i h hfin dX5_barAt_22 rfl
  · replace h := ps_in0 c4 h
    refine ps_aloadn0 C dX5_barAt_9 ?_
    refine gf_X5_11 C hq dX5_barAt_10 ?_
    refine ps_iloadn1 C dX5_barAt_13 ?_
    obtain ⟨hi2, h⟩ := ps_gd h
    refine ps_ald4 C (kf_3_1 hq) hi2 dX5_barAt_14 ?_
    refine ps_iloadn2 C dX5_barAt_15 ?_
    obtain ⟨hi3, h⟩ := ps_gd h
    refine ps_iald C (ke_4 (kf_3_1 hq) hi2) (fun _ _ => rfl) hi3 dX5_barAt_16 ?_
    refine ps_goto C 22 dX5_barAt_17 rfl ?_
    exact ps_end_i h hfin dX5_barAt_22 rfl
set_option maxRecDepth 10000 in
theorem bk_X3_find_2 {X : ps_X} (C : ps_C X RX3 cX3_find) (hRm : xR X = ps_lvl 0) {r : Int32} {M9 : ps_M} (hfin : ∀ pc lv, decode cX3_find pc = .ok (.ireturn, 1) → narrow .int (.int r) = .int r → ps_G X M9 pc lv [.int r]) {q : Nat} (hq : ps_ck 9 q = true) : ∀ (n : Nat) (a1 : Int32) (a2 : Int32) (a3 : Int32) (M : ps_M), fk_X3_find_2 q n a1 a2 a3 M = some (r, M9) → ps_G X M 2 [some (.ref (xb X + q)), some (.int a1), some (.int a2), some (.int a3)] [] := by
  intro n
  induction n with
  | zero => intro a1 a2 a3 M h; rw [fk_X3_find_2] at h; cases h
  | succ n ih =>
    intro a1 a2 a3 M h
    rw [fk_X3_find_2] at h
    refine ps_iloadn3 C dX3_find_2 ?_
    refine ps_aloadn0 C dX3_find_3 ?_
    refine gf_X3_16 C hq dX3_find_4 ?_
    refine ps_ic_ge C 42 dX3_find_7 rfl (fun c9 => ?_) (fun c9 => ?_)
    · replace h := ps_ip c9 h
      refine ps_bipush C dX3_find_42 pb_m6 ?_
      exact ps_end_i h hfin dX3_find_44 rfl
    · replace h := ps_in0 c9 h
      refine ps_aloadn0 C dX3_find_10 ?_
      refine gf_X3_13 C hq dX3_find_11 ?_
      refine ps_iconst C dX3_find_14 pi_0 ?_
      obtain ⟨hi1, h⟩ := ps_gd h
      refine ps_ald10 C (kf_9_1 hq) hi1 dX3_find_15 ?_
      refine ps_iloadn3 C dX3_find_16 ?_
      obtain ⟨hi2, h⟩ := ps_gd h
      refine ps_iald C (ke_10 (kf_9_1 hq) hi1) (fun _ _ => rfl) hi2 dX3_find_17 ?_
      refine ps_iloadn1 C dX3_find_18 ?_
      refine ps_ic_ne C 36 dX3_find_19 rfl (fun c8 => ?_) (fun c8 => ?_)
      · replace h := ps_in0 c8 h
        refine ps_iinc3 C rfl (nI 1) pi_1 dX3_find_36 (fun x3 ex3 => ?_)
        replace h := ps_lt ex3 h
        refine ps_goto C 2 dX3_find_39 rfl ?_
        exact ih a1 a2 x3 _ h
      · replace h := ps_ip c8 h
        refine ps_aloadn0 C dX3_find_22 ?_
        refine gf_X3_13 C hq dX3_find_23 ?_
        refine ps_iconst C dX3_find_26 pi_1 ?_
        obtain ⟨hi4, h⟩ := ps_gd h
        refine ps_ald10 C (kf_9_1 hq) hi4 dX3_find_27 ?_
        refine ps_iloadn3 C dX3_find_28 ?_
        obtain ⟨hi5, h⟩ := ps_gd h
        refine ps_iald C (ke_10 (kf_9_1 hq) hi4) (fun _ _ => rfl) hi5 dX3_find_29 ?_
        refine ps_iloadn2 C dX3_find_30 ?_
        refine ps_ic_ne C 36 dX3_find_31 rfl (fun c7 => ?_) (fun c7 => ?_)
        · replace h := ps_in0 c7 h
          refine ps_iinc3 C rfl (nI 1) pi_1 dX3_find_36 (fun x6 ex6 => ?_)
          replace h := ps_lt ex6 h
          refine ps_goto C 2 dX3_find_39 rfl ?_
          exact ih a1 a2 x6 _ h
        · replace h := ps_ip c7 h
          refine ps_iloadn3 C dX3_find_34 ?_
          exact ps_end_i h hfin dX3_find_35 rfl
set_option maxRecDepth 10000 in
theorem tt_X3_find (l : Launch) (b : Nat) (D : va_G) {q : Nat} (hq : ps_ck 9 q = true) {a1 : Int32} {a2 : Int32} {M M9 : ps_M} {r : Int32} (h : ff_X3_find q a1 a2 M = some (r, M9)) : ps_Ti l b D yX3_find cX3_find 4 .int 0 [.ref (b + q), .int a1, .int a2] M r M9 := by
  refine ps_met_i (own := RX3) (lv := [some (.ref (b + q)), some (.int a1), some (.int a2), none]) (by decide) rfl rfl (Nat.le_of_ble_eq_true rfl) rfl (fun X eX1 eX2 eX3 hRm eX5 C hfin => ?_)
  subst eX1 eX2 eX3
  unfold ff_X3_find at h
  refine ps_iconst C dX3_find_0 pi_0 ?_
  refine ps_istoren3 C rfl dX3_find_1 ?_
  exact bk_X3_find_2 C hRm hfin hq ps_fu a1 a2 (nI 0) _ h
set_option maxRecDepth 10000 in
theorem bk_X3_remove_15 {X : ps_X} (C : ps_C X RX3 cX3_remove) (hRm : xR X = ps_lvl 1) {r : Int32} {M9 : ps_M} (hfin : ∀ pc lv, decode cX3_remove pc = .ok (.return_, 1) → ps_G X M9 pc lv []) {q : Nat} (hq : ps_ck 9 q = true) : ∀ (n : Nat) (a1 : Int32) (a2 : Int32) (M : ps_M), fk_X3_remove_15 q n a1 a2 M = some (r, M9) → ps_G X M 15 [some (.ref (xb X + q)), some (.int a1), some (.int a2)] [] := by
  intro n
  induction n with
  | zero => intro a1 a2 M h; rw [fk_X3_remove_15] at h; cases h
  | succ n ih =>
    intro a1 a2 M h
    rw [fk_X3_remove_15] at h
    refine ps_iloadn2 C dX3_remove_15 ?_
    refine ps_iconst C dX3_remove_16 pi_4 ?_
    refine ps_ic_ge C 53 dX3_remove_17 rfl (fun c7 => ?_) (fun c7 => ?_)
    · replace h := ps_ip c7 h
      refine ps_aloadn0 C dX3_remove_53 ?_
      refine ps_dup C rfl dX3_remove_54 ?_
      refine gf_X3_16 C hq dX3_remove_55 ?_
      refine ps_iconst C dX3_remove_58 pi_1 ?_
      refine ps_isub C dX3_remove_59 ?_
      refine pf_X3_16 C hq dX3_remove_60 (fun M1 eM1 => ?_)
      replace h := ps_lt eM1 h
      exact ps_end_v h hfin dX3_remove_63
    · replace h := ps_in0 c7 h
      refine ps_aloadn0 C dX3_remove_20 ?_
      refine gf_X3_13 C hq dX3_remove_21 ?_
      refine ps_iloadn2 C dX3_remove_24 ?_
      obtain ⟨hi2, h⟩ := ps_gd h
      refine ps_ald10 C (kf_9_1 hq) hi2 dX3_remove_25 ?_
      refine ps_iloadn1 C dX3_remove_26 ?_
      refine ps_iconst C dX3_remove_27 pi_1 ?_
      refine ps_iadd C dX3_remove_28 ?_
      refine ps_aloadn0 C dX3_remove_29 ?_
      refine gf_X3_13 C hq dX3_remove_30 ?_
      refine ps_iloadn2 C dX3_remove_33 ?_
      obtain ⟨hi3, h⟩ := ps_gd h
      refine ps_ald10 C (kf_9_1 hq) hi3 dX3_remove_34 ?_
      refine ps_iloadn1 C dX3_remove_35 ?_
      refine ps_aloadn0 C dX3_remove_36 ?_
      refine gf_X3_16 C hq dX3_remove_37 ?_
      refine ps_iloadn1 C dX3_remove_40 ?_
      refine ps_isub C dX3_remove_41 ?_
      refine ps_iconst C dX3_remove_42 pi_1 ?_
      refine ps_isub C dX3_remove_43 ?_
      obtain ⟨ho4, h⟩ := ps_gd h
      refine ps_copy C (ke_10 (kf_9_1 hq) hi2) (fun _ _ => rfl) (ke_10 (kf_9_1 hq) hi3) (fun _ _ => rfl) cw_X3_32 ho4 (by rw [hRm]; exact Nat.le_of_ble_eq_true rfl) (by rw [hRm]; exact Nat.le_of_ble_eq_true rfl) dX3_remove_44 (fun M5 eM5 => ?_)
      replace h := ps_lt eM5 h
      refine ps_iinc2 C rfl (nI 1) pi_1 dX3_remove_47 (fun x6 ex6 => ?_)
      replace h := ps_lt ex6 h
      refine ps_goto C 15 dX3_remove_50 rfl ?_
      exact ih a1 x6 _ h
set_option maxRecDepth 10000 in
theorem tt_X3_remove (l : Launch) (b : Nat) (D : va_G) {q : Nat} (hq : ps_ck 9 q = true) {a1 : Int32} {M M9 : ps_M} {r : Int32} (h : ff_X3_remove q a1 M = some (r, M9)) : ps_Tv l b D yX3_remove cX3_remove 3 1 [.ref (b + q), .int a1] M M9 := by
  refine ps_met_v (own := RX3) (lv := [some (.ref (b + q)), some (.int a1), none]) (by decide) rfl rfl (Nat.le_of_ble_eq_true rfl) rfl (fun X eX1 eX2 eX3 hRm eX5 C hfin => ?_)
  subst eX1 eX2 eX3
  unfold ff_X3_remove at h
  refine ps_iloadn1 C dX3_remove_0 ?_
  refine ps_if_lt C 12 dX3_remove_1 rfl (fun c9 => ?_) (fun c9 => ?_)
  · replace h := ps_ip c9 h
    exact ps_end_v h hfin dX3_remove_12
  · replace h := ps_in0 c9 h
    refine ps_iloadn1 C dX3_remove_4 ?_
    refine ps_aloadn0 C dX3_remove_5 ?_
    refine gf_X3_16 C hq dX3_remove_6 ?_
    refine ps_ic_lt C 13 dX3_remove_9 rfl (fun c8 => ?_) (fun c8 => ?_)
    · replace h := ps_ip c8 h
      refine ps_iconst C dX3_remove_13 pi_0 ?_
      refine ps_istoren2 C rfl dX3_remove_14 ?_
      exact bk_X3_remove_15 C hRm hfin hq ps_fu a1 (nI 0) _ h
    · replace h := ps_in0 c8 h
      exact ps_end_v h hfin dX3_remove_12
set_option maxRecDepth 10000 in
theorem tt_X3_write (l : Launch) (b : Nat) (D : va_G) {q : Nat} (hq : ps_ck 9 q = true) {a1 : Int32} {a2 : Int32} {a3 : Int32} {a4 : Int32} {a5 : Int32} {M M9 : ps_M} {r : Int32} (h : ff_X3_write q a1 a2 a3 a4 a5 M = some (r, M9)) : ps_Tv l b D yX3_write cX3_write 6 0 [.ref (b + q), .int a1, .int a2, .int a3, .int a4, .int a5] M M9 := by
  refine ps_met_v (own := RX3) (lv := [some (.ref (b + q)), some (.int a1), some (.int a2), some (.int a3), some (.int a4), some (.int a5)]) (by decide) rfl rfl (Nat.le_of_ble_eq_true rfl) rfl (fun X eX1 eX2 eX3 hRm eX5 C hfin => ?_)
  subst eX1 eX2 eX3
  unfold ff_X3_write at h
  refine ps_aloadn0 C dX3_write_0 ?_
  refine gf_X3_13 C hq dX3_write_1 ?_
  refine ps_iconst C dX3_write_4 pi_0 ?_
  obtain ⟨hi1, h⟩ := ps_gd h
  refine ps_ald10 C (kf_9_1 hq) hi1 dX3_write_5 ?_
  refine ps_iloadn1 C dX3_write_6 ?_
  refine ps_iloadn2 C dX3_write_7 ?_
  obtain ⟨hi2, h⟩ := ps_gd h
  refine ps_iast C (ke_10 (kf_9_1 hq) hi1) (fun _ _ => rfl) hi2 dX3_write_8 (fun M3 eM3 => ?_)
  replace h := ps_lt eM3 h
  refine ps_aloadn0 C dX3_write_9 ?_
  refine gf_X3_13 C hq dX3_write_10 ?_
  refine ps_iconst C dX3_write_13 pi_1 ?_
  obtain ⟨hi4, h⟩ := ps_gd h
  refine ps_ald10 C (kf_9_1 hq) hi4 dX3_write_14 ?_
  refine ps_iloadn1 C dX3_write_15 ?_
  refine ps_iloadn3 C dX3_write_16 ?_
  obtain ⟨hi5, h⟩ := ps_gd h
  refine ps_iast C (ke_10 (kf_9_1 hq) hi4) (fun _ _ => rfl) hi5 dX3_write_17 (fun M6 eM6 => ?_)
  replace h := ps_lt eM6 h
  refine ps_aloadn0 C dX3_write_18 ?_
  refine gf_X3_13 C hq dX3_write_19 ?_
  refine ps_iconst C dX3_write_22 pi_2 ?_
  obtain ⟨hi7, h⟩ := ps_gd h
  refine ps_ald10 C (kf_9_1 hq) hi7 dX3_write_23 ?_
  refine ps_iloadn1 C dX3_write_24 ?_
  refine ps_iload4 C dX3_write_25 ?_
  obtain ⟨hi8, h⟩ := ps_gd h
  refine ps_iast C (ke_10 (kf_9_1 hq) hi7) (fun _ _ => rfl) hi8 dX3_write_27 (fun M9 eM9 => ?_)
  replace h := ps_lt eM9 h
  refine ps_aloadn0 C dX3_write_28 ?_
  refine gf_X3_13 C hq dX3_write_29 ?_
  refine ps_iconst C dX3_write_32 pi_3 ?_
  obtain ⟨hi10, h⟩ := ps_gd h
  refine ps_ald10 C (kf_9_1 hq) hi10 dX3_write_33 ?_
  refine ps_iloadn1 C dX3_write_34 ?_
  refine ps_iload5 C dX3_write_35 ?_
  obtain ⟨hi11, h⟩ := ps_gd h
  refine ps_iast C (ke_10 (kf_9_1 hq) hi10) (fun _ _ => rfl) hi11 dX3_write_37 (fun M12 eM12 => ?_)
  replace h := ps_lt eM12 h
  exact ps_end_v h hfin dX3_write_38
set_option maxRecDepth 10000 in
theorem bk_X3_grow_42 {X : ps_X} (C : ps_C X RX3 cX3_grow) (hRm : xR X = ps_lvl 2) {r : Int32} {M9 : ps_M} (hfin : ∀ pc lv, decode cX3_grow pc = .ok (.return_, 1) → ps_G X M9 pc lv []) {q : Nat} (hq : ps_ck 9 q = true) (a1 : Int32) (a2 : Int32) (a3 : Int32) (a4 : Int32) (a5 : Int32) (M : ps_M) (h : fk_X3_grow_42 q a1 a2 a3 a4 a5 M = some (r, M9)) : ps_G X M 42 [some (.ref (xb X + q)), some (.int a1), some (.int a2), some (.int a3), some (.int a4), some (.int a5)] [] := by
  unfold fk_X3_grow_42 at h
  refine ps_aloadn0 C dX3_grow_42 ?_
  refine gf_X3_16 C hq dX3_grow_43 ?_
  refine ps_bipush C dX3_grow_46 pb_61 ?_
  refine ps_ic_ge C 74 dX3_grow_48 rfl (fun c4 => ?_) (fun c4 => ?_)
  · replace h := ps_ip c4 h
    exact ps_end_v h hfin dX3_grow_74
  · replace h := ps_in0 c4 h
    refine ps_aloadn0 C dX3_grow_51 ?_
    refine ps_aloadn0 C dX3_grow_52 ?_
    refine gf_X3_16 C hq dX3_grow_53 ?_
    refine ps_iloadn1 C dX3_grow_56 ?_
    refine ps_iloadn2 C dX3_grow_57 ?_
    refine ps_iload4 C dX3_grow_58 ?_
    refine ps_iconst C dX3_grow_60 pi_1 ?_
    obtain ⟨r2, M2, hM2, h⟩ := ps_bd h
    refine ps_goV_v C (rest := []) (tt_X3_write (xl X) (xb X) (xD X) hq hM2) cw_X3_59 ps_rc9 hq (ps_room hRm (by decide)) rfl rfl (Nat.le_of_ble_eq_true rfl) dX3_grow_61 ?_
    refine ps_aloadn0 C dX3_grow_64 ?_
    refine ps_dup C rfl dX3_grow_65 ?_
    refine gf_X3_16 C hq dX3_grow_66 ?_
    refine ps_iconst C dX3_grow_69 pi_1 ?_
    refine ps_iadd C dX3_grow_70 ?_
    refine pf_X3_16 C hq dX3_grow_71 (fun M3 eM3 => ?_)
    replace h := ps_lt eM3 h
    exact ps_end_v h hfin dX3_grow_74
set_option maxRecDepth 10000 in
theorem tt_X3_grow (l : Launch) (b : Nat) (D : va_G) {q : Nat} (hq : ps_ck 9 q = true) {a1 : Int32} {a2 : Int32} {a3 : Int32} {M M9 : ps_M} {r : Int32} (h : ff_X3_grow q a1 a2 a3 M = some (r, M9)) : ps_Tv l b D yX3_grow cX3_grow 6 2 [.ref (b + q), .int a1, .int a2, .int a3] M M9 := by
  refine ps_met_v (own := RX3) (lv := [some (.ref (b + q)), some (.int a1), some (.int a2), some (.int a3), none, none]) (by decide) rfl rfl (Nat.le_of_ble_eq_true rfl) rfl (fun X eX1 eX2 eX3 hRm eX5 C hfin => ?_)
  subst eX1 eX2 eX3
  unfold ff_X3_grow at h
  refine ps_iloadn3 C dX3_grow_0 ?_
  refine ps_istore4 C rfl dX3_grow_1 ?_
  refine ps_aloadn0 C dX3_grow_3 ?_
  refine ps_iloadn1 C dX3_grow_4 ?_
  refine ps_iloadn2 C dX3_grow_5 ?_
  obtain ⟨r1, M1, hM1, h⟩ := ps_bd h
  refine ps_goV_i C (rest := []) (tt_X3_find (xl X) (xb X) (xD X) hq hM1) cw_X3_50 ps_rc9 hq (ps_room hRm (by decide)) rfl rfl (Nat.le_of_ble_eq_true rfl) dX3_grow_6 ?_
  refine ps_istore5 C rfl dX3_grow_9 ?_
  refine ps_iload5 C dX3_grow_11 ?_
  refine ps_bipush C dX3_grow_13 pb_m6 ?_
  refine ps_ic_eq C 42 dX3_grow_15 rfl (fun c9 => ?_) (fun c9 => ?_)
  · replace h := ps_ip c9 h
    exact bk_X3_grow_42 C hRm hfin hq a1 a2 a3 a3 r1 _ h
  · replace h := ps_in0 c9 h
    refine ps_bipush C dX3_grow_18 pb_9 ?_
    refine ps_aloadn0 C dX3_grow_20 ?_
    refine gf_X3_13 C hq dX3_grow_21 ?_
    refine ps_iconst C dX3_grow_24 pi_2 ?_
    obtain ⟨hi5, h⟩ := ps_gd h
    refine ps_ald10 C (kf_9_1 hq) hi5 dX3_grow_25 ?_
    refine ps_iload5 C dX3_grow_26 ?_
    obtain ⟨hi6, h⟩ := ps_gd h
    refine ps_iald C (ke_10 (kf_9_1 hq) hi5) (fun _ _ => rfl) hi6 dX3_grow_28 ?_
    refine ps_iloadn3 C dX3_grow_29 ?_
    refine ps_iadd C dX3_grow_30 ?_
    refine ps_mmin C cw_X3_54 (by rw [hRm]; exact Nat.le_of_ble_eq_true rfl) (by rw [hRm]; exact Nat.le_of_ble_eq_true rfl) dX3_grow_31 ?_
    refine ps_nmi (fun x7 ex7 => ?_)
    replace h := ps_lt ex7 h
    refine ps_istore4 C rfl dX3_grow_34 ?_
    refine ps_aloadn0 C dX3_grow_36 ?_
    refine ps_iload5 C dX3_grow_37 ?_
    obtain ⟨r8, M8, hM8, h⟩ := ps_bd h
    refine ps_goV_v C (rest := []) (tt_X3_remove (xl X) (xb X) (xD X) hq hM8) cw_X3_46 ps_rc9 hq (ps_room hRm (by decide)) rfl rfl (Nat.le_of_ble_eq_true rfl) dX3_grow_39 ?_
    exact bk_X3_grow_42 C hRm hfin hq a1 a2 a3 x7 r1 _ h
set_option maxRecDepth 10000 in
theorem bk_X3_weakest_4 {X : ps_X} (C : ps_C X RX3 cX3_weakest) (hRm : xR X = ps_lvl 0) {r : Int32} {M9 : ps_M} (hfin : ∀ pc lv, decode cX3_weakest pc = .ok (.ireturn, 1) → narrow .int (.int r) = .int r → ps_G X M9 pc lv [.int r]) {q : Nat} (hq : ps_ck 9 q = true) : ∀ (n : Nat) (a1 : Int32) (a2 : Int32) (M : ps_M), fk_X3_weakest_4 q n a1 a2 M = some (r, M9) → ps_G X M 4 [some (.ref (xb X + q)), some (.int a1), some (.int a2)] [] := by
  intro n
  induction n with
  | zero => intro a1 a2 M h; rw [fk_X3_weakest_4] at h; cases h
  | succ n ih =>
    intro a1 a2 M h
    rw [fk_X3_weakest_4] at h
    refine ps_iloadn2 C dX3_weakest_4 ?_
    refine ps_aloadn0 C dX3_weakest_5 ?_
    refine gf_X3_16 C hq dX3_weakest_6 ?_
    refine ps_ic_ge C 39 dX3_weakest_9 rfl (fun c8 => ?_) (fun c8 => ?_)
    · replace h := ps_ip c8 h
      refine ps_iloadn1 C dX3_weakest_39 ?_
      exact ps_end_i h hfin dX3_weakest_40 rfl
    · replace h := ps_in0 c8 h
      refine ps_aloadn0 C dX3_weakest_12 ?_
      refine gf_X3_13 C hq dX3_weakest_13 ?_
      refine ps_iconst C dX3_weakest_16 pi_2 ?_
      obtain ⟨hi1, h⟩ := ps_gd h
      refine ps_ald10 C (kf_9_1 hq) hi1 dX3_weakest_17 ?_
      refine ps_iloadn2 C dX3_weakest_18 ?_
      obtain ⟨hi2, h⟩ := ps_gd h
      refine ps_iald C (ke_10 (kf_9_1 hq) hi1) (fun _ _ => rfl) hi2 dX3_weakest_19 ?_
      refine ps_aloadn0 C dX3_weakest_20 ?_
      refine gf_X3_13 C hq dX3_weakest_21 ?_
      refine ps_iconst C dX3_weakest_24 pi_2 ?_
      obtain ⟨hi3, h⟩ := ps_gd h
      refine ps_ald10 C (kf_9_1 hq) hi3 dX3_weakest_25 ?_
      refine ps_iloadn1 C dX3_weakest_26 ?_
      obtain ⟨hi4, h⟩ := ps_gd h
      refine ps_iald C (ke_10 (kf_9_1 hq) hi3) (fun _ _ => rfl) hi4 dX3_weakest_27 ?_
      refine ps_ic_ge C 33 dX3_weakest_28 rfl (fun c7 => ?_) (fun c7 => ?_)
      · replace h := ps_ip c7 h
        refine ps_iinc2 C rfl (nI 1) pi_1 dX3_weakest_33 (fun x5 ex5 => ?_)
        replace h := ps_lt ex5 h
        refine ps_goto C 4 dX3_weakest_36 rfl ?_
        exact ih a1 x5 _ h
      · replace h := ps_in0 c7 h
        refine ps_iloadn2 C dX3_weakest_31 ?_
        refine ps_istoren1 C rfl dX3_weakest_32 ?_
        refine ps_iinc2 C rfl (nI 1) pi_1 dX3_weakest_33 (fun x6 ex6 => ?_)
        replace h := ps_lt ex6 h
        refine ps_goto C 4 dX3_weakest_36 rfl ?_
        exact ih a2 x6 _ h
set_option maxRecDepth 10000 in
theorem tt_X3_weakest (l : Launch) (b : Nat) (D : va_G) {q : Nat} (hq : ps_ck 9 q = true) {M M9 : ps_M} {r : Int32} (h : ff_X3_weakest q  M = some (r, M9)) : ps_Ti l b D yX3_weakest cX3_weakest 3 .int 0 [.ref (b + q)] M r M9 := by
  refine ps_met_i (own := RX3) (lv := [some (.ref (b + q)), none, none]) (by decide) rfl rfl (Nat.le_of_ble_eq_true rfl) rfl (fun X eX1 eX2 eX3 hRm eX5 C hfin => ?_)
  subst eX1 eX2 eX3
  unfold ff_X3_weakest at h
  refine ps_iconst C dX3_weakest_0 pi_0 ?_
  refine ps_istoren1 C rfl dX3_weakest_1 ?_
  refine ps_iconst C dX3_weakest_2 pi_1 ?_
  refine ps_istoren2 C rfl dX3_weakest_3 ?_
  exact bk_X3_weakest_4 C hRm hfin hq ps_fu (nI 0) (nI 1) _ h
set_option maxRecDepth 10000 in
theorem bk_X3_hear_45 {X : ps_X} (C : ps_C X RX3 cX3_hear) (hRm : xR X = ps_lvl 3) {r : Int32} {M9 : ps_M} (hfin : ∀ pc lv, decode cX3_hear pc = .ok (.return_, 1) → ps_G X M9 pc lv []) {q : Nat} (hq : ps_ck 9 q = true) (a1 : Int32) (a2 : Int32) (a3 : Int32) (M : ps_M) (h : fk_X3_hear_45 q a1 a2 a3 M = some (r, M9)) : ps_G X M 45 [some (.ref (xb X + q)), some (.int a1), some (.int a2), some (.int a3)] [] := by
  unfold fk_X3_hear_45 at h
  refine ps_aloadn0 C dX3_hear_45 ?_
  refine ps_iloadn1 C dX3_hear_46 ?_
  refine pf_X3_20 C hq dX3_hear_47 (fun M1 eM1 => ?_)
  replace h := ps_lt eM1 h
  refine ps_aloadn0 C dX3_hear_50 ?_
  refine ps_dup C rfl dX3_hear_51 ?_
  refine gf_X3_23 C hq dX3_hear_52 ?_
  refine ps_iconst C dX3_hear_55 pi_1 ?_
  refine ps_iadd C dX3_hear_56 ?_
  refine pf_X3_23 C hq dX3_hear_57 (fun M2 eM2 => ?_)
  replace h := ps_lt eM2 h
  refine ps_aloadn0 C dX3_hear_60 ?_
  refine ps_dup C rfl dX3_hear_61 ?_
  refine gf_X3_26 C hq dX3_hear_62 ?_
  refine ps_iconst C dX3_hear_65 pi_1 ?_
  refine ps_iadd C dX3_hear_66 ?_
  refine pf_X3_26 C hq dX3_hear_67 (fun M3 eM3 => ?_)
  replace h := ps_lt eM3 h
  exact ps_end_v h hfin dX3_hear_70
set_option maxRecDepth 10000 in
theorem tt_X3_hear (l : Launch) (b : Nat) (D : va_G) {q : Nat} (hq : ps_ck 9 q = true) {a1 : Int32} {a2 : Int32} {a3 : Int32} {M M9 : ps_M} {r : Int32} (h : ff_X3_hear q a1 a2 a3 M = some (r, M9)) : ps_Tv l b D yX3_hear cX3_hear 4 3 [.ref (b + q), .int a1, .int a2, .int a3] M M9 := by
  refine ps_met_v (own := RX3) (lv := [some (.ref (b + q)), some (.int a1), some (.int a2), some (.int a3)]) (by decide) rfl rfl (Nat.le_of_ble_eq_true rfl) rfl (fun X eX1 eX2 eX3 hRm eX5 C hfin => ?_)
  subst eX1 eX2 eX3
  unfold ff_X3_hear at h
  refine ps_aloadn0 C dX3_hear_0 ?_
  refine gf_X3_20 C hq dX3_hear_1 ?_
  refine ps_bipush C dX3_hear_4 pb_m6 ?_
  refine ps_ic_eq C 45 dX3_hear_6 rfl (fun c9 => ?_) (fun c9 => ?_)
  · replace h := ps_ip c9 h
    exact bk_X3_hear_45 C hRm hfin hq a1 a2 a3 _ h
  · replace h := ps_in0 c9 h
    refine ps_aloadn0 C dX3_hear_9 ?_
    refine ps_aloadn0 C dX3_hear_10 ?_
    refine gf_X3_20 C hq dX3_hear_11 ?_
    refine ps_iloadn1 C dX3_hear_14 ?_
    refine ps_iloadn2 C dX3_hear_15 ?_
    obtain ⟨r4, M4, hM4, h⟩ := ps_bd h
    refine ps_goV_v C (rest := []) (tt_X3_grow (xl X) (xb X) (xD X) hq hM4) cw_X3_38 ps_rc9 hq (ps_room hRm (by decide)) rfl rfl (Nat.le_of_ble_eq_true rfl) dX3_hear_16 ?_
    refine ps_aloadn0 C dX3_hear_19 ?_
    refine gf_X3_16 C hq dX3_hear_20 ?_
    refine ps_iloadn3 C dX3_hear_23 ?_
    refine ps_ic_le C 45 dX3_hear_24 rfl (fun c8 => ?_) (fun c8 => ?_)
    · replace h := ps_ip c8 h
      exact bk_X3_hear_45 C hRm hfin hq a1 a2 a3 _ h
    · replace h := ps_in0 c8 h
      refine ps_aloadn0 C dX3_hear_27 ?_
      refine ps_aloadn0 C dX3_hear_28 ?_
      obtain ⟨r5, M5, hM5, h⟩ := ps_bd h
      refine ps_goV_i C (rest := [.ref (xb X + q)]) (tt_X3_weakest (xl X) (xb X) (xD X) hq hM5) cw_X3_42 ps_rc9 hq (ps_room hRm (by decide)) rfl rfl (Nat.le_of_ble_eq_true rfl) dX3_hear_29 ?_
      obtain ⟨r6, M6, hM6, h⟩ := ps_bd h
      refine ps_goV_v C (rest := []) (tt_X3_remove (xl X) (xb X) (xD X) hq hM6) cw_X3_46 ps_rc9 hq (ps_room hRm (by decide)) rfl rfl (Nat.le_of_ble_eq_true rfl) dX3_hear_32 ?_
      refine ps_aloadn0 C dX3_hear_35 ?_
      refine ps_dup C rfl dX3_hear_36 ?_
      refine gf_X3_29 C hq dX3_hear_37 ?_
      refine ps_iconst C dX3_hear_40 pi_1 ?_
      refine ps_iadd C dX3_hear_41 ?_
      refine pf_X3_29 C hq dX3_hear_42 (fun M7 eM7 => ?_)
      replace h := ps_lt eM7 h
      exact bk_X3_hear_45 C hRm hfin hq a1 a2 a3 _ h
set_option maxRecDepth 10000 in
theorem tt_X5_countLesson (l : Launch) (b : Nat) (D : va_G) {q : Nat} (hq : ps_ck 3 q = true) {a1 : Int32} {M M9 : ps_M} {r : Int32} (h : ff_X5_countLesson q a1 M = some (r, M9)) : ps_Tv l b D yX5_countLesson cX5_countLesson 2 1 [.ref (b + q), .int a1] M M9 := by
  refine ps_met_v (own := RX5) (lv := [some (.ref (b + q)), some (.int a1)]) (by decide) rfl rfl (Nat.le_of_ble_eq_true rfl) rfl (fun X eX1 eX2 eX3 hRm eX5 C hfin => ?_)
  subst eX1 eX2 eX3
  unfold ff_X5_countLesson at h
  refine ps_aloadn0 C dX5_countLesson_0 ?_
  refine ps_iloadn1 C dX5_countLesson_1 ?_
  obtain ⟨r1, M1, hM1, h⟩ := ps_bd h
  refine ps_goV_i C (rest := []) (tt_X5_has (xl X) (xb X) (xD X) hq hM1) cw_X5_42 ps_rc3 hq (ps_room hRm (by decide)) rfl rfl (Nat.le_of_ble_eq_true rfl) dX5_countLesson_2 ?_
  refine ps_if_eq C 18 dX5_countLesson_5 rfl (fun c5 => ?_) (fun c5 => ?_)
  · replace h := ps_ip c5 h
    exact ps_end_v h hfin dX5_countLesson_18
  · replace h := ps_in0 c5 h
    refine ps_aloadn0 C dX5_countLesson_8 ?_
    refine gf_X5_20 C hq dX5_countLesson_9 ?_
    refine ps_iloadn1 C dX5_countLesson_12 ?_
    refine ps_dup2 C rfl rfl dX5_countLesson_13 ?_
    obtain ⟨hi2, h⟩ := ps_gd h
    refine ps_iald C (kf_3_11 hq) (fun _ _ => rfl) hi2 dX5_countLesson_14 ?_
    refine ps_iconst C dX5_countLesson_15 pi_1 ?_
    refine ps_iadd C dX5_countLesson_16 ?_
    obtain ⟨hi3, h⟩ := ps_gd h
    refine ps_iast C (kf_3_11 hq) (fun _ _ => rfl) hi3 dX5_countLesson_17 (fun M4 eM4 => ?_)
    replace h := ps_lt eM4 h
    exact ps_end_v h hfin dX5_countLesson_18
set_option maxRecDepth 10000 in
theorem bk_X1_teach_59 {X : ps_X} (C : ps_C X RX1 cX1_teach) (hRm : xR X = ps_lvl 4) {r : Int32} {M9 : ps_M} (hfin : ∀ pc lv, decode cX1_teach pc = .ok (.ireturn, 1) → narrow .int (.int r) = .int r → ps_G X M9 pc lv [.int r]) {q : Nat} (hq : ps_ck 1 q = true) : ∀ (n : Nat) (a1 : Int32) (a2 : Int32) (a3 : Int32) (b4 : Nat) (a5 : Int32) (hb4 : ps_ck 9 b4 = true) (M : ps_M), fk_X1_teach_59 q n a1 a2 a3 b4 a5 M = some (r, M9) → ps_G X M 59 [some (.ref (xb X + q)), some (.int a1), some (.int a2), some (.int a3), some (.ref (xb X + b4)), some (.int a5)] [] := by
  intro n
  induction n with
  | zero => intro a1 a2 a3 b4 a5 hb4 M h; rw [fk_X1_teach_59] at h; cases h
  | succ n ih =>
    intro a1 a2 a3 b4 a5 hb4 M h
    rw [fk_X1_teach_59] at h
    refine ps_iload5 C dX1_teach_59 ?_
    refine ps_aloadn0 C dX1_teach_61 ?_
    refine gf_X1_18 C hq dX1_teach_62 ?_
    refine ps_iloadn2 C dX1_teach_65 ?_
    obtain ⟨r6, M6, hM6, h⟩ := ps_bd h
    refine ps_goV_i C (rest := [.int a5]) (tt_X5_lengthOf (xl X) (xb X) (xD X) (kf_1_2 hq) hM6) cw_X1_79 ps_rc3 (kf_1_2 hq) (ps_room hRm (by decide)) rfl rfl (Nat.le_of_ble_eq_true rfl) dX1_teach_66 ?_
    refine ps_ic_ge C 114 dX1_teach_69 rfl (fun c16 => ?_) (fun c16 => ?_)
    · replace h := ps_ip c16 h
      refine ps_aloadn0 C dX1_teach_114 ?_
      refine gf_X1_18 C hq dX1_teach_115 ?_
      refine ps_iloadn2 C dX1_teach_118 ?_
      obtain ⟨r7, M7, hM7, h⟩ := ps_bd h
      refine ps_goV_v C (rest := []) (tt_X5_countLesson (xl X) (xb X) (xD X) (kf_1_2 hq) hM7) cw_X1_91 ps_rc3 (kf_1_2 hq) (ps_room hRm (by decide)) rfl rfl (Nat.le_of_ble_eq_true rfl) dX1_teach_119 ?_
      refine ps_iload5 C dX1_teach_122 ?_
      refine ps_iloadn3 C dX1_teach_124 ?_
      refine ps_isub C dX1_teach_125 ?_
      exact ps_end_i h hfin dX1_teach_126 rfl
    · replace h := ps_in0 c16 h
      refine ps_aloadn0 C dX1_teach_72 ?_
      refine ps_aload4 C dX1_teach_73 ?_
      obtain ⟨r8, M8, hM8, h⟩ := ps_bd h
      refine ps_goV_i C (rest := []) (tt_X1_isTired (xl X) (xb X) (xD X) hq hb4 hM8) cw_X1_75 ps_rc1 hq (ps_room hRm (by decide)) rfl rfl (Nat.le_of_ble_eq_true rfl) dX1_teach_75 ?_
      refine ps_if_ne C 114 dX1_teach_78 rfl (fun c15 => ?_) (fun c15 => ?_)
      · replace h := ps_in0 c15 h
        refine ps_aloadn0 C dX1_teach_114 ?_
        refine gf_X1_18 C hq dX1_teach_115 ?_
        refine ps_iloadn2 C dX1_teach_118 ?_
        obtain ⟨r9, M9, hM9, h⟩ := ps_bd h
        refine ps_goV_v C (rest := []) (tt_X5_countLesson (xl X) (xb X) (xD X) (kf_1_2 hq) hM9) cw_X1_91 ps_rc3 (kf_1_2 hq) (ps_room hRm (by decide)) rfl rfl (Nat.le_of_ble_eq_true rfl) dX1_teach_119 ?_
        refine ps_iload5 C dX1_teach_122 ?_
        refine ps_iloadn3 C dX1_teach_124 ?_
        refine ps_isub C dX1_teach_125 ?_
        exact ps_end_i h hfin dX1_teach_126 rfl
      · replace h := ps_ip c15 h
        refine ps_aload4 C dX1_teach_81 ?_
        refine ps_aloadn0 C dX1_teach_83 ?_
        refine gf_X1_18 C hq dX1_teach_84 ?_
        refine ps_iloadn2 C dX1_teach_87 ?_
        refine ps_iload5 C dX1_teach_88 ?_
        obtain ⟨r10, M10, hM10, h⟩ := ps_bd h
        refine ps_goV_i C (rest := [.ref (xb X + b4)]) (tt_X5_barAt (xl X) (xb X) (xD X) (kf_1_2 hq) hM10) cw_X1_83 ps_rc3 (kf_1_2 hq) (ps_room hRm (by decide)) rfl rfl (Nat.le_of_ble_eq_true rfl) dX1_teach_90 ?_
        refine ps_aloadn0 C dX1_teach_93 ?_
        refine gf_X1_9 C hq dX1_teach_94 ?_
        refine ps_iconst C dX1_teach_97 pi_2 ?_
        obtain ⟨hi11, h⟩ := ps_gd h
        refine ps_iald C (kf_1_1 hq) (fun _ _ => rfl) hi11 dX1_teach_98 ?_
        refine ps_aloadn0 C dX1_teach_99 ?_
        refine gf_X1_9 C hq dX1_teach_100 ?_
        refine ps_iconst C dX1_teach_103 pi_0 ?_
        obtain ⟨hi12, h⟩ := ps_gd h
        refine ps_iald C (kf_1_1 hq) (fun _ _ => rfl) hi12 dX1_teach_104 ?_
        obtain ⟨r13, M13, hM13, h⟩ := ps_bd h
        refine ps_goV_v C (rest := []) (tt_X3_hear (xl X) (xb X) (xD X) hb4 hM13) cw_X1_87 ps_rc9 hb4 (ps_room hRm (by decide)) rfl rfl (Nat.le_of_ble_eq_true rfl) dX1_teach_105 ?_
        refine ps_iinc5 C rfl (nI 1) pi_1 dX1_teach_108 (fun x14 ex14 => ?_)
        replace h := ps_lt ex14 h
        refine ps_goto C 59 dX1_teach_111 rfl ?_
        exact ih a1 a2 a3 b4 x14 hb4 _ h
set_option maxRecDepth 10000 in
theorem tt_X1_teach (l : Launch) (b : Nat) (D : va_G) {q : Nat} (hq : ps_ck 1 q = true) {a1 : Int32} {a2 : Int32} {a3 : Int32} {M M9 : ps_M} {r : Int32} (h : ff_X1_teach q a1 a2 a3 M = some (r, M9)) : ps_Ti l b D yX1_teach cX1_teach 6 .int 4 [.ref (b + q), .int a1, .int a2, .int a3] M r M9 := by
  refine ps_met_i (own := RX1) (lv := [some (.ref (b + q)), some (.int a1), some (.int a2), some (.int a3), none, none]) (by decide) rfl rfl (Nat.le_of_ble_eq_true rfl) rfl (fun X eX1 eX2 eX3 hRm eX5 C hfin => ?_)
  subst eX1 eX2 eX3
  unfold ff_X1_teach at h
  refine ps_aloadn0 C dX1_teach_0 ?_
  refine ps_iloadn1 C dX1_teach_1 ?_
  obtain ⟨r1, M1, hM1, h⟩ := ps_bd h
  refine ps_goV_i C (rest := []) (tt_X1_hasParrot (xl X) (xb X) (xD X) hq hM1) cw_X1_64 ps_rc1 hq (ps_room hRm (by decide)) rfl rfl (Nat.le_of_ble_eq_true rfl) dX1_teach_2 ?_
  refine ps_if_eq C 19 dX1_teach_5 rfl (fun c20 => ?_) (fun c20 => ?_)
  · replace h := ps_ip c20 h
    refine ps_iconst C dX1_teach_19 pi_m1 ?_
    exact ps_end_i h hfin dX1_teach_20 rfl
  · replace h := ps_in0 c20 h
    refine ps_aloadn0 C dX1_teach_8 ?_
    refine gf_X1_18 C hq dX1_teach_9 ?_
    refine ps_iloadn2 C dX1_teach_12 ?_
    obtain ⟨r2, M2, hM2, h⟩ := ps_bd h
    refine ps_goV_i C (rest := []) (tt_X5_has (xl X) (xb X) (xD X) (kf_1_2 hq) hM2) cw_X1_68 ps_rc3 (kf_1_2 hq) (ps_room hRm (by decide)) rfl rfl (Nat.le_of_ble_eq_true rfl) dX1_teach_13 ?_
    refine ps_if_ne C 21 dX1_teach_16 rfl (fun c19 => ?_) (fun c19 => ?_)
    · replace h := ps_in0 c19 h
      refine ps_aloadn0 C dX1_teach_21 ?_
      refine gf_X1_18 C hq dX1_teach_22 ?_
      refine ps_iloadn2 C dX1_teach_25 ?_
      refine ps_iloadn3 C dX1_teach_26 ?_
      obtain ⟨r3, M3, hM3, h⟩ := ps_bd h
      refine ps_goV_i C (rest := []) (tt_X5_hasBar (xl X) (xb X) (xD X) (kf_1_2 hq) hM3) cw_X1_71 ps_rc3 (kf_1_2 hq) (ps_room hRm (by decide)) rfl rfl (Nat.le_of_ble_eq_true rfl) dX1_teach_27 ?_
      refine ps_if_ne C 36 dX1_teach_30 rfl (fun c18 => ?_) (fun c18 => ?_)
      · replace h := ps_in0 c18 h
        refine ps_aloadn0 C dX1_teach_36 ?_
        refine gf_X1_24 C hq dX1_teach_37 ?_
        refine ps_iloadn1 C dX1_teach_40 ?_
        obtain ⟨hi4, h⟩ := ps_gd h
        refine ps_ald7 C (kf_1_14 hq) hi4 dX1_teach_41 ?_
        refine ps_astore4 C rfl dX1_teach_42 ?_
        refine ps_aloadn0 C dX1_teach_44 ?_
        refine ps_aload4 C dX1_teach_45 ?_
        obtain ⟨r5, M5, hM5, h⟩ := ps_bd h
        refine ps_goV_i C (rest := []) (tt_X1_isTired (xl X) (xb X) (xD X) hq (ke_7 (kf_1_14 hq) hi4) hM5) cw_X1_75 ps_rc1 hq (ps_room hRm (by decide)) rfl rfl (Nat.le_of_ble_eq_true rfl) dX1_teach_47 ?_
        refine ps_if_eq C 56 dX1_teach_50 rfl (fun c17 => ?_) (fun c17 => ?_)
        · replace h := ps_ip c17 h
          refine ps_iloadn3 C dX1_teach_56 ?_
          refine ps_istore5 C rfl dX1_teach_57 ?_
          exact bk_X1_teach_59 C hRm hfin hq ps_fu a1 a2 a3 ((q + 14) + 2 + 6 * a1.toNatClampNeg) a3 (ke_7 (kf_1_14 hq) hi4) _ h
        · replace h := ps_in0 c17 h
          refine ps_bipush C dX1_teach_53 pb_m5 ?_
          exact ps_end_i h hfin dX1_teach_55 rfl
      · replace h := ps_ip c18 h
        refine ps_bipush C dX1_teach_33 pb_m2 ?_
        exact ps_end_i h hfin dX1_teach_35 rfl
    · replace h := ps_ip c19 h
      refine ps_iconst C dX1_teach_19 pi_m1 ?_
      exact ps_end_i h hfin dX1_teach_20 rfl
set_option maxRecDepth 10000 in
theorem bk_X1_singWholeTo_2 {X : ps_X} (C : ps_C X RX1 cX1_singWholeTo) (hRm : xR X = ps_lvl 4) {r : Int32} {M9 : ps_M} (hfin : ∀ pc lv, decode cX1_singWholeTo pc = .ok (.return_, 1) → ps_G X M9 pc lv []) {q : Nat} (hq : ps_ck 1 q = true) : ∀ (n : Nat) (b1 : Nat) (a2 : Int32) (a3 : Int32) (hb1 : ps_ck 9 b1 = true) (M : ps_M), fk_X1_singWholeTo_2 q n b1 a2 a3 M = some (r, M9) → ps_G X M 2 [some (.ref (xb X + q)), some (.ref (xb X + b1)), some (.int a2), some (.int a3)] [] := by
  intro n
  induction n with
  | zero => intro b1 a2 a3 hb1 M h; rw [fk_X1_singWholeTo_2] at h; cases h
  | succ n ih =>
    intro b1 a2 a3 hb1 M h
    rw [fk_X1_singWholeTo_2] at h
    refine ps_iloadn3 C dX1_singWholeTo_2 ?_
    refine ps_aloadn0 C dX1_singWholeTo_3 ?_
    refine gf_X1_18 C hq dX1_singWholeTo_4 ?_
    refine ps_iloadn2 C dX1_singWholeTo_7 ?_
    obtain ⟨r1, M1, hM1, h⟩ := ps_bd h
    refine ps_goV_i C (rest := [.int a3]) (tt_X5_lengthOf (xl X) (xb X) (xD X) (kf_1_2 hq) hM1) cw_X1_79 ps_rc3 (kf_1_2 hq) (ps_room hRm (by decide)) rfl rfl (Nat.le_of_ble_eq_true rfl) dX1_singWholeTo_8 ?_
    refine ps_ic_ge C 45 dX1_singWholeTo_11 rfl (fun c7 => ?_) (fun c7 => ?_)
    · replace h := ps_ip c7 h
      exact ps_end_v h hfin dX1_singWholeTo_45
    · replace h := ps_in0 c7 h
      refine ps_aloadn1 C dX1_singWholeTo_14 ?_
      refine ps_aloadn0 C dX1_singWholeTo_15 ?_
      refine gf_X1_18 C hq dX1_singWholeTo_16 ?_
      refine ps_iloadn2 C dX1_singWholeTo_19 ?_
      refine ps_iloadn3 C dX1_singWholeTo_20 ?_
      obtain ⟨r2, M2, hM2, h⟩ := ps_bd h
      refine ps_goV_i C (rest := [.ref (xb X + b1)]) (tt_X5_barAt (xl X) (xb X) (xD X) (kf_1_2 hq) hM2) cw_X1_83 ps_rc3 (kf_1_2 hq) (ps_room hRm (by decide)) rfl rfl (Nat.le_of_ble_eq_true rfl) dX1_singWholeTo_21 ?_
      refine ps_aloadn0 C dX1_singWholeTo_24 ?_
      refine gf_X1_9 C hq dX1_singWholeTo_25 ?_
      refine ps_iconst C dX1_singWholeTo_28 pi_2 ?_
      obtain ⟨hi3, h⟩ := ps_gd h
      refine ps_iald C (kf_1_1 hq) (fun _ _ => rfl) hi3 dX1_singWholeTo_29 ?_
      refine ps_aloadn0 C dX1_singWholeTo_30 ?_
      refine gf_X1_9 C hq dX1_singWholeTo_31 ?_
      refine ps_iconst C dX1_singWholeTo_34 pi_0 ?_
      obtain ⟨hi4, h⟩ := ps_gd h
      refine ps_iald C (kf_1_1 hq) (fun _ _ => rfl) hi4 dX1_singWholeTo_35 ?_
      obtain ⟨r5, M5, hM5, h⟩ := ps_bd h
      refine ps_goV_v C (rest := []) (tt_X3_hear (xl X) (xb X) (xD X) hb1 hM5) cw_X1_87 ps_rc9 hb1 (ps_room hRm (by decide)) rfl rfl (Nat.le_of_ble_eq_true rfl) dX1_singWholeTo_36 ?_
      refine ps_iinc3 C rfl (nI 1) pi_1 dX1_singWholeTo_39 (fun x6 ex6 => ?_)
      replace h := ps_lt ex6 h
      refine ps_goto C 2 dX1_singWholeTo_42 rfl ?_
      exact ih b1 a2 x6 hb1 _ h
set_option maxRecDepth 10000 in
theorem tt_X1_singWholeTo (l : Launch) (b : Nat) (D : va_G) {q : Nat} (hq : ps_ck 1 q = true) {b1 : Nat} (hb1 : ps_ck 9 b1 = true) {a2 : Int32} {M M9 : ps_M} {r : Int32} (h : ff_X1_singWholeTo q b1 a2 M = some (r, M9)) : ps_Tv l b D yX1_singWholeTo cX1_singWholeTo 4 4 [.ref (b + q), .ref (b + b1), .int a2] M M9 := by
  refine ps_met_v (own := RX1) (lv := [some (.ref (b + q)), some (.ref (b + b1)), some (.int a2), none]) (by decide) rfl rfl (Nat.le_of_ble_eq_true rfl) rfl (fun X eX1 eX2 eX3 hRm eX5 C hfin => ?_)
  subst eX1 eX2 eX3
  unfold ff_X1_singWholeTo at h
  refine ps_iconst C dX1_singWholeTo_0 pi_0 ?_
  refine ps_istoren3 C rfl dX1_singWholeTo_1 ?_
  exact bk_X1_singWholeTo_2 C hRm hfin hq ps_fu b1 a2 (nI 0) hb1 _ h
set_option maxRecDepth 10000 in
theorem tt_X1_silence (l : Launch) (b : Nat) (D : va_G) {q : Nat} (hq : ps_ck 1 q = true) {a1 : Int32} {M M9 : ps_M} {r : Int32} (h : ff_X1_silence q a1 M = some (r, M9)) : ps_Ti l b D yX1_silence cX1_silence 3 .int 1 [.ref (b + q), .int a1] M r M9 := by
  refine ps_met_i (own := RX1) (lv := [some (.ref (b + q)), some (.int a1), none]) (by decide) rfl rfl (Nat.le_of_ble_eq_true rfl) rfl (fun X eX1 eX2 eX3 hRm eX5 C hfin => ?_)
  subst eX1 eX2 eX3
  unfold ff_X1_silence at h
  refine ps_aloadn0 C dX1_silence_0 ?_
  refine ps_iloadn1 C dX1_silence_1 ?_
  obtain ⟨r1, M1, hM1, h⟩ := ps_bd h
  refine ps_goV_i C (rest := []) (tt_X1_hasParrot (xl X) (xb X) (xD X) hq hM1) cw_X1_64 ps_rc1 hq (ps_room hRm (by decide)) rfl rfl (Nat.le_of_ble_eq_true rfl) dX1_silence_2 ?_
  refine ps_if_ne C 10 dX1_silence_5 rfl (fun c6 => ?_) (fun c6 => ?_)
  · replace h := ps_in0 c6 h
    refine ps_aloadn0 C dX1_silence_10 ?_
    refine gf_X1_24 C hq dX1_silence_11 ?_
    refine ps_iloadn1 C dX1_silence_14 ?_
    obtain ⟨hi2, h⟩ := ps_gd h
    refine ps_ald7 C (kf_1_14 hq) hi2 dX1_silence_15 ?_
    refine gf_X1_95 C (ke_7 (kf_1_14 hq) hi2) dX1_silence_16 ?_
    refine ps_nmi (fun x3 ex3 => ?_)
    replace h := ps_lt ex3 h
    refine ps_istoren2 C rfl dX1_silence_19 ?_
    refine ps_aloadn0 C dX1_silence_20 ?_
    refine gf_X1_24 C hq dX1_silence_21 ?_
    refine ps_iloadn1 C dX1_silence_24 ?_
    obtain ⟨hi4, h⟩ := ps_gd h
    refine ps_ald7 C (kf_1_14 hq) hi4 dX1_silence_25 ?_
    refine ps_bipush C dX1_silence_26 pb_m6 ?_
    refine pf_X1_95 C (ke_7 (kf_1_14 hq) hi4) dX1_silence_28 (fun M5 eM5 => ?_)
    replace h := ps_lt eM5 h
    refine ps_iloadn2 C dX1_silence_31 ?_
    exact ps_end_i h hfin dX1_silence_32 rfl
  · replace h := ps_ip c6 h
    refine ps_iconst C dX1_silence_8 pi_m1 ?_
    exact ps_end_i h hfin dX1_silence_9 rfl
set_option maxRecDepth 10000 in
theorem bk_X3_nextBehind_13 {X : ps_X} (C : ps_C X RX3 cX3_nextBehind) (hRm : xR X = ps_lvl 0) {r : Int32} {M9 : ps_M} (hfin : ∀ pc lv, decode cX3_nextBehind pc = .ok (.ireturn, 1) → narrow .int (.int r) = .int r → ps_G X M9 pc lv [.int r]) {q : Nat} (hq : ps_ck 9 q = true) : ∀ (n : Nat) (a1 : Int32) (a2 : Int32) (a3 : Int32) (a4 : Int32) (M : ps_M), fk_X3_nextBehind_13 q n a1 a2 a3 a4 M = some (r, M9) → ps_G X M 13 [some (.ref (xb X + q)), some (.int a1), some (.int a2), some (.int a3), some (.int a4)] [] := by
  intro n
  induction n with
  | zero => intro a1 a2 a3 a4 M h; rw [fk_X3_nextBehind_13] at h; cases h
  | succ n ih =>
    intro a1 a2 a3 a4 M h
    rw [fk_X3_nextBehind_13] at h
    refine ps_iload4 C dX3_nextBehind_13 ?_
    refine ps_if_lt C 70 dX3_nextBehind_15 rfl (fun c17 => ?_) (fun c17 => ?_)
    · replace h := ps_ip c17 h
      refine ps_iloadn2 C dX3_nextBehind_70 ?_
      exact ps_end_i h hfin dX3_nextBehind_71 rfl
    · replace h := ps_in0 c17 h
      refine ps_aloadn0 C dX3_nextBehind_18 ?_
      refine gf_X3_13 C hq dX3_nextBehind_19 ?_
      refine ps_iconst C dX3_nextBehind_22 pi_0 ?_
      obtain ⟨hi2, h⟩ := ps_gd h
      refine ps_ald10 C (kf_9_1 hq) hi2 dX3_nextBehind_23 ?_
      refine ps_iload4 C dX3_nextBehind_24 ?_
      obtain ⟨hi3, h⟩ := ps_gd h
      refine ps_iald C (ke_10 (kf_9_1 hq) hi2) (fun _ _ => rfl) hi3 dX3_nextBehind_26 ?_
      refine ps_iloadn1 C dX3_nextBehind_27 ?_
      refine ps_ic_ne C 64 dX3_nextBehind_28 rfl (fun c16 => ?_) (fun c16 => ?_)
      · replace h := ps_in0 c16 h
        refine ps_iinc4 C rfl (ps_m 1) pi_m1 dX3_nextBehind_64 (fun x4 ex4 => ?_)
        replace h := ps_lt ex4 h
        refine ps_goto C 13 dX3_nextBehind_67 rfl ?_
        exact ih a1 a2 a3 x4 _ h
      · replace h := ps_ip c16 h
        refine ps_aloadn0 C dX3_nextBehind_31 ?_
        refine gf_X3_13 C hq dX3_nextBehind_32 ?_
        refine ps_iconst C dX3_nextBehind_35 pi_2 ?_
        obtain ⟨hi5, h⟩ := ps_gd h
        refine ps_ald10 C (kf_9_1 hq) hi5 dX3_nextBehind_36 ?_
        refine ps_iload4 C dX3_nextBehind_37 ?_
        obtain ⟨hi6, h⟩ := ps_gd h
        refine ps_iald C (ke_10 (kf_9_1 hq) hi5) (fun _ _ => rfl) hi6 dX3_nextBehind_39 ?_
        refine ps_iloadn3 C dX3_nextBehind_40 ?_
        refine ps_ic_le C 64 dX3_nextBehind_41 rfl (fun c15 => ?_) (fun c15 => ?_)
        · replace h := ps_ip c15 h
          refine ps_iinc4 C rfl (ps_m 1) pi_m1 dX3_nextBehind_64 (fun x7 ex7 => ?_)
          replace h := ps_lt ex7 h
          refine ps_goto C 13 dX3_nextBehind_67 rfl ?_
          exact ih a1 a2 a3 x7 _ h
        · replace h := ps_in0 c15 h
          refine ps_aloadn0 C dX3_nextBehind_44 ?_
          refine gf_X3_13 C hq dX3_nextBehind_45 ?_
          refine ps_iconst C dX3_nextBehind_48 pi_1 ?_
          obtain ⟨hi8, h⟩ := ps_gd h
          refine ps_ald10 C (kf_9_1 hq) hi8 dX3_nextBehind_49 ?_
          refine ps_iload4 C dX3_nextBehind_50 ?_
          obtain ⟨hi9, h⟩ := ps_gd h
          refine ps_iald C (ke_10 (kf_9_1 hq) hi8) (fun _ _ => rfl) hi9 dX3_nextBehind_52 ?_
          refine ps_nmi (fun x10 ex10 => ?_)
          replace h := ps_lt ex10 h
          refine ps_istoren2 C rfl dX3_nextBehind_53 ?_
          refine ps_aloadn0 C dX3_nextBehind_54 ?_
          refine gf_X3_13 C hq dX3_nextBehind_55 ?_
          refine ps_iconst C dX3_nextBehind_58 pi_2 ?_
          obtain ⟨hi11, h⟩ := ps_gd h
          refine ps_ald10 C (kf_9_1 hq) hi11 dX3_nextBehind_59 ?_
          refine ps_iload4 C dX3_nextBehind_60 ?_
          obtain ⟨hi12, h⟩ := ps_gd h
          refine ps_iald C (ke_10 (kf_9_1 hq) hi11) (fun _ _ => rfl) hi12 dX3_nextBehind_62 ?_
          refine ps_nmi (fun x13 ex13 => ?_)
          replace h := ps_lt ex13 h
          refine ps_istoren3 C rfl dX3_nextBehind_63 ?_
          refine ps_iinc4 C rfl (ps_m 1) pi_m1 dX3_nextBehind_64 (fun x14 ex14 => ?_)
          replace h := ps_lt ex14 h
          refine ps_goto C 13 dX3_nextBehind_67 rfl ?_
          exact ih a1 x10 x13 x14 _ h
set_option maxRecDepth 10000 in
theorem tt_X3_nextBehind (l : Launch) (b : Nat) (D : va_G) {q : Nat} (hq : ps_ck 9 q = true) {a1 : Int32} {M M9 : ps_M} {r : Int32} (h : ff_X3_nextBehind q a1 M = some (r, M9)) : ps_Ti l b D yX3_nextBehind cX3_nextBehind 5 .int 0 [.ref (b + q), .int a1] M r M9 := by
  refine ps_met_i (own := RX3) (lv := [some (.ref (b + q)), some (.int a1), none, none, none]) (by decide) rfl rfl (Nat.le_of_ble_eq_true rfl) rfl (fun X eX1 eX2 eX3 hRm eX5 C hfin => ?_)
  subst eX1 eX2 eX3
  unfold ff_X3_nextBehind at h
  refine ps_bipush C dX3_nextBehind_0 pb_m6 ?_
  refine ps_istoren2 C rfl dX3_nextBehind_2 ?_
  refine ps_iconst C dX3_nextBehind_3 pi_0 ?_
  refine ps_istoren3 C rfl dX3_nextBehind_4 ?_
  refine ps_aloadn0 C dX3_nextBehind_5 ?_
  refine gf_X3_16 C hq dX3_nextBehind_6 ?_
  refine ps_iconst C dX3_nextBehind_9 pi_1 ?_
  refine ps_isub C dX3_nextBehind_10 ?_
  refine ps_nmi (fun x1 ex1 => ?_)
  replace h := ps_lt ex1 h
  refine ps_istore4 C rfl dX3_nextBehind_11 ?_
  exact bk_X3_nextBehind_13 C hRm hfin hq ps_fu a1 (ps_m 6) (nI 0) x1 _ h
set_option maxRecDepth 10000 in
theorem bk_X1_findSung_12 {X : ps_X} (C : ps_C X RX1 cX1_findSung) (hRm : xR X = ps_lvl 1) {r : Int32} {M9 : ps_M} (hfin : ∀ pc lv, decode cX1_findSung pc = .ok (.ireturn, 1) → narrow .int (.int r) = .int r → ps_G X M9 pc lv [.int r]) {q : Nat} (hq : ps_ck 1 q = true) : ∀ (n : Nat) (b1 : Nat) (a2 : Int32) (a3 : Int32) (a4 : Int32) (hb1 : ps_ck 9 b1 = true) (M : ps_M), fk_X1_findSung_12 q n b1 a2 a3 a4 M = some (r, M9) → ps_G X M 12 [some (.ref (xb X + q)), some (.ref (xb X + b1)), some (.int a2), some (.int a3), some (.int a4)] [] := by
  intro n
  induction n with
  | zero => intro b1 a2 a3 a4 hb1 M h; rw [fk_X1_findSung_12] at h; cases h
  | succ n ih =>
    intro b1 a2 a3 a4 hb1 M h
    rw [fk_X1_findSung_12] at h
    refine ps_iloadn3 C dX1_findSung_12 ?_
    refine ps_iloadn2 C dX1_findSung_13 ?_
    refine ps_ic_ge C 52 dX1_findSung_14 rfl (fun c8 => ?_) (fun c8 => ?_)
    · replace h := ps_ip c8 h
      refine ps_iloadn3 C dX1_findSung_52 ?_
      exact ps_end_i h hfin dX1_findSung_53 rfl
    · replace h := ps_in0 c8 h
      refine ps_iloadn3 C dX1_findSung_17 ?_
      refine ps_bipush C dX1_findSung_18 pb_40 ?_
      refine ps_ic_ge C 52 dX1_findSung_20 rfl (fun c7 => ?_) (fun c7 => ?_)
      · replace h := ps_ip c7 h
        refine ps_iloadn3 C dX1_findSung_52 ?_
        exact ps_end_i h hfin dX1_findSung_53 rfl
      · replace h := ps_in0 c7 h
        refine ps_iload4 C dX1_findSung_23 ?_
        refine ps_bipush C dX1_findSung_25 pb_m6 ?_
        refine ps_ic_eq C 52 dX1_findSung_27 rfl (fun c6 => ?_) (fun c6 => ?_)
        · replace h := ps_ip c6 h
          refine ps_iloadn3 C dX1_findSung_52 ?_
          exact ps_end_i h hfin dX1_findSung_53 rfl
        · replace h := ps_in0 c6 h
          refine ps_aloadn0 C dX1_findSung_30 ?_
          refine gf_X1_35 C hq dX1_findSung_31 ?_
          refine ps_iloadn3 C dX1_findSung_34 ?_
          refine ps_iload4 C dX1_findSung_35 ?_
          obtain ⟨hi2, h⟩ := ps_gd h
          refine ps_iast C (kf_1_15 hq) (fun _ _ => rfl) hi2 dX1_findSung_37 (fun M3 eM3 => ?_)
          replace h := ps_lt eM3 h
          refine ps_iinc3 C rfl (nI 1) pi_1 dX1_findSung_38 (fun x4 ex4 => ?_)
          replace h := ps_lt ex4 h
          refine ps_aloadn1 C dX1_findSung_41 ?_
          refine ps_iload4 C dX1_findSung_42 ?_
          obtain ⟨r5, M5, hM5, h⟩ := ps_bd h
          refine ps_goV_i C (rest := []) (tt_X3_nextBehind (xl X) (xb X) (xD X) hb1 hM5) cw_X1_106 ps_rc9 hb1 (ps_room hRm (by decide)) rfl rfl (Nat.le_of_ble_eq_true rfl) dX1_findSung_44 ?_
          refine ps_istore4 C rfl dX1_findSung_47 ?_
          refine ps_goto C 12 dX1_findSung_49 rfl ?_
          exact ih b1 a2 x4 r5 hb1 _ h
set_option maxRecDepth 10000 in
theorem tt_X1_findSung (l : Launch) (b : Nat) (D : va_G) {q : Nat} (hq : ps_ck 1 q = true) {b1 : Nat} (hb1 : ps_ck 9 b1 = true) {a2 : Int32} {M M9 : ps_M} {r : Int32} (h : ff_X1_findSung q b1 a2 M = some (r, M9)) : ps_Ti l b D yX1_findSung cX1_findSung 5 .int 1 [.ref (b + q), .ref (b + b1), .int a2] M r M9 := by
  refine ps_met_i (own := RX1) (lv := [some (.ref (b + q)), some (.ref (b + b1)), some (.int a2), none, none]) (by decide) rfl rfl (Nat.le_of_ble_eq_true rfl) rfl (fun X eX1 eX2 eX3 hRm eX5 C hfin => ?_)
  subst eX1 eX2 eX3
  unfold ff_X1_findSung at h
  refine ps_iconst C dX1_findSung_0 pi_0 ?_
  refine ps_istoren3 C rfl dX1_findSung_1 ?_
  refine ps_aloadn1 C dX1_findSung_2 ?_
  refine ps_aloadn1 C dX1_findSung_3 ?_
  refine gf_X1_95 C hb1 dX1_findSung_4 ?_
  obtain ⟨r1, M1, hM1, h⟩ := ps_bd h
  refine ps_goV_i C (rest := []) (tt_X3_nextBehind (xl X) (xb X) (xD X) hb1 hM1) cw_X1_106 ps_rc9 hb1 (ps_room hRm (by decide)) rfl rfl (Nat.le_of_ble_eq_true rfl) dX1_findSung_7 ?_
  refine ps_istore4 C rfl dX1_findSung_10 ?_
  exact bk_X1_findSung_12 C hRm hfin hq ps_fu b1 a2 (nI 0) r1 hb1 _ h
set_option maxRecDepth 10000 in
theorem bk_X1_singSungTo_2 {X : ps_X} (C : ps_C X RX1 cX1_singSungTo) (hRm : xR X = ps_lvl 4) {r : Int32} {M9 : ps_M} (hfin : ∀ pc lv, decode cX1_singSungTo pc = .ok (.return_, 1) → ps_G X M9 pc lv []) {q : Nat} (hq : ps_ck 1 q = true) : ∀ (n : Nat) (b1 : Nat) (a2 : Int32) (a3 : Int32) (hb1 : ps_ck 9 b1 = true) (M : ps_M), fk_X1_singSungTo_2 q n b1 a2 a3 M = some (r, M9) → ps_G X M 2 [some (.ref (xb X + q)), some (.ref (xb X + b1)), some (.int a2), some (.int a3)] [] := by
  intro n
  induction n with
  | zero => intro b1 a2 a3 hb1 M h; rw [fk_X1_singSungTo_2] at h; cases h
  | succ n ih =>
    intro b1 a2 a3 hb1 M h
    rw [fk_X1_singSungTo_2] at h
    refine ps_iloadn3 C dX1_singSungTo_2 ?_
    refine ps_iloadn2 C dX1_singSungTo_3 ?_
    refine ps_ic_ge C 49 dX1_singSungTo_4 rfl (fun c9 => ?_) (fun c9 => ?_)
    · replace h := ps_ip c9 h
      exact ps_end_v h hfin dX1_singSungTo_49
    · replace h := ps_in0 c9 h
      refine ps_iloadn3 C dX1_singSungTo_7 ?_
      refine ps_bipush C dX1_singSungTo_8 pb_40 ?_
      refine ps_ic_ge C 49 dX1_singSungTo_10 rfl (fun c8 => ?_) (fun c8 => ?_)
      · replace h := ps_ip c8 h
        exact ps_end_v h hfin dX1_singSungTo_49
      · replace h := ps_in0 c8 h
        refine ps_aloadn0 C dX1_singSungTo_13 ?_
        refine ps_aloadn1 C dX1_singSungTo_14 ?_
        obtain ⟨r1, M1, hM1, h⟩ := ps_bd h
        refine ps_goV_i C (rest := []) (tt_X1_isTired (xl X) (xb X) (xD X) hq hb1 hM1) cw_X1_75 ps_rc1 hq (ps_room hRm (by decide)) rfl rfl (Nat.le_of_ble_eq_true rfl) dX1_singSungTo_15 ?_
        refine ps_if_ne C 49 dX1_singSungTo_18 rfl (fun c7 => ?_) (fun c7 => ?_)
        · replace h := ps_in0 c7 h
          exact ps_end_v h hfin dX1_singSungTo_49
        · replace h := ps_ip c7 h
          refine ps_aloadn1 C dX1_singSungTo_21 ?_
          refine ps_aloadn0 C dX1_singSungTo_22 ?_
          refine gf_X1_35 C hq dX1_singSungTo_23 ?_
          refine ps_iloadn3 C dX1_singSungTo_26 ?_
          obtain ⟨hi2, h⟩ := ps_gd h
          refine ps_iald C (kf_1_15 hq) (fun _ _ => rfl) hi2 dX1_singSungTo_27 ?_
          refine ps_aloadn0 C dX1_singSungTo_28 ?_
          refine gf_X1_9 C hq dX1_singSungTo_29 ?_
          refine ps_iconst C dX1_singSungTo_32 pi_2 ?_
          obtain ⟨hi3, h⟩ := ps_gd h
          refine ps_iald C (kf_1_1 hq) (fun _ _ => rfl) hi3 dX1_singSungTo_33 ?_
          refine ps_aloadn0 C dX1_singSungTo_34 ?_
          refine gf_X1_9 C hq dX1_singSungTo_35 ?_
          refine ps_iconst C dX1_singSungTo_38 pi_0 ?_
          obtain ⟨hi4, h⟩ := ps_gd h
          refine ps_iald C (kf_1_1 hq) (fun _ _ => rfl) hi4 dX1_singSungTo_39 ?_
          obtain ⟨r5, M5, hM5, h⟩ := ps_bd h
          refine ps_goV_v C (rest := []) (tt_X3_hear (xl X) (xb X) (xD X) hb1 hM5) cw_X1_87 ps_rc9 hb1 (ps_room hRm (by decide)) rfl rfl (Nat.le_of_ble_eq_true rfl) dX1_singSungTo_40 ?_
          refine ps_iinc3 C rfl (nI 1) pi_1 dX1_singSungTo_43 (fun x6 ex6 => ?_)
          replace h := ps_lt ex6 h
          refine ps_goto C 2 dX1_singSungTo_46 rfl ?_
          exact ih b1 a2 x6 hb1 _ h
set_option maxRecDepth 10000 in
theorem tt_X1_singSungTo (l : Launch) (b : Nat) (D : va_G) {q : Nat} (hq : ps_ck 1 q = true) {b1 : Nat} (hb1 : ps_ck 9 b1 = true) {a2 : Int32} {M M9 : ps_M} {r : Int32} (h : ff_X1_singSungTo q b1 a2 M = some (r, M9)) : ps_Tv l b D yX1_singSungTo cX1_singSungTo 4 4 [.ref (b + q), .ref (b + b1), .int a2] M M9 := by
  refine ps_met_v (own := RX1) (lv := [some (.ref (b + q)), some (.ref (b + b1)), some (.int a2), none]) (by decide) rfl rfl (Nat.le_of_ble_eq_true rfl) rfl (fun X eX1 eX2 eX3 hRm eX5 C hfin => ?_)
  subst eX1 eX2 eX3
  unfold ff_X1_singSungTo at h
  refine ps_iconst C dX1_singSungTo_0 pi_0 ?_
  refine ps_istoren3 C rfl dX1_singSungTo_1 ?_
  exact bk_X1_singSungTo_2 C hRm hfin hq ps_fu b1 a2 (nI 0) hb1 _ h
set_option maxRecDepth 10000 in
theorem bk_X1_letPractise_69 {X : ps_X} (C : ps_C X RX1 cX1_letPractise) (hRm : xR X = ps_lvl 5) {r : Int32} {M9 : ps_M} (hfin : ∀ pc lv, decode cX1_letPractise pc = .ok (.ireturn, 1) → narrow .int (.int r) = .int r → ps_G X M9 pc lv [.int r]) {q : Nat} (hq : ps_ck 1 q = true) : ∀ (n : Nat) (a1 : Int32) (a2 : Int32) (b3 : Nat) (a4 : Int32) (a5 : Int32) (hb3 : ps_ck 9 b3 = true) (M : ps_M), fk_X1_letPractise_69 q n a1 a2 b3 a4 a5 M = some (r, M9) → ps_G X M 69 [some (.ref (xb X + q)), some (.int a1), some (.int a2), some (.ref (xb X + b3)), some (.int a4), some (.int a5)] [] := by
  intro n
  induction n with
  | zero => intro a1 a2 b3 a4 a5 hb3 M h; rw [fk_X1_letPractise_69] at h; cases h
  | succ n ih =>
    intro a1 a2 b3 a4 a5 hb3 M h
    rw [fk_X1_letPractise_69] at h
    refine ps_iload5 C dX1_letPractise_69 ?_
    refine ps_aloadn0 C dX1_letPractise_71 ?_
    refine gf_X1_28 C hq dX1_letPractise_72 ?_
    refine ps_ic_ge C 103 dX1_letPractise_75 rfl (fun c11 => ?_) (fun c11 => ?_)
    · replace h := ps_ip c11 h
      refine ps_iload4 C dX1_letPractise_103 ?_
      exact ps_end_i h hfin dX1_letPractise_105 rfl
    · replace h := ps_in0 c11 h
      refine ps_iload5 C dX1_letPractise_78 ?_
      refine ps_iloadn1 C dX1_letPractise_80 ?_
      refine ps_ic_eq C 97 dX1_letPractise_81 rfl (fun c10 => ?_) (fun c10 => ?_)
      · replace h := ps_ip c10 h
        refine ps_iinc5 C rfl (nI 1) pi_1 dX1_letPractise_97 (fun x6 ex6 => ?_)
        replace h := ps_lt ex6 h
        refine ps_goto C 69 dX1_letPractise_100 rfl ?_
        exact ih a1 a2 b3 a4 x6 hb3 _ h
      · replace h := ps_in0 c10 h
        refine ps_aloadn0 C dX1_letPractise_84 ?_
        refine ps_aloadn0 C dX1_letPractise_85 ?_
        refine gf_X1_24 C hq dX1_letPractise_86 ?_
        refine ps_iload5 C dX1_letPractise_89 ?_
        obtain ⟨hi7, h⟩ := ps_gd h
        refine ps_ald7 C (kf_1_14 hq) hi7 dX1_letPractise_91 ?_
        refine ps_iload4 C dX1_letPractise_92 ?_
        obtain ⟨r8, M8, hM8, h⟩ := ps_bd h
        refine ps_goV_v C (rest := []) (tt_X1_singSungTo (xl X) (xb X) (xD X) hq (ke_7 (kf_1_14 hq) hi7) hM8) cw_X1_102 ps_rc1 hq (ps_room hRm (by decide)) rfl rfl (Nat.le_of_ble_eq_true rfl) dX1_letPractise_94 ?_
        refine ps_iinc5 C rfl (nI 1) pi_1 dX1_letPractise_97 (fun x9 ex9 => ?_)
        replace h := ps_lt ex9 h
        refine ps_goto C 69 dX1_letPractise_100 rfl ?_
        exact ih a1 a2 b3 a4 x9 hb3 _ h
set_option maxRecDepth 10000 in
theorem tt_X1_letPractise (l : Launch) (b : Nat) (D : va_G) {q : Nat} (hq : ps_ck 1 q = true) {a1 : Int32} {a2 : Int32} {M M9 : ps_M} {r : Int32} (h : ff_X1_letPractise q a1 a2 M = some (r, M9)) : ps_Ti l b D yX1_letPractise cX1_letPractise 6 .int 5 [.ref (b + q), .int a1, .int a2] M r M9 := by
  refine ps_met_i (own := RX1) (lv := [some (.ref (b + q)), some (.int a1), some (.int a2), none, none, none]) (by decide) rfl rfl (Nat.le_of_ble_eq_true rfl) rfl (fun X eX1 eX2 eX3 hRm eX5 C hfin => ?_)
  subst eX1 eX2 eX3
  unfold ff_X1_letPractise at h
  refine ps_aloadn0 C dX1_letPractise_0 ?_
  refine ps_iloadn1 C dX1_letPractise_1 ?_
  obtain ⟨r1, M1, hM1, h⟩ := ps_bd h
  refine ps_goV_i C (rest := []) (tt_X1_hasParrot (xl X) (xb X) (xD X) hq hM1) cw_X1_64 ps_rc1 hq (ps_room hRm (by decide)) rfl rfl (Nat.le_of_ble_eq_true rfl) dX1_letPractise_2 ?_
  refine ps_if_ne C 10 dX1_letPractise_5 rfl (fun c16 => ?_) (fun c16 => ?_)
  · replace h := ps_in0 c16 h
    refine ps_iloadn2 C dX1_letPractise_10 ?_
    refine ps_iconst C dX1_letPractise_11 pi_1 ?_
    refine ps_ic_lt C 21 dX1_letPractise_12 rfl (fun c15 => ?_) (fun c15 => ?_)
    · replace h := ps_ip c15 h
      refine ps_bipush C dX1_letPractise_21 pb_m2 ?_
      exact ps_end_i h hfin dX1_letPractise_23 rfl
    · replace h := ps_in0 c15 h
      refine ps_iloadn2 C dX1_letPractise_15 ?_
      refine ps_bipush C dX1_letPractise_16 pb_40 ?_
      refine ps_ic_le C 24 dX1_letPractise_18 rfl (fun c14 => ?_) (fun c14 => ?_)
      · replace h := ps_ip c14 h
        refine ps_aloadn0 C dX1_letPractise_24 ?_
        refine gf_X1_24 C hq dX1_letPractise_25 ?_
        refine ps_iloadn1 C dX1_letPractise_28 ?_
        obtain ⟨hi2, h⟩ := ps_gd h
        refine ps_ald7 C (kf_1_14 hq) hi2 dX1_letPractise_29 ?_
        refine ps_astoren3 C rfl dX1_letPractise_30 ?_
        refine ps_aloadn3 C dX1_letPractise_31 ?_
        refine gf_X1_95 C (ke_7 (kf_1_14 hq) hi2) dX1_letPractise_32 ?_
        refine ps_bipush C dX1_letPractise_35 pb_m6 ?_
        refine ps_ic_eq C 48 dX1_letPractise_37 rfl (fun c13 => ?_) (fun c13 => ?_)
        · replace h := ps_ip c13 h
          refine ps_bipush C dX1_letPractise_48 pb_m5 ?_
          exact ps_end_i h hfin dX1_letPractise_50 rfl
        · replace h := ps_in0 c13 h
          refine ps_aloadn0 C dX1_letPractise_40 ?_
          refine ps_aloadn3 C dX1_letPractise_41 ?_
          obtain ⟨r3, M3, hM3, h⟩ := ps_bd h
          refine ps_goV_i C (rest := []) (tt_X1_isTired (xl X) (xb X) (xD X) hq (ke_7 (kf_1_14 hq) hi2) hM3) cw_X1_75 ps_rc1 hq (ps_room hRm (by decide)) rfl rfl (Nat.le_of_ble_eq_true rfl) dX1_letPractise_42 ?_
          refine ps_if_eq C 51 dX1_letPractise_45 rfl (fun c12 => ?_) (fun c12 => ?_)
          · replace h := ps_ip c12 h
            refine ps_aloadn0 C dX1_letPractise_51 ?_
            refine ps_aloadn3 C dX1_letPractise_52 ?_
            refine ps_iloadn2 C dX1_letPractise_53 ?_
            obtain ⟨r4, M4, hM4, h⟩ := ps_bd h
            refine ps_goV_i C (rest := []) (tt_X1_findSung (xl X) (xb X) (xD X) hq (ke_7 (kf_1_14 hq) hi2) hM4) cw_X1_98 ps_rc1 hq (ps_room hRm (by decide)) rfl rfl (Nat.le_of_ble_eq_true rfl) dX1_letPractise_54 ?_
            refine ps_istore4 C rfl dX1_letPractise_57 ?_
            refine ps_aloadn0 C dX1_letPractise_59 ?_
            refine ps_aloadn3 C dX1_letPractise_60 ?_
            refine ps_iload4 C dX1_letPractise_61 ?_
            obtain ⟨r5, M5, hM5, h⟩ := ps_bd h
            refine ps_goV_v C (rest := []) (tt_X1_singSungTo (xl X) (xb X) (xD X) hq (ke_7 (kf_1_14 hq) hi2) hM5) cw_X1_102 ps_rc1 hq (ps_room hRm (by decide)) rfl rfl (Nat.le_of_ble_eq_true rfl) dX1_letPractise_63 ?_
            refine ps_iconst C dX1_letPractise_66 pi_0 ?_
            refine ps_istore5 C rfl dX1_letPractise_67 ?_
            exact bk_X1_letPractise_69 C hRm hfin hq ps_fu a1 a2 ((q + 14) + 2 + 6 * a1.toNatClampNeg) r4 (nI 0) (ke_7 (kf_1_14 hq) hi2) _ h
          · replace h := ps_in0 c12 h
            refine ps_bipush C dX1_letPractise_48 pb_m5 ?_
            exact ps_end_i h hfin dX1_letPractise_50 rfl
      · replace h := ps_in0 c14 h
        refine ps_bipush C dX1_letPractise_21 pb_m2 ?_
        exact ps_end_i h hfin dX1_letPractise_23 rfl
  · replace h := ps_ip c16 h
    refine ps_iconst C dX1_letPractise_8 pi_m1 ?_
    exact ps_end_i h hfin dX1_letPractise_9 rfl
set_option maxRecDepth 10000 in
theorem bk_X3_sleep_37 {X : ps_X} (C : ps_C X RX3 cX3_sleep) (hRm : xR X = ps_lvl 1) {r : Int32} {M9 : ps_M} (hfin : ∀ pc lv, decode cX3_sleep pc = .ok (.ireturn, 1) → narrow .int (.int r) = .int r → ps_G X M9 pc lv [.int r]) {q : Nat} (hq : ps_ck 9 q = true) {K : Int32 → Int32 → Int32 → ps_M → Option (Int32 × ps_M)} (hK : ∀ (a1 : Int32) (a2 : Int32) (a3 : Int32) (M : ps_M), K a1 a2 a3 M = some (r, M9) → ps_G X M 4 [some (.ref (xb X + q)), some (.int a1), some (.int a2), some (.int a3), none] []) (a1 : Int32) (a2 : Int32) (a3 : Int32) (s0 : Int32) (s1 : Int32) (M : ps_M) (h : fk_X3_sleep_37 q K a1 a2 a3 s0 s1 M = some (r, M9)) : ps_G X M 37 [some (.ref (xb X + q)), some (.int a1), some (.int a2), some (.int a3), none] [.int s1, .int s0] := by
  unfold fk_X3_sleep_37 at h
  refine ps_isub C dX3_sleep_37 ?_
  refine ps_nmi (fun x10 ex10 => ?_)
  replace h := ps_lt ex10 h
  refine ps_istore4 C rfl dX3_sleep_38 ?_
  refine ps_iload4 C dX3_sleep_40 ?_
  refine ps_iconst C dX3_sleep_42 pi_1 ?_
  refine ps_ic_lt C 73 dX3_sleep_43 rfl (fun c19 => ?_) (fun c19 => ?_)
  · replace h := ps_ip c19 h
    refine ps_iinc3 C rfl (nI 1) pi_1 dX3_sleep_73 (fun x11 ex11 => ?_)
    replace h := ps_lt ex11 h
    refine ps_goto C 4 dX3_sleep_76 rfl ?_
    refine ps_wk (lv' := [some (.ref (xb X + q)), some (.int a1), some (.int a2), some (.int x11), none]) (ps_le_s rfl (ps_le_s rfl (ps_le_s rfl (ps_le_s rfl (ps_le_n ps_le_0))))) ?_
    exact hK a1 a2 x11 _ h
  · replace h := ps_in0 c19 h
    refine ps_aloadn0 C dX3_sleep_46 ?_
    refine ps_iloadn2 C dX3_sleep_47 ?_
    refine ps_aloadn0 C dX3_sleep_48 ?_
    refine gf_X3_13 C hq dX3_sleep_49 ?_
    refine ps_iconst C dX3_sleep_52 pi_0 ?_
    obtain ⟨hi12, h⟩ := ps_gd h
    refine ps_ald10 C (kf_9_1 hq) hi12 dX3_sleep_53 ?_
    refine ps_iloadn3 C dX3_sleep_54 ?_
    obtain ⟨hi13, h⟩ := ps_gd h
    refine ps_iald C (ke_10 (kf_9_1 hq) hi12) (fun _ _ => rfl) hi13 dX3_sleep_55 ?_
    refine ps_aloadn0 C dX3_sleep_56 ?_
    refine gf_X3_13 C hq dX3_sleep_57 ?_
    refine ps_iconst C dX3_sleep_60 pi_1 ?_
    obtain ⟨hi14, h⟩ := ps_gd h
    refine ps_ald10 C (kf_9_1 hq) hi14 dX3_sleep_61 ?_
    refine ps_iloadn3 C dX3_sleep_62 ?_
    obtain ⟨hi15, h⟩ := ps_gd h
    refine ps_iald C (ke_10 (kf_9_1 hq) hi14) (fun _ _ => rfl) hi15 dX3_sleep_63 ?_
    refine ps_iload4 C dX3_sleep_64 ?_
    refine ps_iconst C dX3_sleep_66 pi_0 ?_
    obtain ⟨r16, M16, hM16, h⟩ := ps_bd h
    refine ps_goV_v C (rest := []) (tt_X3_write (xl X) (xb X) (xD X) hq hM16) cw_X3_59 ps_rc9 hq (ps_room hRm (by decide)) rfl rfl (Nat.le_of_ble_eq_true rfl) dX3_sleep_67 ?_
    refine ps_iinc2 C rfl (nI 1) pi_1 dX3_sleep_70 (fun x17 ex17 => ?_)
    replace h := ps_lt ex17 h
    refine ps_iinc3 C rfl (nI 1) pi_1 dX3_sleep_73 (fun x18 ex18 => ?_)
    replace h := ps_lt ex18 h
    refine ps_goto C 4 dX3_sleep_76 rfl ?_
    refine ps_wk (lv' := [some (.ref (xb X + q)), some (.int a1), some (.int x17), some (.int x18), none]) (ps_le_s rfl (ps_le_s rfl (ps_le_s rfl (ps_le_s rfl (ps_le_n ps_le_0))))) ?_
    exact hK a1 x17 x18 _ h
set_option maxRecDepth 10000 in
theorem bk_X3_sleep_4 {X : ps_X} (C : ps_C X RX3 cX3_sleep) (hRm : xR X = ps_lvl 1) {r : Int32} {M9 : ps_M} (hfin : ∀ pc lv, decode cX3_sleep pc = .ok (.ireturn, 1) → narrow .int (.int r) = .int r → ps_G X M9 pc lv [.int r]) {q : Nat} (hq : ps_ck 9 q = true) : ∀ (n : Nat) (a1 : Int32) (a2 : Int32) (a3 : Int32) (M : ps_M), fk_X3_sleep_4 q n a1 a2 a3 M = some (r, M9) → ps_G X M 4 [some (.ref (xb X + q)), some (.int a1), some (.int a2), some (.int a3), none] [] := by
  intro n
  induction n with
  | zero => intro a1 a2 a3 M h; rw [fk_X3_sleep_4] at h; cases h
  | succ n ih =>
    intro a1 a2 a3 M h
    rw [fk_X3_sleep_4] at h
    refine ps_iloadn3 C dX3_sleep_4 ?_
    refine ps_aloadn0 C dX3_sleep_5 ?_
    refine gf_X3_16 C hq dX3_sleep_6 ?_
    refine ps_ic_ge C 79 dX3_sleep_9 rfl (fun c21 => ?_) (fun c21 => ?_)
    · replace h := ps_ip c21 h
      refine ps_aloadn0 C dX3_sleep_79 ?_
      refine gf_X3_16 C hq dX3_sleep_80 ?_
      refine ps_iloadn2 C dX3_sleep_83 ?_
      refine ps_isub C dX3_sleep_84 ?_
      refine ps_nmi (fun x1 ex1 => ?_)
      replace h := ps_lt ex1 h
      refine ps_istoren3 C rfl dX3_sleep_85 ?_
      refine ps_aloadn0 C dX3_sleep_86 ?_
      refine ps_iloadn2 C dX3_sleep_87 ?_
      refine pf_X3_16 C hq dX3_sleep_88 (fun M2 eM2 => ?_)
      replace h := ps_lt eM2 h
      refine ps_aloadn0 C dX3_sleep_91 ?_
      refine ps_dup C rfl dX3_sleep_92 ?_
      refine gf_X3_29 C hq dX3_sleep_93 ?_
      refine ps_iloadn3 C dX3_sleep_96 ?_
      refine ps_iadd C dX3_sleep_97 ?_
      refine pf_X3_29 C hq dX3_sleep_98 (fun M3 eM3 => ?_)
      replace h := ps_lt eM3 h
      refine ps_aloadn0 C dX3_sleep_101 ?_
      refine ps_bipush C dX3_sleep_102 pb_m6 ?_
      refine pf_X3_20 C hq dX3_sleep_104 (fun M4 eM4 => ?_)
      replace h := ps_lt eM4 h
      refine ps_aloadn0 C dX3_sleep_107 ?_
      refine ps_iconst C dX3_sleep_108 pi_0 ?_
      refine pf_X3_23 C hq dX3_sleep_109 (fun M5 eM5 => ?_)
      replace h := ps_lt eM5 h
      refine ps_iloadn3 C dX3_sleep_112 ?_
      exact ps_end_i h hfin dX3_sleep_113 rfl
    · replace h := ps_in0 c21 h
      refine ps_aloadn0 C dX3_sleep_12 ?_
      refine gf_X3_13 C hq dX3_sleep_13 ?_
      refine ps_iconst C dX3_sleep_16 pi_2 ?_
      obtain ⟨hi6, h⟩ := ps_gd h
      refine ps_ald10 C (kf_9_1 hq) hi6 dX3_sleep_17 ?_
      refine ps_iloadn3 C dX3_sleep_18 ?_
      obtain ⟨hi7, h⟩ := ps_gd h
      refine ps_iald C (ke_10 (kf_9_1 hq) hi6) (fun _ _ => rfl) hi7 dX3_sleep_19 ?_
      refine ps_aloadn0 C dX3_sleep_20 ?_
      refine gf_X3_13 C hq dX3_sleep_21 ?_
      refine ps_iconst C dX3_sleep_24 pi_3 ?_
      obtain ⟨hi8, h⟩ := ps_gd h
      refine ps_ald10 C (kf_9_1 hq) hi8 dX3_sleep_25 ?_
      refine ps_iloadn3 C dX3_sleep_26 ?_
      obtain ⟨hi9, h⟩ := ps_gd h
      refine ps_iald C (ke_10 (kf_9_1 hq) hi8) (fun _ _ => rfl) hi9 dX3_sleep_27 ?_
      refine ps_iconst C dX3_sleep_28 pi_1 ?_
      refine ps_ic_ne C 36 dX3_sleep_29 rfl (fun c20 => ?_) (fun c20 => ?_)
      · replace h := ps_in0 c20 h
        refine ps_iloadn1 C dX3_sleep_36 ?_
        exact bk_X3_sleep_37 C hRm hfin hq (fun a1' a2' a3' M' h' => ih a1' a2' a3' M' h') a1 a2 a3 (ps_rd M ((q + 1) + 1 + (nI 2).toNatClampNeg) a3.toNatClampNeg) a1 _ h
      · replace h := ps_ip c20 h
        refine ps_iconst C dX3_sleep_32 pi_0 ?_
        refine ps_goto C 37 dX3_sleep_33 rfl ?_
        exact bk_X3_sleep_37 C hRm hfin hq (fun a1' a2' a3' M' h' => ih a1' a2' a3' M' h') a1 a2 a3 (ps_rd M ((q + 1) + 1 + (nI 2).toNatClampNeg) a3.toNatClampNeg) (nI 0) _ h
set_option maxRecDepth 10000 in
theorem tt_X3_sleep (l : Launch) (b : Nat) (D : va_G) {q : Nat} (hq : ps_ck 9 q = true) {a1 : Int32} {M M9 : ps_M} {r : Int32} (h : ff_X3_sleep q a1 M = some (r, M9)) : ps_Ti l b D yX3_sleep cX3_sleep 5 .int 1 [.ref (b + q), .int a1] M r M9 := by
  refine ps_met_i (own := RX3) (lv := [some (.ref (b + q)), some (.int a1), none, none, none]) (by decide) rfl rfl (Nat.le_of_ble_eq_true rfl) rfl (fun X eX1 eX2 eX3 hRm eX5 C hfin => ?_)
  subst eX1 eX2 eX3
  unfold ff_X3_sleep at h
  refine ps_iconst C dX3_sleep_0 pi_0 ?_
  refine ps_istoren2 C rfl dX3_sleep_1 ?_
  refine ps_iconst C dX3_sleep_2 pi_0 ?_
  refine ps_istoren3 C rfl dX3_sleep_3 ?_
  exact bk_X3_sleep_4 C hRm hfin hq ps_fu a1 (nI 0) (nI 0) _ h
set_option maxRecDepth 10000 in
theorem bk_X1_passNight_17 {X : ps_X} (C : ps_C X RX1 cX1_passNight) (hRm : xR X = ps_lvl 2) {r : Int32} {M9 : ps_M} (hfin : ∀ pc lv, decode cX1_passNight pc = .ok (.ireturn, 1) → narrow .int (.int r) = .int r → ps_G X M9 pc lv [.int r]) {q : Nat} (hq : ps_ck 1 q = true) : ∀ (n : Nat) (a1 : Int32) (a2 : Int32) (M : ps_M), fk_X1_passNight_17 q n a1 a2 M = some (r, M9) → ps_G X M 17 [some (.ref (xb X + q)), some (.int a1), some (.int a2)] [] := by
  intro n
  induction n with
  | zero => intro a1 a2 M h; rw [fk_X1_passNight_17] at h; cases h
  | succ n ih =>
    intro a1 a2 M h
    rw [fk_X1_passNight_17] at h
    refine ps_iloadn2 C dX1_passNight_17 ?_
    refine ps_aloadn0 C dX1_passNight_18 ?_
    refine gf_X1_28 C hq dX1_passNight_19 ?_
    refine ps_ic_ge C 49 dX1_passNight_22 rfl (fun c7 => ?_) (fun c7 => ?_)
    · replace h := ps_ip c7 h
      refine ps_aloadn0 C dX1_passNight_49 ?_
      refine ps_dup C rfl dX1_passNight_50 ?_
      refine gf_X1_32 C hq dX1_passNight_51 ?_
      refine ps_iconst C dX1_passNight_54 pi_1 ?_
      refine ps_iadd C dX1_passNight_55 ?_
      refine pf_X1_32 C hq dX1_passNight_56 (fun M1 eM1 => ?_)
      replace h := ps_lt eM1 h
      refine ps_iloadn1 C dX1_passNight_59 ?_
      exact ps_end_i h hfin dX1_passNight_60 rfl
    · replace h := ps_in0 c7 h
      refine ps_iloadn1 C dX1_passNight_25 ?_
      refine ps_aloadn0 C dX1_passNight_26 ?_
      refine gf_X1_24 C hq dX1_passNight_27 ?_
      refine ps_iloadn2 C dX1_passNight_30 ?_
      obtain ⟨hi2, h⟩ := ps_gd h
      refine ps_ald7 C (kf_1_14 hq) hi2 dX1_passNight_31 ?_
      refine ps_aloadn0 C dX1_passNight_32 ?_
      refine gf_X1_9 C hq dX1_passNight_33 ?_
      refine ps_iconst C dX1_passNight_36 pi_1 ?_
      obtain ⟨hi3, h⟩ := ps_gd h
      refine ps_iald C (kf_1_1 hq) (fun _ _ => rfl) hi3 dX1_passNight_37 ?_
      obtain ⟨r4, M4, hM4, h⟩ := ps_bd h
      refine ps_goV_i C (rest := [.int a1]) (tt_X3_sleep (xl X) (xb X) (xD X) (ke_7 (kf_1_14 hq) hi2) hM4) cw_X1_109 ps_rc9 (ke_7 (kf_1_14 hq) hi2) (ps_room hRm (by decide)) rfl rfl (Nat.le_of_ble_eq_true rfl) dX1_passNight_38 ?_
      refine ps_iadd C dX1_passNight_41 ?_
      refine ps_nmi (fun x5 ex5 => ?_)
      replace h := ps_lt ex5 h
      refine ps_istoren1 C rfl dX1_passNight_42 ?_
      refine ps_iinc2 C rfl (nI 1) pi_1 dX1_passNight_43 (fun x6 ex6 => ?_)
      replace h := ps_lt ex6 h
      refine ps_goto C 17 dX1_passNight_46 rfl ?_
      exact ih x5 x6 _ h
set_option maxRecDepth 10000 in
theorem tt_X1_passNight (l : Launch) (b : Nat) (D : va_G) {q : Nat} (hq : ps_ck 1 q = true) {M M9 : ps_M} {r : Int32} (h : ff_X1_passNight q  M = some (r, M9)) : ps_Ti l b D yX1_passNight cX1_passNight 3 .int 2 [.ref (b + q)] M r M9 := by
  refine ps_met_i (own := RX1) (lv := [some (.ref (b + q)), none, none]) (by decide) rfl rfl (Nat.le_of_ble_eq_true rfl) rfl (fun X eX1 eX2 eX3 hRm eX5 C hfin => ?_)
  subst eX1 eX2 eX3
  unfold ff_X1_passNight at h
  refine ps_aloadn0 C dX1_passNight_0 ?_
  refine gf_X1_32 C hq dX1_passNight_1 ?_
  refine ps_sipush C dX1_passNight_4 pj_999 ?_
  refine ps_ic_lt C 13 dX1_passNight_7 rfl (fun c8 => ?_) (fun c8 => ?_)
  · replace h := ps_ip c8 h
    refine ps_iconst C dX1_passNight_13 pi_0 ?_
    refine ps_istoren1 C rfl dX1_passNight_14 ?_
    refine ps_iconst C dX1_passNight_15 pi_0 ?_
    refine ps_istoren2 C rfl dX1_passNight_16 ?_
    exact bk_X1_passNight_17 C hRm hfin hq ps_fu (nI 0) (nI 0) _ h
  · replace h := ps_in0 c8 h
    refine ps_bipush C dX1_passNight_10 pb_m5 ?_
    exact ps_end_i h hfin dX1_passNight_12 rfl
set_option maxRecDepth 10000 in
theorem bk_X5_firstWrong_2 {X : ps_X} (C : ps_C X RX5 cX5_firstWrong) (hRm : xR X = ps_lvl 3) {r : Int32} {M9 : ps_M} (hfin : ∀ pc lv, decode cX5_firstWrong pc = .ok (.ireturn, 1) → narrow .int (.int r) = .int r → ps_G X M9 pc lv [.int r]) {q : Nat} (hq : ps_ck 3 q = true) : ∀ (n : Nat) (b1 : Nat) (a2 : Int32) (a3 : Int32) (hb1 : ps_ck 9 b1 = true) (M : ps_M), fk_X5_firstWrong_2 q n b1 a2 a3 M = some (r, M9) → ps_G X M 2 [some (.ref (xb X + q)), some (.ref (xb X + b1)), some (.int a2), some (.int a3)] [] := by
  intro n
  induction n with
  | zero => intro b1 a2 a3 hb1 M h; rw [fk_X5_firstWrong_2] at h; cases h
  | succ n ih =>
    intro b1 a2 a3 hb1 M h
    rw [fk_X5_firstWrong_2] at h
    refine ps_iloadn3 C dX5_firstWrong_2 ?_
    refine ps_aloadn0 C dX5_firstWrong_3 ?_
    refine ps_iloadn2 C dX5_firstWrong_4 ?_
    obtain ⟨r1, M1, hM1, h⟩ := ps_bd h
    refine ps_goV_i C (rest := [.int a3]) (tt_X5_lengthOf (xl X) (xb X) (xD X) hq hM1) cw_X5_50 ps_rc3 hq (ps_room hRm (by decide)) rfl rfl (Nat.le_of_ble_eq_true rfl) dX5_firstWrong_5 ?_
    refine ps_ic_ge C 38 dX5_firstWrong_8 rfl (fun c7 => ?_) (fun c7 => ?_)
    · replace h := ps_ip c7 h
      refine ps_iloadn3 C dX5_firstWrong_38 ?_
      exact ps_end_i h hfin dX5_firstWrong_39 rfl
    · replace h := ps_in0 c7 h
      refine ps_aloadn1 C dX5_firstWrong_11 ?_
      refine ps_aloadn0 C dX5_firstWrong_12 ?_
      refine ps_iloadn2 C dX5_firstWrong_13 ?_
      refine ps_iloadn3 C dX5_firstWrong_14 ?_
      refine ps_iconst C dX5_firstWrong_15 pi_1 ?_
      refine ps_isub C dX5_firstWrong_16 ?_
      obtain ⟨r2, M2, hM2, h⟩ := ps_bd h
      refine ps_goV_i C (rest := [.ref (xb X + b1)]) (tt_X5_barAt (xl X) (xb X) (xD X) hq hM2) cw_X5_54 ps_rc3 hq (ps_room hRm (by decide)) rfl rfl (Nat.le_of_ble_eq_true rfl) dX5_firstWrong_17 ?_
      obtain ⟨r3, M3, hM3, h⟩ := ps_bd h
      refine ps_goV_i C (rest := []) (tt_X3_nextBehind (xl X) (xb X) (xD X) hb1 hM3) cw_X5_62 ps_rc9 hb1 (ps_room hRm (by decide)) rfl rfl (Nat.le_of_ble_eq_true rfl) dX5_firstWrong_20 ?_
      refine ps_aloadn0 C dX5_firstWrong_23 ?_
      refine ps_iloadn2 C dX5_firstWrong_24 ?_
      refine ps_iloadn3 C dX5_firstWrong_25 ?_
      obtain ⟨r4, M4, hM4, h⟩ := ps_bd h
      refine ps_goV_i C (rest := [.int r3]) (tt_X5_barAt (xl X) (xb X) (xD X) hq hM4) cw_X5_54 ps_rc3 hq (ps_room hRm (by decide)) rfl rfl (Nat.le_of_ble_eq_true rfl) dX5_firstWrong_26 ?_
      refine ps_ic_ne C 38 dX5_firstWrong_29 rfl (fun c6 => ?_) (fun c6 => ?_)
      · replace h := ps_in0 c6 h
        refine ps_iloadn3 C dX5_firstWrong_38 ?_
        exact ps_end_i h hfin dX5_firstWrong_39 rfl
      · replace h := ps_ip c6 h
        refine ps_iinc3 C rfl (nI 1) pi_1 dX5_firstWrong_32 (fun x5 ex5 => ?_)
        replace h := ps_lt ex5 h
        refine ps_goto C 2 dX5_firstWrong_35 rfl ?_
        exact ih b1 a2 x5 hb1 _ h
set_option maxRecDepth 10000 in
theorem tt_X5_firstWrong (l : Launch) (b : Nat) (D : va_G) {q : Nat} (hq : ps_ck 3 q = true) {b1 : Nat} (hb1 : ps_ck 9 b1 = true) {a2 : Int32} {M M9 : ps_M} {r : Int32} (h : ff_X5_firstWrong q b1 a2 M = some (r, M9)) : ps_Ti l b D yX5_firstWrong cX5_firstWrong 4 .int 3 [.ref (b + q), .ref (b + b1), .int a2] M r M9 := by
  refine ps_met_i (own := RX5) (lv := [some (.ref (b + q)), some (.ref (b + b1)), some (.int a2), none]) (by decide) rfl rfl (Nat.le_of_ble_eq_true rfl) rfl (fun X eX1 eX2 eX3 hRm eX5 C hfin => ?_)
  subst eX1 eX2 eX3
  unfold ff_X5_firstWrong at h
  refine ps_iconst C dX5_firstWrong_0 pi_1 ?_
  refine ps_istoren3 C rfl dX5_firstWrong_1 ?_
  exact bk_X5_firstWrong_2 C hRm hfin hq ps_fu b1 a2 (nI 1) hb1 _ h
set_option maxRecDepth 10000 in
theorem tt_X5_isKnownBy (l : Launch) (b : Nat) (D : va_G) {q : Nat} (hq : ps_ck 3 q = true) {b1 : Nat} (hb1 : ps_ck 9 b1 = true) {a2 : Int32} {M M9 : ps_M} {r : Int32} (h : ff_X5_isKnownBy q b1 a2 M = some (r, M9)) : ps_Ti l b D yX5_isKnownBy cX5_isKnownBy 3 .boolean 4 [.ref (b + q), .ref (b + b1), .int a2] M r M9 := by
  refine ps_met_i (own := RX5) (lv := [some (.ref (b + q)), some (.ref (b + b1)), some (.int a2)]) (by decide) rfl rfl (Nat.le_of_ble_eq_true rfl) rfl (fun X eX1 eX2 eX3 hRm eX5 C hfin => ?_)
  subst eX1 eX2 eX3
  unfold ff_X5_isKnownBy at h
  refine ps_aloadn0 C dX5_isKnownBy_0 ?_
  refine ps_aloadn1 C dX5_isKnownBy_1 ?_
  refine ps_iloadn2 C dX5_isKnownBy_2 ?_
  obtain ⟨r1, M1, hM1, h⟩ := ps_bd h
  refine ps_goV_i C (rest := []) (tt_X5_firstWrong (xl X) (xb X) (xD X) hq hb1 hM1) cw_X5_67 ps_rc3 hq (ps_room hRm (by decide)) rfl rfl (Nat.le_of_ble_eq_true rfl) dX5_isKnownBy_3 ?_
  refine ps_aloadn0 C dX5_isKnownBy_6 ?_
  refine ps_iloadn2 C dX5_isKnownBy_7 ?_
  obtain ⟨r2, M2, hM2, h⟩ := ps_bd h
  refine ps_goV_i C (rest := [.int r1]) (tt_X5_lengthOf (xl X) (xb X) (xD X) hq hM2) cw_X5_50 ps_rc3 hq (ps_room hRm (by decide)) rfl rfl (Nat.le_of_ble_eq_true rfl) dX5_isKnownBy_8 ?_
  refine ps_ic_lt C 18 dX5_isKnownBy_11 rfl (fun c3 => ?_) (fun c3 => ?_)
  · replace h := ps_ip c3 h
    refine ps_iconst C dX5_isKnownBy_18 pi_0 ?_
    exact ps_end_i h hfin dX5_isKnownBy_19 rfl
  · replace h := ps_in0 c3 h
    refine ps_iconst C dX5_isKnownBy_14 pi_1 ?_
    refine ps_goto C 19 dX5_isKnownBy_15 rfl ?_
    exact ps_end_i h hfin dX5_isKnownBy_19 rfl
set_option maxRecDepth 10000 in
theorem bk_X1_parrotsKnowing_4 {X : ps_X} (C : ps_C X RX1 cX1_parrotsKnowing) (hRm : xR X = ps_lvl 5) {r : Int32} {M9 : ps_M} (hfin : ∀ pc lv, decode cX1_parrotsKnowing pc = .ok (.ireturn, 1) → narrow .int (.int r) = .int r → ps_G X M9 pc lv [.int r]) {q : Nat} (hq : ps_ck 1 q = true) : ∀ (n : Nat) (a1 : Int32) (a2 : Int32) (a3 : Int32) (M : ps_M), fk_X1_parrotsKnowing_4 q n a1 a2 a3 M = some (r, M9) → ps_G X M 4 [some (.ref (xb X + q)), some (.int a1), some (.int a2), some (.int a3)] [] := by
  intro n
  induction n with
  | zero => intro a1 a2 a3 M h; rw [fk_X1_parrotsKnowing_4] at h; cases h
  | succ n ih =>
    intro a1 a2 a3 M h
    rw [fk_X1_parrotsKnowing_4] at h
    refine ps_iloadn3 C dX1_parrotsKnowing_4 ?_
    refine ps_aloadn0 C dX1_parrotsKnowing_5 ?_
    refine gf_X1_28 C hq dX1_parrotsKnowing_6 ?_
    refine ps_ic_ge C 41 dX1_parrotsKnowing_9 rfl (fun c7 => ?_) (fun c7 => ?_)
    · replace h := ps_ip c7 h
      refine ps_iloadn2 C dX1_parrotsKnowing_41 ?_
      exact ps_end_i h hfin dX1_parrotsKnowing_42 rfl
    · replace h := ps_in0 c7 h
      refine ps_aloadn0 C dX1_parrotsKnowing_12 ?_
      refine gf_X1_18 C hq dX1_parrotsKnowing_13 ?_
      refine ps_aloadn0 C dX1_parrotsKnowing_16 ?_
      refine gf_X1_24 C hq dX1_parrotsKnowing_17 ?_
      refine ps_iloadn3 C dX1_parrotsKnowing_20 ?_
      obtain ⟨hi1, h⟩ := ps_gd h
      refine ps_ald7 C (kf_1_14 hq) hi1 dX1_parrotsKnowing_21 ?_
      refine ps_iloadn1 C dX1_parrotsKnowing_22 ?_
      obtain ⟨r2, M2, hM2, h⟩ := ps_bd h
      refine ps_goV_i C (rest := []) (tt_X5_isKnownBy (xl X) (xb X) (xD X) (kf_1_2 hq) (ke_7 (kf_1_14 hq) hi1) hM2) cw_X1_112 ps_rc3 (kf_1_2 hq) (ps_room hRm (by decide)) rfl rfl (Nat.le_of_ble_eq_true rfl) dX1_parrotsKnowing_23 ?_
      refine ps_if_eq C 35 dX1_parrotsKnowing_26 rfl (fun c6 => ?_) (fun c6 => ?_)
      · replace h := ps_ip c6 h
        refine ps_iinc3 C rfl (nI 1) pi_1 dX1_parrotsKnowing_35 (fun x3 ex3 => ?_)
        replace h := ps_lt ex3 h
        refine ps_goto C 4 dX1_parrotsKnowing_38 rfl ?_
        exact ih a1 a2 x3 _ h
      · replace h := ps_in0 c6 h
        refine ps_iloadn2 C dX1_parrotsKnowing_29 ?_
        refine ps_iconst C dX1_parrotsKnowing_30 pi_1 ?_
        refine ps_iloadn3 C dX1_parrotsKnowing_31 ?_
        refine ps_ishl C dX1_parrotsKnowing_32 ?_
        refine ps_ior C dX1_parrotsKnowing_33 ?_
        refine ps_nmi (fun x4 ex4 => ?_)
        replace h := ps_lt ex4 h
        refine ps_istoren2 C rfl dX1_parrotsKnowing_34 ?_
        refine ps_iinc3 C rfl (nI 1) pi_1 dX1_parrotsKnowing_35 (fun x5 ex5 => ?_)
        replace h := ps_lt ex5 h
        refine ps_goto C 4 dX1_parrotsKnowing_38 rfl ?_
        exact ih a1 x4 x5 _ h
set_option maxRecDepth 10000 in
theorem tt_X1_parrotsKnowing (l : Launch) (b : Nat) (D : va_G) {q : Nat} (hq : ps_ck 1 q = true) {a1 : Int32} {M M9 : ps_M} {r : Int32} (h : ff_X1_parrotsKnowing q a1 M = some (r, M9)) : ps_Ti l b D yX1_parrotsKnowing cX1_parrotsKnowing 4 .int 5 [.ref (b + q), .int a1] M r M9 := by
  refine ps_met_i (own := RX1) (lv := [some (.ref (b + q)), some (.int a1), none, none]) (by decide) rfl rfl (Nat.le_of_ble_eq_true rfl) rfl (fun X eX1 eX2 eX3 hRm eX5 C hfin => ?_)
  subst eX1 eX2 eX3
  unfold ff_X1_parrotsKnowing at h
  refine ps_iconst C dX1_parrotsKnowing_0 pi_0 ?_
  refine ps_istoren2 C rfl dX1_parrotsKnowing_1 ?_
  refine ps_iconst C dX1_parrotsKnowing_2 pi_0 ?_
  refine ps_istoren3 C rfl dX1_parrotsKnowing_3 ?_
  exact bk_X1_parrotsKnowing_4 C hRm hfin hq ps_fu a1 (nI 0) (nI 0) _ h
set_option maxRecDepth 10000 in
theorem bk_X1_tiredParrots_4 {X : ps_X} (C : ps_C X RX1 cX1_tiredParrots) (hRm : xR X = ps_lvl 1) {r : Int32} {M9 : ps_M} (hfin : ∀ pc lv, decode cX1_tiredParrots pc = .ok (.ireturn, 1) → narrow .int (.int r) = .int r → ps_G X M9 pc lv [.int r]) {q : Nat} (hq : ps_ck 1 q = true) : ∀ (n : Nat) (a1 : Int32) (a2 : Int32) (M : ps_M), fk_X1_tiredParrots_4 q n a1 a2 M = some (r, M9) → ps_G X M 4 [some (.ref (xb X + q)), some (.int a1), some (.int a2)] [] := by
  intro n
  induction n with
  | zero => intro a1 a2 M h; rw [fk_X1_tiredParrots_4] at h; cases h
  | succ n ih =>
    intro a1 a2 M h
    rw [fk_X1_tiredParrots_4] at h
    refine ps_iloadn2 C dX1_tiredParrots_4 ?_
    refine ps_aloadn0 C dX1_tiredParrots_5 ?_
    refine gf_X1_28 C hq dX1_tiredParrots_6 ?_
    refine ps_ic_ge C 37 dX1_tiredParrots_9 rfl (fun c7 => ?_) (fun c7 => ?_)
    · replace h := ps_ip c7 h
      refine ps_iloadn1 C dX1_tiredParrots_37 ?_
      exact ps_end_i h hfin dX1_tiredParrots_38 rfl
    · replace h := ps_in0 c7 h
      refine ps_aloadn0 C dX1_tiredParrots_12 ?_
      refine ps_aloadn0 C dX1_tiredParrots_13 ?_
      refine gf_X1_24 C hq dX1_tiredParrots_14 ?_
      refine ps_iloadn2 C dX1_tiredParrots_17 ?_
      obtain ⟨hi1, h⟩ := ps_gd h
      refine ps_ald7 C (kf_1_14 hq) hi1 dX1_tiredParrots_18 ?_
      obtain ⟨r2, M2, hM2, h⟩ := ps_bd h
      refine ps_goV_i C (rest := []) (tt_X1_isTired (xl X) (xb X) (xD X) hq (ke_7 (kf_1_14 hq) hi1) hM2) cw_X1_75 ps_rc1 hq (ps_room hRm (by decide)) rfl rfl (Nat.le_of_ble_eq_true rfl) dX1_tiredParrots_19 ?_
      refine ps_if_eq C 31 dX1_tiredParrots_22 rfl (fun c6 => ?_) (fun c6 => ?_)
      · replace h := ps_ip c6 h
        refine ps_iinc2 C rfl (nI 1) pi_1 dX1_tiredParrots_31 (fun x3 ex3 => ?_)
        replace h := ps_lt ex3 h
        refine ps_goto C 4 dX1_tiredParrots_34 rfl ?_
        exact ih a1 x3 _ h
      · replace h := ps_in0 c6 h
        refine ps_iloadn1 C dX1_tiredParrots_25 ?_
        refine ps_iconst C dX1_tiredParrots_26 pi_1 ?_
        refine ps_iloadn2 C dX1_tiredParrots_27 ?_
        refine ps_ishl C dX1_tiredParrots_28 ?_
        refine ps_ior C dX1_tiredParrots_29 ?_
        refine ps_nmi (fun x4 ex4 => ?_)
        replace h := ps_lt ex4 h
        refine ps_istoren1 C rfl dX1_tiredParrots_30 ?_
        refine ps_iinc2 C rfl (nI 1) pi_1 dX1_tiredParrots_31 (fun x5 ex5 => ?_)
        replace h := ps_lt ex5 h
        refine ps_goto C 4 dX1_tiredParrots_34 rfl ?_
        exact ih x4 x5 _ h
set_option maxRecDepth 10000 in
theorem tt_X1_tiredParrots (l : Launch) (b : Nat) (D : va_G) {q : Nat} (hq : ps_ck 1 q = true) {M M9 : ps_M} {r : Int32} (h : ff_X1_tiredParrots q  M = some (r, M9)) : ps_Ti l b D yX1_tiredParrots cX1_tiredParrots 3 .int 1 [.ref (b + q)] M r M9 := by
  refine ps_met_i (own := RX1) (lv := [some (.ref (b + q)), none, none]) (by decide) rfl rfl (Nat.le_of_ble_eq_true rfl) rfl (fun X eX1 eX2 eX3 hRm eX5 C hfin => ?_)
  subst eX1 eX2 eX3
  unfold ff_X1_tiredParrots at h
  refine ps_iconst C dX1_tiredParrots_0 pi_0 ?_
  refine ps_istoren1 C rfl dX1_tiredParrots_1 ?_
  refine ps_iconst C dX1_tiredParrots_2 pi_0 ?_
  refine ps_istoren2 C rfl dX1_tiredParrots_3 ?_
  exact bk_X1_tiredParrots_4 C hRm hfin hq ps_fu (nI 0) (nI 0) _ h
set_option maxRecDepth 10000 in
theorem bk_X1_heardByAll_4 {X : ps_X} (C : ps_C X RX1 cX1_heardByAll) (hRm : xR X = ps_lvl 0) {r : Int32} {M9 : ps_M} (hfin : ∀ pc lv, decode cX1_heardByAll pc = .ok (.ireturn, 1) → narrow .int (.int r) = .int r → ps_G X M9 pc lv [.int r]) {q : Nat} (hq : ps_ck 1 q = true) : ∀ (n : Nat) (a1 : Int32) (a2 : Int32) (M : ps_M), fk_X1_heardByAll_4 q n a1 a2 M = some (r, M9) → ps_G X M 4 [some (.ref (xb X + q)), some (.int a1), some (.int a2)] [] := by
  intro n
  induction n with
  | zero => intro a1 a2 M h; rw [fk_X1_heardByAll_4] at h; cases h
  | succ n ih =>
    intro a1 a2 M h
    rw [fk_X1_heardByAll_4] at h
    refine ps_iloadn2 C dX1_heardByAll_4 ?_
    refine ps_aloadn0 C dX1_heardByAll_5 ?_
    refine gf_X1_28 C hq dX1_heardByAll_6 ?_
    refine ps_ic_ge C 30 dX1_heardByAll_9 rfl (fun c4 => ?_) (fun c4 => ?_)
    · replace h := ps_ip c4 h
      refine ps_iloadn1 C dX1_heardByAll_30 ?_
      exact ps_end_i h hfin dX1_heardByAll_31 rfl
    · replace h := ps_in0 c4 h
      refine ps_iloadn1 C dX1_heardByAll_12 ?_
      refine ps_aloadn0 C dX1_heardByAll_13 ?_
      refine gf_X1_24 C hq dX1_heardByAll_14 ?_
      refine ps_iloadn2 C dX1_heardByAll_17 ?_
      obtain ⟨hi1, h⟩ := ps_gd h
      refine ps_ald7 C (kf_1_14 hq) hi1 dX1_heardByAll_18 ?_
      refine gf_X1_116 C (ke_7 (kf_1_14 hq) hi1) dX1_heardByAll_19 ?_
      refine ps_iadd C dX1_heardByAll_22 ?_
      refine ps_nmi (fun x2 ex2 => ?_)
      replace h := ps_lt ex2 h
      refine ps_istoren1 C rfl dX1_heardByAll_23 ?_
      refine ps_iinc2 C rfl (nI 1) pi_1 dX1_heardByAll_24 (fun x3 ex3 => ?_)
      replace h := ps_lt ex3 h
      refine ps_goto C 4 dX1_heardByAll_27 rfl ?_
      exact ih x2 x3 _ h
set_option maxRecDepth 10000 in
theorem tt_X1_heardByAll (l : Launch) (b : Nat) (D : va_G) {q : Nat} (hq : ps_ck 1 q = true) {M M9 : ps_M} {r : Int32} (h : ff_X1_heardByAll q  M = some (r, M9)) : ps_Ti l b D yX1_heardByAll cX1_heardByAll 3 .int 0 [.ref (b + q)] M r M9 := by
  refine ps_met_i (own := RX1) (lv := [some (.ref (b + q)), none, none]) (by decide) rfl rfl (Nat.le_of_ble_eq_true rfl) rfl (fun X eX1 eX2 eX3 hRm eX5 C hfin => ?_)
  subst eX1 eX2 eX3
  unfold ff_X1_heardByAll at h
  refine ps_iconst C dX1_heardByAll_0 pi_0 ?_
  refine ps_istoren1 C rfl dX1_heardByAll_1 ?_
  refine ps_iconst C dX1_heardByAll_2 pi_0 ?_
  refine ps_istoren2 C rfl dX1_heardByAll_3 ?_
  exact bk_X1_heardByAll_4 C hRm hfin hq ps_fu (nI 0) (nI 0) _ h
set_option maxRecDepth 10000 in
theorem bk_X1_linksOfAll_4 {X : ps_X} (C : ps_C X RX1 cX1_linksOfAll) (hRm : xR X = ps_lvl 0) {r : Int32} {M9 : ps_M} (hfin : ∀ pc lv, decode cX1_linksOfAll pc = .ok (.ireturn, 1) → narrow .int (.int r) = .int r → ps_G X M9 pc lv [.int r]) {q : Nat} (hq : ps_ck 1 q = true) : ∀ (n : Nat) (a1 : Int32) (a2 : Int32) (M : ps_M), fk_X1_linksOfAll_4 q n a1 a2 M = some (r, M9) → ps_G X M 4 [some (.ref (xb X + q)), some (.int a1), some (.int a2)] [] := by
  intro n
  induction n with
  | zero => intro a1 a2 M h; rw [fk_X1_linksOfAll_4] at h; cases h
  | succ n ih =>
    intro a1 a2 M h
    rw [fk_X1_linksOfAll_4] at h
    refine ps_iloadn2 C dX1_linksOfAll_4 ?_
    refine ps_aloadn0 C dX1_linksOfAll_5 ?_
    refine gf_X1_28 C hq dX1_linksOfAll_6 ?_
    refine ps_ic_ge C 30 dX1_linksOfAll_9 rfl (fun c4 => ?_) (fun c4 => ?_)
    · replace h := ps_ip c4 h
      refine ps_iloadn1 C dX1_linksOfAll_30 ?_
      exact ps_end_i h hfin dX1_linksOfAll_31 rfl
    · replace h := ps_in0 c4 h
      refine ps_iloadn1 C dX1_linksOfAll_12 ?_
      refine ps_aloadn0 C dX1_linksOfAll_13 ?_
      refine gf_X1_24 C hq dX1_linksOfAll_14 ?_
      refine ps_iloadn2 C dX1_linksOfAll_17 ?_
      obtain ⟨hi1, h⟩ := ps_gd h
      refine ps_ald7 C (kf_1_14 hq) hi1 dX1_linksOfAll_18 ?_
      refine gf_X1_119 C (ke_7 (kf_1_14 hq) hi1) dX1_linksOfAll_19 ?_
      refine ps_iadd C dX1_linksOfAll_22 ?_
      refine ps_nmi (fun x2 ex2 => ?_)
      replace h := ps_lt ex2 h
      refine ps_istoren1 C rfl dX1_linksOfAll_23 ?_
      refine ps_iinc2 C rfl (nI 1) pi_1 dX1_linksOfAll_24 (fun x3 ex3 => ?_)
      replace h := ps_lt ex3 h
      refine ps_goto C 4 dX1_linksOfAll_27 rfl ?_
      exact ih x2 x3 _ h
set_option maxRecDepth 10000 in
theorem tt_X1_linksOfAll (l : Launch) (b : Nat) (D : va_G) {q : Nat} (hq : ps_ck 1 q = true) {M M9 : ps_M} {r : Int32} (h : ff_X1_linksOfAll q  M = some (r, M9)) : ps_Ti l b D yX1_linksOfAll cX1_linksOfAll 3 .int 0 [.ref (b + q)] M r M9 := by
  refine ps_met_i (own := RX1) (lv := [some (.ref (b + q)), none, none]) (by decide) rfl rfl (Nat.le_of_ble_eq_true rfl) rfl (fun X eX1 eX2 eX3 hRm eX5 C hfin => ?_)
  subst eX1 eX2 eX3
  unfold ff_X1_linksOfAll at h
  refine ps_iconst C dX1_linksOfAll_0 pi_0 ?_
  refine ps_istoren1 C rfl dX1_linksOfAll_1 ?_
  refine ps_iconst C dX1_linksOfAll_2 pi_0 ?_
  refine ps_istoren2 C rfl dX1_linksOfAll_3 ?_
  exact bk_X1_linksOfAll_4 C hRm hfin hq ps_fu (nI 0) (nI 0) _ h
set_option maxRecDepth 10000 in
theorem bk_X1_forgottenByAll_4 {X : ps_X} (C : ps_C X RX1 cX1_forgottenByAll) (hRm : xR X = ps_lvl 0) {r : Int32} {M9 : ps_M} (hfin : ∀ pc lv, decode cX1_forgottenByAll pc = .ok (.ireturn, 1) → narrow .int (.int r) = .int r → ps_G X M9 pc lv [.int r]) {q : Nat} (hq : ps_ck 1 q = true) : ∀ (n : Nat) (a1 : Int32) (a2 : Int32) (M : ps_M), fk_X1_forgottenByAll_4 q n a1 a2 M = some (r, M9) → ps_G X M 4 [some (.ref (xb X + q)), some (.int a1), some (.int a2)] [] := by
  intro n
  induction n with
  | zero => intro a1 a2 M h; rw [fk_X1_forgottenByAll_4] at h; cases h
  | succ n ih =>
    intro a1 a2 M h
    rw [fk_X1_forgottenByAll_4] at h
    refine ps_iloadn2 C dX1_forgottenByAll_4 ?_
    refine ps_aloadn0 C dX1_forgottenByAll_5 ?_
    refine gf_X1_28 C hq dX1_forgottenByAll_6 ?_
    refine ps_ic_ge C 30 dX1_forgottenByAll_9 rfl (fun c4 => ?_) (fun c4 => ?_)
    · replace h := ps_ip c4 h
      refine ps_iloadn1 C dX1_forgottenByAll_30 ?_
      exact ps_end_i h hfin dX1_forgottenByAll_31 rfl
    · replace h := ps_in0 c4 h
      refine ps_iloadn1 C dX1_forgottenByAll_12 ?_
      refine ps_aloadn0 C dX1_forgottenByAll_13 ?_
      refine gf_X1_24 C hq dX1_forgottenByAll_14 ?_
      refine ps_iloadn2 C dX1_forgottenByAll_17 ?_
      obtain ⟨hi1, h⟩ := ps_gd h
      refine ps_ald7 C (kf_1_14 hq) hi1 dX1_forgottenByAll_18 ?_
      refine gf_X1_122 C (ke_7 (kf_1_14 hq) hi1) dX1_forgottenByAll_19 ?_
      refine ps_iadd C dX1_forgottenByAll_22 ?_
      refine ps_nmi (fun x2 ex2 => ?_)
      replace h := ps_lt ex2 h
      refine ps_istoren1 C rfl dX1_forgottenByAll_23 ?_
      refine ps_iinc2 C rfl (nI 1) pi_1 dX1_forgottenByAll_24 (fun x3 ex3 => ?_)
      replace h := ps_lt ex3 h
      refine ps_goto C 4 dX1_forgottenByAll_27 rfl ?_
      exact ih x2 x3 _ h
set_option maxRecDepth 10000 in
theorem tt_X1_forgottenByAll (l : Launch) (b : Nat) (D : va_G) {q : Nat} (hq : ps_ck 1 q = true) {M M9 : ps_M} {r : Int32} (h : ff_X1_forgottenByAll q  M = some (r, M9)) : ps_Ti l b D yX1_forgottenByAll cX1_forgottenByAll 3 .int 0 [.ref (b + q)] M r M9 := by
  refine ps_met_i (own := RX1) (lv := [some (.ref (b + q)), none, none]) (by decide) rfl rfl (Nat.le_of_ble_eq_true rfl) rfl (fun X eX1 eX2 eX3 hRm eX5 C hfin => ?_)
  subst eX1 eX2 eX3
  unfold ff_X1_forgottenByAll at h
  refine ps_iconst C dX1_forgottenByAll_0 pi_0 ?_
  refine ps_istoren1 C rfl dX1_forgottenByAll_1 ?_
  refine ps_iconst C dX1_forgottenByAll_2 pi_0 ?_
  refine ps_istoren2 C rfl dX1_forgottenByAll_3 ?_
  exact bk_X1_forgottenByAll_4 C hRm hfin hq ps_fu (nI 0) (nI 0) _ h
set_option maxRecDepth 10000 in
theorem tt_X2_signAt (l : Launch) (b : Nat) (D : va_G) {q : Nat} (hq : ps_ck 15 q = true) {a1 : Int32} {M M9 : ps_M} {r : Int32} (h : ff_X2_signAt q a1 M = some (r, M9)) : ps_Ti l b D yX2_signAt cX2_signAt 2 .char 0 [.ref (b + q), .int a1] M r M9 := by
  refine ps_met_i (own := RX2) (lv := [some (.ref (b + q)), some (.int a1)]) (by decide) rfl rfl (Nat.le_of_ble_eq_true rfl) rfl (fun X eX1 eX2 eX3 hRm eX5 C hfin => ?_)
  subst eX1 eX2 eX3
  unfold ff_X2_signAt at h
  refine ps_iloadn1 C dX2_signAt_0 ?_
  refine ps_if_lt C 21 dX2_signAt_1 rfl (fun c4 => ?_) (fun c4 => ?_)
  · replace h := ps_ip c4 h
    refine ps_iconst C dX2_signAt_21 pi_0 ?_
    exact ps_end_i h hfin dX2_signAt_22 rfl
  · replace h := ps_in0 c4 h
    refine ps_iloadn1 C dX2_signAt_4 ?_
    refine ps_aloadn0 C dX2_signAt_5 ?_
    refine gf_X2_15 C hq dX2_signAt_6 ?_
    refine ps_ic_ge C 21 dX2_signAt_9 rfl (fun c3 => ?_) (fun c3 => ?_)
    · replace h := ps_ip c3 h
      refine ps_iconst C dX2_signAt_21 pi_0 ?_
      exact ps_end_i h hfin dX2_signAt_22 rfl
    · replace h := ps_in0 c3 h
      refine ps_aloadn0 C dX2_signAt_12 ?_
      refine gf_X2_11 C hq dX2_signAt_13 ?_
      refine ps_iloadn1 C dX2_signAt_16 ?_
      obtain ⟨hi1, h⟩ := ps_gd h
      refine ps_cald C (kf_15_1 hq) (fun _ _ => rfl) hi1 dX2_signAt_17 ?_
      refine ps_goto C 22 dX2_signAt_18 rfl ?_
      obtain ⟨hc2, h⟩ := ps_gd h
      exact ps_end_i h hfin dX2_signAt_22 (ps_isC_n hc2).1
set_option maxRecDepth 10000 in
theorem bk_X2_sizeOf_5 {X : ps_X} (C : ps_C X RX2 cX2_sizeOf) (hRm : xR X = ps_lvl 0) {r : Int32} {M9 : ps_M} (hfin : ∀ pc lv, decode cX2_sizeOf pc = .ok (.ireturn, 1) → narrow .int (.int r) = .int r → ps_G X M9 pc lv [.int r]) : ∀ (n : Nat) (a0 : Int64) (a2 : Int64) (a4 : Int32) (M : ps_M), fk_X2_sizeOf_5 n a0 a2 a4 M = some (r, M9) → ps_G X M 5 [some (.long a0), none, some (.long a2), none, some (.int a4), none, none] [] := by
  intro n
  induction n with
  | zero => intro a0 a2 a4 M h; rw [fk_X2_sizeOf_5] at h; cases h
  | succ n ih =>
    intro a0 a2 a4 M h
    rw [fk_X2_sizeOf_5] at h
    refine ps_iload4 C dX2_sizeOf_5 ?_
    refine ps_bipush C dX2_sizeOf_7 pb_8 ?_
    refine ps_ic_ge C 60 dX2_sizeOf_9 rfl (fun c9 => ?_) (fun c9 => ?_)
    · replace h := ps_ip c9 h
      refine ps_lloadn2 C dX2_sizeOf_60 ?_
      refine ps_lconst C (v := lN 0) dX2_sizeOf_61 rfl ?_
      refine ps_lcmp C dX2_sizeOf_62 ?_
      refine ps_if_ne C 71 dX2_sizeOf_63 rfl (fun c1 => ?_) (fun c1 => ?_)
      · replace h := ps_in0 c1 h
        refine ps_iconst C dX2_sizeOf_71 pi_0 ?_
        exact ps_end_i h hfin dX2_sizeOf_72 rfl
      · replace h := ps_ip c1 h
        refine ps_iload4 C dX2_sizeOf_66 ?_
        refine ps_goto C 72 dX2_sizeOf_68 rfl ?_
        exact ps_end_i h hfin dX2_sizeOf_72 rfl
    · replace h := ps_in0 c9 h
      refine ps_lloadn2 C dX2_sizeOf_12 ?_
      refine ps_ldc2 C pm_542 dX2_sizeOf_13 ?_
      refine ps_land C dX2_sizeOf_16 ?_
      refine ps_lconst C (v := lN 0) dX2_sizeOf_17 rfl ?_
      refine ps_lcmp C dX2_sizeOf_18 ?_
      refine ps_if_eq C 60 dX2_sizeOf_19 rfl (fun c8 => ?_) (fun c8 => ?_)
      · replace h := ps_ip c8 h
        refine ps_lloadn2 C dX2_sizeOf_60 ?_
        refine ps_lconst C (v := lN 0) dX2_sizeOf_61 rfl ?_
        refine ps_lcmp C dX2_sizeOf_62 ?_
        refine ps_if_ne C 71 dX2_sizeOf_63 rfl (fun c2 => ?_) (fun c2 => ?_)
        · replace h := ps_in0 c2 h
          refine ps_iconst C dX2_sizeOf_71 pi_0 ?_
          exact ps_end_i h hfin dX2_sizeOf_72 rfl
        · replace h := ps_ip c2 h
          refine ps_iload4 C dX2_sizeOf_66 ?_
          refine ps_goto C 72 dX2_sizeOf_68 rfl ?_
          exact ps_end_i h hfin dX2_sizeOf_72 rfl
      · replace h := ps_in0 c8 h
        refine ps_lloadn2 C dX2_sizeOf_22 ?_
        refine ps_ldc2 C pm_542 dX2_sizeOf_23 ?_
        refine ps_land C dX2_sizeOf_26 ?_
        refine ps_nml (fun x3 ex3 => ?_)
        replace h := ps_lt ex3 h
        refine ps_lstore5 C rfl dX2_sizeOf_27 ?_
        refine ps_lload5 C dX2_sizeOf_29 ?_
        refine ps_ldc2 C pm_543 dX2_sizeOf_31 ?_
        refine ps_lcmp C dX2_sizeOf_34 ?_
        refine ps_if_lt C 47 dX2_sizeOf_35 rfl (fun c7 => ?_) (fun c7 => ?_)
        · replace h := ps_ip c7 h
          refine ps_iconst C dX2_sizeOf_47 pi_0 ?_
          exact ps_end_i h hfin dX2_sizeOf_48 rfl
        · replace h := ps_in0 c7 h
          refine ps_lload5 C dX2_sizeOf_38 ?_
          refine ps_ldc2 C pm_544 dX2_sizeOf_40 ?_
          refine ps_lcmp C dX2_sizeOf_43 ?_
          refine ps_if_le C 49 dX2_sizeOf_44 rfl (fun c6 => ?_) (fun c6 => ?_)
          · replace h := ps_ip c6 h
            refine ps_lloadn2 C dX2_sizeOf_49 ?_
            refine ps_bipush C dX2_sizeOf_50 pb_8 ?_
            refine ps_lushr C dX2_sizeOf_52 ?_
            refine ps_nml (fun x4 ex4 => ?_)
            replace h := ps_lt ex4 h
            refine ps_lstoren2 C rfl dX2_sizeOf_53 ?_
            refine ps_iinc4 C rfl (nI 1) pi_1 dX2_sizeOf_54 (fun x5 ex5 => ?_)
            replace h := ps_lt ex5 h
            refine ps_goto C 5 dX2_sizeOf_57 rfl ?_
            refine ps_wk (lv' := [some (.long a0), none, some (.long x4), none, some (.int x5), none, none]) (ps_le_s rfl (ps_le_n (ps_le_s rfl (ps_le_n (ps_le_s rfl (ps_le_n (ps_le_n ps_le_0))))))) ?_
            exact ih a0 x4 x5 _ h
          · replace h := ps_in0 c6 h
            refine ps_iconst C dX2_sizeOf_47 pi_0 ?_
            exact ps_end_i h hfin dX2_sizeOf_48 rfl
set_option maxRecDepth 10000 in
theorem tt_X2_sizeOf (l : Launch) (b : Nat) (D : va_G) {a0 : Int64} {M M9 : ps_M} {r : Int32} (h : ff_X2_sizeOf a0 M = some (r, M9)) : ps_Ti l b D yX2_sizeOf cX2_sizeOf 7 .int 0 [.long a0] M r M9 := by
  refine ps_met_i (own := RX2) (lv := [some (.long a0), none, none, none, none, none, none]) (by decide) rfl rfl (Nat.le_of_ble_eq_true rfl) rfl (fun X eX1 eX2 eX3 hRm eX5 C hfin => ?_)
  subst eX1 eX2 eX3
  unfold ff_X2_sizeOf at h
  refine ps_lloadn0 C dX2_sizeOf_0 ?_
  refine ps_lstoren2 C rfl dX2_sizeOf_1 ?_
  refine ps_iconst C dX2_sizeOf_2 pi_0 ?_
  refine ps_istore4 C rfl dX2_sizeOf_3 ?_
  exact bk_X2_sizeOf_5 C hRm hfin ps_fu a0 a0 (nI 0) _ h
set_option maxRecDepth 10000 in
theorem bk_X2_append_31 {X : ps_X} (C : ps_C X RX2 cX2_append) (hRm : xR X = ps_lvl 1) {r : Int32} {M9 : ps_M} (hfin : ∀ pc lv, decode cX2_append pc = .ok (.ireturn, 1) → narrow .int (.int r) = .int r → ps_G X M9 pc lv [.int r]) {q : Nat} (hq : ps_ck 15 q = true) : ∀ (n : Nat) (a1 : Int64) (a3 : Int32) (a4 : Int32) (M : ps_M), fk_X2_append_31 q n a1 a3 a4 M = some (r, M9) → ps_G X M 31 [some (.ref (xb X + q)), some (.long a1), none, some (.int a3), some (.int a4)] [] := by
  intro n
  induction n with
  | zero => intro a1 a3 a4 M h; rw [fk_X2_append_31] at h; cases h
  | succ n ih =>
    intro a1 a3 a4 M h
    rw [fk_X2_append_31] at h
    refine ps_iload4 C dX2_append_31 ?_
    refine ps_if_lt C 74 dX2_append_33 rfl (fun c8 => ?_) (fun c8 => ?_)
    · replace h := ps_ip c8 h
      refine ps_aloadn0 C dX2_append_74 ?_
      refine gf_X2_15 C hq dX2_append_75 ?_
      exact ps_end_i h hfin dX2_append_78 rfl
    · replace h := ps_in0 c8 h
      refine ps_aloadn0 C dX2_append_36 ?_
      refine gf_X2_11 C hq dX2_append_37 ?_
      refine ps_aloadn0 C dX2_append_40 ?_
      refine gf_X2_15 C hq dX2_append_41 ?_
      refine ps_lloadn1 C dX2_append_44 ?_
      refine ps_bipush C dX2_append_45 pb_8 ?_
      refine ps_iload4 C dX2_append_47 ?_
      refine ps_imul C dX2_append_49 ?_
      refine ps_lushr C dX2_append_50 ?_
      refine ps_ldc2 C pm_542 dX2_append_51 ?_
      refine ps_land C dX2_append_54 ?_
      refine ps_l2i C dX2_append_55 ?_
      refine ps_i2c C dX2_append_56 ?_
      obtain ⟨hi3, h⟩ := ps_gd h
      obtain ⟨hc5, h⟩ := ps_gd h
      refine ps_cast C (kf_15_1 hq) (fun _ _ => rfl) hi3 hc5 dX2_append_57 (fun M4 eM4 => ?_)
      replace h := ps_lt eM4 h
      refine ps_aloadn0 C dX2_append_58 ?_
      refine ps_dup C rfl dX2_append_59 ?_
      refine gf_X2_15 C hq dX2_append_60 ?_
      refine ps_iconst C dX2_append_63 pi_1 ?_
      refine ps_iadd C dX2_append_64 ?_
      refine pf_X2_15 C hq dX2_append_65 (fun M6 eM6 => ?_)
      replace h := ps_lt eM6 h
      refine ps_iinc4 C rfl (ps_m 1) pi_m1 dX2_append_68 (fun x7 ex7 => ?_)
      replace h := ps_lt ex7 h
      refine ps_goto C 31 dX2_append_71 rfl ?_
      exact ih a1 a3 x7 _ h
set_option maxRecDepth 10000 in
theorem tt_X2_append (l : Launch) (b : Nat) (D : va_G) {q : Nat} (hq : ps_ck 15 q = true) {a1 : Int64} {M M9 : ps_M} {r : Int32} (h : ff_X2_append q a1 M = some (r, M9)) : ps_Ti l b D yX2_append cX2_append 5 .int 1 [.ref (b + q), .long a1] M r M9 := by
  refine ps_met_i (own := RX2) (lv := [some (.ref (b + q)), some (.long a1), none, none, none]) (by decide) rfl rfl (Nat.le_of_ble_eq_true rfl) rfl (fun X eX1 eX2 eX3 hRm eX5 C hfin => ?_)
  subst eX1 eX2 eX3
  unfold ff_X2_append at h
  refine ps_lloadn1 C dX2_append_0 ?_
  obtain ⟨r1, M1, hM1, h⟩ := ps_bd h
  refine ps_goS_i C (rest := []) (tt_X2_sizeOf (xl X) (xb X) (xD X) hM1) cw_X2_19 (ps_room hRm (by decide)) rfl rfl (Nat.le_of_ble_eq_true rfl) dX2_append_1 ?_
  refine ps_istoren3 C rfl dX2_append_4 ?_
  refine ps_iloadn3 C dX2_append_5 ?_
  refine ps_if_ne C 12 dX2_append_6 rfl (fun c10 => ?_) (fun c10 => ?_)
  · replace h := ps_in0 c10 h
    refine ps_aloadn0 C dX2_append_12 ?_
    refine gf_X2_15 C hq dX2_append_13 ?_
    refine ps_iloadn3 C dX2_append_16 ?_
    refine ps_iadd C dX2_append_17 ?_
    refine ps_bipush C dX2_append_18 pb_80 ?_
    refine ps_ic_le C 26 dX2_append_20 rfl (fun c9 => ?_) (fun c9 => ?_)
    · replace h := ps_ip c9 h
      refine ps_iloadn3 C dX2_append_26 ?_
      refine ps_iconst C dX2_append_27 pi_1 ?_
      refine ps_isub C dX2_append_28 ?_
      refine ps_nmi (fun x2 ex2 => ?_)
      replace h := ps_lt ex2 h
      refine ps_istore4 C rfl dX2_append_29 ?_
      exact bk_X2_append_31 C hRm hfin hq ps_fu a1 r1 x2 _ h
    · replace h := ps_in0 c9 h
      refine ps_bipush C dX2_append_23 pb_m4 ?_
      exact ps_end_i h hfin dX2_append_25 rfl
  · replace h := ps_ip c10 h
    refine ps_bipush C dX2_append_9 pb_m2 ?_
    exact ps_end_i h hfin dX2_append_11 rfl
set_option maxRecDepth 10000 in
theorem bk_X3_strengthInAll_4 {X : ps_X} (C : ps_C X RX3 cX3_strengthInAll) (hRm : xR X = ps_lvl 0) {r : Int32} {M9 : ps_M} (hfin : ∀ pc lv, decode cX3_strengthInAll pc = .ok (.ireturn, 1) → narrow .int (.int r) = .int r → ps_G X M9 pc lv [.int r]) {q : Nat} (hq : ps_ck 9 q = true) : ∀ (n : Nat) (a1 : Int32) (a2 : Int32) (M : ps_M), fk_X3_strengthInAll_4 q n a1 a2 M = some (r, M9) → ps_G X M 4 [some (.ref (xb X + q)), some (.int a1), some (.int a2)] [] := by
  intro n
  induction n with
  | zero => intro a1 a2 M h; rw [fk_X3_strengthInAll_4] at h; cases h
  | succ n ih =>
    intro a1 a2 M h
    rw [fk_X3_strengthInAll_4] at h
    refine ps_iloadn2 C dX3_strengthInAll_4 ?_
    refine ps_aloadn0 C dX3_strengthInAll_5 ?_
    refine gf_X3_16 C hq dX3_strengthInAll_6 ?_
    refine ps_ic_ge C 29 dX3_strengthInAll_9 rfl (fun c5 => ?_) (fun c5 => ?_)
    · replace h := ps_ip c5 h
      refine ps_iloadn1 C dX3_strengthInAll_29 ?_
      exact ps_end_i h hfin dX3_strengthInAll_30 rfl
    · replace h := ps_in0 c5 h
      refine ps_iloadn1 C dX3_strengthInAll_12 ?_
      refine ps_aloadn0 C dX3_strengthInAll_13 ?_
      refine gf_X3_13 C hq dX3_strengthInAll_14 ?_
      refine ps_iconst C dX3_strengthInAll_17 pi_2 ?_
      obtain ⟨hi1, h⟩ := ps_gd h
      refine ps_ald10 C (kf_9_1 hq) hi1 dX3_strengthInAll_18 ?_
      refine ps_iloadn2 C dX3_strengthInAll_19 ?_
      obtain ⟨hi2, h⟩ := ps_gd h
      refine ps_iald C (ke_10 (kf_9_1 hq) hi1) (fun _ _ => rfl) hi2 dX3_strengthInAll_20 ?_
      refine ps_iadd C dX3_strengthInAll_21 ?_
      refine ps_nmi (fun x3 ex3 => ?_)
      replace h := ps_lt ex3 h
      refine ps_istoren1 C rfl dX3_strengthInAll_22 ?_
      refine ps_iinc2 C rfl (nI 1) pi_1 dX3_strengthInAll_23 (fun x4 ex4 => ?_)
      replace h := ps_lt ex4 h
      refine ps_goto C 4 dX3_strengthInAll_26 rfl ?_
      exact ih x3 x4 _ h
set_option maxRecDepth 10000 in
theorem tt_X3_strengthInAll (l : Launch) (b : Nat) (D : va_G) {q : Nat} (hq : ps_ck 9 q = true) {M M9 : ps_M} {r : Int32} (h : ff_X3_strengthInAll q  M = some (r, M9)) : ps_Ti l b D yX3_strengthInAll cX3_strengthInAll 3 .int 0 [.ref (b + q)] M r M9 := by
  refine ps_met_i (own := RX3) (lv := [some (.ref (b + q)), none, none]) (by decide) rfl rfl (Nat.le_of_ble_eq_true rfl) rfl (fun X eX1 eX2 eX3 hRm eX5 C hfin => ?_)
  subst eX1 eX2 eX3
  unfold ff_X3_strengthInAll at h
  refine ps_iconst C dX3_strengthInAll_0 pi_0 ?_
  refine ps_istoren1 C rfl dX3_strengthInAll_1 ?_
  refine ps_iconst C dX3_strengthInAll_2 pi_0 ?_
  refine ps_istoren2 C rfl dX3_strengthInAll_3 ?_
  exact bk_X3_strengthInAll_4 C hRm hfin hq ps_fu (nI 0) (nI 0) _ h
set_option maxRecDepth 10000 in
theorem tt_X3_ofLink (l : Launch) (b : Nat) (D : va_G) {q : Nat} (hq : ps_ck 9 q = true) {a1 : Int32} {a2 : Int32} {M M9 : ps_M} {r : Int32} (h : ff_X3_ofLink q a1 a2 M = some (r, M9)) : ps_Ti l b D yX3_ofLink cX3_ofLink 3 .int 0 [.ref (b + q), .int a1, .int a2] M r M9 := by
  refine ps_met_i (own := RX3) (lv := [some (.ref (b + q)), some (.int a1), some (.int a2)]) (by decide) rfl rfl (Nat.le_of_ble_eq_true rfl) rfl (fun X eX1 eX2 eX3 hRm eX5 C hfin => ?_)
  subst eX1 eX2 eX3
  unfold ff_X3_ofLink at h
  refine ps_iloadn1 C dX3_ofLink_0 ?_
  refine ps_if_lt C 21 dX3_ofLink_1 rfl (fun c6 => ?_) (fun c6 => ?_)
  · replace h := ps_ip c6 h
    refine ps_bipush C dX3_ofLink_21 pb_m6 ?_
    exact ps_end_i h hfin dX3_ofLink_23 rfl
  · replace h := ps_in0 c6 h
    refine ps_iloadn1 C dX3_ofLink_4 ?_
    refine ps_aloadn0 C dX3_ofLink_5 ?_
    refine gf_X3_16 C hq dX3_ofLink_6 ?_
    refine ps_ic_ge C 21 dX3_ofLink_9 rfl (fun c5 => ?_) (fun c5 => ?_)
    · replace h := ps_ip c5 h
      refine ps_bipush C dX3_ofLink_21 pb_m6 ?_
      exact ps_end_i h hfin dX3_ofLink_23 rfl
    · replace h := ps_in0 c5 h
      refine ps_iloadn2 C dX3_ofLink_12 ?_
      refine ps_if_lt C 21 dX3_ofLink_13 rfl (fun c4 => ?_) (fun c4 => ?_)
      · replace h := ps_ip c4 h
        refine ps_bipush C dX3_ofLink_21 pb_m6 ?_
        exact ps_end_i h hfin dX3_ofLink_23 rfl
      · replace h := ps_in0 c4 h
        refine ps_iloadn2 C dX3_ofLink_16 ?_
        refine ps_iconst C dX3_ofLink_17 pi_4 ?_
        refine ps_ic_lt C 24 dX3_ofLink_18 rfl (fun c3 => ?_) (fun c3 => ?_)
        · replace h := ps_ip c3 h
          refine ps_aloadn0 C dX3_ofLink_24 ?_
          refine gf_X3_13 C hq dX3_ofLink_25 ?_
          refine ps_iloadn2 C dX3_ofLink_28 ?_
          obtain ⟨hi1, h⟩ := ps_gd h
          refine ps_ald10 C (kf_9_1 hq) hi1 dX3_ofLink_29 ?_
          refine ps_aloadn0 C dX3_ofLink_30 ?_
          refine gf_X3_16 C hq dX3_ofLink_31 ?_
          refine ps_iconst C dX3_ofLink_34 pi_1 ?_
          refine ps_isub C dX3_ofLink_35 ?_
          refine ps_iloadn1 C dX3_ofLink_36 ?_
          refine ps_isub C dX3_ofLink_37 ?_
          obtain ⟨hi2, h⟩ := ps_gd h
          refine ps_iald C (ke_10 (kf_9_1 hq) hi1) (fun _ _ => rfl) hi2 dX3_ofLink_38 ?_
          exact ps_end_i h hfin dX3_ofLink_39 rfl
        · replace h := ps_in0 c3 h
          refine ps_bipush C dX3_ofLink_21 pb_m6 ?_
          exact ps_end_i h hfin dX3_ofLink_23 rfl
set_option maxRecDepth 10000 in
theorem tt_X4_start (l : Launch) (b : Nat) (D : va_G) {q : Nat} (hq : ps_ck 14 q = true) {M M9 : ps_M} {r : Int32} (h : ff_X4_start q  M = some (r, M9)) : ps_Tv l b D yX4_start cX4_start 1 0 [.ref (b + q)] M M9 := by
  refine ps_met_v (own := RX4) (lv := [some (.ref (b + q))]) (by decide) rfl rfl (Nat.le_of_ble_eq_true rfl) rfl (fun X eX1 eX2 eX3 hRm eX5 C hfin => ?_)
  subst eX1 eX2 eX3
  unfold ff_X4_start at h
  refine ps_aloadn0 C dX4_start_0 ?_
  refine ps_iconst C dX4_start_1 pi_0 ?_
  refine pf_X4_18 C hq dX4_start_2 (fun M1 eM1 => ?_)
  replace h := ps_lt eM1 h
  refine ps_aloadn0 C dX4_start_5 ?_
  refine ps_iconst C dX4_start_6 pi_1 ?_
  refine pf_X4_22 C hq (by decide) dX4_start_7 (fun M2 eM2 => ?_)
  replace h := ps_lt eM2 h
  exact ps_end_v h hfin dX4_start_10
set_option maxRecDepth 10000 in
theorem bk_X4_readBars_5 {X : ps_X} (C : ps_C X RX4 cX4_readBars) (hRm : xR X = ps_lvl 1) {r : Int32} {M9 : ps_M} (hfin : ∀ pc lv, decode cX4_readBars pc = .ok (.ireturn, 1) → narrow .boolean (.int r) = .int r → ps_G X M9 pc lv [.int r]) {q : Nat} (hq : ps_ck 14 q = true) : ∀ (n : Nat)  (M : ps_M), fk_X4_readBars_5 q n  M = some (r, M9) → ps_G X M 5 [some (.ref (xb X + q))] [] := by
  intro n
  induction n with
  | zero => intro  M h; rw [fk_X4_readBars_5] at h; cases h
  | succ n ih =>
    intro  M h
    rw [fk_X4_readBars_5] at h
    refine ps_aloadn0 C dX4_readBars_5 ?_
    refine gf_X4_43 C hq dX4_readBars_6 ?_
    refine ps_bipush C dX4_readBars_9 pb_20 ?_
    refine ps_ic_ge C 92 dX4_readBars_11 rfl (fun c14 => ?_) (fun c14 => ?_)
    · replace h := ps_ip c14 h
      refine ps_aloadn0 C dX4_readBars_92 ?_
      refine gf_X4_43 C hq dX4_readBars_93 ?_
      refine ps_if_le C 103 dX4_readBars_96 rfl (fun c2 => ?_) (fun c2 => ?_)
      · replace h := ps_ip c2 h
        refine ps_iconst C dX4_readBars_103 pi_0 ?_
        exact ps_end_i h hfin dX4_readBars_104 rfl
      · replace h := ps_in0 c2 h
        refine ps_iconst C dX4_readBars_99 pi_1 ?_
        refine ps_goto C 104 dX4_readBars_100 rfl ?_
        exact ps_end_i h hfin dX4_readBars_104 rfl
    · replace h := ps_in0 c14 h
      refine ps_aloadn0 C dX4_readBars_14 ?_
      refine gf_X4_12 C hq dX4_readBars_15 ?_
      refine ps_aloadn0 C dX4_readBars_18 ?_
      refine gf_X4_18 C hq dX4_readBars_19 ?_
      obtain ⟨r3, M3, hM3, h⟩ := ps_bd h
      refine ps_goV_i C (rest := []) (tt_X2_signAt (xl X) (xb X) (xD X) (kf_14_1 hq) hM3) cw_X4_63 ps_rc15 (kf_14_1 hq) (ps_room hRm (by decide)) rfl rfl (Nat.le_of_ble_eq_true rfl) dX4_readBars_22 ?_
      refine ps_bipush C dX4_readBars_25 pb_97 ?_
      refine ps_ic_lt C 92 dX4_readBars_27 rfl (fun c13 => ?_) (fun c13 => ?_)
      · replace h := ps_ip c13 h
        refine ps_aloadn0 C dX4_readBars_92 ?_
        refine gf_X4_43 C hq dX4_readBars_93 ?_
        refine ps_if_le C 103 dX4_readBars_96 rfl (fun c4 => ?_) (fun c4 => ?_)
        · replace h := ps_ip c4 h
          refine ps_iconst C dX4_readBars_103 pi_0 ?_
          exact ps_end_i h hfin dX4_readBars_104 rfl
        · replace h := ps_in0 c4 h
          refine ps_iconst C dX4_readBars_99 pi_1 ?_
          refine ps_goto C 104 dX4_readBars_100 rfl ?_
          exact ps_end_i h hfin dX4_readBars_104 rfl
      · replace h := ps_in0 c13 h
        refine ps_aloadn0 C dX4_readBars_30 ?_
        refine gf_X4_12 C hq dX4_readBars_31 ?_
        refine ps_aloadn0 C dX4_readBars_34 ?_
        refine gf_X4_18 C hq dX4_readBars_35 ?_
        obtain ⟨r5, M5, hM5, h⟩ := ps_bd h
        refine ps_goV_i C (rest := []) (tt_X2_signAt (xl X) (xb X) (xD X) (kf_14_1 hq) hM5) cw_X4_63 ps_rc15 (kf_14_1 hq) (ps_room hRm (by decide)) rfl rfl (Nat.le_of_ble_eq_true rfl) dX4_readBars_38 ?_
        refine ps_bipush C dX4_readBars_41 pb_122 ?_
        refine ps_ic_gt C 92 dX4_readBars_43 rfl (fun c12 => ?_) (fun c12 => ?_)
        · replace h := ps_ip c12 h
          refine ps_aloadn0 C dX4_readBars_92 ?_
          refine gf_X4_43 C hq dX4_readBars_93 ?_
          refine ps_if_le C 103 dX4_readBars_96 rfl (fun c6 => ?_) (fun c6 => ?_)
          · replace h := ps_ip c6 h
            refine ps_iconst C dX4_readBars_103 pi_0 ?_
            exact ps_end_i h hfin dX4_readBars_104 rfl
          · replace h := ps_in0 c6 h
            refine ps_iconst C dX4_readBars_99 pi_1 ?_
            refine ps_goto C 104 dX4_readBars_100 rfl ?_
            exact ps_end_i h hfin dX4_readBars_104 rfl
        · replace h := ps_in0 c12 h
          refine ps_aloadn0 C dX4_readBars_46 ?_
          refine gf_X4_39 C hq dX4_readBars_47 ?_
          refine ps_aloadn0 C dX4_readBars_50 ?_
          refine gf_X4_43 C hq dX4_readBars_51 ?_
          refine ps_aloadn0 C dX4_readBars_54 ?_
          refine gf_X4_12 C hq dX4_readBars_55 ?_
          refine ps_aloadn0 C dX4_readBars_58 ?_
          refine gf_X4_18 C hq dX4_readBars_59 ?_
          obtain ⟨r7, M7, hM7, h⟩ := ps_bd h
          refine ps_goV_i C (rest := [.int (ps_rd M5 q 8), .ref (xb X + (q + 3))]) (tt_X2_signAt (xl X) (xb X) (xD X) (kf_14_1 hq) hM7) cw_X4_63 ps_rc15 (kf_14_1 hq) (ps_room hRm (by decide)) rfl rfl (Nat.le_of_ble_eq_true rfl) dX4_readBars_62 ?_
          refine ps_bipush C dX4_readBars_65 pb_97 ?_
          refine ps_isub C dX4_readBars_67 ?_
          obtain ⟨hi8, h⟩ := ps_gd h
          refine ps_iast C (kf_14_3 hq) (fun _ _ => rfl) hi8 dX4_readBars_68 (fun M9 eM9 => ?_)
          replace h := ps_lt eM9 h
          refine ps_aloadn0 C dX4_readBars_69 ?_
          refine ps_dup C rfl dX4_readBars_70 ?_
          refine gf_X4_43 C hq dX4_readBars_71 ?_
          refine ps_iconst C dX4_readBars_74 pi_1 ?_
          refine ps_iadd C dX4_readBars_75 ?_
          refine pf_X4_43 C hq dX4_readBars_76 (fun M10 eM10 => ?_)
          replace h := ps_lt eM10 h
          refine ps_aloadn0 C dX4_readBars_79 ?_
          refine ps_dup C rfl dX4_readBars_80 ?_
          refine gf_X4_18 C hq dX4_readBars_81 ?_
          refine ps_iconst C dX4_readBars_84 pi_1 ?_
          refine ps_iadd C dX4_readBars_85 ?_
          refine pf_X4_18 C hq dX4_readBars_86 (fun M11 eM11 => ?_)
          replace h := ps_lt eM11 h
          refine ps_goto C 5 dX4_readBars_89 rfl ?_
          exact ih _ h
set_option maxRecDepth 10000 in
theorem tt_X4_readBars (l : Launch) (b : Nat) (D : va_G) {q : Nat} (hq : ps_ck 14 q = true) {M M9 : ps_M} {r : Int32} (h : ff_X4_readBars q  M = some (r, M9)) : ps_Ti l b D yX4_readBars cX4_readBars 1 .boolean 1 [.ref (b + q)] M r M9 := by
  refine ps_met_i (own := RX4) (lv := [some (.ref (b + q))]) (by decide) rfl rfl (Nat.le_of_ble_eq_true rfl) rfl (fun X eX1 eX2 eX3 hRm eX5 C hfin => ?_)
  subst eX1 eX2 eX3
  unfold ff_X4_readBars at h
  refine ps_aloadn0 C dX4_readBars_0 ?_
  refine ps_iconst C dX4_readBars_1 pi_0 ?_
  refine pf_X4_43 C hq dX4_readBars_2 (fun M1 eM1 => ?_)
  replace h := ps_lt eM1 h
  exact bk_X4_readBars_5 C hRm hfin hq ps_fu _ h
set_option maxRecDepth 10000 in
theorem tt_X4_isDigit (l : Launch) (b : Nat) (D : va_G) {q : Nat} (hq : ps_ck 14 q = true) {M M9 : ps_M} {r : Int32} (h : ff_X4_isDigit q  M = some (r, M9)) : ps_Ti l b D yX4_isDigit cX4_isDigit 1 .boolean 1 [.ref (b + q)] M r M9 := by
  refine ps_met_i (own := RX4) (lv := [some (.ref (b + q))]) (by decide) rfl rfl (Nat.le_of_ble_eq_true rfl) rfl (fun X eX1 eX2 eX3 hRm eX5 C hfin => ?_)
  subst eX1 eX2 eX3
  unfold ff_X4_isDigit at h
  refine ps_aloadn0 C dX4_isDigit_0 ?_
  refine gf_X4_12 C hq dX4_isDigit_1 ?_
  refine ps_aloadn0 C dX4_isDigit_4 ?_
  refine gf_X4_18 C hq dX4_isDigit_5 ?_
  obtain ⟨r1, M1, hM1, h⟩ := ps_bd h
  refine ps_goV_i C (rest := []) (tt_X2_signAt (xl X) (xb X) (xD X) (kf_14_1 hq) hM1) cw_X4_63 ps_rc15 (kf_14_1 hq) (ps_room hRm (by decide)) rfl rfl (Nat.le_of_ble_eq_true rfl) dX4_isDigit_8 ?_
  refine ps_bipush C dX4_isDigit_11 pb_48 ?_
  refine ps_ic_lt C 36 dX4_isDigit_13 rfl (fun c4 => ?_) (fun c4 => ?_)
  · replace h := ps_ip c4 h
    refine ps_iconst C dX4_isDigit_36 pi_0 ?_
    exact ps_end_i h hfin dX4_isDigit_37 rfl
  · replace h := ps_in0 c4 h
    refine ps_aloadn0 C dX4_isDigit_16 ?_
    refine gf_X4_12 C hq dX4_isDigit_17 ?_
    refine ps_aloadn0 C dX4_isDigit_20 ?_
    refine gf_X4_18 C hq dX4_isDigit_21 ?_
    obtain ⟨r2, M2, hM2, h⟩ := ps_bd h
    refine ps_goV_i C (rest := []) (tt_X2_signAt (xl X) (xb X) (xD X) (kf_14_1 hq) hM2) cw_X4_63 ps_rc15 (kf_14_1 hq) (ps_room hRm (by decide)) rfl rfl (Nat.le_of_ble_eq_true rfl) dX4_isDigit_24 ?_
    refine ps_bipush C dX4_isDigit_27 pb_57 ?_
    refine ps_ic_gt C 36 dX4_isDigit_29 rfl (fun c3 => ?_) (fun c3 => ?_)
    · replace h := ps_ip c3 h
      refine ps_iconst C dX4_isDigit_36 pi_0 ?_
      exact ps_end_i h hfin dX4_isDigit_37 rfl
    · replace h := ps_in0 c3 h
      refine ps_iconst C dX4_isDigit_32 pi_1 ?_
      refine ps_goto C 37 dX4_isDigit_33 rfl ?_
      exact ps_end_i h hfin dX4_isDigit_37 rfl
set_option maxRecDepth 10000 in
theorem tt_X4_takeDigit (l : Launch) (b : Nat) (D : va_G) {q : Nat} (hq : ps_ck 14 q = true) {M M9 : ps_M} {r : Int32} (h : ff_X4_takeDigit q  M = some (r, M9)) : ps_Ti l b D yX4_takeDigit cX4_takeDigit 2 .int 1 [.ref (b + q)] M r M9 := by
  refine ps_met_i (own := RX4) (lv := [some (.ref (b + q)), none]) (by decide) rfl rfl (Nat.le_of_ble_eq_true rfl) rfl (fun X eX1 eX2 eX3 hRm eX5 C hfin => ?_)
  subst eX1 eX2 eX3
  unfold ff_X4_takeDigit at h
  refine ps_aloadn0 C dX4_takeDigit_0 ?_
  refine gf_X4_12 C hq dX4_takeDigit_1 ?_
  refine ps_aloadn0 C dX4_takeDigit_4 ?_
  refine gf_X4_18 C hq dX4_takeDigit_5 ?_
  obtain ⟨r1, M1, hM1, h⟩ := ps_bd h
  refine ps_goV_i C (rest := []) (tt_X2_signAt (xl X) (xb X) (xD X) (kf_14_1 hq) hM1) cw_X4_63 ps_rc15 (kf_14_1 hq) (ps_room hRm (by decide)) rfl rfl (Nat.le_of_ble_eq_true rfl) dX4_takeDigit_8 ?_
  refine ps_bipush C dX4_takeDigit_11 pb_48 ?_
  refine ps_isub C dX4_takeDigit_13 ?_
  refine ps_nmi (fun x2 ex2 => ?_)
  replace h := ps_lt ex2 h
  refine ps_istoren1 C rfl dX4_takeDigit_14 ?_
  refine ps_aloadn0 C dX4_takeDigit_15 ?_
  refine ps_dup C rfl dX4_takeDigit_16 ?_
  refine gf_X4_18 C hq dX4_takeDigit_17 ?_
  refine ps_iconst C dX4_takeDigit_20 pi_1 ?_
  refine ps_iadd C dX4_takeDigit_21 ?_
  refine pf_X4_18 C hq dX4_takeDigit_22 (fun M3 eM3 => ?_)
  replace h := ps_lt eM3 h
  refine ps_iloadn1 C dX4_takeDigit_25 ?_
  exact ps_end_i h hfin dX4_takeDigit_26 rfl
set_option maxRecDepth 10000 in
theorem tt_X4_readParrot (l : Launch) (b : Nat) (D : va_G) {q : Nat} (hq : ps_ck 14 q = true) {M M9 : ps_M} {r : Int32} (h : ff_X4_readParrot q  M = some (r, M9)) : ps_Ti l b D yX4_readParrot cX4_readParrot 1 .boolean 2 [.ref (b + q)] M r M9 := by
  refine ps_met_i (own := RX4) (lv := [some (.ref (b + q))]) (by decide) rfl rfl (Nat.le_of_ble_eq_true rfl) rfl (fun X eX1 eX2 eX3 hRm eX5 C hfin => ?_)
  subst eX1 eX2 eX3
  unfold ff_X4_readParrot at h
  refine ps_aloadn0 C dX4_readParrot_0 ?_
  obtain ⟨r1, M1, hM1, h⟩ := ps_bd h
  refine ps_goV_i C (rest := []) (tt_X4_isDigit (xl X) (xb X) (xD X) hq hM1) cw_X4_79 ps_rc14 hq (ps_room hRm (by decide)) rfl rfl (Nat.le_of_ble_eq_true rfl) dX4_readParrot_1 ?_
  refine ps_if_ne C 9 dX4_readParrot_4 rfl (fun c4 => ?_) (fun c4 => ?_)
  · replace h := ps_in0 c4 h
    refine ps_aloadn0 C dX4_readParrot_9 ?_
    refine ps_aloadn0 C dX4_readParrot_10 ?_
    obtain ⟨r2, M2, hM2, h⟩ := ps_bd h
    refine ps_goV_i C (rest := [.ref (xb X + q)]) (tt_X4_takeDigit (xl X) (xb X) (xD X) hq hM2) cw_X4_82 ps_rc14 hq (ps_room hRm (by decide)) rfl rfl (Nat.le_of_ble_eq_true rfl) dX4_readParrot_11 ?_
    refine pf_X4_30 C hq dX4_readParrot_14 (fun M3 eM3 => ?_)
    replace h := ps_lt eM3 h
    refine ps_iconst C dX4_readParrot_17 pi_1 ?_
    exact ps_end_i h hfin dX4_readParrot_18 rfl
  · replace h := ps_ip c4 h
    refine ps_iconst C dX4_readParrot_7 pi_0 ?_
    exact ps_end_i h hfin dX4_readParrot_8 rfl
set_option maxRecDepth 10000 in
theorem tt_X4_take (l : Launch) (b : Nat) (D : va_G) {q : Nat} (hq : ps_ck 14 q = true) {a1 : Int32} {M M9 : ps_M} {r : Int32} (h : ff_X4_take q a1 M = some (r, M9)) : ps_Ti l b D yX4_take cX4_take 2 .boolean 1 [.ref (b + q), .int a1] M r M9 := by
  refine ps_met_i (own := RX4) (lv := [some (.ref (b + q)), some (.int a1)]) (by decide) rfl rfl (Nat.le_of_ble_eq_true rfl) rfl (fun X eX1 eX2 eX3 hRm eX5 C hfin => ?_)
  subst eX1 eX2 eX3
  unfold ff_X4_take at h
  refine ps_aloadn0 C dX4_take_0 ?_
  refine gf_X4_12 C hq dX4_take_1 ?_
  refine ps_aloadn0 C dX4_take_4 ?_
  refine gf_X4_18 C hq dX4_take_5 ?_
  obtain ⟨r1, M1, hM1, h⟩ := ps_bd h
  refine ps_goV_i C (rest := []) (tt_X2_signAt (xl X) (xb X) (xD X) (kf_14_1 hq) hM1) cw_X4_63 ps_rc15 (kf_14_1 hq) (ps_room hRm (by decide)) rfl rfl (Nat.le_of_ble_eq_true rfl) dX4_take_8 ?_
  refine ps_iloadn1 C dX4_take_11 ?_
  refine ps_ic_eq C 17 dX4_take_12 rfl (fun c3 => ?_) (fun c3 => ?_)
  · replace h := ps_ip c3 h
    refine ps_aloadn0 C dX4_take_17 ?_
    refine ps_dup C rfl dX4_take_18 ?_
    refine gf_X4_18 C hq dX4_take_19 ?_
    refine ps_iconst C dX4_take_22 pi_1 ?_
    refine ps_iadd C dX4_take_23 ?_
    refine pf_X4_18 C hq dX4_take_24 (fun M2 eM2 => ?_)
    replace h := ps_lt eM2 h
    refine ps_iconst C dX4_take_27 pi_1 ?_
    exact ps_end_i h hfin dX4_take_28 rfl
  · replace h := ps_in0 c3 h
    refine ps_iconst C dX4_take_15 pi_0 ?_
    exact ps_end_i h hfin dX4_take_16 rfl
