set_option maxRecDepth 10000 in
theorem bk_X7_put_86 {X : ps_X} (C : ps_C X RX7 cX7_put) (hRm : xR X = ps_lvl 0) {r : Int32} {M9 : ps_M} (hfin : ∀ pc lv, decode cX7_put pc = .ok (.ireturn, 1) → narrow .int (.int r) = .int r → ps_G X M9 pc lv [.int r]) {q : Nat} (hq : ps_ck 20 q = true) : ∀ (n : Nat) (a1 : Int64) (a3 : Int32) (a4 : Int64) (a6 : Int32) (M : ps_M), fk_X7_put_86 q n a1 a3 a4 a6 M = some (r, M9) → ps_G X M 86 [some (.ref (xb X + q)), some (.long a1), none, some (.int a3), some (.long a4), none, some (.int a6), none] [] := by
  intro n
  induction n with
  | zero => intro a1 a3 a4 a6 M h; rw [fk_X7_put_86] at h; cases h
  | succ n ih =>
    intro a1 a3 a4 a6 M h
    rw [fk_X7_put_86] at h
    refine ps_iload6 C dX7_put_86 ?_
    refine ps_if_lt C 129 dX7_put_88 rfl (fun c8 => ?_) (fun c8 => ?_)
    · replace h := ps_ip c8 h
      refine ps_aloadn0 C dX7_put_129 ?_
      refine gf_X7_140 C hq dX7_put_130 ?_
      exact ps_end_i h hfin dX7_put_133 rfl
    · replace h := ps_in0 c8 h
      refine ps_aloadn0 C dX7_put_91 ?_
      refine gf_X7_35 C hq dX7_put_92 ?_
      refine ps_aloadn0 C dX7_put_95 ?_
      refine gf_X7_140 C hq dX7_put_96 ?_
      refine ps_lloadn1 C dX7_put_99 ?_
      refine ps_bipush C dX7_put_100 pb_8 ?_
      refine ps_iload6 C dX7_put_102 ?_
      refine ps_imul C dX7_put_104 ?_
      refine ps_lushr C dX7_put_105 ?_
      refine ps_ldc2 C pm_893 dX7_put_106 ?_
      refine ps_land C dX7_put_109 ?_
      refine ps_l2i C dX7_put_110 ?_
      refine ps_i2c C dX7_put_111 ?_
      obtain ⟨hi3, h⟩ := ps_gd h
      obtain ⟨hc5, h⟩ := ps_gd h
      refine ps_cast C (kf_20_9 hq) (fun _ _ => rfl) hi3 hc5 dX7_put_112 (fun M4 eM4 => ?_)
      replace h := ps_lt eM4 h
      refine ps_aloadn0 C dX7_put_113 ?_
      refine ps_dup C rfl dX7_put_114 ?_
      refine gf_X7_140 C hq dX7_put_115 ?_
      refine ps_iconst C dX7_put_118 pi_1 ?_
      refine ps_iadd C dX7_put_119 ?_
      refine pf_X7_140 C hq dX7_put_120 (fun M6 eM6 => ?_)
      replace h := ps_lt eM6 h
      refine ps_iinc6 C rfl (ps_m 1) pi_m1 dX7_put_123 (fun x7 ex7 => ?_)
      replace h := ps_lt ex7 h
      refine ps_goto C 86 dX7_put_126 rfl ?_
      exact ih a1 a3 a4 x7 _ h
set_option maxRecDepth 10000 in
theorem bk_X7_put_60 {X : ps_X} (C : ps_C X RX7 cX7_put) (hRm : xR X = ps_lvl 0) {r : Int32} {M9 : ps_M} (hfin : ∀ pc lv, decode cX7_put pc = .ok (.ireturn, 1) → narrow .int (.int r) = .int r → ps_G X M9 pc lv [.int r]) {q : Nat} (hq : ps_ck 20 q = true) (a1 : Int64) (a3 : Int32) (a4 : Int64) (M : ps_M) (h : fk_X7_put_60 q a1 a3 a4 M = some (r, M9)) : ps_G X M 60 [some (.ref (xb X + q)), some (.long a1), none, some (.int a3), some (.long a4), none, none, none] [] := by
  unfold fk_X7_put_60 at h
  refine ps_iloadn3 C dX7_put_60 ?_
  refine ps_if_ne C 67 dX7_put_61 rfl (fun c10 => ?_) (fun c10 => ?_)
  · replace h := ps_in0 c10 h
    refine ps_aloadn0 C dX7_put_67 ?_
    refine gf_X7_140 C hq dX7_put_68 ?_
    refine ps_iloadn3 C dX7_put_71 ?_
    refine ps_iadd C dX7_put_72 ?_
    refine ps_bipush C dX7_put_73 pb_80 ?_
    refine ps_ic_le C 81 dX7_put_75 rfl (fun c9 => ?_) (fun c9 => ?_)
    · replace h := ps_ip c9 h
      refine ps_iloadn3 C dX7_put_81 ?_
      refine ps_iconst C dX7_put_82 pi_1 ?_
      refine ps_isub C dX7_put_83 ?_
      refine ps_nmi (fun x2 ex2 => ?_)
      replace h := ps_lt ex2 h
      refine ps_istore6 C rfl dX7_put_84 ?_
      exact bk_X7_put_86 C hRm hfin hq ps_fu a1 a3 a4 x2 _ h
    · replace h := ps_in0 c9 h
      refine ps_bipush C dX7_put_78 pb_m4 ?_
      exact ps_end_i h hfin dX7_put_80 rfl
  · replace h := ps_ip c10 h
    refine ps_bipush C dX7_put_64 pb_m2 ?_
    exact ps_end_i h hfin dX7_put_66 rfl
set_option maxRecDepth 10000 in
theorem bk_X7_put_5 {X : ps_X} (C : ps_C X RX7 cX7_put) (hRm : xR X = ps_lvl 0) {r : Int32} {M9 : ps_M} (hfin : ∀ pc lv, decode cX7_put pc = .ok (.ireturn, 1) → narrow .int (.int r) = .int r → ps_G X M9 pc lv [.int r]) {q : Nat} (hq : ps_ck 20 q = true) : ∀ (n : Nat) (a1 : Int64) (a3 : Int32) (a4 : Int64) (M : ps_M), fk_X7_put_5 q n a1 a3 a4 M = some (r, M9) → ps_G X M 5 [some (.ref (xb X + q)), some (.long a1), none, some (.int a3), some (.long a4), none, none, none] [] := by
  intro n
  induction n with
  | zero => intro a1 a3 a4 M h; rw [fk_X7_put_5] at h; cases h
  | succ n ih =>
    intro a1 a3 a4 M h
    rw [fk_X7_put_5] at h
    refine ps_iloadn3 C dX7_put_5 ?_
    refine ps_bipush C dX7_put_6 pb_8 ?_
    refine ps_ic_ge C 60 dX7_put_8 rfl (fun c17 => ?_) (fun c17 => ?_)
    · replace h := ps_ip c17 h
      exact bk_X7_put_60 C hRm hfin hq a1 a3 a4 _ h
    · replace h := ps_in0 c17 h
      refine ps_lload4 C dX7_put_11 ?_
      refine ps_lconst C (v := lN 0) dX7_put_13 rfl ?_
      refine ps_lcmp C dX7_put_14 ?_
      refine ps_if_eq C 60 dX7_put_15 rfl (fun c16 => ?_) (fun c16 => ?_)
      · replace h := ps_ip c16 h
        exact bk_X7_put_60 C hRm hfin hq a1 a3 a4 _ h
      · replace h := ps_in0 c16 h
        refine ps_lload4 C dX7_put_18 ?_
        refine ps_ldc2 C pm_893 dX7_put_20 ?_
        refine ps_land C dX7_put_23 ?_
        refine ps_nml (fun x11 ex11 => ?_)
        replace h := ps_lt ex11 h
        refine ps_lstore6 C rfl dX7_put_24 ?_
        refine ps_lload6 C dX7_put_26 ?_
        refine ps_ldc2 C pm_894 dX7_put_28 ?_
        refine ps_lcmp C dX7_put_31 ?_
        refine ps_if_lt C 44 dX7_put_32 rfl (fun c15 => ?_) (fun c15 => ?_)
        · replace h := ps_ip c15 h
          refine ps_bipush C dX7_put_44 pb_m2 ?_
          exact ps_end_i h hfin dX7_put_46 rfl
        · replace h := ps_in0 c15 h
          refine ps_lload6 C dX7_put_35 ?_
          refine ps_ldc2 C pm_895 dX7_put_37 ?_
          refine ps_lcmp C dX7_put_40 ?_
          refine ps_if_le C 47 dX7_put_41 rfl (fun c14 => ?_) (fun c14 => ?_)
          · replace h := ps_ip c14 h
            refine ps_lload4 C dX7_put_47 ?_
            refine ps_bipush C dX7_put_49 pb_8 ?_
            refine ps_lushr C dX7_put_51 ?_
            refine ps_nml (fun x12 ex12 => ?_)
            replace h := ps_lt ex12 h
            refine ps_lstore4 C rfl dX7_put_52 ?_
            refine ps_iinc3 C rfl (nI 1) pi_1 dX7_put_54 (fun x13 ex13 => ?_)
            replace h := ps_lt ex13 h
            refine ps_goto C 5 dX7_put_57 rfl ?_
            refine ps_wk (lv' := [some (.ref (xb X + q)), some (.long a1), none, some (.int x13), some (.long x12), none, none, none]) (ps_le_s rfl (ps_le_s rfl (ps_le_n (ps_le_s rfl (ps_le_s rfl (ps_le_n (ps_le_n (ps_le_n ps_le_0)))))))) ?_
            exact ih a1 x13 x12 _ h
          · replace h := ps_in0 c14 h
            refine ps_bipush C dX7_put_44 pb_m2 ?_
            exact ps_end_i h hfin dX7_put_46 rfl
set_option maxRecDepth 10000 in
theorem tt_X7_put (l : Launch) (b : Nat) (D : va_G) {q : Nat} (hq : ps_ck 20 q = true) {a1 : Int64} {M M9 : ps_M} {r : Int32} (h : ff_X7_put q a1 M = some (r, M9)) : ps_Ti l b D yX7_put cX7_put 8 .int 0 [.ref (b + q), .long a1] M r M9 := by
  refine ps_met_i (own := RX7) (lv := [some (.ref (b + q)), some (.long a1), none, none, none, none, none, none]) (by decide) rfl rfl (Nat.le_of_ble_eq_true rfl) rfl (fun X eX1 eX2 eX3 hRm eX5 C hfin => ?_)
  subst eX1 eX2 eX3
  unfold ff_X7_put at h
  refine ps_iconst C dX7_put_0 pi_0 ?_
  refine ps_nmi (fun x1 ex1 => ?_)
  replace h := ps_lt ex1 h
  refine ps_istoren3 C rfl dX7_put_1 ?_
  refine ps_lloadn1 C dX7_put_2 ?_
  refine ps_lstore4 C rfl dX7_put_3 ?_
  exact bk_X7_put_5 C hRm hfin hq ps_fu a1 x1 a1 _ h
set_option maxRecDepth 10000 in
theorem tt_X7_wipe (l : Launch) (b : Nat) (D : va_G) {q : Nat} (hq : ps_ck 20 q = true) {M M9 : ps_M} {r : Int32} (h : ff_X7_wipe q  M = some (r, M9)) : ps_Ti l b D yX7_wipe cX7_wipe 2 .int 0 [.ref (b + q)] M r M9 := by
  refine ps_met_i (own := RX7) (lv := [some (.ref (b + q)), none]) (by decide) rfl rfl (Nat.le_of_ble_eq_true rfl) rfl (fun X eX1 eX2 eX3 hRm eX5 C hfin => ?_)
  subst eX1 eX2 eX3
  unfold ff_X7_wipe at h
  refine ps_aloadn0 C dX7_wipe_0 ?_
  refine gf_X7_140 C hq dX7_wipe_1 ?_
  refine ps_nmi (fun x1 ex1 => ?_)
  replace h := ps_lt ex1 h
  refine ps_istoren1 C rfl dX7_wipe_4 ?_
  refine ps_aloadn0 C dX7_wipe_5 ?_
  refine ps_iconst C dX7_wipe_6 pi_0 ?_
  refine pf_X7_140 C hq dX7_wipe_7 (fun M2 eM2 => ?_)
  replace h := ps_lt eM2 h
  refine ps_iloadn1 C dX7_wipe_10 ?_
  exact ps_end_i h hfin dX7_wipe_11 rfl
set_option maxRecDepth 10000 in
theorem tt_X7_fault (l : Launch) (b : Nat) (D : va_G) {q : Nat} (hq : ps_ck 20 q = true) {M M9 : ps_M} {r : Int32} (h : ff_X7_fault q  M = some (r, M9)) : ps_Ti l b D yX7_fault cX7_fault 2 .int 5 [.ref (b + q)] M r M9 := by
  refine ps_met_i (own := RX7) (lv := [some (.ref (b + q)), none]) (by decide) rfl rfl (Nat.le_of_ble_eq_true rfl) rfl (fun X eX1 eX2 eX3 hRm eX5 C hfin => ?_)
  subst eX1 eX2 eX3
  unfold ff_X7_fault at h
  refine ps_aloadn0 C dX7_fault_0 ?_
  obtain ⟨r1, M1, hM1, h⟩ := ps_bd h
  refine ps_goV_i C (rest := []) (tt_X7_faultOf (xl X) (xb X) (xD X) hq hM1) cw_X7_191 ps_rc20 hq (ps_room hRm (by decide)) rfl rfl (Nat.le_of_ble_eq_true rfl) dX7_fault_1 ?_
  refine ps_istoren1 C rfl dX7_fault_4 ?_
  refine ps_iloadn1 C dX7_fault_5 ?_
  refine ps_if_ge C 14 dX7_fault_6 rfl (fun c2 => ?_) (fun c2 => ?_)
  · replace h := ps_ip c2 h
    refine ps_iloadn1 C dX7_fault_14 ?_
    exact ps_end_i h hfin dX7_fault_15 rfl
  · replace h := ps_in0 c2 h
    refine ps_bipush C dX7_fault_9 pb_m6 ?_
    refine ps_goto C 15 dX7_fault_11 rfl ?_
    exact ps_end_i h hfin dX7_fault_15 rfl
set_option maxRecDepth 10000 in
theorem bk_X7_carryOut_46 {X : ps_X} (C : ps_C X RX7 cX7_carryOut) (hRm : xR X = ps_lvl 6) {r : Int32} {M9 : ps_M} (hfin : ∀ pc lv, decode cX7_carryOut pc = .ok (.ireturn, 1) → narrow .int (.int r) = .int r → ps_G X M9 pc lv [.int r]) {q : Nat} (hq : ps_ck 20 q = true) {K : Int32 → Int32 → ps_M → Option (Int32 × ps_M)} (hK : ∀ (a1 : Int32) (a2 : Int32) (M : ps_M), K a1 a2 M = some (r, M9) → ps_G X M 18 [some (.ref (xb X + q)), some (.int a1), some (.int a2), none] []) (a1 : Int32) (a2 : Int32) (a3 : Int32) (M : ps_M) (h : fk_X7_carryOut_46 q K a1 a2 a3 M = some (r, M9)) : ps_G X M 46 [some (.ref (xb X + q)), some (.int a1), some (.int a2), some (.int a3)] [] := by
  unfold fk_X7_carryOut_46 at h
  refine ps_iconst C dX7_carryOut_46 pi_1 ?_
  refine ps_goto C 51 dX7_carryOut_47 rfl ?_
  refine ps_nmi (fun x10 ex10 => ?_)
  replace h := ps_lt ex10 h
  refine ps_istoren2 C rfl dX7_carryOut_51 ?_
  refine ps_iloadn1 C dX7_carryOut_52 ?_
  refine ps_iloadn2 C dX7_carryOut_53 ?_
  refine ps_if_eq C 61 dX7_carryOut_54 rfl (fun c13 => ?_) (fun c13 => ?_)
  · replace h := ps_ip c13 h
    refine ps_iconst C dX7_carryOut_61 pi_0 ?_
    refine ps_iadd C dX7_carryOut_62 ?_
    refine ps_nmi (fun x11 ex11 => ?_)
    replace h := ps_lt ex11 h
    refine ps_istoren1 C rfl dX7_carryOut_63 ?_
    refine ps_goto C 18 dX7_carryOut_64 rfl ?_
    refine ps_wk (lv' := [some (.ref (xb X + q)), some (.int x11), some (.int x10), none]) (ps_le_s rfl (ps_le_s rfl (ps_le_s rfl (ps_le_n ps_le_0)))) ?_
    exact hK x11 x10 _ h
  · replace h := ps_in0 c13 h
    refine ps_iconst C dX7_carryOut_57 pi_1 ?_
    refine ps_goto C 62 dX7_carryOut_58 rfl ?_
    refine ps_iadd C dX7_carryOut_62 ?_
    refine ps_nmi (fun x12 ex12 => ?_)
    replace h := ps_lt ex12 h
    refine ps_istoren1 C rfl dX7_carryOut_63 ?_
    refine ps_goto C 18 dX7_carryOut_64 rfl ?_
    refine ps_wk (lv' := [some (.ref (xb X + q)), some (.int x12), some (.int x10), none]) (ps_le_s rfl (ps_le_s rfl (ps_le_s rfl (ps_le_n ps_le_0)))) ?_
    exact hK x12 x10 _ h
set_option maxRecDepth 10000 in
theorem bk_X7_carryOut_18 {X : ps_X} (C : ps_C X RX7 cX7_carryOut) (hRm : xR X = ps_lvl 6) {r : Int32} {M9 : ps_M} (hfin : ∀ pc lv, decode cX7_carryOut pc = .ok (.ireturn, 1) → narrow .int (.int r) = .int r → ps_G X M9 pc lv [.int r]) {q : Nat} (hq : ps_ck 20 q = true) : ∀ (n : Nat) (a1 : Int32) (a2 : Int32) (M : ps_M), fk_X7_carryOut_18 q n a1 a2 M = some (r, M9) → ps_G X M 18 [some (.ref (xb X + q)), some (.int a1), some (.int a2), none] [] := by
  intro n
  induction n with
  | zero => intro a1 a2 M h; rw [fk_X7_carryOut_18] at h; cases h
  | succ n ih =>
    intro a1 a2 M h
    rw [fk_X7_carryOut_18] at h
    refine ps_iloadn2 C dX7_carryOut_18 ?_
    refine ps_if_eq C 67 dX7_carryOut_19 rfl (fun c21 => ?_) (fun c21 => ?_)
    · replace h := ps_ip c21 h
      refine ps_aloadn0 C dX7_carryOut_67 ?_
      refine ps_iconst C dX7_carryOut_68 pi_0 ?_
      refine pf_X7_140 C hq dX7_carryOut_69 (fun M5 eM5 => ?_)
      replace h := ps_lt eM5 h
      refine ps_aloadn0 C dX7_carryOut_72 ?_
      refine ps_iloadn1 C dX7_carryOut_73 ?_
      obtain ⟨r6, M6, hM6, h⟩ := ps_bd h
      refine ps_goV_i C (rest := []) (tt_X7_recorded (xl X) (xb X) (xD X) hq hM6) cw_X7_103 ps_rc20 hq (ps_room hRm (by decide)) rfl rfl (Nat.le_of_ble_eq_true rfl) dX7_carryOut_74 ?_
      exact ps_end_i h hfin dX7_carryOut_77 rfl
    · replace h := ps_in0 c21 h
      refine ps_iloadn1 C dX7_carryOut_22 ?_
      refine ps_aloadn0 C dX7_carryOut_23 ?_
      refine gf_X7_162 C hq dX7_carryOut_24 ?_
      refine ps_ic_ge C 67 dX7_carryOut_27 rfl (fun c20 => ?_) (fun c20 => ?_)
      · replace h := ps_ip c20 h
        refine ps_aloadn0 C dX7_carryOut_67 ?_
        refine ps_iconst C dX7_carryOut_68 pi_0 ?_
        refine pf_X7_140 C hq dX7_carryOut_69 (fun M7 eM7 => ?_)
        replace h := ps_lt eM7 h
        refine ps_aloadn0 C dX7_carryOut_72 ?_
        refine ps_iloadn1 C dX7_carryOut_73 ?_
        obtain ⟨r8, M8, hM8, h⟩ := ps_bd h
        refine ps_goV_i C (rest := []) (tt_X7_recorded (xl X) (xb X) (xD X) hq hM8) cw_X7_103 ps_rc20 hq (ps_room hRm (by decide)) rfl rfl (Nat.le_of_ble_eq_true rfl) dX7_carryOut_74 ?_
        exact ps_end_i h hfin dX7_carryOut_77 rfl
      · replace h := ps_in0 c20 h
        refine ps_aloadn0 C dX7_carryOut_30 ?_
        refine ps_iloadn1 C dX7_carryOut_31 ?_
        obtain ⟨r9, M9, hM9, h⟩ := ps_bd h
        refine ps_goV_i C (rest := []) (tt_X7_does (xl X) (xb X) (xD X) hq hM9) cw_X7_194 ps_rc20 hq (ps_room hRm (by decide)) rfl rfl (Nat.le_of_ble_eq_true rfl) dX7_carryOut_32 ?_
        refine ps_istoren3 C rfl dX7_carryOut_35 ?_
        refine ps_iloadn3 C dX7_carryOut_36 ?_
        refine ps_if_ge C 46 dX7_carryOut_37 rfl (fun c19 => ?_) (fun c19 => ?_)
        · replace h := ps_ip c19 h
          exact bk_X7_carryOut_46 C hRm hfin hq (fun a1' a2' M' h' => ih a1' a2' M' h') a1 a2 r9 _ h
        · replace h := ps_in0 c19 h
          refine ps_iloadn3 C dX7_carryOut_40 ?_
          refine ps_bipush C dX7_carryOut_41 pb_m6 ?_
          refine ps_ic_ne C 50 dX7_carryOut_43 rfl (fun c18 => ?_) (fun c18 => ?_)
          · replace h := ps_in0 c18 h
            refine ps_iconst C dX7_carryOut_50 pi_0 ?_
            refine ps_nmi (fun x14 ex14 => ?_)
            replace h := ps_lt ex14 h
            refine ps_istoren2 C rfl dX7_carryOut_51 ?_
            refine ps_iloadn1 C dX7_carryOut_52 ?_
            refine ps_iloadn2 C dX7_carryOut_53 ?_
            refine ps_if_eq C 61 dX7_carryOut_54 rfl (fun c17 => ?_) (fun c17 => ?_)
            · replace h := ps_ip c17 h
              refine ps_iconst C dX7_carryOut_61 pi_0 ?_
              refine ps_iadd C dX7_carryOut_62 ?_
              refine ps_nmi (fun x15 ex15 => ?_)
              replace h := ps_lt ex15 h
              refine ps_istoren1 C rfl dX7_carryOut_63 ?_
              refine ps_goto C 18 dX7_carryOut_64 rfl ?_
              refine ps_wk (lv' := [some (.ref (xb X + q)), some (.int x15), some (.int x14), none]) (ps_le_s rfl (ps_le_s rfl (ps_le_s rfl (ps_le_n ps_le_0)))) ?_
              exact ih x15 x14 _ h
            · replace h := ps_in0 c17 h
              refine ps_iconst C dX7_carryOut_57 pi_1 ?_
              refine ps_goto C 62 dX7_carryOut_58 rfl ?_
              refine ps_iadd C dX7_carryOut_62 ?_
              refine ps_nmi (fun x16 ex16 => ?_)
              replace h := ps_lt ex16 h
              refine ps_istoren1 C rfl dX7_carryOut_63 ?_
              refine ps_goto C 18 dX7_carryOut_64 rfl ?_
              refine ps_wk (lv' := [some (.ref (xb X + q)), some (.int x16), some (.int x14), none]) (ps_le_s rfl (ps_le_s rfl (ps_le_s rfl (ps_le_n ps_le_0)))) ?_
              exact ih x16 x14 _ h
          · replace h := ps_ip c18 h
            exact bk_X7_carryOut_46 C hRm hfin hq (fun a1' a2' M' h' => ih a1' a2' M' h') a1 a2 r9 _ h
set_option maxRecDepth 10000 in
theorem tt_X7_carryOut (l : Launch) (b : Nat) (D : va_G) {q : Nat} (hq : ps_ck 20 q = true) {M M9 : ps_M} {r : Int32} (h : ff_X7_carryOut q  M = some (r, M9)) : ps_Ti l b D yX7_carryOut cX7_carryOut 4 .int 6 [.ref (b + q)] M r M9 := by
  refine ps_met_i (own := RX7) (lv := [some (.ref (b + q)), none, none, none]) (by decide) rfl rfl (Nat.le_of_ble_eq_true rfl) rfl (fun X eX1 eX2 eX3 hRm eX5 C hfin => ?_)
  subst eX1 eX2 eX3
  unfold ff_X7_carryOut at h
  refine ps_aloadn0 C dX7_carryOut_0 ?_
  obtain ⟨r1, M1, hM1, h⟩ := ps_bd h
  refine ps_goV_i C (rest := []) (tt_X7_faultOf (xl X) (xb X) (xD X) hq hM1) cw_X7_191 ps_rc20 hq (ps_room hRm (by decide)) rfl rfl (Nat.le_of_ble_eq_true rfl) dX7_carryOut_1 ?_
  refine ps_if_lt C 10 dX7_carryOut_4 rfl (fun c22 => ?_) (fun c22 => ?_)
  · replace h := ps_ip c22 h
    refine ps_aloadn0 C dX7_carryOut_10 ?_
    obtain ⟨r2, M2, hM2, h⟩ := ps_bd h
    refine ps_goV_v C (rest := []) (tt_X7_hold (xl X) (xb X) (xD X) hq hM2) cw_X7_100 ps_rc20 hq (ps_room hRm (by decide)) rfl rfl (Nat.le_of_ble_eq_true rfl) dX7_carryOut_11 ?_
    refine ps_iconst C dX7_carryOut_14 pi_0 ?_
    refine ps_nmi (fun x3 ex3 => ?_)
    replace h := ps_lt ex3 h
    refine ps_istoren1 C rfl dX7_carryOut_15 ?_
    refine ps_iconst C dX7_carryOut_16 pi_1 ?_
    refine ps_nmi (fun x4 ex4 => ?_)
    replace h := ps_lt ex4 h
    refine ps_istoren2 C rfl dX7_carryOut_17 ?_
    exact bk_X7_carryOut_18 C hRm hfin hq ps_fu x3 x4 _ h
  · replace h := ps_in0 c22 h
    refine ps_bipush C dX7_carryOut_7 pb_m3 ?_
    exact ps_end_i h hfin dX7_carryOut_9 rfl
set_option maxRecDepth 10000 in
theorem bk_X7_undo_22 {X : ps_X} (C : ps_C X RX7 cX7_undo) (hRm : xR X = ps_lvl 0) {r : Int32} {M9 : ps_M} (hfin : ∀ pc lv, decode cX7_undo pc = .ok (.ireturn, 1) → narrow .int (.int r) = .int r → ps_G X M9 pc lv [.int r]) {q : Nat} (hq : ps_ck 20 q = true) : ∀ (n : Nat) (a1 : Int32) (M : ps_M), fk_X7_undo_22 q n a1 M = some (r, M9) → ps_G X M 22 [some (.ref (xb X + q)), some (.int a1)] [] := by
  intro n
  induction n with
  | zero => intro a1 M h; rw [fk_X7_undo_22] at h; cases h
  | succ n ih =>
    intro a1 M h
    rw [fk_X7_undo_22] at h
    refine ps_iloadn1 C dX7_undo_22 ?_
    refine ps_sipush C dX7_undo_23 pj_937 ?_
    refine ps_ic_ge C 56 dX7_undo_26 rfl (fun c7 => ?_) (fun c7 => ?_)
    · replace h := ps_ip c7 h
      refine ps_aloadn0 C dX7_undo_56 ?_
      refine gf_X7_43 C hq dX7_undo_57 ?_
      exact ps_end_i h hfin dX7_undo_60 rfl
    · replace h := ps_in0 c7 h
      refine ps_aloadn0 C dX7_undo_29 ?_
      refine gf_X7_7 C hq dX7_undo_30 ?_
      refine ps_iloadn1 C dX7_undo_33 ?_
      refine ps_aloadn0 C dX7_undo_34 ?_
      refine gf_X7_19 C hq dX7_undo_35 ?_
      refine ps_sipush C dX7_undo_38 pj_937 ?_
      refine ps_aloadn0 C dX7_undo_41 ?_
      refine gf_X7_43 C hq dX7_undo_42 ?_
      refine ps_imul C dX7_undo_45 ?_
      refine ps_iloadn1 C dX7_undo_46 ?_
      refine ps_iadd C dX7_undo_47 ?_
      obtain ⟨hi3, h⟩ := ps_gd h
      refine ps_iald C (kf_20_4 hq) (fun _ _ => rfl) hi3 dX7_undo_48 ?_
      obtain ⟨hi4, h⟩ := ps_gd h
      refine ps_iast C (kf_20_1 hq) (fun _ _ => rfl) hi4 dX7_undo_49 (fun M5 eM5 => ?_)
      replace h := ps_lt eM5 h
      refine ps_iinc1 C rfl (nI 1) pi_1 dX7_undo_50 (fun x6 ex6 => ?_)
      replace h := ps_lt ex6 h
      refine ps_goto C 22 dX7_undo_53 rfl ?_
      exact ih x6 _ h
set_option maxRecDepth 10000 in
theorem tt_X7_undo (l : Launch) (b : Nat) (D : va_G) {q : Nat} (hq : ps_ck 20 q = true) {M M9 : ps_M} {r : Int32} (h : ff_X7_undo q  M = some (r, M9)) : ps_Ti l b D yX7_undo cX7_undo 2 .int 0 [.ref (b + q)] M r M9 := by
  refine ps_met_i (own := RX7) (lv := [some (.ref (b + q)), none]) (by decide) rfl rfl (Nat.le_of_ble_eq_true rfl) rfl (fun X eX1 eX2 eX3 hRm eX5 C hfin => ?_)
  subst eX1 eX2 eX3
  unfold ff_X7_undo at h
  refine ps_aloadn0 C dX7_undo_0 ?_
  refine gf_X7_43 C hq dX7_undo_1 ?_
  refine ps_if_ne C 10 dX7_undo_4 rfl (fun c8 => ?_) (fun c8 => ?_)
  · replace h := ps_in0 c8 h
    refine ps_aloadn0 C dX7_undo_10 ?_
    refine ps_dup C rfl dX7_undo_11 ?_
    refine gf_X7_43 C hq dX7_undo_12 ?_
    refine ps_iconst C dX7_undo_15 pi_1 ?_
    refine ps_isub C dX7_undo_16 ?_
    refine pf_X7_43 C hq dX7_undo_17 (fun M1 eM1 => ?_)
    replace h := ps_lt eM1 h
    refine ps_iconst C dX7_undo_20 pi_0 ?_
    refine ps_nmi (fun x2 ex2 => ?_)
    replace h := ps_lt ex2 h
    refine ps_istoren1 C rfl dX7_undo_21 ?_
    exact bk_X7_undo_22 C hRm hfin hq ps_fu x2 _ h
  · replace h := ps_ip c8 h
    refine ps_bipush C dX7_undo_7 pb_m5 ?_
    exact ps_end_i h hfin dX7_undo_9 rfl
set_option maxRecDepth 10000 in
theorem bk_X7_save_14 {X : ps_X} (C : ps_C X RX7 cX7_save) (hRm : xR X = ps_lvl 1) {r : Int32} {M9 : ps_M} (hfin : ∀ pc lv, decode cX7_save pc = .ok (.ireturn, 1) → narrow .int (.int r) = .int r → ps_G X M9 pc lv [.int r]) {q : Nat} (hq : ps_ck 20 q = true) : ∀ (n : Nat) (a1 : Int32) (a2 : Int32) (M : ps_M), fk_X7_save_14 q n a1 a2 M = some (r, M9) → ps_G X M 14 [some (.ref (xb X + q)), some (.int a1), some (.int a2)] [] := by
  intro n
  induction n with
  | zero => intro a1 a2 M h; rw [fk_X7_save_14] at h; cases h
  | succ n ih =>
    intro a1 a2 M h
    rw [fk_X7_save_14] at h
    refine ps_iloadn2 C dX7_save_14 ?_
    refine ps_sipush C dX7_save_15 pj_937 ?_
    refine ps_ic_ge C 45 dX7_save_18 rfl (fun c10 => ?_) (fun c10 => ?_)
    · replace h := ps_ip c10 h
      refine ps_aloadn0 C dX7_save_45 ?_
      refine gf_X7_25 C hq dX7_save_46 ?_
      refine ps_iloadn1 C dX7_save_49 ?_
      refine ps_iconst C dX7_save_50 pi_1 ?_
      obtain ⟨hi3, h⟩ := ps_gd h
      refine ps_zast C (kf_20_6 hq) (fun _ _ => rfl) hi3 (by decide) dX7_save_51 (fun M4 eM4 => ?_)
      replace h := ps_lt eM4 h
      refine ps_aloadn0 C dX7_save_52 ?_
      refine gf_X7_7 C hq dX7_save_53 ?_
      refine ps_iconst C dX7_save_56 pi_5 ?_
      obtain ⟨hi5, h⟩ := ps_gd h
      refine ps_iald C (kf_20_1 hq) (fun _ _ => rfl) hi5 dX7_save_57 ?_
      exact ps_end_i h hfin dX7_save_58 rfl
    · replace h := ps_in0 c10 h
      refine ps_aloadn0 C dX7_save_21 ?_
      refine gf_X7_22 C hq dX7_save_22 ?_
      refine ps_sipush C dX7_save_25 pj_937 ?_
      refine ps_iloadn1 C dX7_save_28 ?_
      refine ps_imul C dX7_save_29 ?_
      refine ps_iloadn2 C dX7_save_30 ?_
      refine ps_iadd C dX7_save_31 ?_
      refine ps_aloadn0 C dX7_save_32 ?_
      refine gf_X7_7 C hq dX7_save_33 ?_
      refine ps_iloadn2 C dX7_save_36 ?_
      obtain ⟨hi6, h⟩ := ps_gd h
      refine ps_iald C (kf_20_1 hq) (fun _ _ => rfl) hi6 dX7_save_37 ?_
      obtain ⟨hi7, h⟩ := ps_gd h
      refine ps_iast C (kf_20_5 hq) (fun _ _ => rfl) hi7 dX7_save_38 (fun M8 eM8 => ?_)
      replace h := ps_lt eM8 h
      refine ps_iinc2 C rfl (nI 1) pi_1 dX7_save_39 (fun x9 ex9 => ?_)
      replace h := ps_lt ex9 h
      refine ps_goto C 14 dX7_save_42 rfl ?_
      exact ih a1 x9 _ h
set_option maxRecDepth 10000 in
theorem tt_X7_save (l : Launch) (b : Nat) (D : va_G) {q : Nat} (hq : ps_ck 20 q = true) {a1 : Int32} {M M9 : ps_M} {r : Int32} (h : ff_X7_save q a1 M = some (r, M9)) : ps_Ti l b D yX7_save cX7_save 3 .int 1 [.ref (b + q), .int a1] M r M9 := by
  refine ps_met_i (own := RX7) (lv := [some (.ref (b + q)), some (.int a1), none]) (by decide) rfl rfl (Nat.le_of_ble_eq_true rfl) rfl (fun X eX1 eX2 eX3 hRm eX5 C hfin => ?_)
  subst eX1 eX2 eX3
  unfold ff_X7_save at h
  refine ps_iloadn1 C dX7_save_0 ?_
  refine ps_iconst C dX7_save_1 pi_0 ?_
  refine ps_iconst C dX7_save_2 pi_1 ?_
  obtain ⟨r1, M1, hM1, h⟩ := ps_bd h
  refine ps_goS_i C (rest := []) (tt_X7_in (xl X) (xb X) (xD X) hM1) cw_X7_39 (ps_room hRm (by decide)) rfl rfl (Nat.le_of_ble_eq_true rfl) dX7_save_3 ?_
  refine ps_if_ne C 12 dX7_save_6 rfl (fun c11 => ?_) (fun c11 => ?_)
  · replace h := ps_in0 c11 h
    refine ps_iconst C dX7_save_12 pi_0 ?_
    refine ps_nmi (fun x2 ex2 => ?_)
    replace h := ps_lt ex2 h
    refine ps_istoren2 C rfl dX7_save_13 ?_
    exact bk_X7_save_14 C hRm hfin hq ps_fu a1 x2 _ h
  · replace h := ps_ip c11 h
    refine ps_bipush C dX7_save_9 pb_m2 ?_
    exact ps_end_i h hfin dX7_save_11 rfl
set_option maxRecDepth 10000 in
theorem bk_X7_restore_30 {X : ps_X} (C : ps_C X RX7 cX7_restore) (hRm : xR X = ps_lvl 1) {r : Int32} {M9 : ps_M} (hfin : ∀ pc lv, decode cX7_restore pc = .ok (.ireturn, 1) → narrow .int (.int r) = .int r → ps_G X M9 pc lv [.int r]) {q : Nat} (hq : ps_ck 20 q = true) : ∀ (n : Nat) (a1 : Int32) (a2 : Int32) (M : ps_M), fk_X7_restore_30 q n a1 a2 M = some (r, M9) → ps_G X M 30 [some (.ref (xb X + q)), some (.int a1), some (.int a2)] [] := by
  intro n
  induction n with
  | zero => intro a1 a2 M h; rw [fk_X7_restore_30] at h; cases h
  | succ n ih =>
    intro a1 a2 M h
    rw [fk_X7_restore_30] at h
    refine ps_iloadn2 C dX7_restore_30 ?_
    refine ps_sipush C dX7_restore_31 pj_937 ?_
    refine ps_ic_ge C 61 dX7_restore_34 rfl (fun c11 => ?_) (fun c11 => ?_)
    · replace h := ps_ip c11 h
      refine ps_aloadn0 C dX7_restore_61 ?_
      refine ps_aloadn0 C dX7_restore_62 ?_
      refine gf_X7_7 C hq dX7_restore_63 ?_
      refine ps_iconst C dX7_restore_66 pi_5 ?_
      obtain ⟨hi5, h⟩ := ps_gd h
      refine ps_iald C (kf_20_1 hq) (fun _ _ => rfl) hi5 dX7_restore_67 ?_
      obtain ⟨r6, M6, hM6, h⟩ := ps_bd h
      refine ps_goV_i C (rest := []) (tt_X7_recorded (xl X) (xb X) (xD X) hq hM6) cw_X7_103 ps_rc20 hq (ps_room hRm (by decide)) rfl rfl (Nat.le_of_ble_eq_true rfl) dX7_restore_68 ?_
      exact ps_end_i h hfin dX7_restore_71 rfl
    · replace h := ps_in0 c11 h
      refine ps_aloadn0 C dX7_restore_37 ?_
      refine gf_X7_7 C hq dX7_restore_38 ?_
      refine ps_iloadn2 C dX7_restore_41 ?_
      refine ps_aloadn0 C dX7_restore_42 ?_
      refine gf_X7_22 C hq dX7_restore_43 ?_
      refine ps_sipush C dX7_restore_46 pj_937 ?_
      refine ps_iloadn1 C dX7_restore_49 ?_
      refine ps_imul C dX7_restore_50 ?_
      refine ps_iloadn2 C dX7_restore_51 ?_
      refine ps_iadd C dX7_restore_52 ?_
      obtain ⟨hi7, h⟩ := ps_gd h
      refine ps_iald C (kf_20_5 hq) (fun _ _ => rfl) hi7 dX7_restore_53 ?_
      obtain ⟨hi8, h⟩ := ps_gd h
      refine ps_iast C (kf_20_1 hq) (fun _ _ => rfl) hi8 dX7_restore_54 (fun M9 eM9 => ?_)
      replace h := ps_lt eM9 h
      refine ps_iinc2 C rfl (nI 1) pi_1 dX7_restore_55 (fun x10 ex10 => ?_)
      replace h := ps_lt ex10 h
      refine ps_goto C 30 dX7_restore_58 rfl ?_
      exact ih a1 x10 _ h
set_option maxRecDepth 10000 in
theorem tt_X7_restore (l : Launch) (b : Nat) (D : va_G) {q : Nat} (hq : ps_ck 20 q = true) {a1 : Int32} {M M9 : ps_M} {r : Int32} (h : ff_X7_restore q a1 M = some (r, M9)) : ps_Ti l b D yX7_restore cX7_restore 3 .int 1 [.ref (b + q), .int a1] M r M9 := by
  refine ps_met_i (own := RX7) (lv := [some (.ref (b + q)), some (.int a1), none]) (by decide) rfl rfl (Nat.le_of_ble_eq_true rfl) rfl (fun X eX1 eX2 eX3 hRm eX5 C hfin => ?_)
  subst eX1 eX2 eX3
  unfold ff_X7_restore at h
  refine ps_iloadn1 C dX7_restore_0 ?_
  refine ps_iconst C dX7_restore_1 pi_0 ?_
  refine ps_iconst C dX7_restore_2 pi_1 ?_
  obtain ⟨r1, M1, hM1, h⟩ := ps_bd h
  refine ps_goS_i C (rest := []) (tt_X7_in (xl X) (xb X) (xD X) hM1) cw_X7_39 (ps_room hRm (by decide)) rfl rfl (Nat.le_of_ble_eq_true rfl) dX7_restore_3 ?_
  refine ps_if_ne C 12 dX7_restore_6 rfl (fun c13 => ?_) (fun c13 => ?_)
  · replace h := ps_in0 c13 h
    refine ps_aloadn0 C dX7_restore_12 ?_
    refine gf_X7_25 C hq dX7_restore_13 ?_
    refine ps_iloadn1 C dX7_restore_16 ?_
    obtain ⟨hi2, h⟩ := ps_gd h
    refine ps_zald C (kf_20_6 hq) (fun _ _ => rfl) hi2 dX7_restore_17 ?_
    refine ps_if_ne C 24 dX7_restore_18 rfl (fun c12 => ?_) (fun c12 => ?_)
    · replace h := ps_in0 c12 h
      refine ps_aloadn0 C dX7_restore_24 ?_
      obtain ⟨r3, M3, hM3, h⟩ := ps_bd h
      refine ps_goV_v C (rest := []) (tt_X7_hold (xl X) (xb X) (xD X) hq hM3) cw_X7_100 ps_rc20 hq (ps_room hRm (by decide)) rfl rfl (Nat.le_of_ble_eq_true rfl) dX7_restore_25 ?_
      refine ps_iconst C dX7_restore_28 pi_0 ?_
      refine ps_nmi (fun x4 ex4 => ?_)
      replace h := ps_lt ex4 h
      refine ps_istoren2 C rfl dX7_restore_29 ?_
      exact bk_X7_restore_30 C hRm hfin hq ps_fu a1 x4 _ h
    · replace h := ps_ip c12 h
      refine ps_bipush C dX7_restore_21 pb_m5 ?_
      exact ps_end_i h hfin dX7_restore_23 rfl
  · replace h := ps_ip c13 h
    refine ps_bipush C dX7_restore_9 pb_m2 ?_
    exact ps_end_i h hfin dX7_restore_11 rfl
