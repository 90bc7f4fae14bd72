/-! the constructors -/
def pc_r0 (j : Nat) : Nat := if j < 6 then 83 + 40 * j else 43
def pc_i (κ : Nat) : Nat → Int32 := fun j => match κ with
  | 9 => if j = 2 then ps_m 6 else 0
  | 14 => if j = 2 then nI 1 else 0
  | 2 => if j < 4 then ps_first j else 0
  | _ => 0
def pc_g0 (b : Nat) (D : va_G) (k : Nat) : va_E := ps_cel b D (ps_kn k) k (pc_i (ps_kn k)) pc_r0
/-- what a constructor leaves: from a on, all as a new one has it -/
def pc_cut (b : Nat) (D : va_G) (a : Nat) (g : Nat → va_E) : Nat → va_E := fun k => if k < a then g k else pc_g0 b D k
theorem cut_lt {b : Nat} {D : va_G} {a k : Nat} {g : Nat → va_E} (h : k < a) : pc_cut b D a g k = g k := if_pos h
theorem cut_g0 {b : Nat} {D : va_G} {a k : Nat} {g : Nat → va_E} (h : a ≤ k) : pc_cut b D a g k = pc_g0 b D k := if_neg (by omega)
theorem g0_at {b : Nat} {D : va_G} {κ k : Nat} (h : ps_kn k = κ) : pc_g0 b D k = ps_cel b D κ k (pc_i κ) pc_r0 := by
  unfold pc_g0
  rw [h]
theorem pg_n {X : ps_X} {n kc ks n1 kc1 ks1 pc : Nat} {g : Nat → va_E} {lv : List (Option Value)} {stk : List Value} (h1 : n = n1) (h2 : kc = kc1) (h3 : ks = ks1) (k : pg X n1 kc1 ks1 g pc lv stk) : pg X n kc ks g pc lv stk := by
  subst h1
  subst h2
  subst h3
  exact k
theorem kH_P : ∀ i, i < 4 → ∀ d, d < 6 → ps_kH (16 + 6 * i + d) = ps_kP d := by decide +kernel
theorem va_at_q {D : va_G} {c : ClassId} {q N : Nat} {H : Heap} {f f1 : Nat → Option Nat} (h : ∀ j, j < N → f j = f1 j) (hh : va_at D vwCl (q, .inl (c, N, .inr (.inr (.inr (.inr f))))) H) : va_at D vwCl (q, .inl (c, N, .inr (.inr (.inr (.inr f1))))) H := by
  have e : vp_cell c (N, .inr (.inr (.inr (.inr f)))) = vp_cell c (N, .inr (.inr (.inr (.inr f1)))) := by
    rw [vp_cell_q, vp_cell_q]
    unfold arrV
    congr 1
    apply Array.ext
    · simp
    · intro j h1 h2
      have h3 : j < N := by simpa using h1
      simp [h j h3]
  have hh : H[q]? = some (vp_cell c (N, .inr (.inr (.inr (.inr f))))) := hh
  show H[q]? = some (vp_cell c (N, .inr (.inr (.inr (.inr f1)))))
  rw [hh, e]
theorem pg_sget {X : ps_X} {cc : ByteArray} {n0 : Nat} {rm : Room} {n kc ks pc : Nat} {g : Nat → va_E} {lv : List (Option Value)} {stk : List Value} (C : pc_C X RX1 cc n0 rm) (hd : decode cc pc = .ok (.getstatic 38, 3)) (k : ∀ t, va_T .int t 4 (fun j => .int (ps_first j)) (ps_A (xb X)) (xs X) (xs X).heap → pg X n kc ks g (pc + 3) lv (.ref t :: stk)) : pg X n kc ks g pc lv stk := fun H locs ls hP hS hl => by
  obtain ⟨t1, t2, t3, -, -, h1, h2⟩ := C.2.1.1.2.2
  exact va_getsN C.1.1 C.1.2.1 h1 hS C.1.2.2.2.1 (va_Nw.use rfl C.2.1.2.1.2.2.2.2.2) (fun _ h => h) hd (k t3 h2 H locs ls hP hS hl)
theorem pc_cpy4 : va_cpy ps_first (fun _ => (0 : Int32)) 0 0 4 = pc_i 2 := by
  funext j
  show (if 0 ≤ j ∧ j < 0 + 4 then ps_first (0 + (j - 0)) else 0) = if j < 4 then ps_first j else 0
  by_cases h : j < 4
  · rw [if_pos h, if_pos (by omega), Nat.zero_add, Nat.sub_zero]
  · rw [if_neg h, if_neg (by omega)]
theorem pg_copy4 {X : ps_X} {own : String} {cc : ByteArray} {n0 : Nat} {rm : Room} {n kc ks pc : Nat} {g : Nat → va_E} {lv : List (Option Value)} {stk : List Value} (C : pc_C X own cc n0 rm) {a t idx : Nat} {f g9 : Nat → Int32} (ht : va_T .int t 4 (fun j => .int (f j)) (ps_A (xb X)) (xs X) (xs X).heap) (ha : a < n) (hg : g a = .inl ((xD X).1 10, 4, .inl g9)) (hw : Cond.methodLink own idx arraycopyName ∈ ps_T ∧ Cond.native arraycopyName ∈ ps_T ∧ Cond.static arraycopyName ∈ ps_T ∧ Cond.initialized "java/lang/System" ∈ ps_T) (hf : 1 ≤ rm.frames) (hlo : (stk.map fun v => v.category).sum + (nativeFrameWords "java/lang/System" "arraycopy" 5 + 11) ≤ rm.locals) (hd : decode cc pc = .ok (.invokestatic idx, 3)) (k : pg X n kc ks (va_up g a (.inl ((xD X).1 10, 4, .inl (va_cpy f g9 0 0 4)))) (pc + 3) lv stk) : pg X n kc ks g pc lv (.int (nI 4) :: .int (nI 0) :: .ref (xb X + a) :: .int (nI 0) :: .ref t :: stk) := fun H locs ls hP hS hl T hT Y => by
  obtain ⟨scr, hs1, ⟨hs2, k0, hk0, cm0, hkk0⟩, hs3, hs4, hs5, hs6, hs7⟩ := ht
  have hc0 : H[t]? = some scr := by
    rw [hS.2.1 t (Array.getElem?_eq_some_iff.mp hs1).1 hs7]
    exact hs1
  have hc1 : H[xb X + a]? = some (vp_cell ((xD X).1 10) (4, .inl g9)) := hP a (xb X + a, .inl ((xD X).1 10, 4, .inl g9)) (by rw [pw_get ha, hg])
  obtain ⟨-, k1, hk1, cm1, hkk1⟩ := (C.2.1.1.1.2 0 _ rfl).1 4 (fun j => .int (g9 j))
  have hlocs : 2 * 0 + (stk.map fun v => v.category).sum + (nativeFrameWords "java/lang/System" "arraycopy" 5 + 11) ≤ (xR X).locals := by
    rw [C.2.2.2]
    omega
  obtain ⟨vm', Y', step⟩ := Y.arraycopy C.1.1 C.1.2.2.2.1 (C.1.2.2.2.2.1 _ hw.1) (C.1.2.2.2.2.1 _ hw.2.1) (C.1.2.2.2.2.1 _ hw.2.2.1) (C.1.2.2.2.2.1 _ hw.2.2.2) (src := t) (dst := xb X + a) (cs := scr) (cd := vp_cell ((xD X).1 10) (4, .inl g9)) (srcPos := nI 0) (destPos := nI 0) (n := nI 4) (by rw [hT]; exact hc0) (by rw [hT]; exact hc1) hs2 (fun _ h => by cases h) hs3 (fun h => by cases h) hk0 hk1 hkk0 hkk1 (by simp [refKind]) (by decide) (by decide) (by decide)
    (by rw [show (nI 0).toInt + (nI 4).toInt = 4 by decide]; omega)
    (by rw [show (nI 0).toInt + (nI 4).toInt = 4 by decide]; show ¬ _ > ((arrV _ 4 (fun j => .int (g9 j))).slots.size : Int); rw [arrV_size]; omega)
    (fun vm1 _ i hi => by
      have hi4 : i < 4 := hi
      have e : scr.slots.getD ((nI 0).toNatClampNeg + i) .null = .int (f i) := by
        rw [show (nI 0).toNatClampNeg + i = i by show 0 + i = i; omega, Array.getD_eq_getD_getElem?, hs6 _ hi4]
        rfl
      refine ⟨?_, ?_⟩
      · rw [e]
        rfl
      · rw [e]
        exact trivial)
    (g := F0 (xm X) pc ls (.int (nI 4) :: .int (nI 0) :: .ref (xb X + a) :: .int (nI 0) :: .ref t :: stk)) rfl (by rw [C.1.2.2.1]; exact hl.2.1) (rest := stk) rfl (by rw [C.1.2.1]; exact hd) (by rw [C.2.2.2]; exact hf) hlocs
  have e1 : copied scr (vp_cell ((xD X).1 10) (4, .inl g9)) (nI 0) (nI 0) (nI 4) = vp_cell ((xD X).1 10) (4, .inl (va_cpy f g9 0 0 4)) := va_copiedX (fun z => .int z) scr ((xD X).1 10) (n0 := 4) f g9 hs6 (by decide)
  rw [e1] at Y' step
  have hl9 : xb X + a < H.size := (Array.getElem?_eq_some_iff.mp hc1).1
  have hheap : ((T.setVm vm').setCell (xb X + a) (vp_cell ((xD X).1 10) (4, .inl (va_cpy f g9 0 0 4)))).heap = H.setIfInBounds (xb X + a) (vp_cell ((xD X).1 10) (4, .inl (va_cpy f g9 0 0 4))) := by
    rw [← hT]
    rfl
  have oq : ∀ q : Nat, q ≠ xb X + a → (H.setIfInBounds (xb X + a) (vp_cell ((xD X).1 10) (4, .inl (va_cpy f g9 0 0 4))))[q]? = H[q]? := fun q hq => by simp [Array.getElem?_setIfInBounds, Ne.symm hq]
  have hP1 := hP.set (pw_D (b := xb X)) (p := a) (e0 := g a) (by rw [pw_get ha]) (e := .inl ((xD X).1 10, 4, .inl (va_cpy f g9 0 0 4))) (show (H.setIfInBounds (xb X + a) _)[xb X + a]? = some _ by simp [Array.getElem?_setIfInBounds, hl9]) oq
  rw [pw_set ha] at hP1
  obtain ⟨u, a1, b1⟩ := k _ _ ls hP1 ⟨by simp; exact hS.1, fun q g1 g2 => by
      rw [oq q (fun e => g2 (by rw [e]; show xb X ≤ xb X + a; omega))]
      exact hS.2.1 q g1 g2, fun q hq => by
      rcases List.mem_append.mp hq with h | h
      · exact hS.2.2 q h
      · obtain ⟨z, -, hz⟩ := List.mem_map.mp h
        rw [← hz]
        show xb X ≤ xb X + a
        omega⟩ hl _ hheap Y'
  exact ⟨u, step u a1, b1⟩
theorem kn_b : ∀ d, d < 40 → ps_kn (41 + 2 + d) = ps_kH d := by decide +kernel
theorem kn_X0 : ∀ i, i < 6 → ∀ d, d < 40 → ps_kn (41 + 42 + 40 * i + d) = ps_kH d := by decide +kernel
theorem kn_h : ∀ d, d < 40 → ps_kn (0 + 1 + d) = ps_kH d := by decide +kernel
theorem kn_X6 : ∀ i, i < 2 → ∀ d, d < 40 → ps_kn (0 + 335 + 40 * i + d) = ps_kH d := by decide +kernel
theorem kn_r : ∀ d, d < 4 → ps_kn (0 + 323 + d) = 14 + d := by decide +kernel
theorem kn_p : ∀ d, d < 6 → ps_kn (0 + 329 + d) = ps_kP d := by decide +kernel
theorem pm_145 : Cond.methodLink RX2 3 objectInit ∈ ps_T := ps_in 145 (by decide +kernel) (by decide +kernel)
theorem pm_17 : Cond.instanceMethod objectInit ∈ ps_T := ps_in 17 (by decide +kernel) (by decide +kernel)
theorem pm_18 : Cond.code objectInit ⟨#[0xb1]⟩ 1 none ∈ ps_T := ps_in 18 (by decide +kernel) (by decide +kernel)
theorem pm_155 : Cond.arrayClass .char ∈ ps_T := ps_in 155 (by decide +kernel) (by decide +kernel)
theorem pm_59 : Cond.methodLink RX3 3 objectInit ∈ ps_T := ps_in 59 (by decide +kernel) (by decide +kernel)
theorem pm_60 : Cond.classLink RX3 11 "[[I" ∈ ps_T := ps_in 60 (by decide +kernel) (by decide +kernel)
theorem pm_30 : Cond.methodLink RX5 3 objectInit ∈ ps_T := ps_in 30 (by decide +kernel) (by decide +kernel)
theorem pm_31 : Cond.classLink RX5 9 "[[I" ∈ ps_T := ps_in 31 (by decide +kernel) (by decide +kernel)
theorem pm_47 : Cond.arrayClass .int ∈ ps_T := ps_in 47 (by decide +kernel) (by decide +kernel)
theorem pm_139 : Cond.methodLink RX4 3 objectInit ∈ ps_T := ps_in 139 (by decide +kernel) (by decide +kernel)
theorem pm_140 : Cond.classLink RX4 9 RX2 ∈ ps_T := ps_in 140 (by decide +kernel) (by decide +kernel)
theorem pm_141 : Cond.instantiable RX2 2 ∈ ps_T := ps_in 141 (by decide +kernel) (by decide +kernel)
theorem pm_144 : Cond.code yX2_init cX2_init 1 none ∈ ps_T := ps_in 144 (by decide +kernel) (by decide +kernel)
theorem pm_143 : Cond.instanceMethod yX2_init ∈ ps_T := ps_in 143 (by decide +kernel) (by decide +kernel)
theorem pm_24 : Cond.methodLink RX1 3 objectInit ∈ ps_T := ps_in 24 (by decide +kernel) (by decide +kernel)
theorem pm_25 : Cond.classLink RX1 15 RX5 ∈ ps_T := ps_in 25 (by decide +kernel) (by decide +kernel)
theorem pm_26 : Cond.instantiable RX5 4 ∈ ps_T := ps_in 26 (by decide +kernel) (by decide +kernel)
theorem pm_29 : Cond.code yX5_init cX5_init 1 none ∈ ps_T := ps_in 29 (by decide +kernel) (by decide +kernel)
theorem pm_28 : Cond.instanceMethod yX5_init ∈ ps_T := ps_in 28 (by decide +kernel) (by decide +kernel)
theorem pm_48 : Cond.classLink RX1 22 RX3 ∈ ps_T := ps_in 48 (by decide +kernel) (by decide +kernel)
theorem pm_55 : Cond.instantiable RX3 6 ∈ ps_T := ps_in 55 (by decide +kernel) (by decide +kernel)
theorem pm_58 : Cond.code yX3_init cX3_init 1 none ∈ ps_T := ps_in 58 (by decide +kernel) (by decide +kernel)
theorem pm_57 : Cond.instanceMethod yX3_init ∈ ps_T := ps_in 57 (by decide +kernel) (by decide +kernel)
theorem pm_119 : Cond.methodLink RX0 1 objectInit ∈ ps_T := ps_in 119 (by decide +kernel) (by decide +kernel)
theorem pm_120 : Cond.classLink RX0 9 RX1 ∈ ps_T := ps_in 120 (by decide +kernel) (by decide +kernel)
theorem pm_20 : Cond.instantiable RX1 6 ∈ ps_T := ps_in 20 (by decide +kernel) (by decide +kernel)
theorem pm_122 : Cond.methodLink RX0 15 yX1_init ∈ ps_T := ps_in 122 (by decide +kernel) (by decide +kernel)
theorem pm_23 : Cond.code yX1_init cX1_init 2 none ∈ ps_T := ps_in 23 (by decide +kernel) (by decide +kernel)
theorem pm_22 : Cond.instanceMethod yX1_init ∈ ps_T := ps_in 22 (by decide +kernel) (by decide +kernel)
theorem pm_16 : Cond.methodLink RX6 1 objectInit ∈ ps_T := ps_in 16 (by decide +kernel) (by decide +kernel)
theorem pm_19 : Cond.classLink RX6 7 RX1 ∈ ps_T := ps_in 19 (by decide +kernel) (by decide +kernel)
theorem pm_21 : Cond.methodLink RX6 9 yX1_init ∈ ps_T := ps_in 21 (by decide +kernel) (by decide +kernel)
theorem pm_114 : Cond.classLink RX6 16 RX0 ∈ ps_T := ps_in 114 (by decide +kernel) (by decide +kernel)
theorem pm_115 : Cond.instantiable RX0 3 ∈ ps_T := ps_in 115 (by decide +kernel) (by decide +kernel)
theorem pm_116 : Cond.methodLink RX6 18 yX0_init ∈ ps_T := ps_in 116 (by decide +kernel) (by decide +kernel)
theorem pm_118 : Cond.code yX0_init cX0_init 2 none ∈ ps_T := ps_in 118 (by decide +kernel) (by decide +kernel)
theorem pm_117 : Cond.instanceMethod yX0_init ∈ ps_T := ps_in 117 (by decide +kernel) (by decide +kernel)
theorem pm_134 : Cond.classLink RX6 23 RX4 ∈ ps_T := ps_in 134 (by decide +kernel) (by decide +kernel)
theorem pm_135 : Cond.instantiable RX4 9 ∈ ps_T := ps_in 135 (by decide +kernel) (by decide +kernel)
theorem pm_138 : Cond.code yX4_init cX4_init 1 none ∈ ps_T := ps_in 138 (by decide +kernel) (by decide +kernel)
theorem pm_137 : Cond.instanceMethod yX4_init ∈ ps_T := ps_in 137 (by decide +kernel) (by decide +kernel)
theorem pm_212 : Cond.arrayClass .boolean ∈ ps_T := ps_in 212 (by decide +kernel) (by decide +kernel)
theorem pm_191 : Cond.classLink RX6 38 RX3 ∈ ps_T := ps_in 191 (by decide +kernel) (by decide +kernel)
theorem ct_X2 (l : Launch) (b : Nat) (D : va_G) (a : Nat) (g : Nat → va_E) (hk : ∀ d, d < 2 → ps_kn (a + d) = 15 + d) (hg : g a = .inr (2, [.null, .int 0])) : pc_T l b D yX2_init cX2_init 1 1 a 1 80 g (pc_cut b D a g) := by
  refine pc_met (own := RX2) (lv := [some (.ref (b + a))]) (by decide) rfl rfl rfl (Nat.le_of_ble_eq_true rfl) rfl ?_
  intro X h1 h2 h3 h4 C hin hfin
  subst h1
  subst h2
  subst h3
  refine pg_aload0 C dX2_init_0 ?_
  refine pg_obj C pm_145 pm_17 pm_18 (Nat.le_of_ble_eq_true rfl) (Nat.le_of_ble_eq_true rfl) dX2_init_1 ?_
  refine pg_aload0 C dX2_init_4 ?_
  refine pg_bipush C dX2_init_5 pb_80 ?_
  refine pg_newa C (t0 := 1) (c := 11) (ty := .char) (N := 80) rfl rfl pm_155 rfl (fun _ _ h => h) (by decide) (by decide) (by decide) (by omega) (Nat.le_of_ble_eq_true rfl) (Nat.le_of_ble_eq_true rfl) dX2_init_7 ?_
  refine pg_n (n1 := (a + 2)) (kc1 := 1) (ks1 := 80) rfl rfl rfl ?_
  refine pg_putF C hin (ci := 2) (CN := RX2) (T := TX2) (N := 2) (ty0 := tyX2) (slot := 0) (a := a) [.null, .int 0] [.ref (xb X + (a + 1)), .int 0] (by omega) (by simp (disch := omega) only [up_eq, up_ne, pc_mu_lt, pc_mu_eq, pc_mu_gt, cut_lt, hg]) rfl rfl inX2 tyX2_ok nmX2 (by decide) pm_146 rfl rfl rfl (tyX2_ok 0 (by decide)) rfl rfl (Nat.le_of_ble_eq_true rfl) dX2_init_9 ?_
  refine pg_aload0 C dX2_init_12 ?_
  refine pg_iconst C dX2_init_13 pi_0 ?_
  refine pg_put C (ci := 2) (CN := RX2) (T := TX2) (N := 2) (ty0 := tyX2) (slot := 1) (a := a) [.ref (xb X + (a + 1)), .int 0] [.ref (xb X + (a + 1)), .int (nI 0)] (by omega) (by simp (disch := omega) only [up_eq, up_ne, pc_mu_lt, pc_mu_eq, pc_mu_gt, cut_lt, hg]) rfl rfl inX2 tyX2_ok nmX2 (by decide) pm_147 rfl rfl (tyX2_ok 1 (by decide)) rfl rfl (Nat.le_of_ble_eq_true rfl) dX2_init_14 ?_
  refine pg_conv (g1 := pc_cut (xb X) (xD X) a g) (fun k hkn q H h => ?_) (hfin _ _ dX2_init_17)
  by_cases c0 : k < a
  · rw [cut_lt c0]
    simp (disch := omega) only [up_eq, up_ne, pc_mu_lt, pc_mu_eq, pc_mu_gt, cut_lt] at h
    exact h
  rw [cut_g0 (by omega)]
  rcases (show k = a ∨ k = (a + 1) by omega) with rfl | rfl
  · rw [g0_at (show ps_kn k = 15 from hk 0 (by omega))]
    simp (disch := omega) only [up_eq, up_ne, pc_mu_lt, pc_mu_eq, pc_mu_gt, cut_lt] at h
    exact h
  · rw [g0_at (show ps_kn (a + 1) = 16 from hk 1 (by omega))]
    simp (disch := omega) only [up_eq, up_ne, pc_mu_lt, pc_mu_eq, pc_mu_gt, cut_lt] at h
    exact h
theorem ct_X3 (l : Launch) (b : Nat) (D : va_G) (a : Nat) (g : Nat → va_E) (hk : ∀ d, d < 6 → ps_kn (a + d) = ps_kP d) (hg : g a = .inr (3, [.null, .int 0, .int 0, .int 0, .int 0, .int 0])) : pc_T l b D yX3_init cX3_init 1 1 a 5 248 g (pc_cut b D a g) := by
  refine pc_met (own := RX3) (lv := [some (.ref (b + a))]) (by decide) rfl rfl rfl (Nat.le_of_ble_eq_true rfl) rfl ?_
  intro X h1 h2 h3 h4 C hin hfin
  subst h1
  subst h2
  subst h3
  refine pg_aload0 C dX3_init_0 ?_
  refine pg_obj C pm_59 pm_17 pm_18 (Nat.le_of_ble_eq_true rfl) (Nat.le_of_ble_eq_true rfl) dX3_init_1 ?_
  refine pg_aload0 C dX3_init_4 ?_
  refine pg_iconst C dX3_init_5 pi_4 ?_
  refine pg_bipush C dX3_init_6 pb_61 ?_
  refine pg_multi C (N := 4) (K := 61) pm_60 (by decide) (by decide) (by decide) (by decide) (by decide) (by decide) (by omega) (Nat.le_of_ble_eq_true rfl) (Nat.le_of_ble_eq_true rfl) dX3_init_8 ?_
  refine pg_n (n1 := (a + 6)) (kc1 := 5) (ks1 := 248) rfl rfl rfl ?_
  refine pg_putF C hin (ci := 3) (CN := RX3) (T := TX3) (N := 6) (ty0 := tyX3) (slot := 0) (a := a) [.null, .int 0, .int 0, .int 0, .int 0, .int 0] [.ref (xb X + (a + 1)), .int 0, .int 0, .int 0, .int 0, .int 0] (by omega) (by simp (disch := omega) only [up_eq, up_ne, pc_mu_lt, pc_mu_eq, pc_mu_gt, cut_lt, hg]) rfl rfl inX3 tyX3_ok nmX3 (by decide) pm_61 rfl rfl rfl (tyX3_ok 0 (by decide)) rfl rfl (Nat.le_of_ble_eq_true rfl) dX3_init_12 ?_
  refine pg_aload0 C dX3_init_15 ?_
  refine pg_iconst C dX3_init_16 pi_0 ?_
  refine pg_put C (ci := 3) (CN := RX3) (T := TX3) (N := 6) (ty0 := tyX3) (slot := 1) (a := a) [.ref (xb X + (a + 1)), .int 0, .int 0, .int 0, .int 0, .int 0] [.ref (xb X + (a + 1)), .int (nI 0), .int 0, .int 0, .int 0, .int 0] (by omega) (by simp (disch := omega) only [up_eq, up_ne, pc_mu_lt, pc_mu_eq, pc_mu_gt, cut_lt, hg]) rfl rfl inX3 tyX3_ok nmX3 (by decide) pm_62 rfl rfl (tyX3_ok 1 (by decide)) rfl rfl (Nat.le_of_ble_eq_true rfl) dX3_init_17 ?_
  refine pg_aload0 C dX3_init_20 ?_
  refine pg_bipush C dX3_init_21 pb_m6 ?_
  refine pg_put C (ci := 3) (CN := RX3) (T := TX3) (N := 6) (ty0 := tyX3) (slot := 2) (a := a) [.ref (xb X + (a + 1)), .int (nI 0), .int 0, .int 0, .int 0, .int 0] [.ref (xb X + (a + 1)), .int (nI 0), .int (ps_m 6), .int 0, .int 0, .int 0] (by omega) (by simp (disch := omega) only [up_eq, up_ne, pc_mu_lt, pc_mu_eq, pc_mu_gt, cut_lt, hg]) rfl rfl inX3 tyX3_ok nmX3 (by decide) pm_65 rfl rfl (tyX3_ok 2 (by decide)) rfl rfl (Nat.le_of_ble_eq_true rfl) dX3_init_23 ?_
  refine pg_aload0 C dX3_init_26 ?_
  refine pg_iconst C dX3_init_27 pi_0 ?_
  refine pg_put C (ci := 3) (CN := RX3) (T := TX3) (N := 6) (ty0 := tyX3) (slot := 3) (a := a) [.ref (xb X + (a + 1)), .int (nI 0), .int (ps_m 6), .int 0, .int 0, .int 0] [.ref (xb X + (a + 1)), .int (nI 0), .int (ps_m 6), .int (nI 0), .int 0, .int 0] (by omega) (by simp (disch := omega) only [up_eq, up_ne, pc_mu_lt, pc_mu_eq, pc_mu_gt, cut_lt, hg]) rfl rfl inX3 tyX3_ok nmX3 (by decide) pm_68 rfl rfl (tyX3_ok 3 (by decide)) rfl rfl (Nat.le_of_ble_eq_true rfl) dX3_init_28 ?_
  refine pg_aload0 C dX3_init_31 ?_
  refine pg_iconst C dX3_init_32 pi_0 ?_
  refine pg_put C (ci := 3) (CN := RX3) (T := TX3) (N := 6) (ty0 := tyX3) (slot := 4) (a := a) [.ref (xb X + (a + 1)), .int (nI 0), .int (ps_m 6), .int (nI 0), .int 0, .int 0] [.ref (xb X + (a + 1)), .int (nI 0), .int (ps_m 6), .int (nI 0), .int (nI 0), .int 0] (by omega) (by simp (disch := omega) only [up_eq, up_ne, pc_mu_lt, pc_mu_eq, pc_mu_gt, cut_lt, hg]) rfl rfl inX3 tyX3_ok nmX3 (by decide) pm_71 rfl rfl (tyX3_ok 4 (by decide)) rfl rfl (Nat.le_of_ble_eq_true rfl) dX3_init_33 ?_
  refine pg_aload0 C dX3_init_36 ?_
  refine pg_iconst C dX3_init_37 pi_0 ?_
  refine pg_put C (ci := 3) (CN := RX3) (T := TX3) (N := 6) (ty0 := tyX3) (slot := 5) (a := a) [.ref (xb X + (a + 1)), .int (nI 0), .int (ps_m 6), .int (nI 0), .int (nI 0), .int 0] [.ref (xb X + (a + 1)), .int (nI 0), .int (ps_m 6), .int (nI 0), .int (nI 0), .int (nI 0)] (by omega) (by simp (disch := omega) only [up_eq, up_ne, pc_mu_lt, pc_mu_eq, pc_mu_gt, cut_lt, hg]) rfl rfl inX3 tyX3_ok nmX3 (by decide) pm_74 rfl rfl (tyX3_ok 5 (by decide)) rfl rfl (Nat.le_of_ble_eq_true rfl) dX3_init_38 ?_
  refine pg_conv (g1 := pc_cut (xb X) (xD X) a g) (fun k hkn q H h => ?_) (hfin _ _ dX3_init_41)
  by_cases c0 : k < a
  · rw [cut_lt c0]
    simp (disch := omega) only [up_eq, up_ne, pc_mu_lt, pc_mu_eq, pc_mu_gt, cut_lt] at h
    exact h
  rw [cut_g0 (by omega)]
  rcases (show k = a ∨ k = (a + 1) ∨ k = (a + 2) ∨ k = (a + 3) ∨ k = (a + 4) ∨ k = (a + 5) by omega) with rfl | rfl | rfl | rfl | rfl | rfl
  · rw [g0_at (show ps_kn k = 9 from hk 0 (by omega))]
    simp (disch := omega) only [up_eq, up_ne, pc_mu_lt, pc_mu_eq, pc_mu_gt, cut_lt] at h
    exact h
  · rw [g0_at (show ps_kn (a + 1) = 10 from hk 1 (by omega))]
    simp (disch := omega) only [up_eq, up_ne, pc_mu_lt, pc_mu_eq, pc_mu_gt, cut_lt] at h
    exact h
  · rw [g0_at (show ps_kn (a + 2) = 11 from hk 2 (by omega))]
    simp (disch := omega) only [up_eq, up_ne, pc_mu_lt, pc_mu_eq, pc_mu_gt, cut_lt] at h
    exact h
  · rw [g0_at (show ps_kn (a + 3) = 11 from hk 3 (by omega))]
    simp (disch := omega) only [up_eq, up_ne, pc_mu_lt, pc_mu_eq, pc_mu_gt, cut_lt] at h
    exact h
  · rw [g0_at (show ps_kn (a + 4) = 11 from hk 4 (by omega))]
    simp (disch := omega) only [up_eq, up_ne, pc_mu_lt, pc_mu_eq, pc_mu_gt, cut_lt] at h
    exact h
  · rw [g0_at (show ps_kn (a + 5) = 11 from hk 5 (by omega))]
    simp (disch := omega) only [up_eq, up_ne, pc_mu_lt, pc_mu_eq, pc_mu_gt, cut_lt] at h
    exact h
theorem ct_X5 (l : Launch) (b : Nat) (D : va_G) (a : Nat) (g : Nat → va_E) (hk : ∀ d, d < 12 → ps_kn (a + d) = ps_kH (d + 2)) (hg : g a = .inr (5, [.null, .null, .null, .int 0])) : pc_T l b D yX5_init cX5_init 1 1 a 11 184 g (pc_cut b D a g) := by
  refine pc_met (own := RX5) (lv := [some (.ref (b + a))]) (by decide) rfl rfl rfl (Nat.le_of_ble_eq_true rfl) rfl ?_
  intro X h1 h2 h3 h4 C hin hfin
  subst h1
  subst h2
  subst h3
  refine pg_aload0 C dX5_init_0 ?_
  refine pg_obj C pm_30 pm_17 pm_18 (Nat.le_of_ble_eq_true rfl) (Nat.le_of_ble_eq_true rfl) dX5_init_1 ?_
  refine pg_aload0 C dX5_init_4 ?_
  refine pg_bipush C dX5_init_5 pb_8 ?_
  refine pg_bipush C dX5_init_7 pb_20 ?_
  refine pg_multi C (N := 8) (K := 20) pm_31 (by decide) (by decide) (by decide) (by decide) (by decide) (by decide) (by omega) (Nat.le_of_ble_eq_true rfl) (Nat.le_of_ble_eq_true rfl) dX5_init_9 ?_
  refine pg_n (n1 := (a + 10)) (kc1 := 9) (ks1 := 168) rfl rfl rfl ?_
  refine pg_putF C hin (ci := 5) (CN := RX5) (T := TX5) (N := 4) (ty0 := tyX5) (slot := 0) (a := a) [.null, .null, .null, .int 0] [.ref (xb X + (a + 1)), .null, .null, .int 0] (by omega) (by simp (disch := omega) only [up_eq, up_ne, pc_mu_lt, pc_mu_eq, pc_mu_gt, cut_lt, hg]) rfl rfl inX5 tyX5_ok nmX5 (by decide) pm_33 rfl rfl rfl (tyX5_ok 0 (by decide)) rfl rfl (Nat.le_of_ble_eq_true rfl) dX5_init_13 ?_
  refine pg_aload0 C dX5_init_16 ?_
  refine pg_bipush C dX5_init_17 pb_8 ?_
  refine pg_newa C (t0 := 0) (c := 10) (ty := .int) (N := 8) rfl rfl pm_47 rfl (fun _ _ h => h) (by decide) (by decide) (by decide) (by omega) (Nat.le_of_ble_eq_true rfl) (Nat.le_of_ble_eq_true rfl) dX5_init_19 ?_
  refine pg_n (n1 := (a + 11)) (kc1 := 10) (ks1 := 176) rfl rfl rfl ?_
  refine pg_putF C hin (ci := 5) (CN := RX5) (T := TX5) (N := 4) (ty0 := tyX5) (slot := 1) (a := a) [.ref (xb X + (a + 1)), .null, .null, .int 0] [.ref (xb X + (a + 1)), .ref (xb X + (a + 10)), .null, .int 0] (by omega) (by simp (disch := omega) only [up_eq, up_ne, pc_mu_lt, pc_mu_eq, pc_mu_gt, cut_lt, hg]) rfl rfl inX5 tyX5_ok nmX5 (by decide) pm_34 rfl rfl rfl (tyX5_ok 1 (by decide)) rfl rfl (Nat.le_of_ble_eq_true rfl) dX5_init_21 ?_
  refine pg_aload0 C dX5_init_24 ?_
  refine pg_bipush C dX5_init_25 pb_8 ?_
  refine pg_newa C (t0 := 0) (c := 10) (ty := .int) (N := 8) rfl rfl pm_47 rfl (fun _ _ h => h) (by decide) (by decide) (by decide) (by omega) (Nat.le_of_ble_eq_true rfl) (Nat.le_of_ble_eq_true rfl) dX5_init_27 ?_
  refine pg_n (n1 := (a + 12)) (kc1 := 11) (ks1 := 184) rfl rfl rfl ?_
  refine pg_putF C hin (ci := 5) (CN := RX5) (T := TX5) (N := 4) (ty0 := tyX5) (slot := 2) (a := a) [.ref (xb X + (a + 1)), .ref (xb X + (a + 10)), .null, .int 0] [.ref (xb X + (a + 1)), .ref (xb X + (a + 10)), .ref (xb X + (a + 11)), .int 0] (by omega) (by simp (disch := omega) only [up_eq, up_ne, pc_mu_lt, pc_mu_eq, pc_mu_gt, cut_lt, hg]) rfl rfl inX5 tyX5_ok nmX5 (by decide) pm_35 rfl rfl rfl (tyX5_ok 2 (by decide)) rfl rfl (Nat.le_of_ble_eq_true rfl) dX5_init_29 ?_
  refine pg_aload0 C dX5_init_32 ?_
  refine pg_iconst C dX5_init_33 pi_0 ?_
  refine pg_put C (ci := 5) (CN := RX5) (T := TX5) (N := 4) (ty0 := tyX5) (slot := 3) (a := a) [.ref (xb X + (a + 1)), .ref (xb X + (a + 10)), .ref (xb X + (a + 11)), .int 0] [.ref (xb X + (a + 1)), .ref (xb X + (a + 10)), .ref (xb X + (a + 11)), .int (nI 0)] (by omega) (by simp (disch := omega) only [up_eq, up_ne, pc_mu_lt, pc_mu_eq, pc_mu_gt, cut_lt, hg]) rfl rfl inX5 tyX5_ok nmX5 (by decide) pm_36 rfl rfl (tyX5_ok 3 (by decide)) rfl rfl (Nat.le_of_ble_eq_true rfl) dX5_init_34 ?_
  refine pg_conv (g1 := pc_cut (xb X) (xD X) a g) (fun k hkn q H h => ?_) (hfin _ _ dX5_init_37)
  by_cases c0 : k < a
  · rw [cut_lt c0]
    simp (disch := omega) only [up_eq, up_ne, pc_mu_lt, pc_mu_eq, pc_mu_gt, cut_lt] at h
    exact h
  rw [cut_g0 (by omega)]
  rcases (show k = a ∨ k = (a + 1) ∨ k = (a + 2) ∨ k = (a + 3) ∨ k = (a + 4) ∨ k = (a + 5) ∨ k = (a + 6) ∨ k = (a + 7) ∨ k = (a + 8) ∨ k = (a + 9) ∨ k = (a + 10) ∨ k = (a + 11) by omega) with rfl | rfl | rfl | rfl | rfl | rfl | rfl | rfl | rfl | rfl | rfl | rfl
  · rw [g0_at (show ps_kn k = 3 from hk 0 (by omega))]
    simp (disch := omega) only [up_eq, up_ne, pc_mu_lt, pc_mu_eq, pc_mu_gt, cut_lt] at h
    exact h
  · rw [g0_at (show ps_kn (a + 1) = 4 from hk 1 (by omega))]
    simp (disch := omega) only [up_eq, up_ne, pc_mu_lt, pc_mu_eq, pc_mu_gt, cut_lt] at h
    exact h
  · rw [g0_at (show ps_kn (a + 2) = 5 from hk 2 (by omega))]
    simp (disch := omega) only [up_eq, up_ne, pc_mu_lt, pc_mu_eq, pc_mu_gt, cut_lt] at h
    exact h
  · rw [g0_at (show ps_kn (a + 3) = 5 from hk 3 (by omega))]
    simp (disch := omega) only [up_eq, up_ne, pc_mu_lt, pc_mu_eq, pc_mu_gt, cut_lt] at h
    exact h
  · rw [g0_at (show ps_kn (a + 4) = 5 from hk 4 (by omega))]
    simp (disch := omega) only [up_eq, up_ne, pc_mu_lt, pc_mu_eq, pc_mu_gt, cut_lt] at h
    exact h
  · rw [g0_at (show ps_kn (a + 5) = 5 from hk 5 (by omega))]
    simp (disch := omega) only [up_eq, up_ne, pc_mu_lt, pc_mu_eq, pc_mu_gt, cut_lt] at h
    exact h
  · rw [g0_at (show ps_kn (a + 6) = 5 from hk 6 (by omega))]
    simp (disch := omega) only [up_eq, up_ne, pc_mu_lt, pc_mu_eq, pc_mu_gt, cut_lt] at h
    exact h
  · rw [g0_at (show ps_kn (a + 7) = 5 from hk 7 (by omega))]
    simp (disch := omega) only [up_eq, up_ne, pc_mu_lt, pc_mu_eq, pc_mu_gt, cut_lt] at h
    exact h
  · rw [g0_at (show ps_kn (a + 8) = 5 from hk 8 (by omega))]
    simp (disch := omega) only [up_eq, up_ne, pc_mu_lt, pc_mu_eq, pc_mu_gt, cut_lt] at h
    exact h
  · rw [g0_at (show ps_kn (a + 9) = 5 from hk 9 (by omega))]
    simp (disch := omega) only [up_eq, up_ne, pc_mu_lt, pc_mu_eq, pc_mu_gt, cut_lt] at h
    exact h
  · rw [g0_at (show ps_kn (a + 10) = 6 from hk 10 (by omega))]
    simp (disch := omega) only [up_eq, up_ne, pc_mu_lt, pc_mu_eq, pc_mu_gt, cut_lt] at h
    exact h
  · rw [g0_at (show ps_kn (a + 11) = 6 from hk 11 (by omega))]
    simp (disch := omega) only [up_eq, up_ne, pc_mu_lt, pc_mu_eq, pc_mu_gt, cut_lt] at h
    exact h
theorem ct_X4 (l : Launch) (b : Nat) (D : va_G) (a : Nat) (g : Nat → va_E) (hk : ∀ d, d < 4 → ps_kn (a + d) = 14 + d) (hg : g a = .inr (4, [.null, .int 0, .int 0, .int 0, .int 0, .int 0, .int 0, .null, .int 0])) : pc_T l b D yX4_init cX4_init 1 2 a 3 102 g (pc_cut b D a g) := by
  refine pc_met (own := RX4) (lv := [some (.ref (b + a))]) (by decide) rfl rfl rfl (Nat.le_of_ble_eq_true rfl) rfl ?_
  intro X h1 h2 h3 h4 C hin hfin
  subst h1
  subst h2
  subst h3
  refine pg_aload0 C dX4_init_0 ?_
  refine pg_obj C pm_139 pm_17 pm_18 (Nat.le_of_ble_eq_true rfl) (Nat.le_of_ble_eq_true rfl) dX4_init_1 ?_
  refine pg_aload0 C dX4_init_4 ?_
  refine pg_new C (ci := 2) (CN := RX2) (T := TX2) (ty := tyX2) [.null, .int 0] tyX2_ok inX2 pm_140 pm_141 pm_8 rfl (fun j hj => by rcases (show j = 0 ∨ j = 1 by omega) with rfl | rfl <;> rfl) (by omega) (Nat.le_of_ble_eq_true rfl) (Nat.le_of_ble_eq_true rfl) dX4_init_5 ?_
  refine pg_n (n1 := (a + 2)) (kc1 := 1) (ks1 := 2) rfl rfl rfl ?_
  refine pg_dup C rfl dX4_init_8 ?_
  refine pg_goN C (a := (a + 1)) (mc := 1) (ms := 80) (j := 1) (g1 := _) (ct_X2 (xl X) (xb X) (xD X) (a + 1) _ (fun d hd => by have := hk (d + 1) (by omega); rw [show (a + 1) + d = a + (d + 1) by omega, this]; omega) (by simp (disch := omega) only [up_eq])) C.2.1.2.1.2.2.2.2.1 pm_8 pm_144 pm_143 ⟨⟨by decide, by decide⟩, by decide +kernel, rfl⟩ (by omega) ⟨Nat.le_of_ble_eq_true rfl, Nat.le_of_ble_eq_true rfl⟩ ⟨Nat.le_of_ble_eq_true rfl, Nat.le_of_ble_eq_true rfl⟩ (Nat.le_of_ble_eq_true rfl) dX4_init_9 ?_
  refine pg_n (n1 := (a + 3)) (kc1 := 2) (ks1 := 82) rfl rfl rfl ?_
  refine pg_putF C hin (ci := 4) (CN := RX4) (T := TX4) (N := 9) (ty0 := tyX4) (slot := 0) (a := a) [.null, .int 0, .int 0, .int 0, .int 0, .int 0, .int 0, .null, .int 0] [.ref (xb X + (a + 1)), .int 0, .int 0, .int 0, .int 0, .int 0, .int 0, .null, .int 0] (by omega) (by simp (disch := omega) only [up_eq, up_ne, pc_mu_lt, pc_mu_eq, pc_mu_gt, cut_lt, hg]) rfl rfl inX4 tyX4_ok nmX4 (by decide) pm_156 rfl rfl rfl (tyX4_ok 0 (by decide)) rfl rfl (Nat.le_of_ble_eq_true rfl) dX4_init_12 ?_
  refine pg_aload0 C dX4_init_15 ?_
  refine pg_iconst C dX4_init_16 pi_0 ?_
  refine pg_put C (ci := 4) (CN := RX4) (T := TX4) (N := 9) (ty0 := tyX4) (slot := 1) (a := a) [.ref (xb X + (a + 1)), .int 0, .int 0, .int 0, .int 0, .int 0, .int 0, .null, .int 0] [.ref (xb X + (a + 1)), .int (nI 0), .int 0, .int 0, .int 0, .int 0, .int 0, .null, .int 0] (by omega) (by simp (disch := omega) only [up_eq, up_ne, pc_mu_lt, pc_mu_eq, pc_mu_gt, cut_lt, hg]) rfl rfl inX4 tyX4_ok nmX4 (by decide) pm_158 rfl rfl (tyX4_ok 1 (by decide)) rfl rfl (Nat.le_of_ble_eq_true rfl) dX4_init_17 ?_
  refine pg_aload0 C dX4_init_20 ?_
  refine pg_iconst C dX4_init_21 pi_1 ?_
  refine pg_put C (ci := 4) (CN := RX4) (T := TX4) (N := 9) (ty0 := tyX4) (slot := 2) (a := a) [.ref (xb X + (a + 1)), .int (nI 0), .int 0, .int 0, .int 0, .int 0, .int 0, .null, .int 0] [.ref (xb X + (a + 1)), .int (nI 0), .int (nI 1), .int 0, .int 0, .int 0, .int 0, .null, .int 0] (by omega) (by simp (disch := omega) only [up_eq, up_ne, pc_mu_lt, pc_mu_eq, pc_mu_gt, cut_lt, hg]) rfl rfl inX4 tyX4_ok nmX4 (by decide) pm_159 rfl rfl (tyX4_ok 2 (by decide)) rfl rfl (Nat.le_of_ble_eq_true rfl) dX4_init_22 ?_
  refine pg_aload0 C dX4_init_25 ?_
  refine pg_iconst C dX4_init_26 pi_0 ?_
  refine pg_put C (ci := 4) (CN := RX4) (T := TX4) (N := 9) (ty0 := tyX4) (slot := 3) (a := a) [.ref (xb X + (a + 1)), .int (nI 0), .int (nI 1), .int 0, .int 0, .int 0, .int 0, .null, .int 0] [.ref (xb X + (a + 1)), .int (nI 0), .int (nI 1), .int (nI 0), .int 0, .int 0, .int 0, .null, .int 0] (by omega) (by simp (disch := omega) only [up_eq, up_ne, pc_mu_lt, pc_mu_eq, pc_mu_gt, cut_lt, hg]) rfl rfl inX4 tyX4_ok nmX4 (by decide) pm_160 rfl rfl (tyX4_ok 3 (by decide)) rfl rfl (Nat.le_of_ble_eq_true rfl) dX4_init_27 ?_
  refine pg_aload0 C dX4_init_30 ?_
  refine pg_iconst C dX4_init_31 pi_0 ?_
  refine pg_put C (ci := 4) (CN := RX4) (T := TX4) (N := 9) (ty0 := tyX4) (slot := 4) (a := a) [.ref (xb X + (a + 1)), .int (nI 0), .int (nI 1), .int (nI 0), .int 0, .int 0, .int 0, .null, .int 0] [.ref (xb X + (a + 1)), .int (nI 0), .int (nI 1), .int (nI 0), .int (nI 0), .int 0, .int 0, .null, .int 0] (by omega) (by simp (disch := omega) only [up_eq, up_ne, pc_mu_lt, pc_mu_eq, pc_mu_gt, cut_lt, hg]) rfl rfl inX4 tyX4_ok nmX4 (by decide) pm_162 rfl rfl (tyX4_ok 4 (by decide)) rfl rfl (Nat.le_of_ble_eq_true rfl) dX4_init_32 ?_
  refine pg_aload0 C dX4_init_35 ?_
  refine pg_iconst C dX4_init_36 pi_0 ?_
  refine pg_put C (ci := 4) (CN := RX4) (T := TX4) (N := 9) (ty0 := tyX4) (slot := 5) (a := a) [.ref (xb X + (a + 1)), .int (nI 0), .int (nI 1), .int (nI 0), .int (nI 0), .int 0, .int 0, .null, .int 0] [.ref (xb X + (a + 1)), .int (nI 0), .int (nI 1), .int (nI 0), .int (nI 0), .int (nI 0), .int 0, .null, .int 0] (by omega) (by simp (disch := omega) only [up_eq, up_ne, pc_mu_lt, pc_mu_eq, pc_mu_gt, cut_lt, hg]) rfl rfl inX4 tyX4_ok nmX4 (by decide) pm_164 rfl rfl (tyX4_ok 5 (by decide)) rfl rfl (Nat.le_of_ble_eq_true rfl) dX4_init_37 ?_
  refine pg_aload0 C dX4_init_40 ?_
  refine pg_iconst C dX4_init_41 pi_0 ?_
  refine pg_put C (ci := 4) (CN := RX4) (T := TX4) (N := 9) (ty0 := tyX4) (slot := 6) (a := a) [.ref (xb X + (a + 1)), .int (nI 0), .int (nI 1), .int (nI 0), .int (nI 0), .int (nI 0), .int 0, .null, .int 0] [.ref (xb X + (a + 1)), .int (nI 0), .int (nI 1), .int (nI 0), .int (nI 0), .int (nI 0), .int (nI 0), .null, .int 0] (by omega) (by simp (disch := omega) only [up_eq, up_ne, pc_mu_lt, pc_mu_eq, pc_mu_gt, cut_lt, hg]) rfl rfl inX4 tyX4_ok nmX4 (by decide) pm_166 rfl rfl (tyX4_ok 6 (by decide)) rfl rfl (Nat.le_of_ble_eq_true rfl) dX4_init_42 ?_
  refine pg_aload0 C dX4_init_45 ?_
  refine pg_bipush C dX4_init_46 pb_20 ?_
  refine pg_newa C (t0 := 0) (c := 10) (ty := .int) (N := 20) rfl rfl pm_47 rfl (fun _ _ h => h) (by decide) (by decide) (by decide) (by omega) (Nat.le_of_ble_eq_true rfl) (Nat.le_of_ble_eq_true rfl) dX4_init_48 ?_
  refine pg_n (n1 := (a + 4)) (kc1 := 3) (ks1 := 102) rfl rfl rfl ?_
  refine pg_putF C hin (ci := 4) (CN := RX4) (T := TX4) (N := 9) (ty0 := tyX4) (slot := 7) (a := a) [.ref (xb X + (a + 1)), .int (nI 0), .int (nI 1), .int (nI 0), .int (nI 0), .int (nI 0), .int (nI 0), .null, .int 0] [.ref (xb X + (a + 1)), .int (nI 0), .int (nI 1), .int (nI 0), .int (nI 0), .int (nI 0), .int (nI 0), .ref (xb X + (a + 3)), .int 0] (by omega) (by simp (disch := omega) only [up_eq, up_ne, pc_mu_lt, pc_mu_eq, pc_mu_gt, cut_lt, hg]) rfl rfl inX4 tyX4_ok nmX4 (by decide) pm_168 rfl rfl rfl (tyX4_ok 7 (by decide)) rfl rfl (Nat.le_of_ble_eq_true rfl) dX4_init_50 ?_
  refine pg_aload0 C dX4_init_53 ?_
  refine pg_iconst C dX4_init_54 pi_0 ?_
  refine pg_put C (ci := 4) (CN := RX4) (T := TX4) (N := 9) (ty0 := tyX4) (slot := 8) (a := a) [.ref (xb X + (a + 1)), .int (nI 0), .int (nI 1), .int (nI 0), .int (nI 0), .int (nI 0), .int (nI 0), .ref (xb X + (a + 3)), .int 0] [.ref (xb X + (a + 1)), .int (nI 0), .int (nI 1), .int (nI 0), .int (nI 0), .int (nI 0), .int (nI 0), .ref (xb X + (a + 3)), .int (nI 0)] (by omega) (by simp (disch := omega) only [up_eq, up_ne, pc_mu_lt, pc_mu_eq, pc_mu_gt, cut_lt, hg]) rfl rfl inX4 tyX4_ok nmX4 (by decide) pm_170 rfl rfl (tyX4_ok 8 (by decide)) rfl rfl (Nat.le_of_ble_eq_true rfl) dX4_init_55 ?_
  refine pg_conv (g1 := pc_cut (xb X) (xD X) a g) (fun k hkn q H h => ?_) (hfin _ _ dX4_init_58)
  by_cases c0 : k < a
  · rw [cut_lt c0]
    simp (disch := omega) only [up_eq, up_ne, pc_mu_lt, pc_mu_eq, pc_mu_gt, cut_lt] at h
    exact h
  rw [cut_g0 (by omega)]
  by_cases c1 : (a + 1) ≤ k ∧ k < (a + 3)
  · simp (disch := omega) only [up_eq, up_ne, cut_lt, cut_g0] at h
    exact h
  rcases (show k = a ∨ k = (a + 3) by omega) with rfl | rfl
  · rw [g0_at (show ps_kn k = 14 from hk 0 (by omega))]
    simp (disch := omega) only [up_eq, up_ne, pc_mu_lt, pc_mu_eq, pc_mu_gt, cut_lt] at h
    exact h
  · rw [g0_at (show ps_kn (a + 3) = 17 from hk 3 (by omega))]
    simp (disch := omega) only [up_eq, up_ne, pc_mu_lt, pc_mu_eq, pc_mu_gt, cut_lt] at h
    exact h
theorem ct_X1 (l : Launch) (b : Nat) (D : va_G) (a : Nat) (g : Nat → va_E) (hk : ∀ d, d < 40 → ps_kn (a + d) = ps_kH d) (hg : g a = .inr (1, [.null, .null, .null, .int 0, .int 0, .null])) : pc_T l b D yX1_init cX1_init 2 2 a 39 1252 g (pc_cut b D a g) := by
  refine pc_met (own := RX1) (lv := [some (.ref (b + a)), none]) (by decide) rfl rfl rfl (Nat.le_of_ble_eq_true rfl) rfl ?_
  intro X h1 h2 h3 h4 C hin hfin
  subst h1
  subst h2
  subst h3
  refine pg_aload0 C dX1_init_0 ?_
  refine pg_obj C pm_24 pm_17 pm_18 (Nat.le_of_ble_eq_true rfl) (Nat.le_of_ble_eq_true rfl) dX1_init_1 ?_
  refine pg_aload0 C dX1_init_4 ?_
  refine pg_iconst C dX1_init_5 pi_4 ?_
  refine pg_newa C (t0 := 0) (c := 10) (ty := .int) (N := 4) rfl rfl pm_47 rfl (fun _ _ h => h) (by decide) (by decide) (by decide) (by omega) (Nat.le_of_ble_eq_true rfl) (Nat.le_of_ble_eq_true rfl) dX1_init_6 ?_
  refine pg_n (n1 := (a + 2)) (kc1 := 1) (ks1 := 4) rfl rfl rfl ?_
  refine pg_putF C hin (ci := 1) (CN := RX1) (T := TX1) (N := 6) (ty0 := tyX1) (slot := 0) (a := a) [.null, .null, .null, .int 0, .int 0, .null] [.ref (xb X + (a + 1)), .null, .null, .int 0, .int 0, .null] (by omega) (by simp (disch := omega) only [up_eq, up_ne, pc_mu_lt, pc_mu_eq, pc_mu_gt, cut_lt, hg]) rfl rfl inX1 tyX1_ok nmX1 (by decide) pm_90 rfl rfl rfl (tyX1_ok 0 (by decide)) rfl rfl (Nat.le_of_ble_eq_true rfl) dX1_init_8 ?_
  refine pg_aload0 C dX1_init_11 ?_
  refine pg_new C (ci := 5) (CN := RX5) (T := TX5) (ty := tyX5) [.null, .null, .null, .int 0] tyX5_ok inX5 pm_25 pm_26 pm_3 rfl (fun j hj => by rcases (show j = 0 ∨ j = 1 ∨ j = 2 ∨ j = 3 by omega) with rfl | rfl | rfl | rfl <;> rfl) (by omega) (Nat.le_of_ble_eq_true rfl) (Nat.le_of_ble_eq_true rfl) dX1_init_12 ?_
  refine pg_n (n1 := (a + 3)) (kc1 := 2) (ks1 := 8) rfl rfl rfl ?_
  refine pg_dup C rfl dX1_init_15 ?_
  refine pg_goN C (a := (a + 2)) (mc := 11) (ms := 184) (j := 1) (g1 := _) (ct_X5 (xl X) (xb X) (xD X) (a + 2) _ (fun d hd => by have := hk (d + 2) (by omega); rw [show (a + 2) + d = a + (d + 2) by omega]; exact this) (by simp (disch := omega) only [up_eq])) C.2.1.2.1.2.2.1 pm_3 pm_29 pm_28 ⟨⟨by decide, by decide⟩, by decide +kernel, rfl⟩ (by omega) ⟨Nat.le_of_ble_eq_true rfl, Nat.le_of_ble_eq_true rfl⟩ ⟨Nat.le_of_ble_eq_true rfl, Nat.le_of_ble_eq_true rfl⟩ (Nat.le_of_ble_eq_true rfl) dX1_init_16 ?_
  refine pg_n (n1 := (a + 14)) (kc1 := 13) (ks1 := 192) rfl rfl rfl ?_
  refine pg_putF C hin (ci := 1) (CN := RX1) (T := TX1) (N := 6) (ty0 := tyX1) (slot := 1) (a := a) [.ref (xb X + (a + 1)), .null, .null, .int 0, .int 0, .null] [.ref (xb X + (a + 1)), .ref (xb X + (a + 2)), .null, .int 0, .int 0, .null] (by omega) (by simp (disch := omega) only [up_eq, up_ne, pc_mu_lt, pc_mu_eq, pc_mu_gt, cut_lt, hg]) rfl rfl inX1 tyX1_ok nmX1 (by decide) pm_92 rfl rfl rfl (tyX1_ok 1 (by decide)) rfl rfl (Nat.le_of_ble_eq_true rfl) dX1_init_19 ?_
  refine pg_aload0 C dX1_init_22 ?_
  refine pg_iconst C dX1_init_23 pi_4 ?_
  refine pg_newq C (CN := RX3) (t0 := 5) (c := 15) (N := 4) pm_48 C.2.1.2.2.2.1 rfl (by decide) (by decide) (by decide) (by omega) (Nat.le_of_ble_eq_true rfl) (Nat.le_of_ble_eq_true rfl) dX1_init_24 ?_
  refine pg_n (n1 := (a + 15)) (kc1 := 14) (ks1 := 196) rfl rfl rfl ?_
  refine pg_putF C hin (ci := 1) (CN := RX1) (T := TX1) (N := 6) (ty0 := tyX1) (slot := 2) (a := a) [.ref (xb X + (a + 1)), .ref (xb X + (a + 2)), .null, .int 0, .int 0, .null] [.ref (xb X + (a + 1)), .ref (xb X + (a + 2)), .ref (xb X + (a + 14)), .int 0, .int 0, .null] (by omega) (by simp (disch := omega) only [up_eq, up_ne, pc_mu_lt, pc_mu_eq, pc_mu_gt, cut_lt, hg]) rfl rfl inX1 tyX1_ok nmX1 (by decide) pm_94 rfl rfl rfl (tyX1_ok 2 (by decide)) rfl rfl (Nat.le_of_ble_eq_true rfl) dX1_init_27 ?_
  refine pg_aload0 C dX1_init_30 ?_
  refine pg_iconst C dX1_init_31 pi_0 ?_
  refine pg_put C (ci := 1) (CN := RX1) (T := TX1) (N := 6) (ty0 := tyX1) (slot := 3) (a := a) [.ref (xb X + (a + 1)), .ref (xb X + (a + 2)), .ref (xb X + (a + 14)), .int 0, .int 0, .null] [.ref (xb X + (a + 1)), .ref (xb X + (a + 2)), .ref (xb X + (a + 14)), .int (nI 0), .int 0, .null] (by omega) (by simp (disch := omega) only [up_eq, up_ne, pc_mu_lt, pc_mu_eq, pc_mu_gt, cut_lt, hg]) rfl rfl inX1 tyX1_ok nmX1 (by decide) pm_96 rfl rfl (tyX1_ok 3 (by decide)) rfl rfl (Nat.le_of_ble_eq_true rfl) dX1_init_32 ?_
  refine pg_aload0 C dX1_init_35 ?_
  refine pg_iconst C dX1_init_36 pi_0 ?_
  refine pg_put C (ci := 1) (CN := RX1) (T := TX1) (N := 6) (ty0 := tyX1) (slot := 4) (a := a) [.ref (xb X + (a + 1)), .ref (xb X + (a + 2)), .ref (xb X + (a + 14)), .int (nI 0), .int 0, .null] [.ref (xb X + (a + 1)), .ref (xb X + (a + 2)), .ref (xb X + (a + 14)), .int (nI 0), .int (nI 0), .null] (by omega) (by simp (disch := omega) only [up_eq, up_ne, pc_mu_lt, pc_mu_eq, pc_mu_gt, cut_lt, hg]) rfl rfl inX1 tyX1_ok nmX1 (by decide) pm_98 rfl rfl (tyX1_ok 4 (by decide)) rfl rfl (Nat.le_of_ble_eq_true rfl) dX1_init_37 ?_
  refine pg_aload0 C dX1_init_40 ?_
  refine pg_bipush C dX1_init_41 pb_40 ?_
  refine pg_newa C (t0 := 0) (c := 10) (ty := .int) (N := 40) rfl rfl pm_47 rfl (fun _ _ h => h) (by decide) (by decide) (by decide) (by omega) (Nat.le_of_ble_eq_true rfl) (Nat.le_of_ble_eq_true rfl) dX1_init_43 ?_
  refine pg_n (n1 := (a + 16)) (kc1 := 15) (ks1 := 236) rfl rfl rfl ?_
  refine pg_putF C hin (ci := 1) (CN := RX1) (T := TX1) (N := 6) (ty0 := tyX1) (slot := 5) (a := a) [.ref (xb X + (a + 1)), .ref (xb X + (a + 2)), .ref (xb X + (a + 14)), .int (nI 0), .int (nI 0), .null] [.ref (xb X + (a + 1)), .ref (xb X + (a + 2)), .ref (xb X + (a + 14)), .int (nI 0), .int (nI 0), .ref (xb X + (a + 15))] (by omega) (by simp (disch := omega) only [up_eq, up_ne, pc_mu_lt, pc_mu_eq, pc_mu_gt, cut_lt, hg]) rfl rfl inX1 tyX1_ok nmX1 (by decide) pm_100 rfl rfl rfl (tyX1_ok 5 (by decide)) rfl rfl (Nat.le_of_ble_eq_true rfl) dX1_init_45 ?_
  refine pg_sget C dX1_init_48 (fun t ht => ?_)
  refine pg_iconst C dX1_init_51 pi_0 ?_
  refine pg_aload0 C dX1_init_52 ?_
  refine pg_get C (ci := 1) (CN := RX1) (T := TX1) (N := 6) (slot := 0) (a := a) [.ref (xb X + (a + 1)), .ref (xb X + (a + 2)), .ref (xb X + (a + 14)), .int (nI 0), .int (nI 0), .ref (xb X + (a + 15))] (by omega) (by simp (disch := omega) only [up_eq, up_ne, pc_mu_lt, pc_mu_eq, pc_mu_gt, cut_lt, hg]) rfl inX1 (by decide) pm_90 rfl rfl dX1_init_53 ?_
  refine pg_iconst C dX1_init_56 pi_0 ?_
  refine pg_iconst C dX1_init_57 pi_4 ?_
  refine pg_copy4 C (a := (a + 1)) (g9 := fun _ => 0) ht (by omega) (by simp (disch := omega) only [up_eq, up_ne, pc_mu_lt, pc_mu_eq, pc_mu_gt, cut_lt, hg]) cw_X1_41 (Nat.le_of_ble_eq_true rfl) (Nat.le_of_ble_eq_true rfl) dX1_init_58 ?_
  refine pg_iconst C dX1_init_61 pi_0 ?_
  refine pg_istore1 C rfl dX1_init_62 ?_
  have loop : ∀ r i : Nat, r + i = 4 → pg X (a + 16 + 6 * i) (15 + 6 * i) (236 + 254 * i) (va_up (pc_cut (xb X) (xD X) a g) (a + 14) (.inl ((xD X).1 15, 4, .inr (.inr (.inr (.inr (fun j => if j < i then some (xb X + (a + 16 + 6 * j)) else none))))))) 63 [some (.ref (xb X + a)), some (.int (nI i))] [] := by
    intro r
    induction r with
    | zero =>
      intro i hi
      have hi4 : i = 4 := by omega
      subst hi4
      refine pg_iload1 C dX1_init_63 ?_
      refine pg_iconst C dX1_init_64 pi_4 ?_
      refine pg_icge C 87 dX1_init_65 rfl (fun _ => ?_) (fun c => absurd (by decide) c)
      refine pg_conv (g1 := pc_cut (xb X) (xD X) a g) (fun k hkn q H h => ?_) (hfin _ _ dX1_init_87)
      by_cases c1 : k = a + 14
      · subst c1
        rw [up_eq] at h
        rw [cut_g0 (by omega), g0_at (show ps_kn (a + 14) = 7 from hk 14 (by omega))]
        refine va_at_q (fun j hj => ?_) h
        rw [if_pos hj, show a + 16 + 6 * j = a + 14 + 2 + 6 * j by omega]
      · rw [up_ne c1] at h
        exact h
    | succ r ih =>
      intro i hi
      have hi3 : i < 4 := by omega
      refine pg_iload1 C dX1_init_63 ?_
      refine pg_iconst C dX1_init_64 pi_4 ?_
      refine pg_icge C 87 dX1_init_65 rfl (fun c => absurd c (by rcases (show i = 0 ∨ i = 1 ∨ i = 2 ∨ i = 3 by omega) with rfl | rfl | rfl | rfl <;> decide)) (fun _ => ?_)
      have hk14 : pc_cut (xb X) (xD X) a g a = .inr (1, [.ref (xb X + (a + 1)), .ref (xb X + (a + 2)), .ref (xb X + (a + 14)), .int (nI 0), .int (nI 0), .ref (xb X + (a + 15))]) := by rw [cut_g0 (Nat.le_refl _), g0_at (show ps_kn a = 1 from hk 0 (by omega))]; rfl
      refine pg_aload0 C dX1_init_68 ?_
      refine pg_get C (ci := 1) (CN := RX1) (T := TX1) (N := 6) (slot := 2) (a := a) [.ref (xb X + (a + 1)), .ref (xb X + (a + 2)), .ref (xb X + (a + 14)), .int (nI 0), .int (nI 0), .ref (xb X + (a + 15))] (by omega) (by simp (disch := omega) only [up_ne, hk14]) rfl inX1 (by decide) pm_94 rfl rfl dX1_init_69 ?_
      refine pg_iload1 C dX1_init_72 ?_
      refine pg_new C (ci := 3) (CN := RX3) (T := TX3) (ty := tyX3) [.null, .int 0, .int 0, .int 0, .int 0, .int 0] tyX3_ok inX3 pm_48 pm_55 pm_5 rfl (fun j hj => by rcases (show j = 0 ∨ j = 1 ∨ j = 2 ∨ j = 3 ∨ j = 4 ∨ j = 5 by omega) with rfl | rfl | rfl | rfl | rfl | rfl <;> rfl) (by omega) (by show _ ≤ 39; omega) (by show _ ≤ 1252; omega) dX1_init_73 ?_
      skip
      refine pg_dup C rfl dX1_init_76 ?_
      refine pg_goN C (a := a + 16 + 6 * i) (mc := 5) (ms := 248) (j := 1) (g1 := _) (ct_X3 (xl X) (xb X) (xD X) (a + 16 + 6 * i) _ (fun d hd => by have := hk (16 + 6 * i + d) (by omega); rw [show a + 16 + 6 * i + d = a + (16 + 6 * i + d) by omega, this]; exact kH_P i hi3 d hd) (by simp (disch := omega) only [up_eq])) C.2.1.2.1.2.2.2.1 pm_5 pm_58 pm_57 ⟨⟨by decide, by decide⟩, by decide +kernel, rfl⟩ (by omega) ⟨Nat.le_of_ble_eq_true rfl, Nat.le_of_ble_eq_true rfl⟩ ⟨by show _ ≤ 39; omega, by show _ ≤ 1252; omega⟩ (Nat.le_of_ble_eq_true rfl) dX1_init_77 ?_
      skip
      have hk9 : ps_kn (a + 16 + 6 * i) = 9 := by
        have := hk (16 + 6 * i + 0) (by omega)
        rw [show a + 16 + 6 * i = a + (16 + 6 * i + 0) by omega, this]
        exact kH_P i hi3 0 (by omega)
      refine pg_astq C (a := a + 14) (q := a + 16 + 6 * i) (c := 15) (t0 := 5) (ci := 3) (N := 4) (j := i) (r := (RX3, TX3, 6)) (f := fun j => if j < i then some (xb X + (a + 16 + 6 * j)) else none) (vs := [.ref (xb X + (a + 16 + 6 * i + 1)), .int (pc_i 9 1), .int (pc_i 9 2), .int (pc_i 9 3), .int (pc_i 9 4), .int (pc_i 9 5)]) (by omega) (by simp (disch := omega) only [up_eq, up_ne, cut_lt]) rfl (by omega) (by rw [cut_g0 (Nat.le_refl _), g0_at hk9]; rfl) rfl (by rcases (show i = 0 ∨ i = 1 ∨ i = 2 ∨ i = 3 by omega) with rfl | rfl | rfl | rfl <;> decide) (by rcases (show i = 0 ∨ i = 1 ∨ i = 2 ∨ i = 3 by omega) with rfl | rfl | rfl | rfl <;> decide) dX1_init_80 ?_
      refine pg_iinc1 C rfl (y := nI (i + 1)) (nI_add i 1) dX1_init_81 ?_
      refine pg_goto C 63 dX1_init_84 rfl ?_
      refine pg_n (n1 := a + 16 + 6 * (i + 1)) (kc1 := 15 + 6 * (i + 1)) (ks1 := 236 + 254 * (i + 1)) (by omega) (by omega) (by omega) ?_
      refine pg_conv (fun k hkn q H h => ?_) (ih (i + 1) (by omega))
      by_cases c1 : k = a + 14
      · subst c1
        rw [up_eq] at h
        rw [up_eq]
        refine va_at_q (fun j hj => ?_) h
        unfold va_up
        by_cases e : j = i
        · rw [if_pos e, if_pos (by omega), e]
        · rw [if_neg e]
          show (if j < i then some (xb X + (a + 16 + 6 * j)) else none) = _
          by_cases e2 : j < i
          · rw [if_pos e2, if_pos (by omega)]
          · rw [if_neg e2, if_neg (by omega)]
      · rw [up_ne c1] at h
        rw [up_ne c1]
        by_cases c2 : k < a + 16 + 6 * i
        · rw [cut_lt c2, up_ne (by omega), up_ne c1] at h
          exact h
        · rw [cut_g0 (by omega)] at h
          rw [cut_g0 (by omega)]
          exact h
  refine pg_n (n1 := a + 16 + 6 * 0) (kc1 := 15 + 6 * 0) (ks1 := 236 + 254 * 0) rfl rfl rfl ?_
  refine pg_conv (fun k hkn q H h => ?_) (loop 4 0 rfl)
  by_cases c14 : k = a + 14
  · subst c14
    rw [up_eq]
    simp (disch := omega) only [up_eq, up_ne] at h
    exact h
  rw [up_ne c14]
  by_cases c0 : k < a
  · rw [cut_lt c0]
    simp (disch := omega) only [up_eq, up_ne, pc_mu_lt, pc_mu_eq, pc_mu_gt, cut_lt] at h
    exact h
  rw [cut_g0 (by omega)]
  by_cases c2 : (a + 2) ≤ k ∧ k < (a + 14)
  · simp (disch := omega) only [up_eq, up_ne, cut_lt, cut_g0] at h
    exact h
  rcases (show k = a ∨ k = (a + 1) ∨ k = (a + 15) by omega) with rfl | rfl | rfl
  · rw [g0_at (show ps_kn k = 1 from hk 0 (by omega))]
    simp (disch := omega) only [up_eq, up_ne, pc_mu_lt, pc_mu_eq, pc_mu_gt, cut_lt] at h
    exact h
  · rw [g0_at (show ps_kn (a + 1) = 2 from hk 1 (by omega))]
    simp (disch := omega) only [up_eq, up_ne, pc_mu_lt, pc_mu_eq, pc_mu_gt, cut_lt] at h
    rw [pc_cpy4] at h
    exact h
  · rw [g0_at (show ps_kn (a + 15) = 8 from hk 15 (by omega))]
    simp (disch := omega) only [up_eq, up_ne, pc_mu_lt, pc_mu_eq, pc_mu_gt, cut_lt] at h
    exact h
theorem ct_X0 (l : Launch) (b : Nat) (D : va_G) (a : Nat) (g : Nat → va_E) (ha : a = 41) (hg : g a = .inr (0, [.null, .null, .int 0])) : pc_T l b D yX0_init cX0_init 2 3 a 281 8812 g (pc_cut b D a g) := by
  refine pc_met (own := RX0) (lv := [some (.ref (b + a)), none]) (by decide) rfl rfl rfl (Nat.le_of_ble_eq_true rfl) rfl ?_
  intro X h1 h2 h3 h4 C hin hfin
  subst h1
  subst h2
  subst h3
  refine pg_aload0 C dX0_init_0 ?_
  refine pg_obj C pm_119 pm_17 pm_18 (Nat.le_of_ble_eq_true rfl) (Nat.le_of_ble_eq_true rfl) dX0_init_1 ?_
  refine pg_aload0 C dX0_init_4 ?_
  refine pg_bipush C dX0_init_5 pb_6 ?_
  refine pg_newq C (CN := RX1) (t0 := 4) (c := 14) (N := 6) pm_120 C.2.1.2.2.1 rfl (by decide) (by decide) (by decide) (by omega) (Nat.le_of_ble_eq_true rfl) (Nat.le_of_ble_eq_true rfl) dX0_init_7 ?_
  refine pg_n (n1 := (a + 2)) (kc1 := 1) (ks1 := 6) rfl rfl rfl ?_
  refine pg_putF C hin (ci := 0) (CN := RX0) (T := TX0) (N := 3) (ty0 := tyX0) (slot := 0) (a := a) [.null, .null, .int 0] [.ref (xb X + (a + 1)), .null, .int 0] (by omega) (by simp (disch := omega) only [up_eq, up_ne, pc_mu_lt, pc_mu_eq, pc_mu_gt, cut_lt, hg]) rfl rfl inX0 tyX0_ok nmX0 (by decide) pm_123 rfl rfl rfl (tyX0_ok 0 (by decide)) rfl rfl (Nat.le_of_ble_eq_true rfl) dX0_init_10 ?_
  refine pg_aload0 C dX0_init_13 ?_
  refine pg_new C (ci := 1) (CN := RX1) (T := TX1) (ty := tyX1) [.null, .null, .null, .int 0, .int 0, .null] tyX1_ok inX1 pm_120 pm_20 pm_2 rfl (fun j hj => by rcases (show j = 0 ∨ j = 1 ∨ j = 2 ∨ j = 3 ∨ j = 4 ∨ j = 5 by omega) with rfl | rfl | rfl | rfl | rfl | rfl <;> rfl) (by omega) (Nat.le_of_ble_eq_true rfl) (Nat.le_of_ble_eq_true rfl) dX0_init_14 ?_
  refine pg_n (n1 := (a + 3)) (kc1 := 2) (ks1 := 12) rfl rfl rfl ?_
  refine pg_dup C rfl dX0_init_17 ?_
  refine pg_goI C (a := (a + 2)) (mc := 39) (ms := 1252) (j := 2) (g1 := _) (ct_X1 (xl X) (xb X) (xD X) (a + 2) _ (fun d hd => by rw [ha]; exact kn_b d hd) (by simp (disch := omega) only [up_eq])) pm_122 pm_2 pm_23 pm_22 ⟨⟨by decide, by decide⟩, by decide +kernel, rfl⟩ (by omega) ⟨Nat.le_of_ble_eq_true rfl, Nat.le_of_ble_eq_true rfl⟩ ⟨Nat.le_of_ble_eq_true rfl, Nat.le_of_ble_eq_true rfl⟩ (Nat.le_of_ble_eq_true rfl) dX0_init_18 ?_
  refine pg_n (n1 := (a + 42)) (kc1 := 41) (ks1 := 1264) rfl rfl rfl ?_
  refine pg_put C (ci := 0) (CN := RX0) (T := TX0) (N := 3) (ty0 := tyX0) (slot := 1) (a := a) [.ref (xb X + (a + 1)), .null, .int 0] [.ref (xb X + (a + 1)), .ref (xb X + (a + 2)), .int 0] (by omega) (by simp (disch := omega) only [up_eq, up_ne, pc_mu_lt, pc_mu_eq, pc_mu_gt, cut_lt, hg]) rfl rfl inX0 tyX0_ok nmX0 (by decide) pm_124 rfl rfl (tyX0_ok 1 (by decide)) rfl rfl (Nat.le_of_ble_eq_true rfl) dX0_init_21 ?_
  refine pg_aload0 C dX0_init_24 ?_
  refine pg_iconst C dX0_init_25 pi_0 ?_
  refine pg_put C (ci := 0) (CN := RX0) (T := TX0) (N := 3) (ty0 := tyX0) (slot := 2) (a := a) [.ref (xb X + (a + 1)), .ref (xb X + (a + 2)), .int 0] [.ref (xb X + (a + 1)), .ref (xb X + (a + 2)), .int (nI 0)] (by omega) (by simp (disch := omega) only [up_eq, up_ne, pc_mu_lt, pc_mu_eq, pc_mu_gt, cut_lt, hg]) rfl rfl inX0 tyX0_ok nmX0 (by decide) pm_125 rfl rfl (tyX0_ok 2 (by decide)) rfl rfl (Nat.le_of_ble_eq_true rfl) dX0_init_26 ?_
  refine pg_iconst C dX0_init_29 pi_0 ?_
  refine pg_istore1 C rfl dX0_init_30 ?_
  have loop : ∀ r i : Nat, r + i = 6 → pg X (a + 42 + 40 * i) (41 + 40 * i) (1264 + 1258 * i) (va_up (pc_cut (xb X) (xD X) a g) (a + 1) (.inl ((xD X).1 14, 6, .inr (.inr (.inr (.inr (fun j => if j < i then some (xb X + (a + 42 + 40 * j)) else none))))))) 31 [some (.ref (xb X + a)), some (.int (nI i))] [] := by
    intro r
    induction r with
    | zero =>
      intro i hi
      have hi4 : i = 6 := by omega
      subst hi4
      refine pg_iload1 C dX0_init_31 ?_
      refine pg_bipush C dX0_init_32 pb_6 ?_
      refine pg_icge C 56 dX0_init_34 rfl (fun _ => ?_) (fun c => absurd (by decide) c)
      refine pg_conv (g1 := pc_cut (xb X) (xD X) a g) (fun k hkn q H h => ?_) (hfin _ _ dX0_init_56)
      by_cases c1 : k = a + 1
      · subst c1
        rw [up_eq] at h
        rw [cut_g0 (by omega), g0_at (show ps_kn (a + 1) = 13 from by rw [ha]; decide)]
        refine va_at_q (fun j hj => ?_) h
        show (if j < 6 then some (xb X + (a + 42 + 40 * j)) else none) = if j < 6 then some (xb X + pc_r0 j) else none
        unfold pc_r0
        rw [if_pos hj, if_pos hj, if_pos hj, ha]
      · rw [up_ne c1] at h
        exact h
    | succ r ih =>
      intro i hi
      have hi3 : i < 6 := by omega
      refine pg_iload1 C dX0_init_31 ?_
      refine pg_bipush C dX0_init_32 pb_6 ?_
      refine pg_icge C 56 dX0_init_34 rfl (fun c => absurd c (by rcases (show i = 0 ∨ i = 1 ∨ i = 2 ∨ i = 3 ∨ i = 4 ∨ i = 5 by omega) with rfl | rfl | rfl | rfl | rfl | rfl <;> decide)) (fun _ => ?_)
      have hk14 : pc_cut (xb X) (xD X) a g a = .inr (0, [.ref (xb X + (a + 1)), .ref (xb X + (a + 2)), .int (nI 0)]) := by rw [cut_g0 (Nat.le_refl _), g0_at (show ps_kn a = 12 from by rw [ha]; decide)]; subst ha; rfl
      refine pg_aload0 C dX0_init_37 ?_
      refine pg_get C (ci := 0) (CN := RX0) (T := TX0) (N := 3) (slot := 0) (a := a) [.ref (xb X + (a + 1)), .ref (xb X + (a + 2)), .int (nI 0)] (by omega) (by simp (disch := omega) only [up_ne, hk14]) rfl inX0 (by decide) pm_123 rfl rfl dX0_init_38 ?_
      refine pg_iload1 C dX0_init_41 ?_
      refine pg_new C (ci := 1) (CN := RX1) (T := TX1) (ty := tyX1) [.null, .null, .null, .int 0, .int 0, .null] tyX1_ok inX1 pm_120 pm_20 pm_2 rfl (fun j hj => by rcases (show j = 0 ∨ j = 1 ∨ j = 2 ∨ j = 3 ∨ j = 4 ∨ j = 5 by omega) with rfl | rfl | rfl | rfl | rfl | rfl <;> rfl) (by omega) (by show _ ≤ 281; omega) (by show _ ≤ 8812; omega) dX0_init_42 ?_
      skip
      refine pg_dup C rfl dX0_init_45 ?_
      refine pg_goI C (a := a + 42 + 40 * i) (mc := 39) (ms := 1252) (j := 2) (g1 := _) (ct_X1 (xl X) (xb X) (xD X) (a + 42 + 40 * i) _ (fun d hd => by rw [ha]; exact kn_X0 i hi3 d hd) (by simp (disch := omega) only [up_eq])) pm_122 pm_2 pm_23 pm_22 ⟨⟨by decide, by decide⟩, by decide +kernel, rfl⟩ (by omega) ⟨Nat.le_of_ble_eq_true rfl, Nat.le_of_ble_eq_true rfl⟩ ⟨by show _ ≤ 281; omega, by show _ ≤ 8812; omega⟩ (Nat.le_of_ble_eq_true rfl) dX0_init_46 ?_
      skip
      have hk9 : ps_kn (a + 42 + 40 * i) = 1 := by
        have := kn_X0 i hi3 0 (by omega)
        rw [ha]
        exact this
      refine pg_astq C (a := a + 1) (q := a + 42 + 40 * i) (c := 14) (t0 := 4) (ci := 1) (N := 6) (j := i) (r := (RX1, TX1, 6)) (f := fun j => if j < i then some (xb X + (a + 42 + 40 * j)) else none) (vs := [.ref (xb X + (a + 42 + 40 * i + 1)), .ref (xb X + (a + 42 + 40 * i + 2)), .ref (xb X + (a + 42 + 40 * i + 14)), .int (pc_i 1 3), .int (pc_i 1 4), .ref (xb X + (a + 42 + 40 * i + 15))]) (by omega) (by simp (disch := omega) only [up_eq, up_ne, cut_lt]) rfl (by omega) (by rw [cut_g0 (Nat.le_refl _), g0_at hk9]; rfl) rfl (by rcases (show i = 0 ∨ i = 1 ∨ i = 2 ∨ i = 3 ∨ i = 4 ∨ i = 5 by omega) with rfl | rfl | rfl | rfl | rfl | rfl <;> decide) (by rcases (show i = 0 ∨ i = 1 ∨ i = 2 ∨ i = 3 ∨ i = 4 ∨ i = 5 by omega) with rfl | rfl | rfl | rfl | rfl | rfl <;> decide) dX0_init_49 ?_
      refine pg_iinc1 C rfl (y := nI (i + 1)) (nI_add i 1) dX0_init_50 ?_
      refine pg_goto C 31 dX0_init_53 rfl ?_
      refine pg_n (n1 := a + 42 + 40 * (i + 1)) (kc1 := 41 + 40 * (i + 1)) (ks1 := 1264 + 1258 * (i + 1)) (by omega) (by omega) (by omega) ?_
      refine pg_conv (fun k hkn q H h => ?_) (ih (i + 1) (by omega))
      by_cases c1 : k = a + 1
      · subst c1
        rw [up_eq] at h
        rw [up_eq]
        refine va_at_q (fun j hj => ?_) h
        unfold va_up
        by_cases e : j = i
        · rw [if_pos e, if_pos (by omega), e]
        · rw [if_neg e]
          show (if j < i then some (xb X + (a + 42 + 40 * j)) else none) = _
          by_cases e2 : j < i
          · rw [if_pos e2, if_pos (by omega)]
          · rw [if_neg e2, if_neg (by omega)]
      · rw [up_ne c1] at h
        rw [up_ne c1]
        by_cases c2 : k < a + 42 + 40 * i
        · rw [cut_lt c2, up_ne (by omega), up_ne c1] at h
          exact h
        · rw [cut_g0 (by omega)] at h
          rw [cut_g0 (by omega)]
          exact h
  refine pg_n (n1 := a + 42 + 40 * 0) (kc1 := 41 + 40 * 0) (ks1 := 1264 + 1258 * 0) rfl rfl rfl ?_
  refine pg_conv (fun k hkn q H h => ?_) (loop 6 0 rfl)
  by_cases c14 : k = a + 1
  · subst c14
    rw [up_eq]
    simp (disch := omega) only [up_eq, up_ne, cut_lt, cut_g0] at h
    exact h
  rw [up_ne c14]
  by_cases c0 : k < a
  · rw [cut_lt c0]
    simp (disch := omega) only [up_eq, up_ne, pc_mu_lt, pc_mu_eq, pc_mu_gt, cut_lt] at h
    exact h
  rw [cut_g0 (by omega)]
  by_cases c2 : (a + 2) ≤ k ∧ k < (a + 42)
  · simp (disch := omega) only [up_eq, up_ne, cut_lt, cut_g0] at h
    exact h
  rcases (show k = a by omega) with rfl
  · rw [g0_at (show ps_kn k = 12 from by rw [ha]; decide)]
    simp (disch := omega) only [up_eq, up_ne, pc_mu_lt, pc_mu_eq, pc_mu_gt, cut_lt] at h
    subst ha
    exact h
theorem ct_X6 (l : Launch) (b : Nat) (D : va_G) (a : Nat) (g : Nat → va_E) (ha : a = 0) (hg : g a = .inr (6, [.null, .null, .null, .null, .null, .null])) : pc_T l b D yX6_init cX6_init 2 4 a 414 12958 g (pc_cut b D a g) := by
  refine pc_met (own := RX6) (lv := [some (.ref (b + a)), none]) (by decide) rfl rfl rfl (Nat.le_of_ble_eq_true rfl) rfl ?_
  intro X h1 h2 h3 h4 C hin hfin
  subst h1
  subst h2
  subst h3
  refine pg_aload0 C dX6_init_0 ?_
  refine pg_obj C pm_16 pm_17 pm_18 (Nat.le_of_ble_eq_true rfl) (Nat.le_of_ble_eq_true rfl) dX6_init_1 ?_
  refine pg_aload0 C dX6_init_4 ?_
  refine pg_new C (ci := 1) (CN := RX1) (T := TX1) (ty := tyX1) [.null, .null, .null, .int 0, .int 0, .null] tyX1_ok inX1 pm_19 pm_20 pm_2 rfl (fun j hj => by rcases (show j = 0 ∨ j = 1 ∨ j = 2 ∨ j = 3 ∨ j = 4 ∨ j = 5 by omega) with rfl | rfl | rfl | rfl | rfl | rfl <;> rfl) (by omega) (Nat.le_of_ble_eq_true rfl) (Nat.le_of_ble_eq_true rfl) dX6_init_5 ?_
  refine pg_n (n1 := (a + 2)) (kc1 := 1) (ks1 := 6) rfl rfl rfl ?_
  refine pg_dup C rfl dX6_init_8 ?_
  refine pg_goI C (a := (a + 1)) (mc := 39) (ms := 1252) (j := 2) (g1 := _) (ct_X1 (xl X) (xb X) (xD X) (a + 1) _ (fun d hd => by rw [ha]; exact kn_h d hd) (by simp (disch := omega) only [up_eq])) pm_21 pm_2 pm_23 pm_22 ⟨⟨by decide, by decide⟩, by decide +kernel, rfl⟩ (by omega) ⟨Nat.le_of_ble_eq_true rfl, Nat.le_of_ble_eq_true rfl⟩ ⟨Nat.le_of_ble_eq_true rfl, Nat.le_of_ble_eq_true rfl⟩ (Nat.le_of_ble_eq_true rfl) dX6_init_9 ?_
  refine pg_n (n1 := (a + 41)) (kc1 := 40) (ks1 := 1258) rfl rfl rfl ?_
  refine pg_putF C hin (ci := 6) (CN := RX6) (T := TX6) (N := 6) (ty0 := tyX6) (slot := 0) (a := a) [.null, .null, .null, .null, .null, .null] [.ref (xb X + (a + 1)), .null, .null, .null, .null, .null] (by omega) (by simp (disch := omega) only [up_eq, up_ne, pc_mu_lt, pc_mu_eq, pc_mu_gt, cut_lt, hg]) rfl rfl inX6 tyX6_ok nmX6 (by decide) pm_193 rfl rfl rfl (tyX6_ok 0 (by decide)) rfl rfl (Nat.le_of_ble_eq_true rfl) dX6_init_12 ?_
  refine pg_aload0 C dX6_init_15 ?_
  refine pg_new C (ci := 0) (CN := RX0) (T := TX0) (ty := tyX0) [.null, .null, .int 0] tyX0_ok inX0 pm_114 pm_115 pm_6 rfl (fun j hj => by rcases (show j = 0 ∨ j = 1 ∨ j = 2 by omega) with rfl | rfl | rfl <;> rfl) (by omega) (Nat.le_of_ble_eq_true rfl) (Nat.le_of_ble_eq_true rfl) dX6_init_16 ?_
  refine pg_n (n1 := (a + 42)) (kc1 := 41) (ks1 := 1261) rfl rfl rfl ?_
  refine pg_dup C rfl dX6_init_19 ?_
  refine pg_goI C (a := (a + 41)) (mc := 281) (ms := 8812) (j := 3) (g1 := _) (ct_X0 (xl X) (xb X) (xD X) (a + 41) _ (by omega) (by simp (disch := omega) only [up_eq])) pm_116 pm_6 pm_118 pm_117 ⟨⟨by decide, by decide⟩, by decide +kernel, rfl⟩ (by omega) ⟨Nat.le_of_ble_eq_true rfl, Nat.le_of_ble_eq_true rfl⟩ ⟨Nat.le_of_ble_eq_true rfl, Nat.le_of_ble_eq_true rfl⟩ (Nat.le_of_ble_eq_true rfl) dX6_init_20 ?_
  refine pg_n (n1 := (a + 323)) (kc1 := 322) (ks1 := 10073) rfl rfl rfl ?_
  refine pg_putF C hin (ci := 6) (CN := RX6) (T := TX6) (N := 6) (ty0 := tyX6) (slot := 1) (a := a) [.ref (xb X + (a + 1)), .null, .null, .null, .null, .null] [.ref (xb X + (a + 1)), .ref (xb X + (a + 41)), .null, .null, .null, .null] (by omega) (by simp (disch := omega) only [up_eq, up_ne, pc_mu_lt, pc_mu_eq, pc_mu_gt, cut_lt, hg]) rfl rfl inX6 tyX6_ok nmX6 (by decide) pm_194 rfl rfl rfl (tyX6_ok 1 (by decide)) rfl rfl (Nat.le_of_ble_eq_true rfl) dX6_init_23 ?_
  refine pg_aload0 C dX6_init_26 ?_
  refine pg_new C (ci := 4) (CN := RX4) (T := TX4) (ty := tyX4) [.null, .int 0, .int 0, .int 0, .int 0, .int 0, .int 0, .null, .int 0] tyX4_ok inX4 pm_134 pm_135 pm_7 rfl (fun j hj => by rcases (show j = 0 ∨ j = 1 ∨ j = 2 ∨ j = 3 ∨ j = 4 ∨ j = 5 ∨ j = 6 ∨ j = 7 ∨ j = 8 by omega) with rfl | rfl | rfl | rfl | rfl | rfl | rfl | rfl | rfl <;> rfl) (by omega) (Nat.le_of_ble_eq_true rfl) (Nat.le_of_ble_eq_true rfl) dX6_init_27 ?_
  refine pg_n (n1 := (a + 324)) (kc1 := 323) (ks1 := 10082) rfl rfl rfl ?_
  refine pg_dup C rfl dX6_init_30 ?_
  refine pg_goN C (a := (a + 323)) (mc := 3) (ms := 102) (j := 2) (g1 := _) (ct_X4 (xl X) (xb X) (xD X) (a + 323) _ (fun d hd => by rw [ha]; exact kn_r d hd) (by simp (disch := omega) only [up_eq])) C.2.1.2.1.1 pm_7 pm_138 pm_137 ⟨⟨by decide, by decide⟩, by decide +kernel, rfl⟩ (by omega) ⟨Nat.le_of_ble_eq_true rfl, Nat.le_of_ble_eq_true rfl⟩ ⟨Nat.le_of_ble_eq_true rfl, Nat.le_of_ble_eq_true rfl⟩ (Nat.le_of_ble_eq_true rfl) dX6_init_31 ?_
  refine pg_n (n1 := (a + 327)) (kc1 := 326) (ks1 := 10184) rfl rfl rfl ?_
  refine pg_putF C hin (ci := 6) (CN := RX6) (T := TX6) (N := 6) (ty0 := tyX6) (slot := 2) (a := a) [.ref (xb X + (a + 1)), .ref (xb X + (a + 41)), .null, .null, .null, .null] [.ref (xb X + (a + 1)), .ref (xb X + (a + 41)), .ref (xb X + (a + 323)), .null, .null, .null] (by omega) (by simp (disch := omega) only [up_eq, up_ne, pc_mu_lt, pc_mu_eq, pc_mu_gt, cut_lt, hg]) rfl rfl inX6 tyX6_ok nmX6 (by decide) pm_195 rfl rfl rfl (tyX6_ok 2 (by decide)) rfl rfl (Nat.le_of_ble_eq_true rfl) dX6_init_34 ?_
  refine pg_aload0 C dX6_init_37 ?_
  refine pg_iconst C dX6_init_38 pi_2 ?_
  refine pg_newq C (CN := RX1) (t0 := 4) (c := 14) (N := 2) pm_19 C.2.1.2.2.1 rfl (by decide) (by decide) (by decide) (by omega) (Nat.le_of_ble_eq_true rfl) (Nat.le_of_ble_eq_true rfl) dX6_init_39 ?_
  refine pg_n (n1 := (a + 328)) (kc1 := 327) (ks1 := 10186) rfl rfl rfl ?_
  refine pg_putF C hin (ci := 6) (CN := RX6) (T := TX6) (N := 6) (ty0 := tyX6) (slot := 3) (a := a) [.ref (xb X + (a + 1)), .ref (xb X + (a + 41)), .ref (xb X + (a + 323)), .null, .null, .null] [.ref (xb X + (a + 1)), .ref (xb X + (a + 41)), .ref (xb X + (a + 323)), .ref (xb X + (a + 327)), .null, .null] (by omega) (by simp (disch := omega) only [up_eq, up_ne, pc_mu_lt, pc_mu_eq, pc_mu_gt, cut_lt, hg]) rfl rfl inX6 tyX6_ok nmX6 (by decide) pm_196 rfl rfl rfl (tyX6_ok 3 (by decide)) rfl rfl (Nat.le_of_ble_eq_true rfl) dX6_init_42 ?_
  refine pg_aload0 C dX6_init_45 ?_
  refine pg_iconst C dX6_init_46 pi_2 ?_
  refine pg_newa C (t0 := 2) (c := 12) (ty := .boolean) (N := 2) rfl rfl pm_212 rfl (fun _ _ h => h) (by decide) (by decide) (by decide) (by omega) (Nat.le_of_ble_eq_true rfl) (Nat.le_of_ble_eq_true rfl) dX6_init_47 ?_
  refine pg_n (n1 := (a + 329)) (kc1 := 328) (ks1 := 10188) rfl rfl rfl ?_
  refine pg_putF C hin (ci := 6) (CN := RX6) (T := TX6) (N := 6) (ty0 := tyX6) (slot := 4) (a := a) [.ref (xb X + (a + 1)), .ref (xb X + (a + 41)), .ref (xb X + (a + 323)), .ref (xb X + (a + 327)), .null, .null] [.ref (xb X + (a + 1)), .ref (xb X + (a + 41)), .ref (xb X + (a + 323)), .ref (xb X + (a + 327)), .ref (xb X + (a + 328)), .null] (by omega) (by simp (disch := omega) only [up_eq, up_ne, pc_mu_lt, pc_mu_eq, pc_mu_gt, cut_lt, hg]) rfl rfl inX6 tyX6_ok nmX6 (by decide) pm_197 rfl rfl rfl (tyX6_ok 4 (by decide)) rfl rfl (Nat.le_of_ble_eq_true rfl) dX6_init_49 ?_
  refine pg_aload0 C dX6_init_52 ?_
  refine pg_new C (ci := 3) (CN := RX3) (T := TX3) (ty := tyX3) [.null, .int 0, .int 0, .int 0, .int 0, .int 0] tyX3_ok inX3 pm_191 pm_55 pm_5 rfl (fun j hj => by rcases (show j = 0 ∨ j = 1 ∨ j = 2 ∨ j = 3 ∨ j = 4 ∨ j = 5 by omega) with rfl | rfl | rfl | rfl | rfl | rfl <;> rfl) (by omega) (Nat.le_of_ble_eq_true rfl) (Nat.le_of_ble_eq_true rfl) dX6_init_53 ?_
  refine pg_n (n1 := (a + 330)) (kc1 := 329) (ks1 := 10194) rfl rfl rfl ?_
  refine pg_dup C rfl dX6_init_56 ?_
  refine pg_goN C (a := (a + 329)) (mc := 5) (ms := 248) (j := 1) (g1 := _) (ct_X3 (xl X) (xb X) (xD X) (a + 329) _ (fun d hd => by rw [ha]; exact kn_p d hd) (by simp (disch := omega) only [up_eq])) C.2.1.2.1.2.1 pm_5 pm_58 pm_57 ⟨⟨by decide, by decide⟩, by decide +kernel, rfl⟩ (by omega) ⟨Nat.le_of_ble_eq_true rfl, Nat.le_of_ble_eq_true rfl⟩ ⟨Nat.le_of_ble_eq_true rfl, Nat.le_of_ble_eq_true rfl⟩ (Nat.le_of_ble_eq_true rfl) dX6_init_57 ?_
  refine pg_n (n1 := (a + 335)) (kc1 := 334) (ks1 := 10442) rfl rfl rfl ?_
  refine pg_putF C hin (ci := 6) (CN := RX6) (T := TX6) (N := 6) (ty0 := tyX6) (slot := 5) (a := a) [.ref (xb X + (a + 1)), .ref (xb X + (a + 41)), .ref (xb X + (a + 323)), .ref (xb X + (a + 327)), .ref (xb X + (a + 328)), .null] [.ref (xb X + (a + 1)), .ref (xb X + (a + 41)), .ref (xb X + (a + 323)), .ref (xb X + (a + 327)), .ref (xb X + (a + 328)), .ref (xb X + (a + 329))] (by omega) (by simp (disch := omega) only [up_eq, up_ne, pc_mu_lt, pc_mu_eq, pc_mu_gt, cut_lt, hg]) rfl rfl inX6 tyX6_ok nmX6 (by decide) pm_198 rfl rfl rfl (tyX6_ok 5 (by decide)) rfl rfl (Nat.le_of_ble_eq_true rfl) dX6_init_60 ?_
  refine pg_iconst C dX6_init_63 pi_0 ?_
  refine pg_istore1 C rfl dX6_init_64 ?_
  have loop : ∀ r i : Nat, r + i = 2 → pg X (a + 335 + 40 * i) (334 + 40 * i) (10442 + 1258 * i) (va_up (pc_cut (xb X) (xD X) a g) (a + 327) (.inl ((xD X).1 14, 2, .inr (.inr (.inr (.inr (fun j => if j < i then some (xb X + (a + 335 + 40 * j)) else none))))))) 65 [some (.ref (xb X + a)), some (.int (nI i))] [] := by
    intro r
    induction r with
    | zero =>
      intro i hi
      have hi4 : i = 2 := by omega
      subst hi4
      refine pg_iload1 C dX6_init_65 ?_
      refine pg_iconst C dX6_init_66 pi_2 ?_
      refine pg_icge C 89 dX6_init_67 rfl (fun _ => ?_) (fun c => absurd (by decide) c)
      refine pg_conv (g1 := pc_cut (xb X) (xD X) a g) (fun k hkn q H h => ?_) (hfin _ _ dX6_init_89)
      by_cases c1 : k = a + 327
      · subst c1
        rw [up_eq] at h
        rw [cut_g0 (by omega), g0_at (show ps_kn (a + 327) = 18 from by rw [ha]; decide)]
        refine va_at_q (fun j hj => ?_) h
        show (if j < 2 then some (xb X + (a + 335 + 40 * j)) else none) = some (xb X + (a + 327 + 8 + 40 * j))
        rw [if_pos hj]
      · rw [up_ne c1] at h
        exact h
    | succ r ih =>
      intro i hi
      have hi3 : i < 2 := by omega
      refine pg_iload1 C dX6_init_65 ?_
      refine pg_iconst C dX6_init_66 pi_2 ?_
      refine pg_icge C 89 dX6_init_67 rfl (fun c => absurd c (by rcases (show i = 0 ∨ i = 1 by omega) with rfl | rfl <;> decide)) (fun _ => ?_)
      have hk14 : pc_cut (xb X) (xD X) a g a = .inr (6, [.ref (xb X + (a + 1)), .ref (xb X + (a + 41)), .ref (xb X + (a + 323)), .ref (xb X + (a + 327)), .ref (xb X + (a + 328)), .ref (xb X + (a + 329))]) := by rw [cut_g0 (Nat.le_refl _), g0_at (show ps_kn a = 0 from by rw [ha]; decide)]; rfl
      refine pg_aload0 C dX6_init_70 ?_
      refine pg_get C (ci := 6) (CN := RX6) (T := TX6) (N := 6) (slot := 3) (a := a) [.ref (xb X + (a + 1)), .ref (xb X + (a + 41)), .ref (xb X + (a + 323)), .ref (xb X + (a + 327)), .ref (xb X + (a + 328)), .ref (xb X + (a + 329))] (by omega) (by simp (disch := omega) only [up_ne, hk14]) rfl inX6 (by decide) pm_196 rfl rfl dX6_init_71 ?_
      refine pg_iload1 C dX6_init_74 ?_
      refine pg_new C (ci := 1) (CN := RX1) (T := TX1) (ty := tyX1) [.null, .null, .null, .int 0, .int 0, .null] tyX1_ok inX1 pm_19 pm_20 pm_2 rfl (fun j hj => by rcases (show j = 0 ∨ j = 1 ∨ j = 2 ∨ j = 3 ∨ j = 4 ∨ j = 5 by omega) with rfl | rfl | rfl | rfl | rfl | rfl <;> rfl) (by omega) (by show _ ≤ 414; omega) (by show _ ≤ 12958; omega) dX6_init_75 ?_
      skip
      refine pg_dup C rfl dX6_init_78 ?_
      refine pg_goI C (a := a + 335 + 40 * i) (mc := 39) (ms := 1252) (j := 2) (g1 := _) (ct_X1 (xl X) (xb X) (xD X) (a + 335 + 40 * i) _ (fun d hd => by rw [ha]; exact kn_X6 i hi3 d hd) (by simp (disch := omega) only [up_eq])) pm_21 pm_2 pm_23 pm_22 ⟨⟨by decide, by decide⟩, by decide +kernel, rfl⟩ (by omega) ⟨Nat.le_of_ble_eq_true rfl, Nat.le_of_ble_eq_true rfl⟩ ⟨by show _ ≤ 414; omega, by show _ ≤ 12958; omega⟩ (Nat.le_of_ble_eq_true rfl) dX6_init_79 ?_
      skip
      have hk9 : ps_kn (a + 335 + 40 * i) = 1 := by
        have := kn_X6 i hi3 0 (by omega)
        rw [ha]
        exact this
      refine pg_astq C (a := a + 327) (q := a + 335 + 40 * i) (c := 14) (t0 := 4) (ci := 1) (N := 2) (j := i) (r := (RX1, TX1, 6)) (f := fun j => if j < i then some (xb X + (a + 335 + 40 * j)) else none) (vs := [.ref (xb X + (a + 335 + 40 * i + 1)), .ref (xb X + (a + 335 + 40 * i + 2)), .ref (xb X + (a + 335 + 40 * i + 14)), .int (pc_i 1 3), .int (pc_i 1 4), .ref (xb X + (a + 335 + 40 * i + 15))]) (by omega) (by simp (disch := omega) only [up_eq, up_ne, cut_lt]) rfl (by omega) (by rw [cut_g0 (Nat.le_refl _), g0_at hk9]; rfl) rfl (by rcases (show i = 0 ∨ i = 1 by omega) with rfl | rfl <;> decide) (by rcases (show i = 0 ∨ i = 1 by omega) with rfl | rfl <;> decide) dX6_init_82 ?_
      refine pg_iinc1 C rfl (y := nI (i + 1)) (nI_add i 1) dX6_init_83 ?_
      refine pg_goto C 65 dX6_init_86 rfl ?_
      refine pg_n (n1 := a + 335 + 40 * (i + 1)) (kc1 := 334 + 40 * (i + 1)) (ks1 := 10442 + 1258 * (i + 1)) (by omega) (by omega) (by omega) ?_
      refine pg_conv (fun k hkn q H h => ?_) (ih (i + 1) (by omega))
      by_cases c1 : k = a + 327
      · subst c1
        rw [up_eq] at h
        rw [up_eq]
        refine va_at_q (fun j hj => ?_) h
        unfold va_up
        by_cases e : j = i
        · rw [if_pos e, if_pos (by omega), e]
        · rw [if_neg e]
          show (if j < i then some (xb X + (a + 335 + 40 * j)) else none) = _
          by_cases e2 : j < i
          · rw [if_pos e2, if_pos (by omega)]
          · rw [if_neg e2, if_neg (by omega)]
      · rw [up_ne c1] at h
        rw [up_ne c1]
        by_cases c2 : k < a + 335 + 40 * i
        · rw [cut_lt c2, up_ne (by omega), up_ne c1] at h
          exact h
        · rw [cut_g0 (by omega)] at h
          rw [cut_g0 (by omega)]
          exact h
  refine pg_n (n1 := a + 335 + 40 * 0) (kc1 := 334 + 40 * 0) (ks1 := 10442 + 1258 * 0) rfl rfl rfl ?_
  refine pg_conv (fun k hkn q H h => ?_) (loop 2 0 rfl)
  by_cases c14 : k = a + 327
  · subst c14
    rw [up_eq]
    simp (disch := omega) only [up_eq, up_ne, cut_lt, cut_g0] at h
    exact h
  rw [up_ne c14]
  by_cases c0 : k < a
  · rw [cut_lt c0]
    simp (disch := omega) only [up_eq, up_ne, pc_mu_lt, pc_mu_eq, pc_mu_gt, cut_lt] at h
    exact h
  rw [cut_g0 (by omega)]
  by_cases c1 : (a + 1) ≤ k ∧ k < (a + 41)
  · simp (disch := omega) only [up_eq, up_ne, cut_lt, cut_g0] at h
    exact h
  by_cases c41 : (a + 41) ≤ k ∧ k < (a + 323)
  · simp (disch := omega) only [up_eq, up_ne, cut_lt, cut_g0] at h
    exact h
  by_cases c323 : (a + 323) ≤ k ∧ k < (a + 327)
  · simp (disch := omega) only [up_eq, up_ne, cut_lt, cut_g0] at h
    exact h
  by_cases c329 : (a + 329) ≤ k ∧ k < (a + 335)
  · simp (disch := omega) only [up_eq, up_ne, cut_lt, cut_g0] at h
    exact h
  rcases (show k = a ∨ k = (a + 328) by omega) with rfl | rfl
  · rw [g0_at (show ps_kn k = 0 from by rw [ha]; decide)]
    simp (disch := omega) only [up_eq, up_ne, pc_mu_lt, pc_mu_eq, pc_mu_gt, cut_lt] at h
    exact h
  · rw [g0_at (show ps_kn (a + 328) = 19 from by rw [ha]; decide)]
    simp (disch := omega) only [up_eq, up_ne, pc_mu_lt, pc_mu_eq, pc_mu_gt, cut_lt] at h
    exact h
