theorem ps_end_i {X : ps_X} {v r : Int32} {M5 M9 : ps_M} {cc : ByteArray} {ty : FieldType} {pc : Nat} {lv : List (Option Value)} (h : some (v, M5) = some (r, M9)) (hfin : ∀ pc lv, decode cc pc = .ok (.ireturn, 1) → narrow ty (.int r) = .int r → ps_G X M9 pc lv [.int r]) (hd : decode cc pc = .ok (.ireturn, 1)) (hn : narrow ty (.int v) = .int v) : ps_G X M5 pc lv [.int v] := by
  cases h
  exact hfin _ _ hd hn
theorem ps_end_v {X : ps_X} {v r : Int32} {M5 M9 : ps_M} {cc : ByteArray} {pc : Nat} {lv : List (Option Value)} (h : some (v, M5) = some (r, M9)) (hfin : ∀ pc lv, decode cc pc = .ok (.return_, 1) → ps_G X M9 pc lv []) (hd : decode cc pc = .ok (.return_, 1)) : ps_G X M5 pc lv [] := by
  cases h
  exact hfin _ _ hd
theorem ps_le_0 : ps_le [] [] := trivial
theorem ps_le_n {x : Option Value} {a b : List (Option Value)} (h : ps_le a b) : ps_le (none :: a) (x :: b) := h
theorem ps_le_s {x : Option Value} {v : Value} {a b : List (Option Value)} (e : x = some v) (h : ps_le a b) : ps_le (some v :: a) (x :: b) := ⟨e, h⟩
theorem ps_alen {X : ps_X} {own : String} {cc : ByteArray} (C : ps_C X own cc) {M : ps_M} {pc : Nat} {lv : List (Option Value)} {stk : List Value} {κ a n : Nat} {v : Int32} (hk : ps_ck κ a = true) (hE : ∀ f r, ps_cel (xb X) (xD X) κ a f r = .inl ((xD X).1 10, n, .inl f)) (hv : Int32.ofNat n = v) (hd : decode cc pc = .ok (.arraylength, 1)) (k : ps_G X M (pc + 1) lv (.int v :: stk)) : ps_G X M pc lv (.ref (xb X + a) :: stk) := fun H locs ls hP hR hS hl => va_alen C.1 C.2.1 C.2.2.2.2.2.1.1 hP a 0 (by rw [ps_wl_get hk, hE]) rfl hv hd (k H locs ls hP hR hS hl)
theorem ps_lookD {x : Int32} {a b c d e : Int} {p q r s t f : Int} (h1 : ¬ x.toInt = a) (h2 : ¬ x.toInt = b) (h3 : ¬ x.toInt = c) (h4 : ¬ x.toInt = d) (h5 : ¬ x.toInt = e) : Op.lookupswitch.offset [(a, p), (b, q), (c, r), (d, s), (e, t)] f x.toInt = f := by
  simp [Op.lookupswitch.offset, Ne.symm h1, Ne.symm h2, Ne.symm h3, Ne.symm h4, Ne.symm h5]
theorem pi_0 : Int32.ofInt (0) = (nI 0) := by decide
theorem pb_8 : (Int8.ofInt (8)).toInt32 = (nI 8) := by decide
theorem pm_35 : Cond.fieldLink RX5 16 RX5 "lengths" "[I" ∈ ps_T := ps_in 35 (by decide +kernel) (by decide +kernel)
theorem gf_X5_16 {X : ps_X} {cc : ByteArray} (C : ps_C X RX5 cc) {M : ps_M} {pc : Nat} {lv : List (Option Value)} {stk : List Value} {a : Nat} (hk : ps_ck 3 a = true) (hd : decode cc pc = .ok (.getfield 16, 3)) (k : ps_G X M (pc + 3) lv (.ref (xb X + (a + 10)) :: stk)) : ps_G X M pc lv (.ref (xb X + a) :: stk) := ps_get C (κ := 3) (ci := 5) (slot := 1) (CN := RX5) (T := TX5) (N := 4) hk rfl rfl inX5 (by decide) pm_35 rfl rfl hd k
theorem kf_3_10 {a : Nat} (h : ps_ck 3 a = true) : ps_ck 6 (a + 10) = true := (by decide +kernel : ∀ a, a < 425 → ps_ck 3 a = true → ps_ck 6 (a + 10) = true) a (ps_ck_lt h) h
theorem pm_230 : Cond.methodLink RX5 27 arraycopyName ∈ ps_T := ps_in 230 (by decide +kernel) (by decide +kernel)
theorem pm_55 : Cond.native arraycopyName ∈ ps_T := ps_in 55 (by decide +kernel) (by decide +kernel)
theorem pm_54 : Cond.static arraycopyName ∈ ps_T := ps_in 54 (by decide +kernel) (by decide +kernel)
theorem pm_4 : Cond.initialized RJ10 ∈ ps_T := ps_in 4 (by decide +kernel) (by decide +kernel)
theorem cw_X5_27 : Cond.methodLink RX5 27 arraycopyName ∈ ps_T ∧ Cond.native arraycopyName ∈ ps_T ∧ Cond.static arraycopyName ∈ ps_T ∧ Cond.initialized "java/lang/System" ∈ ps_T := ⟨pm_230, pm_55, pm_54, pm_4⟩
theorem pm_36 : Cond.fieldLink RX5 20 RX5 "lessons" "[I" ∈ ps_T := ps_in 36 (by decide +kernel) (by decide +kernel)
theorem gf_X5_20 {X : ps_X} {cc : ByteArray} (C : ps_C X RX5 cc) {M : ps_M} {pc : Nat} {lv : List (Option Value)} {stk : List Value} {a : Nat} (hk : ps_ck 3 a = true) (hd : decode cc pc = .ok (.getfield 20, 3)) (k : ps_G X M (pc + 3) lv (.ref (xb X + (a + 11)) :: stk)) : ps_G X M pc lv (.ref (xb X + a) :: stk) := ps_get C (κ := 3) (ci := 5) (slot := 2) (CN := RX5) (T := TX5) (N := 4) hk rfl rfl inX5 (by decide) pm_36 rfl rfl hd k
theorem kf_3_11 {a : Nat} (h : ps_ck 3 a = true) : ps_ck 6 (a + 11) = true := (by decide +kernel : ∀ a, a < 425 → ps_ck 3 a = true → ps_ck 6 (a + 11) = true) a (ps_ck_lt h) h
theorem pm_37 : Cond.fieldLink RX5 23 RX5 "count" "I" ∈ ps_T := ps_in 37 (by decide +kernel) (by decide +kernel)
theorem gf_X5_23 {X : ps_X} {cc : ByteArray} (C : ps_C X RX5 cc) {M : ps_M} {pc : Nat} {lv : List (Option Value)} {stk : List Value} {a : Nat} (hk : ps_ck 3 a = true) (hd : decode cc pc = .ok (.getfield 23, 3)) (k : ps_G X M (pc + 3) lv (.int (ps_rd M a 3) :: stk)) : ps_G X M pc lv (.ref (xb X + a) :: stk) := ps_get C (κ := 3) (ci := 5) (slot := 3) (CN := RX5) (T := TX5) (N := 4) hk rfl rfl inX5 (by decide) pm_37 rfl rfl hd k
theorem pf_X5_23 {X : ps_X} {cc : ByteArray} (C : ps_C X RX5 cc) {M : ps_M} {pc : Nat} {lv : List (Option Value)} {stk : List Value} {a : Nat} (hk : ps_ck 3 a = true) {x : Int32} (hd : decode cc pc = .ok (.putfield 23, 3)) (k : ∀ M1, M1 = ps_st M a 3 x → ps_G X M1 (pc + 3) lv stk) : ps_G X M pc lv (.int x :: .ref (xb X + a) :: stk) := ps_put C (κ := 3) (ci := 5) (slot := 3) (CN := RX5) (T := TX5) (N := 4) (ty0 := tyX5) (ps_st M a 3 x) hk rfl (by rw [ps_st_self]; rfl) ps_st_ho (fun h => h) rfl inX5 tyX5_ok nmX5 (by decide) pm_37 rfl rfl (tyX5_ok 3 (by decide)) rfl rfl (Nat.le_of_ble_eq_true rfl) hd (k _ rfl)
theorem pm_34 : Cond.fieldLink RX5 11 RX5 "bars" "[[I" ∈ ps_T := ps_in 34 (by decide +kernel) (by decide +kernel)
theorem gf_X5_11 {X : ps_X} {cc : ByteArray} (C : ps_C X RX5 cc) {M : ps_M} {pc : Nat} {lv : List (Option Value)} {stk : List Value} {a : Nat} (hk : ps_ck 3 a = true) (hd : decode cc pc = .ok (.getfield 11, 3)) (k : ps_G X M (pc + 3) lv (.ref (xb X + (a + 1)) :: stk)) : ps_G X M pc lv (.ref (xb X + a) :: stk) := ps_get C (κ := 3) (ci := 5) (slot := 0) (CN := RX5) (T := TX5) (N := 4) hk rfl rfl inX5 (by decide) pm_34 rfl rfl hd k
theorem kf_3_1 {a : Nat} (h : ps_ck 3 a = true) : ps_ck 4 (a + 1) = true := (by decide +kernel : ∀ a, a < 425 → ps_ck 3 a = true → ps_ck 4 (a + 1) = true) a (ps_ck_lt h) h
theorem ke_4 {a : Nat} {i : Int32} (h : ps_ck 4 a = true) (hi : ps_inB i 8 = true) : ps_ck 5 (a + 1 + i.toNatClampNeg) = true := (by decide +kernel : ∀ a, a < 425 → ps_ck 4 a = true → ∀ j, j < 8 → ps_ck 5 (a + 1 + j) = true) a (ps_ck_lt h) h _ (ps_inB_lt hi)
theorem pb_20 : (Int8.ofInt (20)).toInt32 = (nI 20) := by decide
theorem pi_1 : Int32.ofInt (1) = (nI 1) := by decide
theorem pi_4 : Int32.ofInt (4) = (nI 4) := by decide
theorem pm_63 : Cond.fieldLink RX3 16 RX3 "count" "I" ∈ ps_T := ps_in 63 (by decide +kernel) (by decide +kernel)
theorem gf_X3_16 {X : ps_X} {cc : ByteArray} (C : ps_C X RX3 cc) {M : ps_M} {pc : Nat} {lv : List (Option Value)} {stk : List Value} {a : Nat} (hk : ps_ck 9 a = true) (hd : decode cc pc = .ok (.getfield 16, 3)) (k : ps_G X M (pc + 3) lv (.int (ps_rd M a 1) :: stk)) : ps_G X M pc lv (.ref (xb X + a) :: stk) := ps_get C (κ := 9) (ci := 3) (slot := 1) (CN := RX3) (T := TX3) (N := 6) hk rfl rfl inX3 (by decide) pm_63 rfl rfl hd k
theorem pf_X3_16 {X : ps_X} {cc : ByteArray} (C : ps_C X RX3 cc) {M : ps_M} {pc : Nat} {lv : List (Option Value)} {stk : List Value} {a : Nat} (hk : ps_ck 9 a = true) {x : Int32} (hd : decode cc pc = .ok (.putfield 16, 3)) (k : ∀ M1, M1 = ps_st M a 1 x → ps_G X M1 (pc + 3) lv stk) : ps_G X M pc lv (.int x :: .ref (xb X + a) :: stk) := ps_put C (κ := 9) (ci := 3) (slot := 1) (CN := RX3) (T := TX3) (N := 6) (ty0 := tyX3) (ps_st M a 1 x) hk rfl (by rw [ps_st_self]; rfl) ps_st_ho (fun h => h) rfl inX3 tyX3_ok nmX3 (by decide) pm_63 rfl rfl (tyX3_ok 1 (by decide)) rfl rfl (Nat.le_of_ble_eq_true rfl) hd (k _ rfl)
theorem pm_66 : Cond.fieldLink RX3 20 RX3 "last" "I" ∈ ps_T := ps_in 66 (by decide +kernel) (by decide +kernel)
theorem gf_X3_20 {X : ps_X} {cc : ByteArray} (C : ps_C X RX3 cc) {M : ps_M} {pc : Nat} {lv : List (Option Value)} {stk : List Value} {a : Nat} (hk : ps_ck 9 a = true) (hd : decode cc pc = .ok (.getfield 20, 3)) (k : ps_G X M (pc + 3) lv (.int (ps_rd M a 2) :: stk)) : ps_G X M pc lv (.ref (xb X + a) :: stk) := ps_get C (κ := 9) (ci := 3) (slot := 2) (CN := RX3) (T := TX3) (N := 6) hk rfl rfl inX3 (by decide) pm_66 rfl rfl hd k
theorem pf_X3_20 {X : ps_X} {cc : ByteArray} (C : ps_C X RX3 cc) {M : ps_M} {pc : Nat} {lv : List (Option Value)} {stk : List Value} {a : Nat} (hk : ps_ck 9 a = true) {x : Int32} (hd : decode cc pc = .ok (.putfield 20, 3)) (k : ∀ M1, M1 = ps_st M a 2 x → ps_G X M1 (pc + 3) lv stk) : ps_G X M pc lv (.int x :: .ref (xb X + a) :: stk) := ps_put C (κ := 9) (ci := 3) (slot := 2) (CN := RX3) (T := TX3) (N := 6) (ty0 := tyX3) (ps_st M a 2 x) hk rfl (by rw [ps_st_self]; rfl) ps_st_ho (fun h => h) rfl inX3 tyX3_ok nmX3 (by decide) pm_66 rfl rfl (tyX3_ok 2 (by decide)) rfl rfl (Nat.le_of_ble_eq_true rfl) hd (k _ rfl)
theorem pm_69 : Cond.fieldLink RX3 23 RX3 "heardToday" "I" ∈ ps_T := ps_in 69 (by decide +kernel) (by decide +kernel)
theorem gf_X3_23 {X : ps_X} {cc : ByteArray} (C : ps_C X RX3 cc) {M : ps_M} {pc : Nat} {lv : List (Option Value)} {stk : List Value} {a : Nat} (hk : ps_ck 9 a = true) (hd : decode cc pc = .ok (.getfield 23, 3)) (k : ps_G X M (pc + 3) lv (.int (ps_rd M a 3) :: stk)) : ps_G X M pc lv (.ref (xb X + a) :: stk) := ps_get C (κ := 9) (ci := 3) (slot := 3) (CN := RX3) (T := TX3) (N := 6) hk rfl rfl inX3 (by decide) pm_69 rfl rfl hd k
theorem pf_X3_23 {X : ps_X} {cc : ByteArray} (C : ps_C X RX3 cc) {M : ps_M} {pc : Nat} {lv : List (Option Value)} {stk : List Value} {a : Nat} (hk : ps_ck 9 a = true) {x : Int32} (hd : decode cc pc = .ok (.putfield 23, 3)) (k : ∀ M1, M1 = ps_st M a 3 x → ps_G X M1 (pc + 3) lv stk) : ps_G X M pc lv (.int x :: .ref (xb X + a) :: stk) := ps_put C (κ := 9) (ci := 3) (slot := 3) (CN := RX3) (T := TX3) (N := 6) (ty0 := tyX3) (ps_st M a 3 x) hk rfl (by rw [ps_st_self]; rfl) ps_st_ho (fun h => h) rfl inX3 tyX3_ok nmX3 (by decide) pm_69 rfl rfl (tyX3_ok 3 (by decide)) rfl rfl (Nat.le_of_ble_eq_true rfl) hd (k _ rfl)
theorem pm_72 : Cond.fieldLink RX3 26 RX3 "heardInAll" "I" ∈ ps_T := ps_in 72 (by decide +kernel) (by decide +kernel)
theorem gf_X3_26 {X : ps_X} {cc : ByteArray} (C : ps_C X RX3 cc) {M : ps_M} {pc : Nat} {lv : List (Option Value)} {stk : List Value} {a : Nat} (hk : ps_ck 9 a = true) (hd : decode cc pc = .ok (.getfield 26, 3)) (k : ps_G X M (pc + 3) lv (.int (ps_rd M a 4) :: stk)) : ps_G X M pc lv (.ref (xb X + a) :: stk) := ps_get C (κ := 9) (ci := 3) (slot := 4) (CN := RX3) (T := TX3) (N := 6) hk rfl rfl inX3 (by decide) pm_72 rfl rfl hd k
theorem pf_X3_26 {X : ps_X} {cc : ByteArray} (C : ps_C X RX3 cc) {M : ps_M} {pc : Nat} {lv : List (Option Value)} {stk : List Value} {a : Nat} (hk : ps_ck 9 a = true) {x : Int32} (hd : decode cc pc = .ok (.putfield 26, 3)) (k : ∀ M1, M1 = ps_st M a 4 x → ps_G X M1 (pc + 3) lv stk) : ps_G X M pc lv (.int x :: .ref (xb X + a) :: stk) := ps_put C (κ := 9) (ci := 3) (slot := 4) (CN := RX3) (T := TX3) (N := 6) (ty0 := tyX3) (ps_st M a 4 x) hk rfl (by rw [ps_st_self]; rfl) ps_st_ho (fun h => h) rfl inX3 tyX3_ok nmX3 (by decide) pm_72 rfl rfl (tyX3_ok 4 (by decide)) rfl rfl (Nat.le_of_ble_eq_true rfl) hd (k _ rfl)
theorem pm_75 : Cond.fieldLink RX3 29 RX3 "forgotten" "I" ∈ ps_T := ps_in 75 (by decide +kernel) (by decide +kernel)
theorem gf_X3_29 {X : ps_X} {cc : ByteArray} (C : ps_C X RX3 cc) {M : ps_M} {pc : Nat} {lv : List (Option Value)} {stk : List Value} {a : Nat} (hk : ps_ck 9 a = true) (hd : decode cc pc = .ok (.getfield 29, 3)) (k : ps_G X M (pc + 3) lv (.int (ps_rd M a 5) :: stk)) : ps_G X M pc lv (.ref (xb X + a) :: stk) := ps_get C (κ := 9) (ci := 3) (slot := 5) (CN := RX3) (T := TX3) (N := 6) hk rfl rfl inX3 (by decide) pm_75 rfl rfl hd k
theorem pf_X3_29 {X : ps_X} {cc : ByteArray} (C : ps_C X RX3 cc) {M : ps_M} {pc : Nat} {lv : List (Option Value)} {stk : List Value} {a : Nat} (hk : ps_ck 9 a = true) {x : Int32} (hd : decode cc pc = .ok (.putfield 29, 3)) (k : ∀ M1, M1 = ps_st M a 5 x → ps_G X M1 (pc + 3) lv stk) : ps_G X M pc lv (.int x :: .ref (xb X + a) :: stk) := ps_put C (κ := 9) (ci := 3) (slot := 5) (CN := RX3) (T := TX3) (N := 6) (ty0 := tyX3) (ps_st M a 5 x) hk rfl (by rw [ps_st_self]; rfl) ps_st_ho (fun h => h) rfl inX3 tyX3_ok nmX3 (by decide) pm_75 rfl rfl (tyX3_ok 5 (by decide)) rfl rfl (Nat.le_of_ble_eq_true rfl) hd (k _ rfl)
theorem pm_62 : Cond.fieldLink RX3 13 RX3 "links" "[[I" ∈ ps_T := ps_in 62 (by decide +kernel) (by decide +kernel)
theorem gf_X3_13 {X : ps_X} {cc : ByteArray} (C : ps_C X RX3 cc) {M : ps_M} {pc : Nat} {lv : List (Option Value)} {stk : List Value} {a : Nat} (hk : ps_ck 9 a = true) (hd : decode cc pc = .ok (.getfield 13, 3)) (k : ps_G X M (pc + 3) lv (.ref (xb X + (a + 1)) :: stk)) : ps_G X M pc lv (.ref (xb X + a) :: stk) := ps_get C (κ := 9) (ci := 3) (slot := 0) (CN := RX3) (T := TX3) (N := 6) hk rfl rfl inX3 (by decide) pm_62 rfl rfl hd k
theorem kf_9_1 {a : Nat} (h : ps_ck 9 a = true) : ps_ck 10 (a + 1) = true := (by decide +kernel : ∀ a, a < 425 → ps_ck 9 a = true → ps_ck 10 (a + 1) = true) a (ps_ck_lt h) h
theorem ke_10 {a : Nat} {i : Int32} (h : ps_ck 10 a = true) (hi : ps_inB i 4 = true) : ps_ck 11 (a + 1 + i.toNatClampNeg) = true := (by decide +kernel : ∀ a, a < 425 → ps_ck 10 a = true → ∀ j, j < 4 → ps_ck 11 (a + 1 + j) = true) a (ps_ck_lt h) h _ (ps_inB_lt hi)
theorem pb_61 : (Int8.ofInt (61)).toInt32 = (nI 61) := by decide
theorem pm_235 : Cond.methodLink RX3 32 arraycopyName ∈ ps_T := ps_in 235 (by decide +kernel) (by decide +kernel)
theorem cw_X3_32 : Cond.methodLink RX3 32 arraycopyName ∈ ps_T ∧ Cond.native arraycopyName ∈ ps_T ∧ Cond.static arraycopyName ∈ ps_T ∧ Cond.initialized "java/lang/System" ∈ ps_T := ⟨pm_235, pm_55, pm_54, pm_4⟩
theorem pm_91 : Cond.fieldLink RX1 9 RX1 "settings" "[I" ∈ ps_T := ps_in 91 (by decide +kernel) (by decide +kernel)
theorem gf_X1_9 {X : ps_X} {cc : ByteArray} (C : ps_C X RX1 cc) {M : ps_M} {pc : Nat} {lv : List (Option Value)} {stk : List Value} {a : Nat} (hk : ps_ck 1 a = true) (hd : decode cc pc = .ok (.getfield 9, 3)) (k : ps_G X M (pc + 3) lv (.ref (xb X + (a + 1)) :: stk)) : ps_G X M pc lv (.ref (xb X + a) :: stk) := ps_get C (κ := 1) (ci := 1) (slot := 0) (CN := RX1) (T := TX1) (N := 6) hk rfl rfl inX1 (by decide) pm_91 rfl rfl hd k
theorem kf_1_1 {a : Nat} (h : ps_ck 1 a = true) : ps_ck 2 (a + 1) = true := (by decide +kernel : ∀ a, a < 425 → ps_ck 1 a = true → ps_ck 2 (a + 1) = true) a (ps_ck_lt h) h
theorem pm_53 : Cond.methodLink RX1 41 arraycopyName ∈ ps_T := ps_in 53 (by decide +kernel) (by decide +kernel)
theorem cw_X1_41 : Cond.methodLink RX1 41 arraycopyName ∈ ps_T ∧ Cond.native arraycopyName ∈ ps_T ∧ Cond.static arraycopyName ∈ ps_T ∧ Cond.initialized "java/lang/System" ∈ ps_T := ⟨pm_53, pm_55, pm_54, pm_4⟩
theorem pm_93 : Cond.fieldLink RX1 18 RX1 "songs" "LParrotSongs$Songbook;" ∈ ps_T := ps_in 93 (by decide +kernel) (by decide +kernel)
theorem gf_X1_18 {X : ps_X} {cc : ByteArray} (C : ps_C X RX1 cc) {M : ps_M} {pc : Nat} {lv : List (Option Value)} {stk : List Value} {a : Nat} (hk : ps_ck 1 a = true) (hd : decode cc pc = .ok (.getfield 18, 3)) (k : ps_G X M (pc + 3) lv (.ref (xb X + (a + 2)) :: stk)) : ps_G X M pc lv (.ref (xb X + a) :: stk) := ps_get C (κ := 1) (ci := 1) (slot := 1) (CN := RX1) (T := TX1) (N := 6) hk rfl rfl inX1 (by decide) pm_93 rfl rfl hd k
theorem kf_1_2 {a : Nat} (h : ps_ck 1 a = true) : ps_ck 3 (a + 2) = true := (by decide +kernel : ∀ a, a < 425 → ps_ck 1 a = true → ps_ck 3 (a + 2) = true) a (ps_ck_lt h) h
theorem pm_97 : Cond.fieldLink RX1 28 RX1 "parrotCount" "I" ∈ ps_T := ps_in 97 (by decide +kernel) (by decide +kernel)
theorem gf_X1_28 {X : ps_X} {cc : ByteArray} (C : ps_C X RX1 cc) {M : ps_M} {pc : Nat} {lv : List (Option Value)} {stk : List Value} {a : Nat} (hk : ps_ck 1 a = true) (hd : decode cc pc = .ok (.getfield 28, 3)) (k : ps_G X M (pc + 3) lv (.int (ps_rd M a 3) :: stk)) : ps_G X M pc lv (.ref (xb X + a) :: stk) := ps_get C (κ := 1) (ci := 1) (slot := 3) (CN := RX1) (T := TX1) (N := 6) hk rfl rfl inX1 (by decide) pm_97 rfl rfl hd k
theorem pf_X1_28 {X : ps_X} {cc : ByteArray} (C : ps_C X RX1 cc) {M : ps_M} {pc : Nat} {lv : List (Option Value)} {stk : List Value} {a : Nat} (hk : ps_ck 1 a = true) {x : Int32} (hd : decode cc pc = .ok (.putfield 28, 3)) (k : ∀ M1, M1 = ps_st M a 3 x → ps_G X M1 (pc + 3) lv stk) : ps_G X M pc lv (.int x :: .ref (xb X + a) :: stk) := ps_put C (κ := 1) (ci := 1) (slot := 3) (CN := RX1) (T := TX1) (N := 6) (ty0 := tyX1) (ps_st M a 3 x) hk rfl (by rw [ps_st_self]; rfl) ps_st_ho (fun h => h) rfl inX1 tyX1_ok nmX1 (by decide) pm_97 rfl rfl (tyX1_ok 3 (by decide)) rfl rfl (Nat.le_of_ble_eq_true rfl) hd (k _ rfl)
theorem pm_99 : Cond.fieldLink RX1 32 RX1 "nights" "I" ∈ ps_T := ps_in 99 (by decide +kernel) (by decide +kernel)
theorem gf_X1_32 {X : ps_X} {cc : ByteArray} (C : ps_C X RX1 cc) {M : ps_M} {pc : Nat} {lv : List (Option Value)} {stk : List Value} {a : Nat} (hk : ps_ck 1 a = true) (hd : decode cc pc = .ok (.getfield 32, 3)) (k : ps_G X M (pc + 3) lv (.int (ps_rd M a 4) :: stk)) : ps_G X M pc lv (.ref (xb X + a) :: stk) := ps_get C (κ := 1) (ci := 1) (slot := 4) (CN := RX1) (T := TX1) (N := 6) hk rfl rfl inX1 (by decide) pm_99 rfl rfl hd k
theorem pf_X1_32 {X : ps_X} {cc : ByteArray} (C : ps_C X RX1 cc) {M : ps_M} {pc : Nat} {lv : List (Option Value)} {stk : List Value} {a : Nat} (hk : ps_ck 1 a = true) {x : Int32} (hd : decode cc pc = .ok (.putfield 32, 3)) (k : ∀ M1, M1 = ps_st M a 4 x → ps_G X M1 (pc + 3) lv stk) : ps_G X M pc lv (.int x :: .ref (xb X + a) :: stk) := ps_put C (κ := 1) (ci := 1) (slot := 4) (CN := RX1) (T := TX1) (N := 6) (ty0 := tyX1) (ps_st M a 4 x) hk rfl (by rw [ps_st_self]; rfl) ps_st_ho (fun h => h) rfl inX1 tyX1_ok nmX1 (by decide) pm_99 rfl rfl (tyX1_ok 4 (by decide)) rfl rfl (Nat.le_of_ble_eq_true rfl) hd (k _ rfl)
theorem pm_95 : Cond.fieldLink RX1 24 RX1 "parrots" "[LParrotSongs$Parrot;" ∈ ps_T := ps_in 95 (by decide +kernel) (by decide +kernel)
theorem gf_X1_24 {X : ps_X} {cc : ByteArray} (C : ps_C X RX1 cc) {M : ps_M} {pc : Nat} {lv : List (Option Value)} {stk : List Value} {a : Nat} (hk : ps_ck 1 a = true) (hd : decode cc pc = .ok (.getfield 24, 3)) (k : ps_G X M (pc + 3) lv (.ref (xb X + (a + 14)) :: stk)) : ps_G X M pc lv (.ref (xb X + a) :: stk) := ps_get C (κ := 1) (ci := 1) (slot := 2) (CN := RX1) (T := TX1) (N := 6) hk rfl rfl inX1 (by decide) pm_95 rfl rfl hd k
theorem kf_1_14 {a : Nat} (h : ps_ck 1 a = true) : ps_ck 7 (a + 14) = true := (by decide +kernel : ∀ a, a < 425 → ps_ck 1 a = true → ps_ck 7 (a + 14) = true) a (ps_ck_lt h) h
theorem ke_7 {a : Nat} {i : Int32} (h : ps_ck 7 a = true) (hi : ps_inB i 4 = true) : ps_ck 9 (a + 2 + 6 * i.toNatClampNeg) = true := (by decide +kernel : ∀ a, a < 425 → ps_ck 7 a = true → ∀ j, j < 4 → ps_ck 9 (a + 2 + 6 * j) = true) a (ps_ck_lt h) h _ (ps_inB_lt hi)
theorem pm_231 : Cond.methodLink RX1 52 yX3_copyFrom ∈ ps_T := ps_in 231 (by decide +kernel) (by decide +kernel)
theorem pm_232 : Cond.instanceMethod yX3_copyFrom ∈ ps_T := ps_in 232 (by decide +kernel) (by decide +kernel)
theorem pm_233 : Cond.selects RX3 yX3_copyFrom yX3_copyFrom ∈ ps_T := ps_in 233 (by decide +kernel) (by decide +kernel)
theorem pm_5 : Cond.initialized RX3 ∈ ps_T := ps_in 5 (by decide +kernel) (by decide +kernel)
theorem pm_234 : Cond.code yX3_copyFrom cX3_copyFrom 3 none ∈ ps_T := ps_in 234 (by decide +kernel) (by decide +kernel)
theorem cw_X1_52 : ps_cwV RX1 52 RX3 yX3_copyFrom cX3_copyFrom 3 none 1 := ⟨⟨pm_231, pm_232, pm_233, pm_5, pm_234⟩, ⟨by decide, by decide⟩, by decide +kernel⟩
theorem pm_226 : Cond.methodLink RX1 48 yX5_copyFrom ∈ ps_T := ps_in 226 (by decide +kernel) (by decide +kernel)
theorem pm_227 : Cond.instanceMethod yX5_copyFrom ∈ ps_T := ps_in 227 (by decide +kernel) (by decide +kernel)
theorem pm_228 : Cond.selects RX5 yX5_copyFrom yX5_copyFrom ∈ ps_T := ps_in 228 (by decide +kernel) (by decide +kernel)
theorem pm_3 : Cond.initialized RX5 ∈ ps_T := ps_in 3 (by decide +kernel) (by decide +kernel)
theorem pm_229 : Cond.code yX5_copyFrom cX5_copyFrom 3 none ∈ ps_T := ps_in 229 (by decide +kernel) (by decide +kernel)
theorem cw_X1_48 : ps_cwV RX1 48 RX5 yX5_copyFrom cX5_copyFrom 3 none 1 := ⟨⟨pm_226, pm_227, pm_228, pm_3, pm_229⟩, ⟨by decide, by decide⟩, by decide +kernel⟩
theorem pm_125 : Cond.fieldLink RX0 16 RX0 "before" "LParrotSongs$House;" ∈ ps_T := ps_in 125 (by decide +kernel) (by decide +kernel)
theorem gf_X0_16 {X : ps_X} {cc : ByteArray} (C : ps_C X RX0 cc) {M : ps_M} {pc : Nat} {lv : List (Option Value)} {stk : List Value} {a : Nat} (hk : ps_ck 12 a = true) (hd : decode cc pc = .ok (.getfield 16, 3)) (k : ps_ck 1 (ps_rr M 6) = true → ps_G X M (pc + 3) lv (.ref (xb X + ps_rr M 6) :: stk)) : ps_G X M pc lv (.ref (xb X + a) :: stk) := fun H locs ls hP hR hS hl => ps_get C (κ := 12) (ci := 0) (slot := 1) (CN := RX0) (T := TX0) (N := 3) hk rfl rfl inX0 (by decide) pm_125 rfl rfl hd (k (hR 6 (by decide))) H locs ls hP hR hS hl
theorem pm_222 : Cond.methodLink RX0 24 yX1_copyFrom ∈ ps_T := ps_in 222 (by decide +kernel) (by decide +kernel)
theorem pm_223 : Cond.instanceMethod yX1_copyFrom ∈ ps_T := ps_in 223 (by decide +kernel) (by decide +kernel)
theorem pm_224 : Cond.selects RX1 yX1_copyFrom yX1_copyFrom ∈ ps_T := ps_in 224 (by decide +kernel) (by decide +kernel)
theorem pm_2 : Cond.initialized RX1 ∈ ps_T := ps_in 2 (by decide +kernel) (by decide +kernel)
theorem pm_225 : Cond.code yX1_copyFrom cX1_copyFrom 3 none ∈ ps_T := ps_in 225 (by decide +kernel) (by decide +kernel)
theorem cw_X0_24 : ps_cwV RX0 24 RX1 yX1_copyFrom cX1_copyFrom 3 none 1 := ⟨⟨pm_222, pm_223, pm_224, pm_2, pm_225⟩, ⟨by decide, by decide⟩, by decide +kernel⟩
theorem pi_m1 : Int32.ofInt (-1) = (ps_m 1) := by decide
theorem pb_m5 : (Int8.ofInt (-5)).toInt32 = (ps_m 5) := by decide
theorem pm_124 : Cond.fieldLink RX0 11 RX0 "states" "[LParrotSongs$House;" ∈ ps_T := ps_in 124 (by decide +kernel) (by decide +kernel)
theorem gf_X0_11 {X : ps_X} {cc : ByteArray} (C : ps_C X RX0 cc) {M : ps_M} {pc : Nat} {lv : List (Option Value)} {stk : List Value} {a : Nat} (hk : ps_ck 12 a = true) (hd : decode cc pc = .ok (.getfield 11, 3)) (k : ps_G X M (pc + 3) lv (.ref (xb X + (a + 1)) :: stk)) : ps_G X M pc lv (.ref (xb X + a) :: stk) := ps_get C (κ := 12) (ci := 0) (slot := 0) (CN := RX0) (T := TX0) (N := 3) hk rfl rfl inX0 (by decide) pm_124 rfl rfl hd k
theorem kf_12_1 {a : Nat} (h : ps_ck 12 a = true) : ps_ck 13 (a + 1) = true := (by decide +kernel : ∀ a, a < 425 → ps_ck 12 a = true → ps_ck 13 (a + 1) = true) a (ps_ck_lt h) h
theorem pb_6 : (Int8.ofInt (6)).toInt32 = (nI 6) := by decide
theorem pi_5 : Int32.ofInt (5) = (nI 5) := by decide
theorem pm_126 : Cond.fieldLink RX0 20 RX0 "count" "I" ∈ ps_T := ps_in 126 (by decide +kernel) (by decide +kernel)
theorem pf_X0_20 {X : ps_X} {cc : ByteArray} (C : ps_C X RX0 cc) {M : ps_M} {pc : Nat} {lv : List (Option Value)} {stk : List Value} {a : Nat} (hk : ps_ck 12 a = true) {x : Int32} (hd : decode cc pc = .ok (.putfield 20, 3)) (k : ∀ M1, M1 = ps_st M a 2 x → ps_G X M1 (pc + 3) lv stk) : ps_G X M pc lv (.int x :: .ref (xb X + a) :: stk) := ps_put C (κ := 12) (ci := 0) (slot := 2) (CN := RX0) (T := TX0) (N := 3) (ty0 := tyX0) (ps_st M a 2 x) hk rfl (by rw [ps_st_self]; rfl) ps_st_ho (fun h => h) rfl inX0 tyX0_ok nmX0 (by decide) pm_126 rfl rfl (tyX0_ok 2 (by decide)) rfl rfl (Nat.le_of_ble_eq_true rfl) hd (k _ rfl)
theorem gf_X0_20 {X : ps_X} {cc : ByteArray} (C : ps_C X RX0 cc) {M : ps_M} {pc : Nat} {lv : List (Option Value)} {stk : List Value} {a : Nat} (hk : ps_ck 12 a = true) (hd : decode cc pc = .ok (.getfield 20, 3)) (k : ps_G X M (pc + 3) lv (.int (ps_rd M a 2) :: stk)) : ps_G X M pc lv (.ref (xb X + a) :: stk) := ps_get C (κ := 12) (ci := 0) (slot := 2) (CN := RX0) (T := TX0) (N := 3) hk rfl rfl inX0 (by decide) pm_126 rfl rfl hd k
theorem pf_X0_16 {X : ps_X} {cc : ByteArray} (C : ps_C X RX0 cc) {M : ps_M} {pc : Nat} {lv : List (Option Value)} {stk : List Value} {a : Nat} (hk : ps_ck 12 a = true) {h : Nat} (hh : ps_ck 1 h = true) (hd : decode cc pc = .ok (.putfield 16, 3)) (k : ∀ M1, M1 = ps_sr M 6 h → ps_G X M1 (pc + 3) lv stk) : ps_G X M pc lv (.ref (xb X + h) :: .ref (xb X + a) :: stk) := ps_put C (κ := 12) (ci := 0) (slot := 1) (CN := RX0) (T := TX0) (N := 3) (ty0 := tyX0) (ps_sr M 6 h) hk rfl rfl (ps_sr_ho (Or.inl ⟨rfl, hk⟩)) (ps_sr_ro hh) rfl inX0 tyX0_ok nmX0 (by decide) pm_125 rfl rfl (tyX0_ok 1 (by decide)) rfl rfl (Nat.le_of_ble_eq_true rfl) hd (k _ rfl)
theorem pm_255 : Cond.methodLink RX0 37 yX0_dropOldest ∈ ps_T := ps_in 255 (by decide +kernel) (by decide +kernel)
theorem pm_257 : Cond.instanceMethod yX0_dropOldest ∈ ps_T := ps_in 257 (by decide +kernel) (by decide +kernel)
theorem pn_1 : Cond.selects RX0 yX0_dropOldest yX0_dropOldest ∈ ps_T := ps_inS 1 (by decide +kernel) (by decide +kernel)
theorem pm_6 : Cond.initialized RX0 ∈ ps_T := ps_in 6 (by decide +kernel) (by decide +kernel)
theorem pm_258 : Cond.code yX0_dropOldest cX0_dropOldest 3 none ∈ ps_T := ps_in 258 (by decide +kernel) (by decide +kernel)
theorem cw_X0_37 : ps_cwV RX0 37 RX0 yX0_dropOldest cX0_dropOldest 3 none 0 := ⟨⟨pm_255, pm_257, pn_1, pm_6, pm_258⟩, ⟨by decide, by decide⟩, by decide +kernel⟩
theorem pm_251 : Cond.methodLink RX0 34 yX0_record ∈ ps_T := ps_in 251 (by decide +kernel) (by decide +kernel)
theorem pm_253 : Cond.instanceMethod yX0_record ∈ ps_T := ps_in 253 (by decide +kernel) (by decide +kernel)
theorem pn_0 : Cond.selects RX0 yX0_record yX0_record ∈ ps_T := ps_inS 0 (by decide +kernel) (by decide +kernel)
theorem pm_254 : Cond.code yX0_record cX0_record 2 none ∈ ps_T := ps_in 254 (by decide +kernel) (by decide +kernel)
theorem cw_X0_34 : ps_cwV RX0 34 RX0 yX0_record cX0_record 2 none 0 := ⟨⟨pm_251, pm_253, pn_0, pm_6, pm_254⟩, ⟨by decide, by decide⟩, by decide +kernel⟩
theorem pm_249 : Cond.static yX6_isError ∈ ps_T := ps_in 249 (by decide +kernel) (by decide +kernel)
theorem pm_1 : Cond.initialized RX6 ∈ ps_T := ps_in 1 (by decide +kernel) (by decide +kernel)
theorem pm_250 : Cond.code yX6_isError cX6_isError 1 (some .boolean) ∈ ps_T := ps_in 250 (by decide +kernel) (by decide +kernel)
theorem pb_m2 : (Int8.ofInt (-2)).toInt32 = (ps_m 2) := by decide
theorem pb_m4 : (Int8.ofInt (-4)).toInt32 = (ps_m 4) := by decide
theorem pm_70 : Cond.fieldLink RX1 61 RX3 "heardToday" "I" ∈ ps_T := ps_in 70 (by decide +kernel) (by decide +kernel)
theorem gf_X1_61 {X : ps_X} {cc : ByteArray} (C : ps_C X RX1 cc) {M : ps_M} {pc : Nat} {lv : List (Option Value)} {stk : List Value} {a : Nat} (hk : ps_ck 9 a = true) (hd : decode cc pc = .ok (.getfield 61, 3)) (k : ps_G X M (pc + 3) lv (.int (ps_rd M a 3) :: stk)) : ps_G X M pc lv (.ref (xb X + a) :: stk) := ps_get C (κ := 9) (ci := 3) (slot := 3) (CN := RX3) (T := TX3) (N := 6) hk rfl rfl inX3 (by decide) pm_70 rfl rfl hd k
theorem pi_3 : Int32.ofInt (3) = (nI 3) := by decide
theorem pm_287 : Cond.methodLink RX5 42 yX5_has ∈ ps_T := ps_in 287 (by decide +kernel) (by decide +kernel)
theorem pm_280 : Cond.instanceMethod yX5_has ∈ ps_T := ps_in 280 (by decide +kernel) (by decide +kernel)
theorem pm_281 : Cond.selects RX5 yX5_has yX5_has ∈ ps_T := ps_in 281 (by decide +kernel) (by decide +kernel)
theorem pm_282 : Cond.code yX5_has cX5_has 2 (some .boolean) ∈ ps_T := ps_in 282 (by decide +kernel) (by decide +kernel)
theorem cw_X5_42 : ps_cwV RX5 42 RX5 yX5_has cX5_has 2 (some .boolean) 1 := ⟨⟨pm_287, pm_280, pm_281, pm_3, pm_282⟩, ⟨by decide, by decide⟩, by decide +kernel⟩
theorem pb_m6 : (Int8.ofInt (-6)).toInt32 = (ps_m 6) := by decide
theorem pm_300 : Cond.methodLink RX5 46 yX5_hasBar ∈ ps_T := ps_in 300 (by decide +kernel) (by decide +kernel)
theorem pm_284 : Cond.instanceMethod yX5_hasBar ∈ ps_T := ps_in 284 (by decide +kernel) (by decide +kernel)
theorem pm_285 : Cond.selects RX5 yX5_hasBar yX5_hasBar ∈ ps_T := ps_in 285 (by decide +kernel) (by decide +kernel)
theorem pm_286 : Cond.code yX5_hasBar cX5_hasBar 3 (some .boolean) ∈ ps_T := ps_in 286 (by decide +kernel) (by decide +kernel)
theorem cw_X5_46 : ps_cwV RX5 46 RX5 yX5_hasBar cX5_hasBar 3 (some .boolean) 2 := ⟨⟨pm_300, pm_284, pm_285, pm_3, pm_286⟩, ⟨by decide, by decide⟩, by decide +kernel⟩
theorem pi_2 : Int32.ofInt (2) = (nI 2) := by decide
theorem pm_320 : Cond.methodLink RX3 59 yX3_write ∈ ps_T := ps_in 320 (by decide +kernel) (by decide +kernel)
theorem pm_322 : Cond.instanceMethod yX3_write ∈ ps_T := ps_in 322 (by decide +kernel) (by decide +kernel)
theorem pn_5 : Cond.selects RX3 yX3_write yX3_write ∈ ps_T := ps_inS 5 (by decide +kernel) (by decide +kernel)
theorem pm_323 : Cond.code yX3_write cX3_write 6 none ∈ ps_T := ps_in 323 (by decide +kernel) (by decide +kernel)
theorem cw_X3_59 : ps_cwV RX3 59 RX3 yX3_write cX3_write 6 none 5 := ⟨⟨pm_320, pm_322, pn_5, pm_5, pm_323⟩, ⟨by decide, by decide⟩, by decide +kernel⟩
theorem pb_9 : (Int8.ofInt (9)).toInt32 = (nI 9) := by decide
theorem pm_313 : Cond.methodLink RX3 54 Lib.Math.min.name ∈ ps_T := ps_in 313 (by decide +kernel) (by decide +kernel)
theorem pm_314 : Cond.static Lib.Math.min.name ∈ ps_T := ps_in 314 (by decide +kernel) (by decide +kernel)
theorem pm_10 : Cond.initialized RJ9 ∈ ps_T := ps_in 10 (by decide +kernel) (by decide +kernel)
theorem cw_X3_54 : Cond.methodLink RX3 54 Lib.Math.min.name ∈ ps_T ∧ Cond.static Lib.Math.min.name ∈ ps_T ∧ Cond.initialized "java/lang/Math" ∈ ps_T ∧ Cond.code Lib.Math.min.name Lib.Math.min.code 2 (some .int) ∈ ps_T := ⟨pm_313, pm_314, pm_10, ps_in 315 (by decide +kernel) (by decide +kernel)⟩
theorem pm_316 : Cond.methodLink RX3 46 yX3_remove ∈ ps_T := ps_in 316 (by decide +kernel) (by decide +kernel)
theorem pm_318 : Cond.instanceMethod yX3_remove ∈ ps_T := ps_in 318 (by decide +kernel) (by decide +kernel)
theorem pn_4 : Cond.selects RX3 yX3_remove yX3_remove ∈ ps_T := ps_inS 4 (by decide +kernel) (by decide +kernel)
theorem pm_319 : Cond.code yX3_remove cX3_remove 3 none ∈ ps_T := ps_in 319 (by decide +kernel) (by decide +kernel)
theorem cw_X3_46 : ps_cwV RX3 46 RX3 yX3_remove cX3_remove 3 none 1 := ⟨⟨pm_316, pm_318, pn_4, pm_5, pm_319⟩, ⟨by decide, by decide⟩, by decide +kernel⟩
theorem pm_309 : Cond.methodLink RX3 50 yX3_find ∈ ps_T := ps_in 309 (by decide +kernel) (by decide +kernel)
theorem pm_311 : Cond.instanceMethod yX3_find ∈ ps_T := ps_in 311 (by decide +kernel) (by decide +kernel)
theorem pn_3 : Cond.selects RX3 yX3_find yX3_find ∈ ps_T := ps_inS 3 (by decide +kernel) (by decide +kernel)
theorem pm_312 : Cond.code yX3_find cX3_find 4 (some .int) ∈ ps_T := ps_in 312 (by decide +kernel) (by decide +kernel)
theorem cw_X3_50 : ps_cwV RX3 50 RX3 yX3_find cX3_find 4 (some .int) 2 := ⟨⟨pm_309, pm_311, pn_3, pm_5, pm_312⟩, ⟨by decide, by decide⟩, by decide +kernel⟩
theorem pm_324 : Cond.methodLink RX3 42 yX3_weakest ∈ ps_T := ps_in 324 (by decide +kernel) (by decide +kernel)
theorem pm_326 : Cond.instanceMethod yX3_weakest ∈ ps_T := ps_in 326 (by decide +kernel) (by decide +kernel)
theorem pn_6 : Cond.selects RX3 yX3_weakest yX3_weakest ∈ ps_T := ps_inS 6 (by decide +kernel) (by decide +kernel)
theorem pm_327 : Cond.code yX3_weakest cX3_weakest 3 (some .int) ∈ ps_T := ps_in 327 (by decide +kernel) (by decide +kernel)
theorem cw_X3_42 : ps_cwV RX3 42 RX3 yX3_weakest cX3_weakest 3 (some .int) 0 := ⟨⟨pm_324, pm_326, pn_6, pm_5, pm_327⟩, ⟨by decide, by decide⟩, by decide +kernel⟩
theorem pm_305 : Cond.methodLink RX3 38 yX3_grow ∈ ps_T := ps_in 305 (by decide +kernel) (by decide +kernel)
theorem pm_307 : Cond.instanceMethod yX3_grow ∈ ps_T := ps_in 307 (by decide +kernel) (by decide +kernel)
theorem pn_2 : Cond.selects RX3 yX3_grow yX3_grow ∈ ps_T := ps_inS 2 (by decide +kernel) (by decide +kernel)
theorem pm_308 : Cond.code yX3_grow cX3_grow 6 none ∈ ps_T := ps_in 308 (by decide +kernel) (by decide +kernel)
theorem cw_X3_38 : ps_cwV RX3 38 RX3 yX3_grow cX3_grow 6 none 3 := ⟨⟨pm_305, pm_307, pn_2, pm_5, pm_308⟩, ⟨by decide, by decide⟩, by decide +kernel⟩
theorem pm_328 : Cond.methodLink RX1 91 yX5_countLesson ∈ ps_T := ps_in 328 (by decide +kernel) (by decide +kernel)
theorem pm_329 : Cond.instanceMethod yX5_countLesson ∈ ps_T := ps_in 329 (by decide +kernel) (by decide +kernel)
theorem pm_330 : Cond.selects RX5 yX5_countLesson yX5_countLesson ∈ ps_T := ps_in 330 (by decide +kernel) (by decide +kernel)
theorem pm_331 : Cond.code yX5_countLesson cX5_countLesson 2 none ∈ ps_T := ps_in 331 (by decide +kernel) (by decide +kernel)
theorem cw_X1_91 : ps_cwV RX1 91 RX5 yX5_countLesson cX5_countLesson 2 none 1 := ⟨⟨pm_328, pm_329, pm_330, pm_3, pm_331⟩, ⟨by decide, by decide⟩, by decide +kernel⟩
theorem pm_301 : Cond.methodLink RX1 87 yX3_hear ∈ ps_T := ps_in 301 (by decide +kernel) (by decide +kernel)
theorem pm_302 : Cond.instanceMethod yX3_hear ∈ ps_T := ps_in 302 (by decide +kernel) (by decide +kernel)
theorem pm_303 : Cond.selects RX3 yX3_hear yX3_hear ∈ ps_T := ps_in 303 (by decide +kernel) (by decide +kernel)
theorem pm_304 : Cond.code yX3_hear cX3_hear 4 none ∈ ps_T := ps_in 304 (by decide +kernel) (by decide +kernel)
theorem cw_X1_87 : ps_cwV RX1 87 RX3 yX3_hear cX3_hear 4 none 3 := ⟨⟨pm_301, pm_302, pm_303, pm_5, pm_304⟩, ⟨by decide, by decide⟩, by decide +kernel⟩
theorem pm_296 : Cond.methodLink RX1 83 yX5_barAt ∈ ps_T := ps_in 296 (by decide +kernel) (by decide +kernel)
theorem pm_297 : Cond.instanceMethod yX5_barAt ∈ ps_T := ps_in 297 (by decide +kernel) (by decide +kernel)
theorem pm_298 : Cond.selects RX5 yX5_barAt yX5_barAt ∈ ps_T := ps_in 298 (by decide +kernel) (by decide +kernel)
theorem pm_299 : Cond.code yX5_barAt cX5_barAt 3 (some .int) ∈ ps_T := ps_in 299 (by decide +kernel) (by decide +kernel)
theorem cw_X1_83 : ps_cwV RX1 83 RX5 yX5_barAt cX5_barAt 3 (some .int) 2 := ⟨⟨pm_296, pm_297, pm_298, pm_3, pm_299⟩, ⟨by decide, by decide⟩, by decide +kernel⟩
theorem pm_288 : Cond.methodLink RX1 75 yX1_isTired ∈ ps_T := ps_in 288 (by decide +kernel) (by decide +kernel)
theorem pm_289 : Cond.instanceMethod yX1_isTired ∈ ps_T := ps_in 289 (by decide +kernel) (by decide +kernel)
theorem pm_290 : Cond.selects RX1 yX1_isTired yX1_isTired ∈ ps_T := ps_in 290 (by decide +kernel) (by decide +kernel)
theorem pm_291 : Cond.code yX1_isTired cX1_isTired 2 (some .boolean) ∈ ps_T := ps_in 291 (by decide +kernel) (by decide +kernel)
theorem cw_X1_75 : ps_cwV RX1 75 RX1 yX1_isTired cX1_isTired 2 (some .boolean) 1 := ⟨⟨pm_288, pm_289, pm_290, pm_2, pm_291⟩, ⟨by decide, by decide⟩, by decide +kernel⟩
theorem pm_292 : Cond.methodLink RX1 79 yX5_lengthOf ∈ ps_T := ps_in 292 (by decide +kernel) (by decide +kernel)
theorem pm_293 : Cond.instanceMethod yX5_lengthOf ∈ ps_T := ps_in 293 (by decide +kernel) (by decide +kernel)
theorem pm_294 : Cond.selects RX5 yX5_lengthOf yX5_lengthOf ∈ ps_T := ps_in 294 (by decide +kernel) (by decide +kernel)
theorem pm_295 : Cond.code yX5_lengthOf cX5_lengthOf 2 (some .int) ∈ ps_T := ps_in 295 (by decide +kernel) (by decide +kernel)
theorem cw_X1_79 : ps_cwV RX1 79 RX5 yX5_lengthOf cX5_lengthOf 2 (some .int) 1 := ⟨⟨pm_292, pm_293, pm_294, pm_3, pm_295⟩, ⟨by decide, by decide⟩, by decide +kernel⟩
theorem pm_283 : Cond.methodLink RX1 71 yX5_hasBar ∈ ps_T := ps_in 283 (by decide +kernel) (by decide +kernel)
theorem cw_X1_71 : ps_cwV RX1 71 RX5 yX5_hasBar cX5_hasBar 3 (some .boolean) 2 := ⟨⟨pm_283, pm_284, pm_285, pm_3, pm_286⟩, ⟨by decide, by decide⟩, by decide +kernel⟩
theorem pm_279 : Cond.methodLink RX1 68 yX5_has ∈ ps_T := ps_in 279 (by decide +kernel) (by decide +kernel)
theorem cw_X1_68 : ps_cwV RX1 68 RX5 yX5_has cX5_has 2 (some .boolean) 1 := ⟨⟨pm_279, pm_280, pm_281, pm_3, pm_282⟩, ⟨by decide, by decide⟩, by decide +kernel⟩
theorem pm_275 : Cond.methodLink RX1 64 yX1_hasParrot ∈ ps_T := ps_in 275 (by decide +kernel) (by decide +kernel)
theorem pm_276 : Cond.instanceMethod yX1_hasParrot ∈ ps_T := ps_in 276 (by decide +kernel) (by decide +kernel)
theorem pm_277 : Cond.selects RX1 yX1_hasParrot yX1_hasParrot ∈ ps_T := ps_in 277 (by decide +kernel) (by decide +kernel)
theorem pm_278 : Cond.code yX1_hasParrot cX1_hasParrot 2 (some .boolean) ∈ ps_T := ps_in 278 (by decide +kernel) (by decide +kernel)
theorem cw_X1_64 : ps_cwV RX1 64 RX1 yX1_hasParrot cX1_hasParrot 2 (some .boolean) 1 := ⟨⟨pm_275, pm_276, pm_277, pm_2, pm_278⟩, ⟨by decide, by decide⟩, by decide +kernel⟩
theorem pm_67 : Cond.fieldLink RX1 95 RX3 "last" "I" ∈ ps_T := ps_in 67 (by decide +kernel) (by decide +kernel)
theorem gf_X1_95 {X : ps_X} {cc : ByteArray} (C : ps_C X RX1 cc) {M : ps_M} {pc : Nat} {lv : List (Option Value)} {stk : List Value} {a : Nat} (hk : ps_ck 9 a = true) (hd : decode cc pc = .ok (.getfield 95, 3)) (k : ps_G X M (pc + 3) lv (.int (ps_rd M a 2) :: stk)) : ps_G X M pc lv (.ref (xb X + a) :: stk) := ps_get C (κ := 9) (ci := 3) (slot := 2) (CN := RX3) (T := TX3) (N := 6) hk rfl rfl inX3 (by decide) pm_67 rfl rfl hd k
theorem pf_X1_95 {X : ps_X} {cc : ByteArray} (C : ps_C X RX1 cc) {M : ps_M} {pc : Nat} {lv : List (Option Value)} {stk : List Value} {a : Nat} (hk : ps_ck 9 a = true) {x : Int32} (hd : decode cc pc = .ok (.putfield 95, 3)) (k : ∀ M1, M1 = ps_st M a 2 x → ps_G X M1 (pc + 3) lv stk) : ps_G X M pc lv (.int x :: .ref (xb X + a) :: stk) := ps_put C (κ := 9) (ci := 3) (slot := 2) (CN := RX3) (T := TX3) (N := 6) (ty0 := tyX3) (ps_st M a 2 x) hk rfl (by rw [ps_st_self]; rfl) ps_st_ho (fun h => h) rfl inX3 tyX3_ok nmX3 (by decide) pm_67 rfl rfl (tyX3_ok 2 (by decide)) rfl rfl (Nat.le_of_ble_eq_true rfl) hd (k _ rfl)
theorem pb_40 : (Int8.ofInt (40)).toInt32 = (nI 40) := by decide
theorem pm_101 : Cond.fieldLink RX1 35 RX1 "sung" "[I" ∈ ps_T := ps_in 101 (by decide +kernel) (by decide +kernel)
theorem gf_X1_35 {X : ps_X} {cc : ByteArray} (C : ps_C X RX1 cc) {M : ps_M} {pc : Nat} {lv : List (Option Value)} {stk : List Value} {a : Nat} (hk : ps_ck 1 a = true) (hd : decode cc pc = .ok (.getfield 35, 3)) (k : ps_G X M (pc + 3) lv (.ref (xb X + (a + 15)) :: stk)) : ps_G X M pc lv (.ref (xb X + a) :: stk) := ps_get C (κ := 1) (ci := 1) (slot := 5) (CN := RX1) (T := TX1) (N := 6) hk rfl rfl inX1 (by decide) pm_101 rfl rfl hd k
theorem kf_1_15 {a : Nat} (h : ps_ck 1 a = true) : ps_ck 8 (a + 15) = true := (by decide +kernel : ∀ a, a < 425 → ps_ck 1 a = true → ps_ck 8 (a + 15) = true) a (ps_ck_lt h) h
theorem pm_352 : Cond.methodLink RX1 106 yX3_nextBehind ∈ ps_T := ps_in 352 (by decide +kernel) (by decide +kernel)
theorem pm_353 : Cond.instanceMethod yX3_nextBehind ∈ ps_T := ps_in 353 (by decide +kernel) (by decide +kernel)
theorem pm_354 : Cond.selects RX3 yX3_nextBehind yX3_nextBehind ∈ ps_T := ps_in 354 (by decide +kernel) (by decide +kernel)
theorem pm_355 : Cond.code yX3_nextBehind cX3_nextBehind 5 (some .int) ∈ ps_T := ps_in 355 (by decide +kernel) (by decide +kernel)
theorem cw_X1_106 : ps_cwV RX1 106 RX3 yX3_nextBehind cX3_nextBehind 5 (some .int) 1 := ⟨⟨pm_352, pm_353, pm_354, pm_5, pm_355⟩, ⟨by decide, by decide⟩, by decide +kernel⟩
theorem pm_356 : Cond.methodLink RX1 102 yX1_singSungTo ∈ ps_T := ps_in 356 (by decide +kernel) (by decide +kernel)
theorem pm_358 : Cond.instanceMethod yX1_singSungTo ∈ ps_T := ps_in 358 (by decide +kernel) (by decide +kernel)
theorem pn_8 : Cond.selects RX1 yX1_singSungTo yX1_singSungTo ∈ ps_T := ps_inS 8 (by decide +kernel) (by decide +kernel)
theorem pm_359 : Cond.code yX1_singSungTo cX1_singSungTo 4 none ∈ ps_T := ps_in 359 (by decide +kernel) (by decide +kernel)
theorem cw_X1_102 : ps_cwV RX1 102 RX1 yX1_singSungTo cX1_singSungTo 4 none 2 := ⟨⟨pm_356, pm_358, pn_8, pm_2, pm_359⟩, ⟨by decide, by decide⟩, by decide +kernel⟩
theorem pm_348 : Cond.methodLink RX1 98 yX1_findSung ∈ ps_T := ps_in 348 (by decide +kernel) (by decide +kernel)
theorem pm_350 : Cond.instanceMethod yX1_findSung ∈ ps_T := ps_in 350 (by decide +kernel) (by decide +kernel)
theorem pn_7 : Cond.selects RX1 yX1_findSung yX1_findSung ∈ ps_T := ps_inS 7 (by decide +kernel) (by decide +kernel)
theorem pm_351 : Cond.code yX1_findSung cX1_findSung 5 (some .int) ∈ ps_T := ps_in 351 (by decide +kernel) (by decide +kernel)
theorem cw_X1_98 : ps_cwV RX1 98 RX1 yX1_findSung cX1_findSung 5 (some .int) 2 := ⟨⟨pm_348, pm_350, pn_7, pm_2, pm_351⟩, ⟨by decide, by decide⟩, by decide +kernel⟩
theorem pj_999 : (Int16.ofInt (999)).toInt32 = (nI 999) := by decide
theorem pm_368 : Cond.methodLink RX1 109 yX3_sleep ∈ ps_T := ps_in 368 (by decide +kernel) (by decide +kernel)
theorem pm_369 : Cond.instanceMethod yX3_sleep ∈ ps_T := ps_in 369 (by decide +kernel) (by decide +kernel)
theorem pm_370 : Cond.selects RX3 yX3_sleep yX3_sleep ∈ ps_T := ps_in 370 (by decide +kernel) (by decide +kernel)
theorem pm_371 : Cond.code yX3_sleep cX3_sleep 5 (some .int) ∈ ps_T := ps_in 371 (by decide +kernel) (by decide +kernel)
theorem cw_X1_109 : ps_cwV RX1 109 RX3 yX3_sleep cX3_sleep 5 (some .int) 1 := ⟨⟨pm_368, pm_369, pm_370, pm_5, pm_371⟩, ⟨by decide, by decide⟩, by decide +kernel⟩
theorem pm_383 : Cond.methodLink RX5 54 yX5_barAt ∈ ps_T := ps_in 383 (by decide +kernel) (by decide +kernel)
theorem cw_X5_54 : ps_cwV RX5 54 RX5 yX5_barAt cX5_barAt 3 (some .int) 2 := ⟨⟨pm_383, pm_297, pm_298, pm_3, pm_299⟩, ⟨by decide, by decide⟩, by decide +kernel⟩
theorem pm_411 : Cond.methodLink RX5 62 yX3_nextBehind ∈ ps_T := ps_in 411 (by decide +kernel) (by decide +kernel)
theorem cw_X5_62 : ps_cwV RX5 62 RX3 yX3_nextBehind cX3_nextBehind 5 (some .int) 1 := ⟨⟨pm_411, pm_353, pm_354, pm_5, pm_355⟩, ⟨by decide, by decide⟩, by decide +kernel⟩
theorem pm_382 : Cond.methodLink RX5 50 yX5_lengthOf ∈ ps_T := ps_in 382 (by decide +kernel) (by decide +kernel)
theorem cw_X5_50 : ps_cwV RX5 50 RX5 yX5_lengthOf cX5_lengthOf 2 (some .int) 1 := ⟨⟨pm_382, pm_293, pm_294, pm_3, pm_295⟩, ⟨by decide, by decide⟩, by decide +kernel⟩
theorem pm_407 : Cond.methodLink RX5 67 yX5_firstWrong ∈ ps_T := ps_in 407 (by decide +kernel) (by decide +kernel)
theorem pm_408 : Cond.instanceMethod yX5_firstWrong ∈ ps_T := ps_in 408 (by decide +kernel) (by decide +kernel)
theorem pm_409 : Cond.selects RX5 yX5_firstWrong yX5_firstWrong ∈ ps_T := ps_in 409 (by decide +kernel) (by decide +kernel)
theorem pm_410 : Cond.code yX5_firstWrong cX5_firstWrong 4 (some .int) ∈ ps_T := ps_in 410 (by decide +kernel) (by decide +kernel)
theorem cw_X5_67 : ps_cwV RX5 67 RX5 yX5_firstWrong cX5_firstWrong 4 (some .int) 2 := ⟨⟨pm_407, pm_408, pm_409, pm_3, pm_410⟩, ⟨by decide, by decide⟩, by decide +kernel⟩
theorem pm_403 : Cond.methodLink RX1 112 yX5_isKnownBy ∈ ps_T := ps_in 403 (by decide +kernel) (by decide +kernel)
theorem pm_404 : Cond.instanceMethod yX5_isKnownBy ∈ ps_T := ps_in 404 (by decide +kernel) (by decide +kernel)
theorem pm_405 : Cond.selects RX5 yX5_isKnownBy yX5_isKnownBy ∈ ps_T := ps_in 405 (by decide +kernel) (by decide +kernel)
theorem pm_406 : Cond.code yX5_isKnownBy cX5_isKnownBy 3 (some .boolean) ∈ ps_T := ps_in 406 (by decide +kernel) (by decide +kernel)
theorem cw_X1_112 : ps_cwV RX1 112 RX5 yX5_isKnownBy cX5_isKnownBy 3 (some .boolean) 2 := ⟨⟨pm_403, pm_404, pm_405, pm_3, pm_406⟩, ⟨by decide, by decide⟩, by decide +kernel⟩
theorem pm_74 : Cond.fieldLink RX1 116 RX3 "heardInAll" "I" ∈ ps_T := ps_in 74 (by decide +kernel) (by decide +kernel)
theorem gf_X1_116 {X : ps_X} {cc : ByteArray} (C : ps_C X RX1 cc) {M : ps_M} {pc : Nat} {lv : List (Option Value)} {stk : List Value} {a : Nat} (hk : ps_ck 9 a = true) (hd : decode cc pc = .ok (.getfield 116, 3)) (k : ps_G X M (pc + 3) lv (.int (ps_rd M a 4) :: stk)) : ps_G X M pc lv (.ref (xb X + a) :: stk) := ps_get C (κ := 9) (ci := 3) (slot := 4) (CN := RX3) (T := TX3) (N := 6) hk rfl rfl inX3 (by decide) pm_74 rfl rfl hd k
theorem pm_65 : Cond.fieldLink RX1 119 RX3 "count" "I" ∈ ps_T := ps_in 65 (by decide +kernel) (by decide +kernel)
theorem gf_X1_119 {X : ps_X} {cc : ByteArray} (C : ps_C X RX1 cc) {M : ps_M} {pc : Nat} {lv : List (Option Value)} {stk : List Value} {a : Nat} (hk : ps_ck 9 a = true) (hd : decode cc pc = .ok (.getfield 119, 3)) (k : ps_G X M (pc + 3) lv (.int (ps_rd M a 1) :: stk)) : ps_G X M pc lv (.ref (xb X + a) :: stk) := ps_get C (κ := 9) (ci := 3) (slot := 1) (CN := RX3) (T := TX3) (N := 6) hk rfl rfl inX3 (by decide) pm_65 rfl rfl hd k
theorem pm_77 : Cond.fieldLink RX1 122 RX3 "forgotten" "I" ∈ ps_T := ps_in 77 (by decide +kernel) (by decide +kernel)
theorem gf_X1_122 {X : ps_X} {cc : ByteArray} (C : ps_C X RX1 cc) {M : ps_M} {pc : Nat} {lv : List (Option Value)} {stk : List Value} {a : Nat} (hk : ps_ck 9 a = true) (hd : decode cc pc = .ok (.getfield 122, 3)) (k : ps_G X M (pc + 3) lv (.int (ps_rd M a 5) :: stk)) : ps_G X M pc lv (.ref (xb X + a) :: stk) := ps_get C (κ := 9) (ci := 3) (slot := 5) (CN := RX3) (T := TX3) (N := 6) hk rfl rfl inX3 (by decide) pm_77 rfl rfl hd k
theorem pm_148 : Cond.fieldLink RX2 15 RX2 "length" "I" ∈ ps_T := ps_in 148 (by decide +kernel) (by decide +kernel)
theorem gf_X2_15 {X : ps_X} {cc : ByteArray} (C : ps_C X RX2 cc) {M : ps_M} {pc : Nat} {lv : List (Option Value)} {stk : List Value} {a : Nat} (hk : ps_ck 15 a = true) (hd : decode cc pc = .ok (.getfield 15, 3)) (k : ps_G X M (pc + 3) lv (.int (ps_rd M a 1) :: stk)) : ps_G X M pc lv (.ref (xb X + a) :: stk) := ps_get C (κ := 15) (ci := 2) (slot := 1) (CN := RX2) (T := TX2) (N := 2) hk rfl rfl inX2 (by decide) pm_148 rfl rfl hd k
theorem pm_147 : Cond.fieldLink RX2 11 RX2 "text" "[C" ∈ ps_T := ps_in 147 (by decide +kernel) (by decide +kernel)
theorem gf_X2_11 {X : ps_X} {cc : ByteArray} (C : ps_C X RX2 cc) {M : ps_M} {pc : Nat} {lv : List (Option Value)} {stk : List Value} {a : Nat} (hk : ps_ck 15 a = true) (hd : decode cc pc = .ok (.getfield 11, 3)) (k : ps_G X M (pc + 3) lv (.ref (xb X + (a + 1)) :: stk)) : ps_G X M pc lv (.ref (xb X + a) :: stk) := ps_get C (κ := 15) (ci := 2) (slot := 0) (CN := RX2) (T := TX2) (N := 2) hk rfl rfl inX2 (by decide) pm_147 rfl rfl hd k
theorem kf_15_1 {a : Nat} (h : ps_ck 15 a = true) : ps_ck 16 (a + 1) = true := (by decide +kernel : ∀ a, a < 425 → ps_ck 15 a = true → ps_ck 16 (a + 1) = true) a (ps_ck_lt h) h
theorem pm_541 : Cond.constantLong RX2 23 (lN 255) ∈ ps_T := ps_in 541 (by decide +kernel) (by decide +kernel)
theorem pm_542 : Cond.constantLong RX2 25 (lN 33) ∈ ps_T := ps_in 542 (by decide +kernel) (by decide +kernel)
theorem pm_543 : Cond.constantLong RX2 27 (lN 126) ∈ ps_T := ps_in 543 (by decide +kernel) (by decide +kernel)
theorem pb_80 : (Int8.ofInt (80)).toInt32 = (nI 80) := by decide
theorem pf_X2_15 {X : ps_X} {cc : ByteArray} (C : ps_C X RX2 cc) {M : ps_M} {pc : Nat} {lv : List (Option Value)} {stk : List Value} {a : Nat} (hk : ps_ck 15 a = true) {x : Int32} (hd : decode cc pc = .ok (.putfield 15, 3)) (k : ∀ M1, M1 = ps_st M a 1 x → ps_G X M1 (pc + 3) lv stk) : ps_G X M pc lv (.int x :: .ref (xb X + a) :: stk) := ps_put C (κ := 15) (ci := 2) (slot := 1) (CN := RX2) (T := TX2) (N := 2) (ty0 := tyX2) (ps_st M a 1 x) hk rfl (by rw [ps_st_self]; rfl) ps_st_ho (fun h => h) rfl inX2 tyX2_ok nmX2 (by decide) pm_148 rfl rfl (tyX2_ok 1 (by decide)) rfl rfl (Nat.le_of_ble_eq_true rfl) hd (k _ rfl)
theorem pm_538 : Cond.methodLink RX2 19 yX2_sizeOf ∈ ps_T := ps_in 538 (by decide +kernel) (by decide +kernel)
theorem pm_539 : Cond.static yX2_sizeOf ∈ ps_T := ps_in 539 (by decide +kernel) (by decide +kernel)
theorem pm_8 : Cond.initialized RX2 ∈ ps_T := ps_in 8 (by decide +kernel) (by decide +kernel)
theorem pm_540 : Cond.code yX2_sizeOf cX2_sizeOf 7 (some .int) ∈ ps_T := ps_in 540 (by decide +kernel) (by decide +kernel)
theorem cw_X2_19 : ps_cwS RX2 19 yX2_sizeOf cX2_sizeOf 7 (some .int) 1 := ⟨⟨pm_538, pm_539, pm_8, pm_540⟩, ⟨by decide, by decide⟩, by decide +kernel⟩
theorem pm_159 : Cond.fieldLink RX4 18 RX4 "at" "I" ∈ ps_T := ps_in 159 (by decide +kernel) (by decide +kernel)
theorem pf_X4_18 {X : ps_X} {cc : ByteArray} (C : ps_C X RX4 cc) {M : ps_M} {pc : Nat} {lv : List (Option Value)} {stk : List Value} {a : Nat} (hk : ps_ck 14 a = true) {x : Int32} (hd : decode cc pc = .ok (.putfield 18, 3)) (k : ∀ M1, M1 = ps_st M a 1 x → ps_G X M1 (pc + 3) lv stk) : ps_G X M pc lv (.int x :: .ref (xb X + a) :: stk) := ps_put C (κ := 14) (ci := 4) (slot := 1) (CN := RX4) (T := TX4) (N := 9) (ty0 := tyX4) (ps_st M a 1 x) hk rfl (by rw [ps_st_self]; rfl) ps_st_ho (fun h => h) rfl inX4 tyX4_ok nmX4 (by decide) pm_159 rfl rfl (tyX4_ok 1 (by decide)) rfl rfl (Nat.le_of_ble_eq_true rfl) hd (k _ rfl)
theorem pm_160 : Cond.fieldLink RX4 22 RX4 "awaits" "Z" ∈ ps_T := ps_in 160 (by decide +kernel) (by decide +kernel)
theorem pf_X4_22 {X : ps_X} {cc : ByteArray} (C : ps_C X RX4 cc) {M : ps_M} {pc : Nat} {lv : List (Option Value)} {stk : List Value} {a : Nat} (hk : ps_ck 14 a = true) {x : Int32} (hx : ps_isB x = true) (hd : decode cc pc = .ok (.putfield 22, 3)) (k : ∀ M1, M1 = ps_st M a 2 x → ps_G X M1 (pc + 3) lv stk) : ps_G X M pc lv (.int x :: .ref (xb X + a) :: stk) := ps_put C (κ := 14) (ci := 4) (slot := 2) (CN := RX4) (T := TX4) (N := 9) (ty0 := tyX4) (ps_st M a 2 x) hk rfl (by rw [ps_st_self]; rfl) ps_st_ho (fun h => h) rfl inX4 tyX4_ok nmX4 (by decide) pm_160 rfl rfl (tyX4_ok 2 (by decide)) (ps_isB_n hx) (by rcases of_decide_eq_true hx with rfl | rfl <;> rfl) (Nat.le_of_ble_eq_true rfl) hd (k _ rfl)
theorem pm_171 : Cond.fieldLink RX4 43 RX4 "barCount" "I" ∈ ps_T := ps_in 171 (by decide +kernel) (by decide +kernel)
theorem pf_X4_43 {X : ps_X} {cc : ByteArray} (C : ps_C X RX4 cc) {M : ps_M} {pc : Nat} {lv : List (Option Value)} {stk : List Value} {a : Nat} (hk : ps_ck 14 a = true) {x : Int32} (hd : decode cc pc = .ok (.putfield 43, 3)) (k : ∀ M1, M1 = ps_st M a 8 x → ps_G X M1 (pc + 3) lv stk) : ps_G X M pc lv (.int x :: .ref (xb X + a) :: stk) := ps_put C (κ := 14) (ci := 4) (slot := 8) (CN := RX4) (T := TX4) (N := 9) (ty0 := tyX4) (ps_st M a 8 x) hk rfl (by rw [ps_st_self]; rfl) ps_st_ho (fun h => h) rfl inX4 tyX4_ok nmX4 (by decide) pm_171 rfl rfl (tyX4_ok 8 (by decide)) rfl rfl (Nat.le_of_ble_eq_true rfl) hd (k _ rfl)
theorem gf_X4_43 {X : ps_X} {cc : ByteArray} (C : ps_C X RX4 cc) {M : ps_M} {pc : Nat} {lv : List (Option Value)} {stk : List Value} {a : Nat} (hk : ps_ck 14 a = true) (hd : decode cc pc = .ok (.getfield 43, 3)) (k : ps_G X M (pc + 3) lv (.int (ps_rd M a 8) :: stk)) : ps_G X M pc lv (.ref (xb X + a) :: stk) := ps_get C (κ := 14) (ci := 4) (slot := 8) (CN := RX4) (T := TX4) (N := 9) hk rfl rfl inX4 (by decide) pm_171 rfl rfl hd k
theorem pm_157 : Cond.fieldLink RX4 12 RX4 "pad" "LParrotSongs$Pad;" ∈ ps_T := ps_in 157 (by decide +kernel) (by decide +kernel)
theorem gf_X4_12 {X : ps_X} {cc : ByteArray} (C : ps_C X RX4 cc) {M : ps_M} {pc : Nat} {lv : List (Option Value)} {stk : List Value} {a : Nat} (hk : ps_ck 14 a = true) (hd : decode cc pc = .ok (.getfield 12, 3)) (k : ps_G X M (pc + 3) lv (.ref (xb X + (a + 1)) :: stk)) : ps_G X M pc lv (.ref (xb X + a) :: stk) := ps_get C (κ := 14) (ci := 4) (slot := 0) (CN := RX4) (T := TX4) (N := 9) hk rfl rfl inX4 (by decide) pm_157 rfl rfl hd k
theorem kf_14_1 {a : Nat} (h : ps_ck 14 a = true) : ps_ck 15 (a + 1) = true := (by decide +kernel : ∀ a, a < 425 → ps_ck 14 a = true → ps_ck 15 (a + 1) = true) a (ps_ck_lt h) h
theorem gf_X4_18 {X : ps_X} {cc : ByteArray} (C : ps_C X RX4 cc) {M : ps_M} {pc : Nat} {lv : List (Option Value)} {stk : List Value} {a : Nat} (hk : ps_ck 14 a = true) (hd : decode cc pc = .ok (.getfield 18, 3)) (k : ps_G X M (pc + 3) lv (.int (ps_rd M a 1) :: stk)) : ps_G X M pc lv (.ref (xb X + a) :: stk) := ps_get C (κ := 14) (ci := 4) (slot := 1) (CN := RX4) (T := TX4) (N := 9) hk rfl rfl inX4 (by decide) pm_159 rfl rfl hd k
theorem pb_97 : (Int8.ofInt (97)).toInt32 = (nI 97) := by decide
theorem pb_122 : (Int8.ofInt (122)).toInt32 = (nI 122) := by decide
theorem pm_169 : Cond.fieldLink RX4 39 RX4 "bars" "[I" ∈ ps_T := ps_in 169 (by decide +kernel) (by decide +kernel)
theorem gf_X4_39 {X : ps_X} {cc : ByteArray} (C : ps_C X RX4 cc) {M : ps_M} {pc : Nat} {lv : List (Option Value)} {stk : List Value} {a : Nat} (hk : ps_ck 14 a = true) (hd : decode cc pc = .ok (.getfield 39, 3)) (k : ps_G X M (pc + 3) lv (.ref (xb X + (a + 3)) :: stk)) : ps_G X M pc lv (.ref (xb X + a) :: stk) := ps_get C (κ := 14) (ci := 4) (slot := 7) (CN := RX4) (T := TX4) (N := 9) hk rfl rfl inX4 (by decide) pm_169 rfl rfl hd k
theorem kf_14_3 {a : Nat} (h : ps_ck 14 a = true) : ps_ck 17 (a + 3) = true := (by decide +kernel : ∀ a, a < 425 → ps_ck 14 a = true → ps_ck 17 (a + 3) = true) a (ps_ck_lt h) h
theorem pm_568 : Cond.methodLink RX4 63 yX2_signAt ∈ ps_T := ps_in 568 (by decide +kernel) (by decide +kernel)
theorem pm_569 : Cond.instanceMethod yX2_signAt ∈ ps_T := ps_in 569 (by decide +kernel) (by decide +kernel)
theorem pm_570 : Cond.selects RX2 yX2_signAt yX2_signAt ∈ ps_T := ps_in 570 (by decide +kernel) (by decide +kernel)
theorem pm_571 : Cond.code yX2_signAt cX2_signAt 2 (some .char) ∈ ps_T := ps_in 571 (by decide +kernel) (by decide +kernel)
theorem cw_X4_63 : ps_cwV RX4 63 RX2 yX2_signAt cX2_signAt 2 (some .char) 1 := ⟨⟨pm_568, pm_569, pm_570, pm_8, pm_571⟩, ⟨by decide, by decide⟩, by decide +kernel⟩
theorem pb_48 : (Int8.ofInt (48)).toInt32 = (nI 48) := by decide
theorem pb_57 : (Int8.ofInt (57)).toInt32 = (nI 57) := by decide
theorem pm_163 : Cond.fieldLink RX4 30 RX4 "parrot" "I" ∈ ps_T := ps_in 163 (by decide +kernel) (by decide +kernel)
theorem pf_X4_30 {X : ps_X} {cc : ByteArray} (C : ps_C X RX4 cc) {M : ps_M} {pc : Nat} {lv : List (Option Value)} {stk : List Value} {a : Nat} (hk : ps_ck 14 a = true) {x : Int32} (hd : decode cc pc = .ok (.putfield 30, 3)) (k : ∀ M1, M1 = ps_st M a 4 x → ps_G X M1 (pc + 3) lv stk) : ps_G X M pc lv (.int x :: .ref (xb X + a) :: stk) := ps_put C (κ := 14) (ci := 4) (slot := 4) (CN := RX4) (T := TX4) (N := 9) (ty0 := tyX4) (ps_st M a 4 x) hk rfl (by rw [ps_st_self]; rfl) ps_st_ho (fun h => h) rfl inX4 tyX4_ok nmX4 (by decide) pm_163 rfl rfl (tyX4_ok 4 (by decide)) rfl rfl (Nat.le_of_ble_eq_true rfl) hd (k _ rfl)
theorem pm_588 : Cond.methodLink RX4 82 yX4_takeDigit ∈ ps_T := ps_in 588 (by decide +kernel) (by decide +kernel)
theorem pm_590 : Cond.instanceMethod yX4_takeDigit ∈ ps_T := ps_in 590 (by decide +kernel) (by decide +kernel)
theorem pn_15 : Cond.selects RX4 yX4_takeDigit yX4_takeDigit ∈ ps_T := ps_inS 15 (by decide +kernel) (by decide +kernel)
theorem pm_7 : Cond.initialized RX4 ∈ ps_T := ps_in 7 (by decide +kernel) (by decide +kernel)
theorem pm_591 : Cond.code yX4_takeDigit cX4_takeDigit 2 (some .int) ∈ ps_T := ps_in 591 (by decide +kernel) (by decide +kernel)
theorem cw_X4_82 : ps_cwV RX4 82 RX4 yX4_takeDigit cX4_takeDigit 2 (some .int) 0 := ⟨⟨pm_588, pm_590, pn_15, pm_7, pm_591⟩, ⟨by decide, by decide⟩, by decide +kernel⟩
theorem pm_584 : Cond.methodLink RX4 79 yX4_isDigit ∈ ps_T := ps_in 584 (by decide +kernel) (by decide +kernel)
theorem pm_586 : Cond.instanceMethod yX4_isDigit ∈ ps_T := ps_in 586 (by decide +kernel) (by decide +kernel)
theorem pn_14 : Cond.selects RX4 yX4_isDigit yX4_isDigit ∈ ps_T := ps_inS 14 (by decide +kernel) (by decide +kernel)
theorem pm_587 : Cond.code yX4_isDigit cX4_isDigit 1 (some .boolean) ∈ ps_T := ps_in 587 (by decide +kernel) (by decide +kernel)
theorem cw_X4_79 : ps_cwV RX4 79 RX4 yX4_isDigit cX4_isDigit 1 (some .boolean) 0 := ⟨⟨pm_584, pm_586, pn_14, pm_7, pm_587⟩, ⟨by decide, by decide⟩, by decide +kernel⟩
theorem pm_167 : Cond.fieldLink RX4 36 RX4 "number" "I" ∈ ps_T := ps_in 167 (by decide +kernel) (by decide +kernel)
theorem pf_X4_36 {X : ps_X} {cc : ByteArray} (C : ps_C X RX4 cc) {M : ps_M} {pc : Nat} {lv : List (Option Value)} {stk : List Value} {a : Nat} (hk : ps_ck 14 a = true) {x : Int32} (hd : decode cc pc = .ok (.putfield 36, 3)) (k : ∀ M1, M1 = ps_st M a 6 x → ps_G X M1 (pc + 3) lv stk) : ps_G X M pc lv (.int x :: .ref (xb X + a) :: stk) := ps_put C (κ := 14) (ci := 4) (slot := 6) (CN := RX4) (T := TX4) (N := 9) (ty0 := tyX4) (ps_st M a 6 x) hk rfl (by rw [ps_st_self]; rfl) ps_st_ho (fun h => h) rfl inX4 tyX4_ok nmX4 (by decide) pm_167 rfl rfl (tyX4_ok 6 (by decide)) rfl rfl (Nat.le_of_ble_eq_true rfl) hd (k _ rfl)
theorem gf_X4_36 {X : ps_X} {cc : ByteArray} (C : ps_C X RX4 cc) {M : ps_M} {pc : Nat} {lv : List (Option Value)} {stk : List Value} {a : Nat} (hk : ps_ck 14 a = true) (hd : decode cc pc = .ok (.getfield 36, 3)) (k : ps_G X M (pc + 3) lv (.int (ps_rd M a 6) :: stk)) : ps_G X M pc lv (.ref (xb X + a) :: stk) := ps_get C (κ := 14) (ci := 4) (slot := 6) (CN := RX4) (T := TX4) (N := 9) hk rfl rfl inX4 (by decide) pm_167 rfl rfl hd k
theorem pb_10 : (Int8.ofInt (10)).toInt32 = (nI 10) := by decide
theorem pb_46 : (Int8.ofInt (46)).toInt32 = (nI 46) := by decide
theorem pm_165 : Cond.fieldLink RX4 33 RX4 "song" "I" ∈ ps_T := ps_in 165 (by decide +kernel) (by decide +kernel)
theorem pf_X4_33 {X : ps_X} {cc : ByteArray} (C : ps_C X RX4 cc) {M : ps_M} {pc : Nat} {lv : List (Option Value)} {stk : List Value} {a : Nat} (hk : ps_ck 14 a = true) {x : Int32} (hd : decode cc pc = .ok (.putfield 33, 3)) (k : ∀ M1, M1 = ps_st M a 5 x → ps_G X M1 (pc + 3) lv stk) : ps_G X M pc lv (.int x :: .ref (xb X + a) :: stk) := ps_put C (κ := 14) (ci := 4) (slot := 5) (CN := RX4) (T := TX4) (N := 9) (ty0 := tyX4) (ps_st M a 5 x) hk rfl (by rw [ps_st_self]; rfl) ps_st_ho (fun h => h) rfl inX4 tyX4_ok nmX4 (by decide) pm_165 rfl rfl (tyX4_ok 5 (by decide)) rfl rfl (Nat.le_of_ble_eq_true rfl) hd (k _ rfl)
theorem pb_47 : (Int8.ofInt (47)).toInt32 = (nI 47) := by decide
theorem pm_596 : Cond.methodLink RX4 76 yX4_readNumber ∈ ps_T := ps_in 596 (by decide +kernel) (by decide +kernel)
theorem pm_598 : Cond.instanceMethod yX4_readNumber ∈ ps_T := ps_in 598 (by decide +kernel) (by decide +kernel)
theorem pn_17 : Cond.selects RX4 yX4_readNumber yX4_readNumber ∈ ps_T := ps_inS 17 (by decide +kernel) (by decide +kernel)
theorem pm_599 : Cond.code yX4_readNumber cX4_readNumber 1 (some .boolean) ∈ ps_T := ps_in 599 (by decide +kernel) (by decide +kernel)
theorem cw_X4_76 : ps_cwV RX4 76 RX4 yX4_readNumber cX4_readNumber 1 (some .boolean) 0 := ⟨⟨pm_596, pm_598, pn_17, pm_7, pm_599⟩, ⟨by decide, by decide⟩, by decide +kernel⟩
theorem pm_592 : Cond.methodLink RX4 56 yX4_take ∈ ps_T := ps_in 592 (by decide +kernel) (by decide +kernel)
theorem pm_594 : Cond.instanceMethod yX4_take ∈ ps_T := ps_in 594 (by decide +kernel) (by decide +kernel)
theorem pn_16 : Cond.selects RX4 yX4_take yX4_take ∈ ps_T := ps_inS 16 (by decide +kernel) (by decide +kernel)
theorem pm_595 : Cond.code yX4_take cX4_take 2 (some .boolean) ∈ ps_T := ps_in 595 (by decide +kernel) (by decide +kernel)
theorem cw_X4_56 : ps_cwV RX4 56 RX4 yX4_take cX4_take 2 (some .boolean) 1 := ⟨⟨pm_592, pm_594, pn_16, pm_7, pm_595⟩, ⟨by decide, by decide⟩, by decide +kernel⟩
theorem pm_580 : Cond.methodLink RX4 73 yX4_readParrot ∈ ps_T := ps_in 580 (by decide +kernel) (by decide +kernel)
theorem pm_582 : Cond.instanceMethod yX4_readParrot ∈ ps_T := ps_in 582 (by decide +kernel) (by decide +kernel)
theorem pn_13 : Cond.selects RX4 yX4_readParrot yX4_readParrot ∈ ps_T := ps_inS 13 (by decide +kernel) (by decide +kernel)
theorem pm_583 : Cond.code yX4_readParrot cX4_readParrot 1 (some .boolean) ∈ ps_T := ps_in 583 (by decide +kernel) (by decide +kernel)
theorem cw_X4_73 : ps_cwV RX4 73 RX4 yX4_readParrot cX4_readParrot 1 (some .boolean) 0 := ⟨⟨pm_580, pm_582, pn_13, pm_7, pm_583⟩, ⟨by decide, by decide⟩, by decide +kernel⟩
theorem pm_161 : Cond.fieldLink RX4 26 RX4 "kind" "C" ∈ ps_T := ps_in 161 (by decide +kernel) (by decide +kernel)
theorem pf_X4_26 {X : ps_X} {cc : ByteArray} (C : ps_C X RX4 cc) {M : ps_M} {pc : Nat} {lv : List (Option Value)} {stk : List Value} {a : Nat} (hk : ps_ck 14 a = true) {x : Int32} (hx : ps_isC x = true) (hd : decode cc pc = .ok (.putfield 26, 3)) (k : ∀ M1, M1 = ps_st M a 3 x → ps_G X M1 (pc + 3) lv stk) : ps_G X M pc lv (.int x :: .ref (xb X + a) :: stk) := ps_put C (κ := 14) (ci := 4) (slot := 3) (CN := RX4) (T := TX4) (N := 9) (ty0 := tyX4) (ps_st M a 3 x) hk rfl (by rw [ps_st_self]; rfl) ps_st_ho (fun h => h) rfl inX4 tyX4_ok nmX4 (by decide) pm_161 rfl rfl (tyX4_ok 3 (by decide)) (ps_isC_n hx).1 (ps_isC_n hx).2 (Nat.le_of_ble_eq_true rfl) hd (k _ rfl)
theorem gf_X4_26 {X : ps_X} {cc : ByteArray} (C : ps_C X RX4 cc) {M : ps_M} {pc : Nat} {lv : List (Option Value)} {stk : List Value} {a : Nat} (hk : ps_ck 14 a = true) (hd : decode cc pc = .ok (.getfield 26, 3)) (k : ps_G X M (pc + 3) lv (.int (ps_rd M a 3) :: stk)) : ps_G X M pc lv (.ref (xb X + a) :: stk) := ps_get C (κ := 14) (ci := 4) (slot := 3) (CN := RX4) (T := TX4) (N := 9) hk rfl rfl inX4 (by decide) pm_161 rfl rfl hd k
theorem pz_66 {x : Int32} (h : x.toInt = 66) : x = nI 66 := Int32.toInt_inj.mp (h.trans (by decide : (66 : Int) = (nI 66).toInt))
theorem pz_72 {x : Int32} (h : x.toInt = 72) : x = nI 72 := Int32.toInt_inj.mp (h.trans (by decide : (72 : Int) = (nI 72).toInt))
theorem pz_76 {x : Int32} (h : x.toInt = 76) : x = nI 76 := Int32.toInt_inj.mp (h.trans (by decide : (76 : Int) = (nI 76).toInt))
theorem pz_78 {x : Int32} (h : x.toInt = 78) : x = nI 78 := Int32.toInt_inj.mp (h.trans (by decide : (78 : Int) = (nI 78).toInt))
theorem pz_80 {x : Int32} (h : x.toInt = 80) : x = nI 80 := Int32.toInt_inj.mp (h.trans (by decide : (80 : Int) = (nI 80).toInt))
theorem pz_83 {x : Int32} (h : x.toInt = 83) : x = nI 83 := Int32.toInt_inj.mp (h.trans (by decide : (83 : Int) = (nI 83).toInt))
theorem pm_572 : Cond.methodLink RX4 67 yX4_readBars ∈ ps_T := ps_in 572 (by decide +kernel) (by decide +kernel)
theorem pm_574 : Cond.instanceMethod yX4_readBars ∈ ps_T := ps_in 574 (by decide +kernel) (by decide +kernel)
theorem pn_11 : Cond.selects RX4 yX4_readBars yX4_readBars ∈ ps_T := ps_inS 11 (by decide +kernel) (by decide +kernel)
theorem pm_575 : Cond.code yX4_readBars cX4_readBars 1 (some .boolean) ∈ ps_T := ps_in 575 (by decide +kernel) (by decide +kernel)
theorem cw_X4_67 : ps_cwV RX4 67 RX4 yX4_readBars cX4_readBars 1 (some .boolean) 0 := ⟨⟨pm_572, pm_574, pn_11, pm_7, pm_575⟩, ⟨by decide, by decide⟩, by decide +kernel⟩
theorem pb_42 : (Int8.ofInt (42)).toInt32 = (nI 42) := by decide
theorem pm_576 : Cond.methodLink RX4 70 yX4_readLesson ∈ ps_T := ps_in 576 (by decide +kernel) (by decide +kernel)
theorem pm_578 : Cond.instanceMethod yX4_readLesson ∈ ps_T := ps_in 578 (by decide +kernel) (by decide +kernel)
theorem pn_12 : Cond.selects RX4 yX4_readLesson yX4_readLesson ∈ ps_T := ps_inS 12 (by decide +kernel) (by decide +kernel)
theorem pm_579 : Cond.code yX4_readLesson cX4_readLesson 1 (some .boolean) ∈ ps_T := ps_in 579 (by decide +kernel) (by decide +kernel)
theorem cw_X4_70 : ps_cwV RX4 70 RX4 yX4_readLesson cX4_readLesson 1 (some .boolean) 0 := ⟨⟨pm_576, pm_578, pn_12, pm_7, pm_579⟩, ⟨by decide, by decide⟩, by decide +kernel⟩
theorem gf_X4_22 {X : ps_X} {cc : ByteArray} (C : ps_C X RX4 cc) {M : ps_M} {pc : Nat} {lv : List (Option Value)} {stk : List Value} {a : Nat} (hk : ps_ck 14 a = true) (hd : decode cc pc = .ok (.getfield 22, 3)) (k : ps_G X M (pc + 3) lv (.int (ps_rd M a 2) :: stk)) : ps_G X M pc lv (.ref (xb X + a) :: stk) := ps_get C (κ := 14) (ci := 4) (slot := 2) (CN := RX4) (T := TX4) (N := 9) hk rfl rfl inX4 (by decide) pm_160 rfl rfl hd k
theorem pb_59 : (Int8.ofInt (59)).toInt32 = (nI 59) := by decide
theorem pm_149 : Cond.fieldLink RX4 60 RX2 "length" "I" ∈ ps_T := ps_in 149 (by decide +kernel) (by decide +kernel)
theorem gf_X4_60 {X : ps_X} {cc : ByteArray} (C : ps_C X RX4 cc) {M : ps_M} {pc : Nat} {lv : List (Option Value)} {stk : List Value} {a : Nat} (hk : ps_ck 15 a = true) (hd : decode cc pc = .ok (.getfield 60, 3)) (k : ps_G X M (pc + 3) lv (.int (ps_rd M a 1) :: stk)) : ps_G X M pc lv (.ref (xb X + a) :: stk) := ps_get C (κ := 15) (ci := 2) (slot := 1) (CN := RX2) (T := TX2) (N := 2) hk rfl rfl inX2 (by decide) pm_149 rfl rfl hd k
theorem pm_564 : Cond.methodLink RX4 53 yX4_readOrder ∈ ps_T := ps_in 564 (by decide +kernel) (by decide +kernel)
theorem pm_566 : Cond.instanceMethod yX4_readOrder ∈ ps_T := ps_in 566 (by decide +kernel) (by decide +kernel)
theorem pn_10 : Cond.selects RX4 yX4_readOrder yX4_readOrder ∈ ps_T := ps_inS 10 (by decide +kernel) (by decide +kernel)
theorem pm_567 : Cond.code yX4_readOrder cX4_readOrder 1 (some .boolean) ∈ ps_T := ps_in 567 (by decide +kernel) (by decide +kernel)
theorem cw_X4_53 : ps_cwV RX4 53 RX4 yX4_readOrder cX4_readOrder 1 (some .boolean) 0 := ⟨⟨pm_564, pm_566, pn_10, pm_7, pm_567⟩, ⟨by decide, by decide⟩, by decide +kernel⟩
theorem pm_560 : Cond.methodLink RX4 49 yX4_readNext ∈ ps_T := ps_in 560 (by decide +kernel) (by decide +kernel)
theorem pm_561 : Cond.instanceMethod yX4_readNext ∈ ps_T := ps_in 561 (by decide +kernel) (by decide +kernel)
theorem pm_562 : Cond.selects RX4 yX4_readNext yX4_readNext ∈ ps_T := ps_in 562 (by decide +kernel) (by decide +kernel)
theorem pm_563 : Cond.code yX4_readNext cX4_readNext 1 (some .boolean) ∈ ps_T := ps_in 563 (by decide +kernel) (by decide +kernel)
theorem cw_X4_49 : ps_cwV RX4 49 RX4 yX4_readNext cX4_readNext 1 (some .boolean) 0 := ⟨⟨pm_560, pm_561, pm_562, pm_7, pm_563⟩, ⟨by decide, by decide⟩, by decide +kernel⟩
theorem pm_556 : Cond.methodLink RX4 46 yX4_start ∈ ps_T := ps_in 556 (by decide +kernel) (by decide +kernel)
theorem pm_557 : Cond.instanceMethod yX4_start ∈ ps_T := ps_in 557 (by decide +kernel) (by decide +kernel)
theorem pm_558 : Cond.selects RX4 yX4_start yX4_start ∈ ps_T := ps_in 558 (by decide +kernel) (by decide +kernel)
theorem pm_559 : Cond.code yX4_start cX4_start 1 none ∈ ps_T := ps_in 559 (by decide +kernel) (by decide +kernel)
theorem cw_X4_46 : ps_cwV RX4 46 RX4 yX4_start cX4_start 1 none 0 := ⟨⟨pm_556, pm_557, pm_558, pm_7, pm_559⟩, ⟨by decide, by decide⟩, by decide +kernel⟩
theorem pm_473 : Cond.methodLink RX5 33 Lib.Math.min.name ∈ ps_T := ps_in 473 (by decide +kernel) (by decide +kernel)
theorem cw_X5_33 : Cond.methodLink RX5 33 Lib.Math.min.name ∈ ps_T ∧ Cond.static Lib.Math.min.name ∈ ps_T ∧ Cond.initialized "java/lang/Math" ∈ ps_T ∧ Cond.code Lib.Math.min.name Lib.Math.min.code 2 (some .int) ∈ ps_T := ⟨pm_473, pm_314, pm_10, ps_in 315 (by decide +kernel) (by decide +kernel)⟩
theorem pm_614 : Cond.methodLink RX5 39 Lib.Math.max.name ∈ ps_T := ps_in 614 (by decide +kernel) (by decide +kernel)
theorem pm_615 : Cond.static Lib.Math.max.name ∈ ps_T := ps_in 615 (by decide +kernel) (by decide +kernel)
theorem cw_X5_39 : Cond.methodLink RX5 39 Lib.Math.max.name ∈ ps_T ∧ Cond.static Lib.Math.max.name ∈ ps_T ∧ Cond.initialized "java/lang/Math" ∈ ps_T ∧ Cond.code Lib.Math.max.name Lib.Math.max.code 2 (some .int) ∈ ps_T := ⟨pm_614, pm_615, pm_10, ps_in 616 (by decide +kernel) (by decide +kernel)⟩
theorem pm_387 : Cond.constant RJ6 265 (nI 1431655765) ∈ ps_T := ps_in 387 (by decide +kernel) (by decide +kernel)
theorem pm_388 : Cond.constant RJ6 266 (nI 858993459) ∈ ps_T := ps_in 388 (by decide +kernel) (by decide +kernel)
theorem pm_389 : Cond.constant RJ6 267 (nI 252645135) ∈ ps_T := ps_in 389 (by decide +kernel) (by decide +kernel)
theorem pb_16 : (Int8.ofInt (16)).toInt32 = (nI 16) := by decide
theorem pb_63 : (Int8.ofInt (63)).toInt32 = (nI 63) := by decide
theorem pm_384 : Cond.methodLink RX5 57 yJ6_bitCount_0f7a4 ∈ ps_T := ps_in 384 (by decide +kernel) (by decide +kernel)
theorem pm_385 : Cond.static yJ6_bitCount_0f7a4 ∈ ps_T := ps_in 385 (by decide +kernel) (by decide +kernel)
theorem pm_11 : Cond.initialized RJ6 ∈ ps_T := ps_in 11 (by decide +kernel) (by decide +kernel)
theorem pm_386 : Cond.code yJ6_bitCount_0f7a4 cJ6_bitCount_0f7a4 1 (some .int) ∈ ps_T := ps_in 386 (by decide +kernel) (by decide +kernel)
theorem cw_X5_57 : ps_cwS RX5 57 yJ6_bitCount_0f7a4 cJ6_bitCount_0f7a4 1 (some .int) 1 := ⟨⟨pm_384, pm_385, pm_11, pm_386⟩, ⟨by decide, by decide⟩, by decide +kernel⟩
theorem pb_100 : (Int8.ofInt (100)).toInt32 = (nI 100) := by decide
theorem pm_524 : Cond.methodLink RX5 71 yX5_hundredths ∈ ps_T := ps_in 524 (by decide +kernel) (by decide +kernel)
theorem pm_449 : Cond.instanceMethod yX5_hundredths ∈ ps_T := ps_in 449 (by decide +kernel) (by decide +kernel)
theorem pm_450 : Cond.selects RX5 yX5_hundredths yX5_hundredths ∈ ps_T := ps_in 450 (by decide +kernel) (by decide +kernel)
theorem pm_451 : Cond.code yX5_hundredths cX5_hundredths 4 (some .int) ∈ ps_T := ps_in 451 (by decide +kernel) (by decide +kernel)
theorem cw_X5_71 : ps_cwV RX5 71 RX5 yX5_hundredths cX5_hundredths 4 (some .int) 2 := ⟨⟨pm_524, pm_449, pm_450, pm_3, pm_451⟩, ⟨by decide, by decide⟩, by decide +kernel⟩
theorem pm_430 : Cond.methodLink RX5 74 yX5_isKnownBy ∈ ps_T := ps_in 430 (by decide +kernel) (by decide +kernel)
theorem cw_X5_74 : ps_cwV RX5 74 RX5 yX5_isKnownBy cX5_isKnownBy 3 (some .boolean) 2 := ⟨⟨pm_430, pm_404, pm_405, pm_3, pm_406⟩, ⟨by decide, by decide⟩, by decide +kernel⟩
theorem pm_461 : Cond.methodLink RX5 78 yX5_hasPair ∈ ps_T := ps_in 461 (by decide +kernel) (by decide +kernel)
theorem pm_463 : Cond.instanceMethod yX5_hasPair ∈ ps_T := ps_in 463 (by decide +kernel) (by decide +kernel)
theorem pn_9 : Cond.selects RX5 yX5_hasPair yX5_hasPair ∈ ps_T := ps_inS 9 (by decide +kernel) (by decide +kernel)
theorem pm_464 : Cond.code yX5_hasPair cX5_hasPair 5 (some .boolean) ∈ ps_T := ps_in 464 (by decide +kernel) (by decide +kernel)
theorem cw_X5_78 : ps_cwV RX5 78 RX5 yX5_hasPair cX5_hasPair 5 (some .boolean) 3 := ⟨⟨pm_461, pm_463, pn_9, pm_3, pm_464⟩, ⟨by decide, by decide⟩, by decide +kernel⟩
theorem pm_195 : Cond.fieldLink RX6 19 RX6 "history" "LParrotSongs$History;" ∈ ps_T := ps_in 195 (by decide +kernel) (by decide +kernel)
theorem gf_X6_19 {X : ps_X} {cc : ByteArray} (C : ps_C X RX6 cc) {M : ps_M} {pc : Nat} {lv : List (Option Value)} {stk : List Value} {a : Nat} (hk : ps_ck 0 a = true) (hd : decode cc pc = .ok (.getfield 19, 3)) (k : ps_G X M (pc + 3) lv (.ref (xb X + (a + 41)) :: stk)) : ps_G X M pc lv (.ref (xb X + a) :: stk) := ps_get C (κ := 0) (ci := 6) (slot := 1) (CN := RX6) (T := TX6) (N := 6) hk rfl rfl inX6 (by decide) pm_195 rfl rfl hd k
theorem kf_0_41 {a : Nat} (h : ps_ck 0 a = true) : ps_ck 12 (a + 41) = true := (by decide +kernel : ∀ a, a < 425 → ps_ck 0 a = true → ps_ck 12 (a + 41) = true) a (ps_ck_lt h) h
theorem pm_194 : Cond.fieldLink RX6 10 RX6 "house" "LParrotSongs$House;" ∈ ps_T := ps_in 194 (by decide +kernel) (by decide +kernel)
theorem gf_X6_10 {X : ps_X} {cc : ByteArray} (C : ps_C X RX6 cc) {M : ps_M} {pc : Nat} {lv : List (Option Value)} {stk : List Value} {a : Nat} (hk : ps_ck 0 a = true) (hd : decode cc pc = .ok (.getfield 10, 3)) (k : ps_G X M (pc + 3) lv (.ref (xb X + (a + 1)) :: stk)) : ps_G X M pc lv (.ref (xb X + a) :: stk) := ps_get C (κ := 0) (ci := 6) (slot := 0) (CN := RX6) (T := TX6) (N := 6) hk rfl rfl inX6 (by decide) pm_194 rfl rfl hd k
theorem kf_0_1 {a : Nat} (h : ps_ck 0 a = true) : ps_ck 1 (a + 1) = true := (by decide +kernel : ∀ a, a < 425 → ps_ck 0 a = true → ps_ck 1 (a + 1) = true) a (ps_ck_lt h) h
theorem pm_244 : Cond.methodLink RX6 53 yX0_keepUnlessError ∈ ps_T := ps_in 244 (by decide +kernel) (by decide +kernel)
theorem pm_245 : Cond.instanceMethod yX0_keepUnlessError ∈ ps_T := ps_in 245 (by decide +kernel) (by decide +kernel)
theorem pm_246 : Cond.selects RX0 yX0_keepUnlessError yX0_keepUnlessError ∈ ps_T := ps_in 246 (by decide +kernel) (by decide +kernel)
theorem pm_247 : Cond.code yX0_keepUnlessError cX0_keepUnlessError 2 (some .int) ∈ ps_T := ps_in 247 (by decide +kernel) (by decide +kernel)
theorem cw_X6_53 : ps_cwV RX6 53 RX0 yX0_keepUnlessError cX0_keepUnlessError 2 (some .int) 1 := ⟨⟨pm_244, pm_245, pm_246, pm_6, pm_247⟩, ⟨by decide, by decide⟩, by decide +kernel⟩
theorem pm_236 : Cond.methodLink RX6 49 yX1_changeSetting ∈ ps_T := ps_in 236 (by decide +kernel) (by decide +kernel)
theorem pm_237 : Cond.instanceMethod yX1_changeSetting ∈ ps_T := ps_in 237 (by decide +kernel) (by decide +kernel)
theorem pm_238 : Cond.selects RX1 yX1_changeSetting yX1_changeSetting ∈ ps_T := ps_in 238 (by decide +kernel) (by decide +kernel)
theorem pm_239 : Cond.code yX1_changeSetting cX1_changeSetting 4 (some .int) ∈ ps_T := ps_in 239 (by decide +kernel) (by decide +kernel)
theorem cw_X6_49 : ps_cwV RX6 49 RX1 yX1_changeSetting cX1_changeSetting 4 (some .int) 2 := ⟨⟨pm_236, pm_237, pm_238, pm_2, pm_239⟩, ⟨by decide, by decide⟩, by decide +kernel⟩
theorem pm_218 : Cond.methodLink RX6 45 yX0_noteBefore ∈ ps_T := ps_in 218 (by decide +kernel) (by decide +kernel)
theorem pm_219 : Cond.instanceMethod yX0_noteBefore ∈ ps_T := ps_in 219 (by decide +kernel) (by decide +kernel)
theorem pm_220 : Cond.selects RX0 yX0_noteBefore yX0_noteBefore ∈ ps_T := ps_in 220 (by decide +kernel) (by decide +kernel)
theorem pm_221 : Cond.code yX0_noteBefore cX0_noteBefore 2 none ∈ ps_T := ps_in 221 (by decide +kernel) (by decide +kernel)
theorem cw_X6_45 : ps_cwV RX6 45 RX0 yX0_noteBefore cX0_noteBefore 2 none 1 := ⟨⟨pm_218, pm_219, pm_220, pm_6, pm_221⟩, ⟨by decide, by decide⟩, by decide +kernel⟩
theorem pm_263 : Cond.methodLink RX6 57 yX1_addParrot ∈ ps_T := ps_in 263 (by decide +kernel) (by decide +kernel)
theorem pm_264 : Cond.instanceMethod yX1_addParrot ∈ ps_T := ps_in 264 (by decide +kernel) (by decide +kernel)
theorem pm_265 : Cond.selects RX1 yX1_addParrot yX1_addParrot ∈ ps_T := ps_in 265 (by decide +kernel) (by decide +kernel)
theorem pm_266 : Cond.code yX1_addParrot cX1_addParrot 1 (some .int) ∈ ps_T := ps_in 266 (by decide +kernel) (by decide +kernel)
theorem cw_X6_57 : ps_cwV RX6 57 RX1 yX1_addParrot cX1_addParrot 1 (some .int) 0 := ⟨⟨pm_263, pm_264, pm_265, pm_2, pm_266⟩, ⟨by decide, by decide⟩, by decide +kernel⟩
theorem pm_271 : Cond.methodLink RX6 61 yX1_teach ∈ ps_T := ps_in 271 (by decide +kernel) (by decide +kernel)
theorem pm_272 : Cond.instanceMethod yX1_teach ∈ ps_T := ps_in 272 (by decide +kernel) (by decide +kernel)
theorem pm_273 : Cond.selects RX1 yX1_teach yX1_teach ∈ ps_T := ps_in 273 (by decide +kernel) (by decide +kernel)
theorem pm_274 : Cond.code yX1_teach cX1_teach 6 (some .int) ∈ ps_T := ps_in 274 (by decide +kernel) (by decide +kernel)
theorem cw_X6_61 : ps_cwV RX6 61 RX1 yX1_teach cX1_teach 6 (some .int) 3 := ⟨⟨pm_271, pm_272, pm_273, pm_2, pm_274⟩, ⟨by decide, by decide⟩, by decide +kernel⟩
theorem pm_336 : Cond.methodLink RX6 65 yX1_silence ∈ ps_T := ps_in 336 (by decide +kernel) (by decide +kernel)
theorem pm_337 : Cond.instanceMethod yX1_silence ∈ ps_T := ps_in 337 (by decide +kernel) (by decide +kernel)
theorem pm_338 : Cond.selects RX1 yX1_silence yX1_silence ∈ ps_T := ps_in 338 (by decide +kernel) (by decide +kernel)
theorem pm_339 : Cond.code yX1_silence cX1_silence 3 (some .int) ∈ ps_T := ps_in 339 (by decide +kernel) (by decide +kernel)
theorem cw_X6_65 : ps_cwV RX6 65 RX1 yX1_silence cX1_silence 3 (some .int) 1 := ⟨⟨pm_336, pm_337, pm_338, pm_2, pm_339⟩, ⟨by decide, by decide⟩, by decide +kernel⟩
theorem pm_344 : Cond.methodLink RX6 68 yX1_letPractise ∈ ps_T := ps_in 344 (by decide +kernel) (by decide +kernel)
theorem pm_345 : Cond.instanceMethod yX1_letPractise ∈ ps_T := ps_in 345 (by decide +kernel) (by decide +kernel)
theorem pm_346 : Cond.selects RX1 yX1_letPractise yX1_letPractise ∈ ps_T := ps_in 346 (by decide +kernel) (by decide +kernel)
theorem pm_347 : Cond.code yX1_letPractise cX1_letPractise 6 (some .int) ∈ ps_T := ps_in 347 (by decide +kernel) (by decide +kernel)
theorem cw_X6_68 : ps_cwV RX6 68 RX1 yX1_letPractise cX1_letPractise 6 (some .int) 2 := ⟨⟨pm_344, pm_345, pm_346, pm_2, pm_347⟩, ⟨by decide, by decide⟩, by decide +kernel⟩
theorem pm_364 : Cond.methodLink RX6 71 yX1_passNight ∈ ps_T := ps_in 364 (by decide +kernel) (by decide +kernel)
theorem pm_365 : Cond.instanceMethod yX1_passNight ∈ ps_T := ps_in 365 (by decide +kernel) (by decide +kernel)
theorem pm_366 : Cond.selects RX1 yX1_passNight yX1_passNight ∈ ps_T := ps_in 366 (by decide +kernel) (by decide +kernel)
theorem pm_367 : Cond.code yX1_passNight cX1_passNight 3 (some .int) ∈ ps_T := ps_in 367 (by decide +kernel) (by decide +kernel)
theorem cw_X6_71 : ps_cwV RX6 71 RX1 yX1_passNight cX1_passNight 3 (some .int) 0 := ⟨⟨pm_364, pm_365, pm_366, pm_2, pm_367⟩, ⟨by decide, by decide⟩, by decide +kernel⟩
theorem pm_94 : Cond.fieldLink RX6 74 RX1 "songs" "LParrotSongs$Songbook;" ∈ ps_T := ps_in 94 (by decide +kernel) (by decide +kernel)
theorem gf_X6_74 {X : ps_X} {cc : ByteArray} (C : ps_C X RX6 cc) {M : ps_M} {pc : Nat} {lv : List (Option Value)} {stk : List Value} {a : Nat} (hk : ps_ck 1 a = true) (hd : decode cc pc = .ok (.getfield 74, 3)) (k : ps_G X M (pc + 3) lv (.ref (xb X + (a + 2)) :: stk)) : ps_G X M pc lv (.ref (xb X + a) :: stk) := ps_get C (κ := 1) (ci := 1) (slot := 1) (CN := RX1) (T := TX1) (N := 6) hk rfl rfl inX1 (by decide) pm_94 rfl rfl hd k
theorem pz_0 {x : Int32} (h : x.toInt = 0) : x = nI 0 := Int32.toInt_inj.mp (h.trans (by decide : (0 : Int) = (nI 0).toInt))
theorem pz_1 {x : Int32} (h : x.toInt = 1) : x = nI 1 := Int32.toInt_inj.mp (h.trans (by decide : (1 : Int) = (nI 1).toInt))
theorem pz_2 {x : Int32} (h : x.toInt = 2) : x = nI 2 := Int32.toInt_inj.mp (h.trans (by decide : (2 : Int) = (nI 2).toInt))
theorem pz_3 {x : Int32} (h : x.toInt = 3) : x = nI 3 := Int32.toInt_inj.mp (h.trans (by decide : (3 : Int) = (nI 3).toInt))
theorem pz_4 {x : Int32} (h : x.toInt = 4) : x = nI 4 := Int32.toInt_inj.mp (h.trans (by decide : (4 : Int) = (nI 4).toInt))
theorem pz_5 {x : Int32} (h : x.toInt = 5) : x = nI 5 := Int32.toInt_inj.mp (h.trans (by decide : (5 : Int) = (nI 5).toInt))
theorem pm_399 : Cond.methodLink RX6 99 yX1_parrotsKnowing ∈ ps_T := ps_in 399 (by decide +kernel) (by decide +kernel)
theorem pm_400 : Cond.instanceMethod yX1_parrotsKnowing ∈ ps_T := ps_in 400 (by decide +kernel) (by decide +kernel)
theorem pm_401 : Cond.selects RX1 yX1_parrotsKnowing yX1_parrotsKnowing ∈ ps_T := ps_in 401 (by decide +kernel) (by decide +kernel)
theorem pm_402 : Cond.code yX1_parrotsKnowing cX1_parrotsKnowing 4 (some .int) ∈ ps_T := ps_in 402 (by decide +kernel) (by decide +kernel)
theorem cw_X6_99 : ps_cwV RX6 99 RX1 yX1_parrotsKnowing cX1_parrotsKnowing 4 (some .int) 1 := ⟨⟨pm_399, pm_400, pm_401, pm_2, pm_402⟩, ⟨by decide, by decide⟩, by decide +kernel⟩
theorem pm_395 : Cond.methodLink RX6 96 yX5_lessonsWith ∈ ps_T := ps_in 395 (by decide +kernel) (by decide +kernel)
theorem pm_396 : Cond.instanceMethod yX5_lessonsWith ∈ ps_T := ps_in 396 (by decide +kernel) (by decide +kernel)
theorem pm_397 : Cond.selects RX5 yX5_lessonsWith yX5_lessonsWith ∈ ps_T := ps_in 397 (by decide +kernel) (by decide +kernel)
theorem pm_398 : Cond.code yX5_lessonsWith cX5_lessonsWith 2 (some .int) ∈ ps_T := ps_in 398 (by decide +kernel) (by decide +kernel)
theorem cw_X6_96 : ps_cwV RX6 96 RX5 yX5_lessonsWith cX5_lessonsWith 2 (some .int) 1 := ⟨⟨pm_395, pm_396, pm_397, pm_3, pm_398⟩, ⟨by decide, by decide⟩, by decide +kernel⟩
theorem pm_391 : Cond.methodLink RX6 93 yX5_lastBar ∈ ps_T := ps_in 391 (by decide +kernel) (by decide +kernel)
theorem pm_392 : Cond.instanceMethod yX5_lastBar ∈ ps_T := ps_in 392 (by decide +kernel) (by decide +kernel)
theorem pm_393 : Cond.selects RX5 yX5_lastBar yX5_lastBar ∈ ps_T := ps_in 393 (by decide +kernel) (by decide +kernel)
theorem pm_394 : Cond.code yX5_lastBar cX5_lastBar 2 (some .int) ∈ ps_T := ps_in 394 (by decide +kernel) (by decide +kernel)
theorem cw_X6_93 : ps_cwV RX6 93 RX5 yX5_lastBar cX5_lastBar 2 (some .int) 1 := ⟨⟨pm_391, pm_392, pm_393, pm_3, pm_394⟩, ⟨by decide, by decide⟩, by decide +kernel⟩
theorem pm_390 : Cond.methodLink RX6 90 yX5_barAt ∈ ps_T := ps_in 390 (by decide +kernel) (by decide +kernel)
theorem cw_X6_90 : ps_cwV RX6 90 RX5 yX5_barAt cX5_barAt 3 (some .int) 2 := ⟨⟨pm_390, pm_297, pm_298, pm_3, pm_299⟩, ⟨by decide, by decide⟩, by decide +kernel⟩
theorem pm_378 : Cond.methodLink RX6 87 yX5_unlikeBars ∈ ps_T := ps_in 378 (by decide +kernel) (by decide +kernel)
theorem pm_379 : Cond.instanceMethod yX5_unlikeBars ∈ ps_T := ps_in 379 (by decide +kernel) (by decide +kernel)
theorem pm_380 : Cond.selects RX5 yX5_unlikeBars yX5_unlikeBars ∈ ps_T := ps_in 380 (by decide +kernel) (by decide +kernel)
theorem pm_381 : Cond.code yX5_unlikeBars cX5_unlikeBars 4 (some .int) ∈ ps_T := ps_in 381 (by decide +kernel) (by decide +kernel)
theorem cw_X6_87 : ps_cwV RX6 87 RX5 yX5_unlikeBars cX5_unlikeBars 4 (some .int) 1 := ⟨⟨pm_378, pm_379, pm_380, pm_3, pm_381⟩, ⟨by decide, by decide⟩, by decide +kernel⟩
theorem pm_377 : Cond.methodLink RX6 84 yX5_lengthOf ∈ ps_T := ps_in 377 (by decide +kernel) (by decide +kernel)
theorem cw_X6_84 : ps_cwV RX6 84 RX5 yX5_lengthOf cX5_lengthOf 2 (some .int) 1 := ⟨⟨pm_377, pm_293, pm_294, pm_3, pm_295⟩, ⟨by decide, by decide⟩, by decide +kernel⟩
theorem pm_376 : Cond.methodLink RX6 78 yX5_has ∈ ps_T := ps_in 376 (by decide +kernel) (by decide +kernel)
theorem cw_X6_78 : ps_cwV RX6 78 RX5 yX5_has cX5_has 2 (some .boolean) 1 := ⟨⟨pm_376, pm_280, pm_281, pm_3, pm_282⟩, ⟨by decide, by decide⟩, by decide +kernel⟩
theorem pm_416 : Cond.methodLink RX6 102 yX5_hasBar ∈ ps_T := ps_in 416 (by decide +kernel) (by decide +kernel)
theorem cw_X6_102 : ps_cwV RX6 102 RX5 yX5_hasBar cX5_hasBar 3 (some .boolean) 2 := ⟨⟨pm_416, pm_284, pm_285, pm_3, pm_286⟩, ⟨by decide, by decide⟩, by decide +kernel⟩
theorem pm_96 : Cond.fieldLink RX6 109 RX1 "parrots" "[LParrotSongs$Parrot;" ∈ ps_T := ps_in 96 (by decide +kernel) (by decide +kernel)
theorem gf_X6_109 {X : ps_X} {cc : ByteArray} (C : ps_C X RX6 cc) {M : ps_M} {pc : Nat} {lv : List (Option Value)} {stk : List Value} {a : Nat} (hk : ps_ck 1 a = true) (hd : decode cc pc = .ok (.getfield 109, 3)) (k : ps_G X M (pc + 3) lv (.ref (xb X + (a + 14)) :: stk)) : ps_G X M pc lv (.ref (xb X + a) :: stk) := ps_get C (κ := 1) (ci := 1) (slot := 2) (CN := RX1) (T := TX1) (N := 6) hk rfl rfl inX1 (by decide) pm_96 rfl rfl hd k
theorem pz_6 {x : Int32} (h : x.toInt = 6) : x = nI 6 := Int32.toInt_inj.mp (h.trans (by decide : (6 : Int) = (nI 6).toInt))
theorem pm_426 : Cond.methodLink RX6 132 yX5_knownBy ∈ ps_T := ps_in 426 (by decide +kernel) (by decide +kernel)
theorem pm_427 : Cond.instanceMethod yX5_knownBy ∈ ps_T := ps_in 427 (by decide +kernel) (by decide +kernel)
theorem pm_428 : Cond.selects RX5 yX5_knownBy yX5_knownBy ∈ ps_T := ps_in 428 (by decide +kernel) (by decide +kernel)
theorem pm_429 : Cond.code yX5_knownBy cX5_knownBy 4 (some .int) ∈ ps_T := ps_in 429 (by decide +kernel) (by decide +kernel)
theorem cw_X6_132 : ps_cwV RX6 132 RX5 yX5_knownBy cX5_knownBy 4 (some .int) 1 := ⟨⟨pm_426, pm_427, pm_428, pm_3, pm_429⟩, ⟨by decide, by decide⟩, by decide +kernel⟩
theorem pm_76 : Cond.fieldLink RX6 129 RX3 "forgotten" "I" ∈ ps_T := ps_in 76 (by decide +kernel) (by decide +kernel)
theorem gf_X6_129 {X : ps_X} {cc : ByteArray} (C : ps_C X RX6 cc) {M : ps_M} {pc : Nat} {lv : List (Option Value)} {stk : List Value} {a : Nat} (hk : ps_ck 9 a = true) (hd : decode cc pc = .ok (.getfield 129, 3)) (k : ps_G X M (pc + 3) lv (.int (ps_rd M a 5) :: stk)) : ps_G X M pc lv (.ref (xb X + a) :: stk) := ps_get C (κ := 9) (ci := 3) (slot := 5) (CN := RX3) (T := TX3) (N := 6) hk rfl rfl inX3 (by decide) pm_76 rfl rfl hd k
theorem pm_73 : Cond.fieldLink RX6 126 RX3 "heardInAll" "I" ∈ ps_T := ps_in 73 (by decide +kernel) (by decide +kernel)
theorem gf_X6_126 {X : ps_X} {cc : ByteArray} (C : ps_C X RX6 cc) {M : ps_M} {pc : Nat} {lv : List (Option Value)} {stk : List Value} {a : Nat} (hk : ps_ck 9 a = true) (hd : decode cc pc = .ok (.getfield 126, 3)) (k : ps_G X M (pc + 3) lv (.int (ps_rd M a 4) :: stk)) : ps_G X M pc lv (.ref (xb X + a) :: stk) := ps_get C (κ := 9) (ci := 3) (slot := 4) (CN := RX3) (T := TX3) (N := 6) hk rfl rfl inX3 (by decide) pm_73 rfl rfl hd k
theorem pm_71 : Cond.fieldLink RX6 123 RX3 "heardToday" "I" ∈ ps_T := ps_in 71 (by decide +kernel) (by decide +kernel)
theorem gf_X6_123 {X : ps_X} {cc : ByteArray} (C : ps_C X RX6 cc) {M : ps_M} {pc : Nat} {lv : List (Option Value)} {stk : List Value} {a : Nat} (hk : ps_ck 9 a = true) (hd : decode cc pc = .ok (.getfield 123, 3)) (k : ps_G X M (pc + 3) lv (.int (ps_rd M a 3) :: stk)) : ps_G X M pc lv (.ref (xb X + a) :: stk) := ps_get C (κ := 9) (ci := 3) (slot := 3) (CN := RX3) (T := TX3) (N := 6) hk rfl rfl inX3 (by decide) pm_71 rfl rfl hd k
theorem pm_68 : Cond.fieldLink RX6 120 RX3 "last" "I" ∈ ps_T := ps_in 68 (by decide +kernel) (by decide +kernel)
theorem gf_X6_120 {X : ps_X} {cc : ByteArray} (C : ps_C X RX6 cc) {M : ps_M} {pc : Nat} {lv : List (Option Value)} {stk : List Value} {a : Nat} (hk : ps_ck 9 a = true) (hd : decode cc pc = .ok (.getfield 120, 3)) (k : ps_G X M (pc + 3) lv (.int (ps_rd M a 2) :: stk)) : ps_G X M pc lv (.ref (xb X + a) :: stk) := ps_get C (κ := 9) (ci := 3) (slot := 2) (CN := RX3) (T := TX3) (N := 6) hk rfl rfl inX3 (by decide) pm_68 rfl rfl hd k
theorem pm_422 : Cond.methodLink RX6 117 yX3_strengthInAll ∈ ps_T := ps_in 422 (by decide +kernel) (by decide +kernel)
theorem pm_423 : Cond.instanceMethod yX3_strengthInAll ∈ ps_T := ps_in 423 (by decide +kernel) (by decide +kernel)
theorem pm_424 : Cond.selects RX3 yX3_strengthInAll yX3_strengthInAll ∈ ps_T := ps_in 424 (by decide +kernel) (by decide +kernel)
theorem pm_425 : Cond.code yX3_strengthInAll cX3_strengthInAll 3 (some .int) ∈ ps_T := ps_in 425 (by decide +kernel) (by decide +kernel)
theorem cw_X6_117 : ps_cwV RX6 117 RX3 yX3_strengthInAll cX3_strengthInAll 3 (some .int) 0 := ⟨⟨pm_422, pm_423, pm_424, pm_5, pm_425⟩, ⟨by decide, by decide⟩, by decide +kernel⟩
theorem pm_64 : Cond.fieldLink RX6 113 RX3 "count" "I" ∈ ps_T := ps_in 64 (by decide +kernel) (by decide +kernel)
theorem gf_X6_113 {X : ps_X} {cc : ByteArray} (C : ps_C X RX6 cc) {M : ps_M} {pc : Nat} {lv : List (Option Value)} {stk : List Value} {a : Nat} (hk : ps_ck 9 a = true) (hd : decode cc pc = .ok (.getfield 113, 3)) (k : ps_G X M (pc + 3) lv (.int (ps_rd M a 1) :: stk)) : ps_G X M pc lv (.ref (xb X + a) :: stk) := ps_get C (κ := 9) (ci := 3) (slot := 1) (CN := RX3) (T := TX3) (N := 6) hk rfl rfl inX3 (by decide) pm_64 rfl rfl hd k
theorem pm_421 : Cond.methodLink RX6 106 yX1_hasParrot ∈ ps_T := ps_in 421 (by decide +kernel) (by decide +kernel)
theorem cw_X6_106 : ps_cwV RX6 106 RX1 yX1_hasParrot cX1_hasParrot 2 (some .boolean) 1 := ⟨⟨pm_421, pm_276, pm_277, pm_2, pm_278⟩, ⟨by decide, by decide⟩, by decide +kernel⟩
theorem pm_435 : Cond.methodLink RX6 136 yX3_ofLink ∈ ps_T := ps_in 435 (by decide +kernel) (by decide +kernel)
theorem pm_436 : Cond.instanceMethod yX3_ofLink ∈ ps_T := ps_in 436 (by decide +kernel) (by decide +kernel)
theorem pm_437 : Cond.selects RX3 yX3_ofLink yX3_ofLink ∈ ps_T := ps_in 437 (by decide +kernel) (by decide +kernel)
theorem pm_438 : Cond.code yX3_ofLink cX3_ofLink 3 (some .int) ∈ ps_T := ps_in 438 (by decide +kernel) (by decide +kernel)
theorem cw_X6_136 : ps_cwV RX6 136 RX3 yX3_ofLink cX3_ofLink 3 (some .int) 2 := ⟨⟨pm_435, pm_436, pm_437, pm_5, pm_438⟩, ⟨by decide, by decide⟩, by decide +kernel⟩
theorem pb_26 : (Int8.ofInt (26)).toInt32 = (nI 26) := by decide
theorem pb_99 : (Int8.ofInt (99)).toInt32 = (nI 99) := by decide
theorem pm_443 : Cond.methodLink RX6 139 yX3_nextBehind ∈ ps_T := ps_in 443 (by decide +kernel) (by decide +kernel)
theorem cw_X6_139 : ps_cwV RX6 139 RX3 yX3_nextBehind cX3_nextBehind 5 (some .int) 1 := ⟨⟨pm_443, pm_353, pm_354, pm_5, pm_355⟩, ⟨by decide, by decide⟩, by decide +kernel⟩
theorem pm_448 : Cond.methodLink RX6 142 yX5_hundredths ∈ ps_T := ps_in 448 (by decide +kernel) (by decide +kernel)
theorem cw_X6_142 : ps_cwV RX6 142 RX5 yX5_hundredths cX5_hundredths 4 (some .int) 2 := ⟨⟨pm_448, pm_449, pm_450, pm_3, pm_451⟩, ⟨by decide, by decide⟩, by decide +kernel⟩
theorem pm_457 : Cond.methodLink RX6 149 yX5_songsWithPair ∈ ps_T := ps_in 457 (by decide +kernel) (by decide +kernel)
theorem pm_458 : Cond.instanceMethod yX5_songsWithPair ∈ ps_T := ps_in 458 (by decide +kernel) (by decide +kernel)
theorem pm_459 : Cond.selects RX5 yX5_songsWithPair yX5_songsWithPair ∈ ps_T := ps_in 459 (by decide +kernel) (by decide +kernel)
theorem pm_460 : Cond.code yX5_songsWithPair cX5_songsWithPair 5 (some .int) ∈ ps_T := ps_in 460 (by decide +kernel) (by decide +kernel)
theorem cw_X6_149 : ps_cwV RX6 149 RX5 yX5_songsWithPair cX5_songsWithPair 5 (some .int) 2 := ⟨⟨pm_457, pm_458, pm_459, pm_3, pm_460⟩, ⟨by decide, by decide⟩, by decide +kernel⟩
theorem pm_456 : Cond.methodLink RX6 146 yX5_firstWrong ∈ ps_T := ps_in 456 (by decide +kernel) (by decide +kernel)
theorem cw_X6_146 : ps_cwV RX6 146 RX5 yX5_firstWrong cX5_firstWrong 4 (some .int) 2 := ⟨⟨pm_456, pm_408, pm_409, pm_3, pm_410⟩, ⟨by decide, by decide⟩, by decide +kernel⟩
theorem pm_469 : Cond.methodLink RX6 152 yX5_sameAtEnd ∈ ps_T := ps_in 469 (by decide +kernel) (by decide +kernel)
theorem pm_470 : Cond.instanceMethod yX5_sameAtEnd ∈ ps_T := ps_in 470 (by decide +kernel) (by decide +kernel)
theorem pm_471 : Cond.selects RX5 yX5_sameAtEnd yX5_sameAtEnd ∈ ps_T := ps_in 471 (by decide +kernel) (by decide +kernel)
theorem pm_472 : Cond.code yX5_sameAtEnd cX5_sameAtEnd 5 (some .int) ∈ ps_T := ps_in 472 (by decide +kernel) (by decide +kernel)
theorem cw_X6_152 : ps_cwV RX6 152 RX5 yX5_sameAtEnd cX5_sameAtEnd 5 (some .int) 2 := ⟨⟨pm_469, pm_470, pm_471, pm_3, pm_472⟩, ⟨by decide, by decide⟩, by decide +kernel⟩
theorem pm_478 : Cond.methodLink RX6 155 yX5_songsFrom ∈ ps_T := ps_in 478 (by decide +kernel) (by decide +kernel)
theorem pm_479 : Cond.instanceMethod yX5_songsFrom ∈ ps_T := ps_in 479 (by decide +kernel) (by decide +kernel)
theorem pm_480 : Cond.selects RX5 yX5_songsFrom yX5_songsFrom ∈ ps_T := ps_in 480 (by decide +kernel) (by decide +kernel)
theorem pm_481 : Cond.code yX5_songsFrom cX5_songsFrom 4 (some .int) ∈ ps_T := ps_in 481 (by decide +kernel) (by decide +kernel)
theorem cw_X6_155 : ps_cwV RX6 155 RX5 yX5_songsFrom cX5_songsFrom 4 (some .int) 1 := ⟨⟨pm_478, pm_479, pm_480, pm_3, pm_481⟩, ⟨by decide, by decide⟩, by decide +kernel⟩
theorem pz_7 {x : Int32} (h : x.toInt = 7) : x = nI 7 := Int32.toInt_inj.mp (h.trans (by decide : (7 : Int) = (nI 7).toInt))
theorem pz_8 {x : Int32} (h : x.toInt = 8) : x = nI 8 := Int32.toInt_inj.mp (h.trans (by decide : (8 : Int) = (nI 8).toInt))
theorem pz_9 {x : Int32} (h : x.toInt = 9) : x = nI 9 := Int32.toInt_inj.mp (h.trans (by decide : (9 : Int) = (nI 9).toInt))
theorem pz_10 {x : Int32} (h : x.toInt = 10) : x = nI 10 := Int32.toInt_inj.mp (h.trans (by decide : (10 : Int) = (nI 10).toInt))
theorem pz_11 {x : Int32} (h : x.toInt = 11) : x = nI 11 := Int32.toInt_inj.mp (h.trans (by decide : (11 : Int) = (nI 11).toInt))
theorem pz_12 {x : Int32} (h : x.toInt = 12) : x = nI 12 := Int32.toInt_inj.mp (h.trans (by decide : (12 : Int) = (nI 12).toInt))
theorem pz_13 {x : Int32} (h : x.toInt = 13) : x = nI 13 := Int32.toInt_inj.mp (h.trans (by decide : (13 : Int) = (nI 13).toInt))
theorem pm_127 : Cond.fieldLink RX6 193 RX0 "count" "I" ∈ ps_T := ps_in 127 (by decide +kernel) (by decide +kernel)
theorem gf_X6_193 {X : ps_X} {cc : ByteArray} (C : ps_C X RX6 cc) {M : ps_M} {pc : Nat} {lv : List (Option Value)} {stk : List Value} {a : Nat} (hk : ps_ck 12 a = true) (hd : decode cc pc = .ok (.getfield 193, 3)) (k : ps_G X M (pc + 3) lv (.int (ps_rd M a 2) :: stk)) : ps_G X M pc lv (.ref (xb X + a) :: stk) := ps_get C (κ := 12) (ci := 0) (slot := 2) (CN := RX0) (T := TX0) (N := 3) hk rfl rfl inX0 (by decide) pm_127 rfl rfl hd k
theorem pm_196 : Cond.fieldLink RX6 26 RX6 "reader" "LParrotSongs$Reader;" ∈ ps_T := ps_in 196 (by decide +kernel) (by decide +kernel)
theorem gf_X6_26 {X : ps_X} {cc : ByteArray} (C : ps_C X RX6 cc) {M : ps_M} {pc : Nat} {lv : List (Option Value)} {stk : List Value} {a : Nat} (hk : ps_ck 0 a = true) (hd : decode cc pc = .ok (.getfield 26, 3)) (k : ps_G X M (pc + 3) lv (.ref (xb X + (a + 323)) :: stk)) : ps_G X M pc lv (.ref (xb X + a) :: stk) := ps_get C (κ := 0) (ci := 6) (slot := 2) (CN := RX6) (T := TX6) (N := 6) hk rfl rfl inX6 (by decide) pm_196 rfl rfl hd k
theorem kf_0_323 {a : Nat} (h : ps_ck 0 a = true) : ps_ck 14 (a + 323) = true := (by decide +kernel : ∀ a, a < 425 → ps_ck 0 a = true → ps_ck 14 (a + 323) = true) a (ps_ck_lt h) h
theorem pm_158 : Cond.fieldLink RX6 184 RX4 "pad" "LParrotSongs$Pad;" ∈ ps_T := ps_in 158 (by decide +kernel) (by decide +kernel)
theorem gf_X6_184 {X : ps_X} {cc : ByteArray} (C : ps_C X RX6 cc) {M : ps_M} {pc : Nat} {lv : List (Option Value)} {stk : List Value} {a : Nat} (hk : ps_ck 14 a = true) (hd : decode cc pc = .ok (.getfield 184, 3)) (k : ps_G X M (pc + 3) lv (.ref (xb X + (a + 1)) :: stk)) : ps_G X M pc lv (.ref (xb X + a) :: stk) := ps_get C (κ := 14) (ci := 4) (slot := 0) (CN := RX4) (T := TX4) (N := 9) hk rfl rfl inX4 (by decide) pm_158 rfl rfl hd k
theorem pm_150 : Cond.fieldLink RX6 188 RX2 "length" "I" ∈ ps_T := ps_in 150 (by decide +kernel) (by decide +kernel)
theorem gf_X6_188 {X : ps_X} {cc : ByteArray} (C : ps_C X RX6 cc) {M : ps_M} {pc : Nat} {lv : List (Option Value)} {stk : List Value} {a : Nat} (hk : ps_ck 15 a = true) (hd : decode cc pc = .ok (.getfield 188, 3)) (k : ps_G X M (pc + 3) lv (.int (ps_rd M a 1) :: stk)) : ps_G X M pc lv (.ref (xb X + a) :: stk) := ps_get C (κ := 15) (ci := 2) (slot := 1) (CN := RX2) (T := TX2) (N := 2) hk rfl rfl inX2 (by decide) pm_150 rfl rfl hd k
theorem pm_92 : Cond.fieldLink RX6 180 RX1 "settings" "[I" ∈ ps_T := ps_in 92 (by decide +kernel) (by decide +kernel)
theorem gf_X6_180 {X : ps_X} {cc : ByteArray} (C : ps_C X RX6 cc) {M : ps_M} {pc : Nat} {lv : List (Option Value)} {stk : List Value} {a : Nat} (hk : ps_ck 1 a = true) (hd : decode cc pc = .ok (.getfield 180, 3)) (k : ps_G X M (pc + 3) lv (.ref (xb X + (a + 1)) :: stk)) : ps_G X M pc lv (.ref (xb X + a) :: stk) := ps_get C (κ := 1) (ci := 1) (slot := 0) (CN := RX1) (T := TX1) (N := 6) hk rfl rfl inX1 (by decide) pm_92 rfl rfl hd k
theorem pm_502 : Cond.methodLink RX6 177 yX1_tiredParrots ∈ ps_T := ps_in 502 (by decide +kernel) (by decide +kernel)
theorem pm_503 : Cond.instanceMethod yX1_tiredParrots ∈ ps_T := ps_in 503 (by decide +kernel) (by decide +kernel)
theorem pm_504 : Cond.selects RX1 yX1_tiredParrots yX1_tiredParrots ∈ ps_T := ps_in 504 (by decide +kernel) (by decide +kernel)
theorem pm_505 : Cond.code yX1_tiredParrots cX1_tiredParrots 3 (some .int) ∈ ps_T := ps_in 505 (by decide +kernel) (by decide +kernel)
theorem cw_X6_177 : ps_cwV RX6 177 RX1 yX1_tiredParrots cX1_tiredParrots 3 (some .int) 0 := ⟨⟨pm_502, pm_503, pm_504, pm_2, pm_505⟩, ⟨by decide, by decide⟩, by decide +kernel⟩
theorem pm_498 : Cond.methodLink RX6 174 yX1_forgottenByAll ∈ ps_T := ps_in 498 (by decide +kernel) (by decide +kernel)
theorem pm_499 : Cond.instanceMethod yX1_forgottenByAll ∈ ps_T := ps_in 499 (by decide +kernel) (by decide +kernel)
theorem pm_500 : Cond.selects RX1 yX1_forgottenByAll yX1_forgottenByAll ∈ ps_T := ps_in 500 (by decide +kernel) (by decide +kernel)
theorem pm_501 : Cond.code yX1_forgottenByAll cX1_forgottenByAll 3 (some .int) ∈ ps_T := ps_in 501 (by decide +kernel) (by decide +kernel)
theorem cw_X6_174 : ps_cwV RX6 174 RX1 yX1_forgottenByAll cX1_forgottenByAll 3 (some .int) 0 := ⟨⟨pm_498, pm_499, pm_500, pm_2, pm_501⟩, ⟨by decide, by decide⟩, by decide +kernel⟩
theorem pm_494 : Cond.methodLink RX6 171 yX1_linksOfAll ∈ ps_T := ps_in 494 (by decide +kernel) (by decide +kernel)
theorem pm_495 : Cond.instanceMethod yX1_linksOfAll ∈ ps_T := ps_in 495 (by decide +kernel) (by decide +kernel)
theorem pm_496 : Cond.selects RX1 yX1_linksOfAll yX1_linksOfAll ∈ ps_T := ps_in 496 (by decide +kernel) (by decide +kernel)
theorem pm_497 : Cond.code yX1_linksOfAll cX1_linksOfAll 3 (some .int) ∈ ps_T := ps_in 497 (by decide +kernel) (by decide +kernel)
theorem cw_X6_171 : ps_cwV RX6 171 RX1 yX1_linksOfAll cX1_linksOfAll 3 (some .int) 0 := ⟨⟨pm_494, pm_495, pm_496, pm_2, pm_497⟩, ⟨by decide, by decide⟩, by decide +kernel⟩
theorem pm_490 : Cond.methodLink RX6 168 yX1_heardByAll ∈ ps_T := ps_in 490 (by decide +kernel) (by decide +kernel)
theorem pm_491 : Cond.instanceMethod yX1_heardByAll ∈ ps_T := ps_in 491 (by decide +kernel) (by decide +kernel)
theorem pm_492 : Cond.selects RX1 yX1_heardByAll yX1_heardByAll ∈ ps_T := ps_in 492 (by decide +kernel) (by decide +kernel)
theorem pm_493 : Cond.code yX1_heardByAll cX1_heardByAll 3 (some .int) ∈ ps_T := ps_in 493 (by decide +kernel) (by decide +kernel)
theorem cw_X6_168 : ps_cwV RX6 168 RX1 yX1_heardByAll cX1_heardByAll 3 (some .int) 0 := ⟨⟨pm_490, pm_491, pm_492, pm_2, pm_493⟩, ⟨by decide, by decide⟩, by decide +kernel⟩
theorem pm_486 : Cond.methodLink RX6 165 yX5_lessonsInAll ∈ ps_T := ps_in 486 (by decide +kernel) (by decide +kernel)
theorem pm_487 : Cond.instanceMethod yX5_lessonsInAll ∈ ps_T := ps_in 487 (by decide +kernel) (by decide +kernel)
theorem pm_488 : Cond.selects RX5 yX5_lessonsInAll yX5_lessonsInAll ∈ ps_T := ps_in 488 (by decide +kernel) (by decide +kernel)
theorem pm_489 : Cond.code yX5_lessonsInAll cX5_lessonsInAll 3 (some .int) ∈ ps_T := ps_in 489 (by decide +kernel) (by decide +kernel)
theorem cw_X6_165 : ps_cwV RX6 165 RX5 yX5_lessonsInAll cX5_lessonsInAll 3 (some .int) 0 := ⟨⟨pm_486, pm_487, pm_488, pm_3, pm_489⟩, ⟨by decide, by decide⟩, by decide +kernel⟩
theorem pm_98 : Cond.fieldLink RX6 162 RX1 "parrotCount" "I" ∈ ps_T := ps_in 98 (by decide +kernel) (by decide +kernel)
theorem gf_X6_162 {X : ps_X} {cc : ByteArray} (C : ps_C X RX6 cc) {M : ps_M} {pc : Nat} {lv : List (Option Value)} {stk : List Value} {a : Nat} (hk : ps_ck 1 a = true) (hd : decode cc pc = .ok (.getfield 162, 3)) (k : ps_G X M (pc + 3) lv (.int (ps_rd M a 3) :: stk)) : ps_G X M pc lv (.ref (xb X + a) :: stk) := ps_get C (κ := 1) (ci := 1) (slot := 3) (CN := RX1) (T := TX1) (N := 6) hk rfl rfl inX1 (by decide) pm_98 rfl rfl hd k
theorem pm_38 : Cond.fieldLink RX6 161 RX5 "count" "I" ∈ ps_T := ps_in 38 (by decide +kernel) (by decide +kernel)
theorem gf_X6_161 {X : ps_X} {cc : ByteArray} (C : ps_C X RX6 cc) {M : ps_M} {pc : Nat} {lv : List (Option Value)} {stk : List Value} {a : Nat} (hk : ps_ck 3 a = true) (hd : decode cc pc = .ok (.getfield 161, 3)) (k : ps_G X M (pc + 3) lv (.int (ps_rd M a 3) :: stk)) : ps_G X M pc lv (.ref (xb X + a) :: stk) := ps_get C (κ := 3) (ci := 5) (slot := 3) (CN := RX5) (T := TX5) (N := 4) hk rfl rfl inX5 (by decide) pm_38 rfl rfl hd k
theorem pm_100 : Cond.fieldLink RX6 158 RX1 "nights" "I" ∈ ps_T := ps_in 100 (by decide +kernel) (by decide +kernel)
theorem gf_X6_158 {X : ps_X} {cc : ByteArray} (C : ps_C X RX6 cc) {M : ps_M} {pc : Nat} {lv : List (Option Value)} {stk : List Value} {a : Nat} (hk : ps_ck 1 a = true) (hd : decode cc pc = .ok (.getfield 158, 3)) (k : ps_G X M (pc + 3) lv (.int (ps_rd M a 4) :: stk)) : ps_G X M pc lv (.ref (xb X + a) :: stk) := ps_get C (κ := 1) (ci := 1) (slot := 4) (CN := RX1) (T := TX1) (N := 6) hk rfl rfl inX1 (by decide) pm_100 rfl rfl hd k
theorem pm_199 : Cond.fieldLink RX6 41 RX6 "pupil" "LParrotSongs$Parrot;" ∈ ps_T := ps_in 199 (by decide +kernel) (by decide +kernel)
theorem gf_X6_41 {X : ps_X} {cc : ByteArray} (C : ps_C X RX6 cc) {M : ps_M} {pc : Nat} {lv : List (Option Value)} {stk : List Value} {a : Nat} (hk : ps_ck 0 a = true) (hd : decode cc pc = .ok (.getfield 41, 3)) (k : ps_G X M (pc + 3) lv (.ref (xb X + (a + 329)) :: stk)) : ps_G X M pc lv (.ref (xb X + a) :: stk) := ps_get C (κ := 0) (ci := 6) (slot := 5) (CN := RX6) (T := TX6) (N := 6) hk rfl rfl inX6 (by decide) pm_199 rfl rfl hd k
theorem kf_0_329 {a : Nat} (h : ps_ck 0 a = true) : ps_ck 9 (a + 329) = true := (by decide +kernel : ∀ a, a < 425 → ps_ck 0 a = true → ps_ck 9 (a + 329) = true) a (ps_ck_lt h) h
theorem pb_30 : (Int8.ofInt (30)).toInt32 = (nI 30) := by decide
theorem pf_X6_120 {X : ps_X} {cc : ByteArray} (C : ps_C X RX6 cc) {M : ps_M} {pc : Nat} {lv : List (Option Value)} {stk : List Value} {a : Nat} (hk : ps_ck 9 a = true) {x : Int32} (hd : decode cc pc = .ok (.putfield 120, 3)) (k : ∀ M1, M1 = ps_st M a 2 x → ps_G X M1 (pc + 3) lv stk) : ps_G X M pc lv (.int x :: .ref (xb X + a) :: stk) := ps_put C (κ := 9) (ci := 3) (slot := 2) (CN := RX3) (T := TX3) (N := 6) (ty0 := tyX3) (ps_st M a 2 x) hk rfl (by rw [ps_st_self]; rfl) ps_st_ho (fun h => h) rfl inX3 tyX3_ok nmX3 (by decide) pm_68 rfl rfl (tyX3_ok 2 (by decide)) rfl rfl (Nat.le_of_ble_eq_true rfl) hd (k _ rfl)
theorem pm_512 : Cond.methodLink RX6 202 yX1_singWholeTo ∈ ps_T := ps_in 512 (by decide +kernel) (by decide +kernel)
theorem pm_513 : Cond.instanceMethod yX1_singWholeTo ∈ ps_T := ps_in 513 (by decide +kernel) (by decide +kernel)
theorem pm_514 : Cond.selects RX1 yX1_singWholeTo yX1_singWholeTo ∈ ps_T := ps_in 514 (by decide +kernel) (by decide +kernel)
theorem pm_515 : Cond.code yX1_singWholeTo cX1_singWholeTo 4 none ∈ ps_T := ps_in 515 (by decide +kernel) (by decide +kernel)
theorem cw_X6_202 : ps_cwV RX6 202 RX1 yX1_singWholeTo cX1_singWholeTo 4 none 2 := ⟨⟨pm_512, pm_513, pm_514, pm_2, pm_515⟩, ⟨by decide, by decide⟩, by decide +kernel⟩
theorem pm_511 : Cond.methodLink RX6 198 yX5_isKnownBy ∈ ps_T := ps_in 511 (by decide +kernel) (by decide +kernel)
theorem cw_X6_198 : ps_cwV RX6 198 RX5 yX5_isKnownBy cX5_isKnownBy 3 (some .boolean) 2 := ⟨⟨pm_511, pm_404, pm_405, pm_3, pm_406⟩, ⟨by decide, by decide⟩, by decide +kernel⟩
theorem pm_510 : Cond.methodLink RX6 194 yX3_copyFrom ∈ ps_T := ps_in 510 (by decide +kernel) (by decide +kernel)
theorem cw_X6_194 : ps_cwV RX6 194 RX3 yX3_copyFrom cX3_copyFrom 3 none 1 := ⟨⟨pm_510, pm_232, pm_233, pm_5, pm_234⟩, ⟨by decide, by decide⟩, by decide +kernel⟩
theorem pm_520 : Cond.methodLink RX6 206 yX5_hundredthsInAll ∈ ps_T := ps_in 520 (by decide +kernel) (by decide +kernel)
theorem pm_521 : Cond.instanceMethod yX5_hundredthsInAll ∈ ps_T := ps_in 521 (by decide +kernel) (by decide +kernel)
theorem pm_522 : Cond.selects RX5 yX5_hundredthsInAll yX5_hundredthsInAll ∈ ps_T := ps_in 522 (by decide +kernel) (by decide +kernel)
theorem pm_523 : Cond.code yX5_hundredthsInAll cX5_hundredthsInAll 4 (some .int) ∈ ps_T := ps_in 523 (by decide +kernel) (by decide +kernel)
theorem cw_X6_206 : ps_cwV RX6 206 RX5 yX5_hundredthsInAll cX5_hundredthsInAll 4 (some .int) 1 := ⟨⟨pm_520, pm_521, pm_522, pm_3, pm_523⟩, ⟨by decide, by decide⟩, by decide +kernel⟩
theorem pm_529 : Cond.methodLink RX6 209 yX3_sleep ∈ ps_T := ps_in 529 (by decide +kernel) (by decide +kernel)
theorem cw_X6_209 : ps_cwV RX6 209 RX3 yX3_sleep cX3_sleep 5 (some .int) 1 := ⟨⟨pm_529, pm_369, pm_370, pm_5, pm_371⟩, ⟨by decide, by decide⟩, by decide +kernel⟩
theorem pm_534 : Cond.methodLink RX6 212 yX2_append ∈ ps_T := ps_in 534 (by decide +kernel) (by decide +kernel)
theorem pm_535 : Cond.instanceMethod yX2_append ∈ ps_T := ps_in 535 (by decide +kernel) (by decide +kernel)
theorem pm_536 : Cond.selects RX2 yX2_append yX2_append ∈ ps_T := ps_in 536 (by decide +kernel) (by decide +kernel)
theorem pm_537 : Cond.code yX2_append cX2_append 5 (some .int) ∈ ps_T := ps_in 537 (by decide +kernel) (by decide +kernel)
theorem cw_X6_212 : ps_cwV RX6 212 RX2 yX2_append cX2_append 5 (some .int) 1 := ⟨⟨pm_534, pm_535, pm_536, pm_8, pm_537⟩, ⟨by decide, by decide⟩, by decide +kernel⟩
theorem pf_X6_188 {X : ps_X} {cc : ByteArray} (C : ps_C X RX6 cc) {M : ps_M} {pc : Nat} {lv : List (Option Value)} {stk : List Value} {a : Nat} (hk : ps_ck 15 a = true) {x : Int32} (hd : decode cc pc = .ok (.putfield 188, 3)) (k : ∀ M1, M1 = ps_st M a 1 x → ps_G X M1 (pc + 3) lv stk) : ps_G X M pc lv (.int x :: .ref (xb X + a) :: stk) := ps_put C (κ := 15) (ci := 2) (slot := 1) (CN := RX2) (T := TX2) (N := 2) (ty0 := tyX2) (ps_st M a 1 x) hk rfl (by rw [ps_st_self]; rfl) ps_st_ho (fun h => h) rfl inX2 tyX2_ok nmX2 (by decide) pm_150 rfl rfl (tyX2_ok 1 (by decide)) rfl rfl (Nat.le_of_ble_eq_true rfl) hd (k _ rfl)
theorem pm_552 : Cond.methodLink RX6 216 yX4_findFault ∈ ps_T := ps_in 552 (by decide +kernel) (by decide +kernel)
theorem pm_553 : Cond.instanceMethod yX4_findFault ∈ ps_T := ps_in 553 (by decide +kernel) (by decide +kernel)
theorem pm_554 : Cond.selects RX4 yX4_findFault yX4_findFault ∈ ps_T := ps_in 554 (by decide +kernel) (by decide +kernel)
theorem pm_555 : Cond.code yX4_findFault cX4_findFault 2 (some .int) ∈ ps_T := ps_in 555 (by decide +kernel) (by decide +kernel)
theorem cw_X6_216 : ps_cwV RX6 216 RX4 yX4_findFault cX4_findFault 2 (some .int) 0 := ⟨⟨pm_552, pm_553, pm_554, pm_7, pm_555⟩, ⟨by decide, by decide⟩, by decide +kernel⟩
theorem pm_162 : Cond.fieldLink RX6 238 RX4 "kind" "C" ∈ ps_T := ps_in 162 (by decide +kernel) (by decide +kernel)
theorem gf_X6_238 {X : ps_X} {cc : ByteArray} (C : ps_C X RX6 cc) {M : ps_M} {pc : Nat} {lv : List (Option Value)} {stk : List Value} {a : Nat} (hk : ps_ck 14 a = true) (hd : decode cc pc = .ok (.getfield 238, 3)) (k : ps_G X M (pc + 3) lv (.int (ps_rd M a 3) :: stk)) : ps_G X M pc lv (.ref (xb X + a) :: stk) := ps_get C (κ := 14) (ci := 4) (slot := 3) (CN := RX4) (T := TX4) (N := 9) hk rfl rfl inX4 (by decide) pm_162 rfl rfl hd k
theorem pb_m3 : (Int8.ofInt (-3)).toInt32 = (ps_m 3) := by decide
theorem pm_170 : Cond.fieldLink RX6 242 RX4 "bars" "[I" ∈ ps_T := ps_in 170 (by decide +kernel) (by decide +kernel)
theorem gf_X6_242 {X : ps_X} {cc : ByteArray} (C : ps_C X RX6 cc) {M : ps_M} {pc : Nat} {lv : List (Option Value)} {stk : List Value} {a : Nat} (hk : ps_ck 14 a = true) (hd : decode cc pc = .ok (.getfield 242, 3)) (k : ps_G X M (pc + 3) lv (.ref (xb X + (a + 3)) :: stk)) : ps_G X M pc lv (.ref (xb X + a) :: stk) := ps_get C (κ := 14) (ci := 4) (slot := 7) (CN := RX4) (T := TX4) (N := 9) hk rfl rfl inX4 (by decide) pm_170 rfl rfl hd k
theorem pm_172 : Cond.fieldLink RX6 245 RX4 "barCount" "I" ∈ ps_T := ps_in 172 (by decide +kernel) (by decide +kernel)
theorem gf_X6_245 {X : ps_X} {cc : ByteArray} (C : ps_C X RX6 cc) {M : ps_M} {pc : Nat} {lv : List (Option Value)} {stk : List Value} {a : Nat} (hk : ps_ck 14 a = true) (hd : decode cc pc = .ok (.getfield 245, 3)) (k : ps_G X M (pc + 3) lv (.int (ps_rd M a 8) :: stk)) : ps_G X M pc lv (.ref (xb X + a) :: stk) := ps_get C (κ := 14) (ci := 4) (slot := 8) (CN := RX4) (T := TX4) (N := 9) hk rfl rfl inX4 (by decide) pm_172 rfl rfl hd k
theorem pm_610 : Cond.methodLink RX6 248 yX5_add ∈ ps_T := ps_in 610 (by decide +kernel) (by decide +kernel)
theorem pm_611 : Cond.instanceMethod yX5_add ∈ ps_T := ps_in 611 (by decide +kernel) (by decide +kernel)
theorem pm_612 : Cond.selects RX5 yX5_add yX5_add ∈ ps_T := ps_in 612 (by decide +kernel) (by decide +kernel)
theorem pm_613 : Cond.code yX5_add cX5_add 4 (some .int) ∈ ps_T := ps_in 613 (by decide +kernel) (by decide +kernel)
theorem cw_X6_248 : ps_cwV RX6 248 RX5 yX5_add cX5_add 4 (some .int) 2 := ⟨⟨pm_610, pm_611, pm_612, pm_3, pm_613⟩, ⟨by decide, by decide⟩, by decide +kernel⟩
theorem pm_164 : Cond.fieldLink RX6 252 RX4 "parrot" "I" ∈ ps_T := ps_in 164 (by decide +kernel) (by decide +kernel)
theorem gf_X6_252 {X : ps_X} {cc : ByteArray} (C : ps_C X RX6 cc) {M : ps_M} {pc : Nat} {lv : List (Option Value)} {stk : List Value} {a : Nat} (hk : ps_ck 14 a = true) (hd : decode cc pc = .ok (.getfield 252, 3)) (k : ps_G X M (pc + 3) lv (.int (ps_rd M a 4) :: stk)) : ps_G X M pc lv (.ref (xb X + a) :: stk) := ps_get C (κ := 14) (ci := 4) (slot := 4) (CN := RX4) (T := TX4) (N := 9) hk rfl rfl inX4 (by decide) pm_164 rfl rfl hd k
theorem pm_168 : Cond.fieldLink RX6 258 RX4 "number" "I" ∈ ps_T := ps_in 168 (by decide +kernel) (by decide +kernel)
theorem gf_X6_258 {X : ps_X} {cc : ByteArray} (C : ps_C X RX6 cc) {M : ps_M} {pc : Nat} {lv : List (Option Value)} {stk : List Value} {a : Nat} (hk : ps_ck 14 a = true) (hd : decode cc pc = .ok (.getfield 258, 3)) (k : ps_G X M (pc + 3) lv (.int (ps_rd M a 6) :: stk)) : ps_G X M pc lv (.ref (xb X + a) :: stk) := ps_get C (κ := 14) (ci := 4) (slot := 6) (CN := RX4) (T := TX4) (N := 9) hk rfl rfl inX4 (by decide) pm_168 rfl rfl hd k
theorem pm_166 : Cond.fieldLink RX6 255 RX4 "song" "I" ∈ ps_T := ps_in 166 (by decide +kernel) (by decide +kernel)
theorem gf_X6_255 {X : ps_X} {cc : ByteArray} (C : ps_C X RX6 cc) {M : ps_M} {pc : Nat} {lv : List (Option Value)} {stk : List Value} {a : Nat} (hk : ps_ck 14 a = true) (hd : decode cc pc = .ok (.getfield 255, 3)) (k : ps_G X M (pc + 3) lv (.int (ps_rd M a 5) :: stk)) : ps_G X M pc lv (.ref (xb X + a) :: stk) := ps_get C (κ := 14) (ci := 4) (slot := 5) (CN := RX4) (T := TX4) (N := 9) hk rfl rfl inX4 (by decide) pm_166 rfl rfl hd k
theorem pm_617 : Cond.methodLink RX6 229 yX6_isError ∈ ps_T := ps_in 617 (by decide +kernel) (by decide +kernel)
theorem cw_X6_229 : ps_cwS RX6 229 yX6_isError cX6_isError 1 (some .boolean) 1 := ⟨⟨pm_617, pm_249, pm_1, pm_250⟩, ⟨by decide, by decide⟩, by decide +kernel⟩
theorem pm_606 : Cond.methodLink RX6 226 yX6_carryOrder ∈ ps_T := ps_in 606 (by decide +kernel) (by decide +kernel)
theorem pm_608 : Cond.instanceMethod yX6_carryOrder ∈ ps_T := ps_in 608 (by decide +kernel) (by decide +kernel)
theorem pn_18 : Cond.selects RX6 yX6_carryOrder yX6_carryOrder ∈ ps_T := ps_inS 18 (by decide +kernel) (by decide +kernel)
theorem pm_609 : Cond.code yX6_carryOrder cX6_carryOrder 1 (some .int) ∈ ps_T := ps_in 609 (by decide +kernel) (by decide +kernel)
theorem cw_X6_226 : ps_cwV RX6 226 RX6 yX6_carryOrder cX6_carryOrder 1 (some .int) 0 := ⟨⟨pm_606, pm_608, pn_18, pm_1, pm_609⟩, ⟨by decide, by decide⟩, by decide +kernel⟩
theorem pm_605 : Cond.methodLink RX6 222 yX4_readNext ∈ ps_T := ps_in 605 (by decide +kernel) (by decide +kernel)
theorem cw_X6_222 : ps_cwV RX6 222 RX4 yX4_readNext cX4_readNext 1 (some .boolean) 0 := ⟨⟨pm_605, pm_561, pm_562, pm_7, pm_563⟩, ⟨by decide, by decide⟩, by decide +kernel⟩
theorem pm_604 : Cond.methodLink RX6 219 yX4_start ∈ ps_T := ps_in 604 (by decide +kernel) (by decide +kernel)
theorem cw_X6_219 : ps_cwV RX6 219 RX4 yX4_start cX4_start 1 none 0 := ⟨⟨pm_604, pm_557, pm_558, pm_7, pm_559⟩, ⟨by decide, by decide⟩, by decide +kernel⟩
theorem pm_622 : Cond.methodLink RX6 232 yX0_takeBack ∈ ps_T := ps_in 622 (by decide +kernel) (by decide +kernel)
theorem pm_623 : Cond.instanceMethod yX0_takeBack ∈ ps_T := ps_in 623 (by decide +kernel) (by decide +kernel)
theorem pm_624 : Cond.selects RX0 yX0_takeBack yX0_takeBack ∈ ps_T := ps_in 624 (by decide +kernel) (by decide +kernel)
theorem pm_625 : Cond.code yX0_takeBack cX0_takeBack 2 (some .int) ∈ ps_T := ps_in 625 (by decide +kernel) (by decide +kernel)
theorem cw_X6_232 : ps_cwV RX6 232 RX0 yX0_takeBack cX0_takeBack 2 (some .int) 1 := ⟨⟨pm_622, pm_623, pm_624, pm_6, pm_625⟩, ⟨by decide, by decide⟩, by decide +kernel⟩
theorem pm_197 : Cond.fieldLink RX6 30 RX6 "slots" "[LParrotSongs$House;" ∈ ps_T := ps_in 197 (by decide +kernel) (by decide +kernel)
theorem gf_X6_30 {X : ps_X} {cc : ByteArray} (C : ps_C X RX6 cc) {M : ps_M} {pc : Nat} {lv : List (Option Value)} {stk : List Value} {a : Nat} (hk : ps_ck 0 a = true) (hd : decode cc pc = .ok (.getfield 30, 3)) (k : ps_G X M (pc + 3) lv (.ref (xb X + (a + 327)) :: stk)) : ps_G X M pc lv (.ref (xb X + a) :: stk) := ps_get C (κ := 0) (ci := 6) (slot := 3) (CN := RX6) (T := TX6) (N := 6) hk rfl rfl inX6 (by decide) pm_197 rfl rfl hd k
theorem kf_0_327 {a : Nat} (h : ps_ck 0 a = true) : ps_ck 18 (a + 327) = true := (by decide +kernel : ∀ a, a < 425 → ps_ck 0 a = true → ps_ck 18 (a + 327) = true) a (ps_ck_lt h) h
theorem ke_18 {a : Nat} {i : Int32} (h : ps_ck 18 a = true) (hi : ps_inB i 2 = true) : ps_ck 1 (a + 8 + 40 * i.toNatClampNeg) = true := (by decide +kernel : ∀ a, a < 425 → ps_ck 18 a = true → ∀ j, j < 2 → ps_ck 1 (a + 8 + 40 * j) = true) a (ps_ck_lt h) h _ (ps_inB_lt hi)
theorem pm_198 : Cond.fieldLink RX6 34 RX6 "saved" "[Z" ∈ ps_T := ps_in 198 (by decide +kernel) (by decide +kernel)
theorem gf_X6_34 {X : ps_X} {cc : ByteArray} (C : ps_C X RX6 cc) {M : ps_M} {pc : Nat} {lv : List (Option Value)} {stk : List Value} {a : Nat} (hk : ps_ck 0 a = true) (hd : decode cc pc = .ok (.getfield 34, 3)) (k : ps_G X M (pc + 3) lv (.ref (xb X + (a + 328)) :: stk)) : ps_G X M pc lv (.ref (xb X + a) :: stk) := ps_get C (κ := 0) (ci := 6) (slot := 4) (CN := RX6) (T := TX6) (N := 6) hk rfl rfl inX6 (by decide) pm_198 rfl rfl hd k
theorem kf_0_328 {a : Nat} (h : ps_ck 0 a = true) : ps_ck 19 (a + 328) = true := (by decide +kernel : ∀ a, a < 425 → ps_ck 0 a = true → ps_ck 19 (a + 328) = true) a (ps_ck_lt h) h
theorem pm_630 : Cond.methodLink RX6 236 yX1_copyFrom ∈ ps_T := ps_in 630 (by decide +kernel) (by decide +kernel)
theorem cw_X6_236 : ps_cwV RX6 236 RX1 yX1_copyFrom cX1_copyFrom 3 none 1 := ⟨⟨pm_630, pm_223, pm_224, pm_2, pm_225⟩, ⟨by decide, by decide⟩, by decide +kernel⟩
theorem pb_22 : (Int8.ofInt (22)).toInt32 = (nI 22) := by decide
theorem pj_185 : (Int16.ofInt (185)).toInt32 = (nI 185) := by decide
theorem pj_205 : (Int16.ofInt (205)).toInt32 = (nI 205) := by decide
theorem pj_183 : (Int16.ofInt (183)).toInt32 = (nI 183) := by decide
theorem pm_641 : Cond.fieldLink RX7 7 RX7 "s" "[I" ∈ ps_T := ps_in 641 (by decide +kernel) (by decide +kernel)
theorem gf_X7_7 {X : ps_X} {cc : ByteArray} (C : ps_C X RX7 cc) {M : ps_M} {pc : Nat} {lv : List (Option Value)} {stk : List Value} {a : Nat} (hk : ps_ck 20 a = true) (hd : decode cc pc = .ok (.getfield 7, 3)) (k : ps_G X M (pc + 3) lv (.ref (xb X + (a + 1)) :: stk)) : ps_G X M pc lv (.ref (xb X + a) :: stk) := ps_get C (κ := 20) (ci := 7) (slot := 0) (CN := RX7) (T := TX7) (N := 13) hk rfl rfl inX7 (by decide) pm_641 rfl rfl hd k
theorem kf_20_1 {a : Nat} (h : ps_ck 20 a = true) : ps_ck 21 (a + 1) = true := (by decide +kernel : ∀ a, a < 425 → ps_ck 20 a = true → ps_ck 21 (a + 1) = true) a (ps_ck_lt h) h
theorem pm_685 : Cond.methodLink RX7 39 yX7_in ∈ ps_T := ps_in 685 (by decide +kernel) (by decide +kernel)
theorem pm_686 : Cond.static yX7_in ∈ ps_T := ps_in 686 (by decide +kernel) (by decide +kernel)
theorem pm_9 : Cond.initialized RX7 ∈ ps_T := ps_in 9 (by decide +kernel) (by decide +kernel)
theorem pm_687 : Cond.code yX7_in cX7_in 3 (some .boolean) ∈ ps_T := ps_in 687 (by decide +kernel) (by decide +kernel)
theorem cw_X7_39 : ps_cwS RX7 39 yX7_in cX7_in 3 (some .boolean) 3 := ⟨⟨pm_685, pm_686, pm_9, pm_687⟩, ⟨by decide, by decide⟩, by decide +kernel⟩
theorem pj_937 : (Int16.ofInt (937)).toInt32 = (nI 937) := by decide
theorem pm_642 : Cond.fieldLink RX7 13 RX7 "spare" "[I" ∈ ps_T := ps_in 642 (by decide +kernel) (by decide +kernel)
theorem gf_X7_13 {X : ps_X} {cc : ByteArray} (C : ps_C X RX7 cc) {M : ps_M} {pc : Nat} {lv : List (Option Value)} {stk : List Value} {a : Nat} (hk : ps_ck 20 a = true) (hd : decode cc pc = .ok (.getfield 13, 3)) (k : ps_G X M (pc + 3) lv (.ref (xb X + (a + 2)) :: stk)) : ps_G X M pc lv (.ref (xb X + a) :: stk) := ps_get C (κ := 20) (ci := 7) (slot := 1) (CN := RX7) (T := TX7) (N := 13) hk rfl rfl inX7 (by decide) pm_642 rfl rfl hd k
theorem kf_20_2 {a : Nat} (h : ps_ck 20 a = true) : ps_ck 21 (a + 2) = true := (by decide +kernel : ∀ a, a < 425 → ps_ck 20 a = true → ps_ck 21 (a + 2) = true) a (ps_ck_lt h) h
theorem pm_651 : Cond.fieldLink RX7 43 RX7 "states" "I" ∈ ps_T := ps_in 651 (by decide +kernel) (by decide +kernel)
theorem gf_X7_43 {X : ps_X} {cc : ByteArray} (C : ps_C X RX7 cc) {M : ps_M} {pc : Nat} {lv : List (Option Value)} {stk : List Value} {a : Nat} (hk : ps_ck 20 a = true) (hd : decode cc pc = .ok (.getfield 43, 3)) (k : ps_G X M (pc + 3) lv (.int (ps_rd M a 10) :: stk)) : ps_G X M pc lv (.ref (xb X + a) :: stk) := ps_get C (κ := 20) (ci := 7) (slot := 10) (CN := RX7) (T := TX7) (N := 13) hk rfl rfl inX7 (by decide) pm_651 rfl rfl hd k
theorem pf_X7_43 {X : ps_X} {cc : ByteArray} (C : ps_C X RX7 cc) {M : ps_M} {pc : Nat} {lv : List (Option Value)} {stk : List Value} {a : Nat} (hk : ps_ck 20 a = true) {x : Int32} (hd : decode cc pc = .ok (.putfield 43, 3)) (k : ∀ M1, M1 = ps_st M a 10 x → ps_G X M1 (pc + 3) lv stk) : ps_G X M pc lv (.int x :: .ref (xb X + a) :: stk) := ps_put C (κ := 20) (ci := 7) (slot := 10) (CN := RX7) (T := TX7) (N := 13) (ty0 := tyX7) (ps_st M a 10 x) hk rfl (by rw [ps_st_self]; rfl) ps_st_ho (fun h => h) rfl inX7 tyX7_ok nmX7 (by decide) pm_651 rfl rfl (tyX7_ok 10 (by decide)) rfl rfl (Nat.le_of_ble_eq_true rfl) hd (k _ rfl)
theorem pm_644 : Cond.fieldLink RX7 19 RX7 "before" "[I" ∈ ps_T := ps_in 644 (by decide +kernel) (by decide +kernel)
theorem gf_X7_19 {X : ps_X} {cc : ByteArray} (C : ps_C X RX7 cc) {M : ps_M} {pc : Nat} {lv : List (Option Value)} {stk : List Value} {a : Nat} (hk : ps_ck 20 a = true) (hd : decode cc pc = .ok (.getfield 19, 3)) (k : ps_G X M (pc + 3) lv (.ref (xb X + (a + 4)) :: stk)) : ps_G X M pc lv (.ref (xb X + a) :: stk) := ps_get C (κ := 20) (ci := 7) (slot := 3) (CN := RX7) (T := TX7) (N := 13) hk rfl rfl inX7 (by decide) pm_644 rfl rfl hd k
theorem kf_20_4 {a : Nat} (h : ps_ck 20 a = true) : ps_ck 22 (a + 4) = true := (by decide +kernel : ∀ a, a < 425 → ps_ck 20 a = true → ps_ck 22 (a + 4) = true) a (ps_ck_lt h) h
theorem pj_4685 : (Int16.ofInt (4685)).toInt32 = (nI 4685) := by decide
theorem pm_643 : Cond.fieldLink RX7 16 RX7 "trial" "[I" ∈ ps_T := ps_in 643 (by decide +kernel) (by decide +kernel)
theorem gf_X7_16 {X : ps_X} {cc : ByteArray} (C : ps_C X RX7 cc) {M : ps_M} {pc : Nat} {lv : List (Option Value)} {stk : List Value} {a : Nat} (hk : ps_ck 20 a = true) (hd : decode cc pc = .ok (.getfield 16, 3)) (k : ps_G X M (pc + 3) lv (.ref (xb X + (a + 3)) :: stk)) : ps_G X M pc lv (.ref (xb X + a) :: stk) := ps_get C (κ := 20) (ci := 7) (slot := 2) (CN := RX7) (T := TX7) (N := 13) hk rfl rfl inX7 (by decide) pm_643 rfl rfl hd k
theorem kf_20_3 {a : Nat} (h : ps_ck 20 a = true) : ps_ck 21 (a + 3) = true := (by decide +kernel : ∀ a, a < 425 → ps_ck 20 a = true → ps_ck 21 (a + 3) = true) a (ps_ck_lt h) h
theorem pm_704 : Cond.methodLink RX7 47 yX7_p ∈ ps_T := ps_in 704 (by decide +kernel) (by decide +kernel)
theorem pm_705 : Cond.static yX7_p ∈ ps_T := ps_in 705 (by decide +kernel) (by decide +kernel)
theorem pm_706 : Cond.code yX7_p cX7_p 1 (some .int) ∈ ps_T := ps_in 706 (by decide +kernel) (by decide +kernel)
theorem cw_X7_47 : ps_cwS RX7 47 yX7_p cX7_p 1 (some .int) 1 := ⟨⟨pm_704, pm_705, pm_9, pm_706⟩, ⟨by decide, by decide⟩, by decide +kernel⟩
theorem pm_742 : Cond.methodLink RX7 51 yX7_l ∈ ps_T := ps_in 742 (by decide +kernel) (by decide +kernel)
theorem pm_743 : Cond.static yX7_l ∈ ps_T := ps_in 743 (by decide +kernel) (by decide +kernel)
theorem pm_744 : Cond.code yX7_l cX7_l 2 (some .int) ∈ ps_T := ps_in 744 (by decide +kernel) (by decide +kernel)
theorem cw_X7_51 : ps_cwS RX7 51 yX7_l cX7_l 2 (some .int) 2 := ⟨⟨pm_742, pm_743, pm_9, pm_744⟩, ⟨by decide, by decide⟩, by decide +kernel⟩
theorem pm_745 : Cond.methodLink RX7 58 yX7_takes ∈ ps_T := ps_in 745 (by decide +kernel) (by decide +kernel)
theorem pm_747 : Cond.instanceMethod yX7_takes ∈ ps_T := ps_in 747 (by decide +kernel) (by decide +kernel)
theorem pn_29 : Cond.selects RX7 yX7_takes yX7_takes ∈ ps_T := ps_inS 29 (by decide +kernel) (by decide +kernel)
theorem pm_748 : Cond.code yX7_takes cX7_takes 5 none ∈ ps_T := ps_in 748 (by decide +kernel) (by decide +kernel)
theorem cw_X7_58 : ps_cwV RX7 58 RX7 yX7_takes cX7_takes 5 none 2 := ⟨⟨pm_745, pm_747, pn_29, pm_9, pm_748⟩, ⟨by decide, by decide⟩, by decide +kernel⟩
theorem pm_749 : Cond.methodLink RX7 62 yX7_weakest ∈ ps_T := ps_in 749 (by decide +kernel) (by decide +kernel)
theorem pm_751 : Cond.instanceMethod yX7_weakest ∈ ps_T := ps_in 751 (by decide +kernel) (by decide +kernel)
theorem pn_30 : Cond.selects RX7 yX7_weakest yX7_weakest ∈ ps_T := ps_inS 30 (by decide +kernel) (by decide +kernel)
theorem pm_752 : Cond.code yX7_weakest cX7_weakest 4 (some .int) ∈ ps_T := ps_in 752 (by decide +kernel) (by decide +kernel)
theorem cw_X7_62 : ps_cwV RX7 62 RX7 yX7_weakest cX7_weakest 4 (some .int) 1 := ⟨⟨pm_749, pm_751, pn_30, pm_9, pm_752⟩, ⟨by decide, by decide⟩, by decide +kernel⟩
theorem pm_738 : Cond.methodLink RX7 55 yX7_linkOf ∈ ps_T := ps_in 738 (by decide +kernel) (by decide +kernel)
theorem pm_740 : Cond.instanceMethod yX7_linkOf ∈ ps_T := ps_in 740 (by decide +kernel) (by decide +kernel)
theorem pn_28 : Cond.selects RX7 yX7_linkOf yX7_linkOf ∈ ps_T := ps_inS 28 (by decide +kernel) (by decide +kernel)
theorem pm_741 : Cond.code yX7_linkOf cX7_linkOf 5 (some .int) ∈ ps_T := ps_in 741 (by decide +kernel) (by decide +kernel)
theorem cw_X7_55 : ps_cwV RX7 55 RX7 yX7_linkOf cX7_linkOf 5 (some .int) 2 := ⟨⟨pm_738, pm_740, pn_28, pm_9, pm_741⟩, ⟨by decide, by decide⟩, by decide +kernel⟩
theorem pm_734 : Cond.methodLink RX7 65 yX7_grows ∈ ps_T := ps_in 734 (by decide +kernel) (by decide +kernel)
theorem pm_736 : Cond.instanceMethod yX7_grows ∈ ps_T := ps_in 736 (by decide +kernel) (by decide +kernel)
theorem pn_27 : Cond.selects RX7 yX7_grows yX7_grows ∈ ps_T := ps_inS 27 (by decide +kernel) (by decide +kernel)
theorem pm_737 : Cond.code yX7_grows cX7_grows 6 none ∈ ps_T := ps_in 737 (by decide +kernel) (by decide +kernel)
theorem cw_X7_65 : ps_cwV RX7 65 RX7 yX7_grows cX7_grows 6 none 2 := ⟨⟨pm_734, pm_736, pn_27, pm_9, pm_737⟩, ⟨by decide, by decide⟩, by decide +kernel⟩
theorem pm_769 : Cond.methodLink RX7 71 yX7_goesOn ∈ ps_T := ps_in 769 (by decide +kernel) (by decide +kernel)
theorem pm_771 : Cond.instanceMethod yX7_goesOn ∈ ps_T := ps_in 771 (by decide +kernel) (by decide +kernel)
theorem pn_33 : Cond.selects RX7 yX7_goesOn yX7_goesOn ∈ ps_T := ps_inS 33 (by decide +kernel) (by decide +kernel)
theorem pm_772 : Cond.code yX7_goesOn cX7_goesOn 6 (some .int) ∈ ps_T := ps_in 772 (by decide +kernel) (by decide +kernel)
theorem cw_X7_71 : ps_cwV RX7 71 RX7 yX7_goesOn cX7_goesOn 6 (some .int) 2 := ⟨⟨pm_769, pm_771, pn_33, pm_9, pm_772⟩, ⟨by decide, by decide⟩, by decide +kernel⟩
theorem pm_723 : Cond.methodLink RX7 68 yX7_n ∈ ps_T := ps_in 723 (by decide +kernel) (by decide +kernel)
theorem pm_724 : Cond.static yX7_n ∈ ps_T := ps_in 724 (by decide +kernel) (by decide +kernel)
theorem pm_725 : Cond.code yX7_n cX7_n 1 (some .int) ∈ ps_T := ps_in 725 (by decide +kernel) (by decide +kernel)
theorem cw_X7_68 : ps_cwS RX7 68 yX7_n cX7_n 1 (some .int) 1 := ⟨⟨pm_723, pm_724, pm_9, pm_725⟩, ⟨by decide, by decide⟩, by decide +kernel⟩
theorem pm_805 : Cond.methodLink RX7 74 yX7_right ∈ ps_T := ps_in 805 (by decide +kernel) (by decide +kernel)
theorem pm_807 : Cond.instanceMethod yX7_right ∈ ps_T := ps_in 807 (by decide +kernel) (by decide +kernel)
theorem pn_40 : Cond.selects RX7 yX7_right yX7_right ∈ ps_T := ps_inS 40 (by decide +kernel) (by decide +kernel)
theorem pm_808 : Cond.code yX7_right cX7_right 5 (some .int) ∈ ps_T := ps_in 808 (by decide +kernel) (by decide +kernel)
theorem cw_X7_74 : ps_cwV RX7 74 RX7 yX7_right cX7_right 5 (some .int) 2 := ⟨⟨pm_805, pm_807, pn_40, pm_9, pm_808⟩, ⟨by decide, by decide⟩, by decide +kernel⟩
theorem pm_801 : Cond.methodLink RX7 77 yX7_hundredths ∈ ps_T := ps_in 801 (by decide +kernel) (by decide +kernel)
theorem pm_803 : Cond.instanceMethod yX7_hundredths ∈ ps_T := ps_in 803 (by decide +kernel) (by decide +kernel)
theorem pn_39 : Cond.selects RX7 yX7_hundredths yX7_hundredths ∈ ps_T := ps_inS 39 (by decide +kernel) (by decide +kernel)
theorem pm_804 : Cond.code yX7_hundredths cX7_hundredths 3 (some .int) ∈ ps_T := ps_in 804 (by decide +kernel) (by decide +kernel)
theorem cw_X7_77 : ps_cwV RX7 77 RX7 yX7_hundredths cX7_hundredths 3 (some .int) 2 := ⟨⟨pm_801, pm_803, pn_39, pm_9, pm_804⟩, ⟨by decide, by decide⟩, by decide +kernel⟩
theorem pm_649 : Cond.fieldLink RX7 35 RX7 "pad" "[C" ∈ ps_T := ps_in 649 (by decide +kernel) (by decide +kernel)
theorem gf_X7_35 {X : ps_X} {cc : ByteArray} (C : ps_C X RX7 cc) {M : ps_M} {pc : Nat} {lv : List (Option Value)} {stk : List Value} {a : Nat} (hk : ps_ck 20 a = true) (hd : decode cc pc = .ok (.getfield 35, 3)) (k : ps_G X M (pc + 3) lv (.ref (xb X + (a + 9)) :: stk)) : ps_G X M pc lv (.ref (xb X + a) :: stk) := ps_get C (κ := 20) (ci := 7) (slot := 8) (CN := RX7) (T := TX7) (N := 13) hk rfl rfl inX7 (by decide) pm_649 rfl rfl hd k
theorem kf_20_9 {a : Nat} (h : ps_ck 20 a = true) : ps_ck 16 (a + 9) = true := (by decide +kernel : ∀ a, a < 425 → ps_ck 20 a = true → ps_ck 16 (a + 9) = true) a (ps_ck_lt h) h
theorem pb_7 : (Int8.ofInt (7)).toInt32 = (nI 7) := by decide
theorem pm_730 : Cond.methodLink RX7 90 yX7_hears ∈ ps_T := ps_in 730 (by decide +kernel) (by decide +kernel)
theorem pm_732 : Cond.instanceMethod yX7_hears ∈ ps_T := ps_in 732 (by decide +kernel) (by decide +kernel)
theorem pn_26 : Cond.selects RX7 yX7_hears yX7_hears ∈ ps_T := ps_inS 26 (by decide +kernel) (by decide +kernel)
theorem pm_733 : Cond.code yX7_hears cX7_hears 4 none ∈ ps_T := ps_in 733 (by decide +kernel) (by decide +kernel)
theorem cw_X7_90 : ps_cwV RX7 90 RX7 yX7_hears cX7_hears 4 none 2 := ⟨⟨pm_730, pm_732, pn_26, pm_9, pm_733⟩, ⟨by decide, by decide⟩, by decide +kernel⟩
theorem pm_726 : Cond.methodLink RX7 87 yX7_isTired ∈ ps_T := ps_in 726 (by decide +kernel) (by decide +kernel)
theorem pm_728 : Cond.instanceMethod yX7_isTired ∈ ps_T := ps_in 728 (by decide +kernel) (by decide +kernel)
theorem pn_25 : Cond.selects RX7 yX7_isTired yX7_isTired ∈ ps_T := ps_inS 25 (by decide +kernel) (by decide +kernel)
theorem pm_729 : Cond.code yX7_isTired cX7_isTired 2 (some .boolean) ∈ ps_T := ps_in 729 (by decide +kernel) (by decide +kernel)
theorem cw_X7_87 : ps_cwV RX7 87 RX7 yX7_isTired cX7_isTired 2 (some .boolean) 1 := ⟨⟨pm_726, pm_728, pn_25, pm_9, pm_729⟩, ⟨by decide, by decide⟩, by decide +kernel⟩
theorem pm_719 : Cond.methodLink RX7 84 yX7_isSong ∈ ps_T := ps_in 719 (by decide +kernel) (by decide +kernel)
theorem pm_721 : Cond.instanceMethod yX7_isSong ∈ ps_T := ps_in 721 (by decide +kernel) (by decide +kernel)
theorem pn_24 : Cond.selects RX7 yX7_isSong yX7_isSong ∈ ps_T := ps_inS 24 (by decide +kernel) (by decide +kernel)
theorem pm_722 : Cond.code yX7_isSong cX7_isSong 2 (some .boolean) ∈ ps_T := ps_in 722 (by decide +kernel) (by decide +kernel)
theorem cw_X7_84 : ps_cwV RX7 84 RX7 yX7_isSong cX7_isSong 2 (some .boolean) 1 := ⟨⟨pm_719, pm_721, pn_24, pm_9, pm_722⟩, ⟨by decide, by decide⟩, by decide +kernel⟩
theorem pm_715 : Cond.methodLink RX7 80 yX7_isParrot ∈ ps_T := ps_in 715 (by decide +kernel) (by decide +kernel)
theorem pm_717 : Cond.instanceMethod yX7_isParrot ∈ ps_T := ps_in 717 (by decide +kernel) (by decide +kernel)
theorem pn_23 : Cond.selects RX7 yX7_isParrot yX7_isParrot ∈ ps_T := ps_inS 23 (by decide +kernel) (by decide +kernel)
theorem pm_718 : Cond.code yX7_isParrot cX7_isParrot 2 (some .boolean) ∈ ps_T := ps_in 718 (by decide +kernel) (by decide +kernel)
theorem cw_X7_80 : ps_cwV RX7 80 RX7 yX7_isParrot cX7_isParrot 2 (some .boolean) 1 := ⟨⟨pm_715, pm_717, pn_23, pm_9, pm_718⟩, ⟨by decide, by decide⟩, by decide +kernel⟩
theorem pm_647 : Cond.fieldLink RX7 29 RX7 "sung" "[I" ∈ ps_T := ps_in 647 (by decide +kernel) (by decide +kernel)
theorem gf_X7_29 {X : ps_X} {cc : ByteArray} (C : ps_C X RX7 cc) {M : ps_M} {pc : Nat} {lv : List (Option Value)} {stk : List Value} {a : Nat} (hk : ps_ck 20 a = true) (hd : decode cc pc = .ok (.getfield 29, 3)) (k : ps_G X M (pc + 3) lv (.ref (xb X + (a + 7)) :: stk)) : ps_G X M pc lv (.ref (xb X + a) :: stk) := ps_get C (κ := 20) (ci := 7) (slot := 6) (CN := RX7) (T := TX7) (N := 13) hk rfl rfl inX7 (by decide) pm_647 rfl rfl hd k
theorem kf_20_7 {a : Nat} (h : ps_ck 20 a = true) : ps_ck 8 (a + 7) = true := (by decide +kernel : ∀ a, a < 425 → ps_ck 20 a = true → ps_ck 8 (a + 7) = true) a (ps_ck_lt h) h
theorem pm_785 : Cond.methodLink RX7 93 yX7_fades ∈ ps_T := ps_in 785 (by decide +kernel) (by decide +kernel)
theorem pm_787 : Cond.instanceMethod yX7_fades ∈ ps_T := ps_in 787 (by decide +kernel) (by decide +kernel)
theorem pn_36 : Cond.selects RX7 yX7_fades yX7_fades ∈ ps_T := ps_inS 36 (by decide +kernel) (by decide +kernel)
theorem pm_788 : Cond.code yX7_fades cX7_fades 5 (some .int) ∈ ps_T := ps_in 788 (by decide +kernel) (by decide +kernel)
theorem cw_X7_93 : ps_cwV RX7 93 RX7 yX7_fades cX7_fades 5 (some .int) 1 := ⟨⟨pm_785, pm_787, pn_36, pm_9, pm_788⟩, ⟨by decide, by decide⟩, by decide +kernel⟩
theorem pm_781 : Cond.methodLink RX7 96 yX7_nights ∈ ps_T := ps_in 781 (by decide +kernel) (by decide +kernel)
theorem pm_783 : Cond.instanceMethod yX7_nights ∈ ps_T := ps_in 783 (by decide +kernel) (by decide +kernel)
theorem pn_35 : Cond.selects RX7 yX7_nights yX7_nights ∈ ps_T := ps_inS 35 (by decide +kernel) (by decide +kernel)
theorem pm_784 : Cond.code yX7_nights cX7_nights 3 (some .int) ∈ ps_T := ps_in 784 (by decide +kernel) (by decide +kernel)
theorem cw_X7_96 : ps_cwV RX7 96 RX7 yX7_nights cX7_nights 3 (some .int) 0 := ⟨⟨pm_781, pm_783, pn_35, pm_9, pm_784⟩, ⟨by decide, by decide⟩, by decide +kernel⟩
theorem pm_692 : Cond.methodLink RX7 103 yX7_recorded ∈ ps_T := ps_in 692 (by decide +kernel) (by decide +kernel)
theorem pm_694 : Cond.instanceMethod yX7_recorded ∈ ps_T := ps_in 694 (by decide +kernel) (by decide +kernel)
theorem pn_20 : Cond.selects RX7 yX7_recorded yX7_recorded ∈ ps_T := ps_inS 20 (by decide +kernel) (by decide +kernel)
theorem pm_695 : Cond.code yX7_recorded cX7_recorded 3 (some .int) ∈ ps_T := ps_in 695 (by decide +kernel) (by decide +kernel)
theorem cw_X7_103 : ps_cwV RX7 103 RX7 yX7_recorded cX7_recorded 3 (some .int) 1 := ⟨⟨pm_692, pm_694, pn_20, pm_9, pm_695⟩, ⟨by decide, by decide⟩, by decide +kernel⟩
theorem pm_688 : Cond.methodLink RX7 100 yX7_hold ∈ ps_T := ps_in 688 (by decide +kernel) (by decide +kernel)
theorem pm_690 : Cond.instanceMethod yX7_hold ∈ ps_T := ps_in 690 (by decide +kernel) (by decide +kernel)
theorem pn_19 : Cond.selects RX7 yX7_hold yX7_hold ∈ ps_T := ps_inS 19 (by decide +kernel) (by decide +kernel)
theorem pm_691 : Cond.code yX7_hold cX7_hold 2 none ∈ ps_T := ps_in 691 (by decide +kernel) (by decide +kernel)
theorem cw_X7_100 : ps_cwV RX7 100 RX7 yX7_hold cX7_hold 2 none 0 := ⟨⟨pm_688, pm_690, pn_19, pm_9, pm_691⟩, ⟨by decide, by decide⟩, by decide +kernel⟩
theorem pb_60 : (Int8.ofInt (60)).toInt32 = (nI 60) := by decide
theorem pm_700 : Cond.methodLink RX7 106 yX7_comes ∈ ps_T := ps_in 700 (by decide +kernel) (by decide +kernel)
theorem pm_702 : Cond.instanceMethod yX7_comes ∈ ps_T := ps_in 702 (by decide +kernel) (by decide +kernel)
theorem pn_21 : Cond.selects RX7 yX7_comes yX7_comes ∈ ps_T := ps_inS 21 (by decide +kernel) (by decide +kernel)
theorem pm_703 : Cond.code yX7_comes cX7_comes 3 (some .int) ∈ ps_T := ps_in 703 (by decide +kernel) (by decide +kernel)
theorem cw_X7_106 : ps_cwV RX7 106 RX7 yX7_comes cX7_comes 3 (some .int) 0 := ⟨⟨pm_700, pm_702, pn_21, pm_9, pm_703⟩, ⟨by decide, by decide⟩, by decide +kernel⟩
theorem pm_711 : Cond.methodLink RX7 109 yX7_teaches ∈ ps_T := ps_in 711 (by decide +kernel) (by decide +kernel)
theorem pm_713 : Cond.instanceMethod yX7_teaches ∈ ps_T := ps_in 713 (by decide +kernel) (by decide +kernel)
theorem pn_22 : Cond.selects RX7 yX7_teaches yX7_teaches ∈ ps_T := ps_inS 22 (by decide +kernel) (by decide +kernel)
theorem pm_714 : Cond.code yX7_teaches cX7_teaches 5 (some .int) ∈ ps_T := ps_in 714 (by decide +kernel) (by decide +kernel)
theorem cw_X7_109 : ps_cwV RX7 109 RX7 yX7_teaches cX7_teaches 5 (some .int) 3 := ⟨⟨pm_711, pm_713, pn_22, pm_9, pm_714⟩, ⟨by decide, by decide⟩, by decide +kernel⟩
theorem pm_757 : Cond.methodLink RX7 113 yX7_hushes ∈ ps_T := ps_in 757 (by decide +kernel) (by decide +kernel)
theorem pm_759 : Cond.instanceMethod yX7_hushes ∈ ps_T := ps_in 759 (by decide +kernel) (by decide +kernel)
theorem pn_31 : Cond.selects RX7 yX7_hushes yX7_hushes ∈ ps_T := ps_inS 31 (by decide +kernel) (by decide +kernel)
theorem pm_760 : Cond.code yX7_hushes cX7_hushes 3 (some .int) ∈ ps_T := ps_in 760 (by decide +kernel) (by decide +kernel)
theorem cw_X7_113 : ps_cwV RX7 113 RX7 yX7_hushes cX7_hushes 3 (some .int) 1 := ⟨⟨pm_757, pm_759, pn_31, pm_9, pm_760⟩, ⟨by decide, by decide⟩, by decide +kernel⟩
theorem pm_765 : Cond.methodLink RX7 116 yX7_practises ∈ ps_T := ps_in 765 (by decide +kernel) (by decide +kernel)
theorem pm_767 : Cond.instanceMethod yX7_practises ∈ ps_T := ps_in 767 (by decide +kernel) (by decide +kernel)
theorem pn_32 : Cond.selects RX7 yX7_practises yX7_practises ∈ ps_T := ps_inS 32 (by decide +kernel) (by decide +kernel)
theorem pm_768 : Cond.code yX7_practises cX7_practises 8 (some .int) ∈ ps_T := ps_in 768 (by decide +kernel) (by decide +kernel)
theorem cw_X7_116 : ps_cwV RX7 116 RX7 yX7_practises cX7_practises 8 (some .int) 2 := ⟨⟨pm_765, pm_767, pn_32, pm_9, pm_768⟩, ⟨by decide, by decide⟩, by decide +kernel⟩
theorem pm_777 : Cond.methodLink RX7 119 yX7_ends ∈ ps_T := ps_in 777 (by decide +kernel) (by decide +kernel)
theorem pm_779 : Cond.instanceMethod yX7_ends ∈ ps_T := ps_in 779 (by decide +kernel) (by decide +kernel)
theorem pn_34 : Cond.selects RX7 yX7_ends yX7_ends ∈ ps_T := ps_inS 34 (by decide +kernel) (by decide +kernel)
theorem pm_780 : Cond.code yX7_ends cX7_ends 1 (some .int) ∈ ps_T := ps_in 780 (by decide +kernel) (by decide +kernel)
theorem cw_X7_119 : ps_cwV RX7 119 RX7 yX7_ends cX7_ends 1 (some .int) 0 := ⟨⟨pm_777, pm_779, pn_34, pm_9, pm_780⟩, ⟨by decide, by decide⟩, by decide +kernel⟩
theorem pm_797 : Cond.methodLink RX7 125 yX7_knowers ∈ ps_T := ps_in 797 (by decide +kernel) (by decide +kernel)
theorem pm_799 : Cond.instanceMethod yX7_knowers ∈ ps_T := ps_in 799 (by decide +kernel) (by decide +kernel)
theorem pn_38 : Cond.selects RX7 yX7_knowers yX7_knowers ∈ ps_T := ps_inS 38 (by decide +kernel) (by decide +kernel)
theorem pm_800 : Cond.code yX7_knowers cX7_knowers 4 (some .int) ∈ ps_T := ps_in 800 (by decide +kernel) (by decide +kernel)
theorem cw_X7_125 : ps_cwV RX7 125 RX7 yX7_knowers cX7_knowers 4 (some .int) 1 := ⟨⟨pm_797, pm_799, pn_38, pm_9, pm_800⟩, ⟨by decide, by decide⟩, by decide +kernel⟩
theorem pm_793 : Cond.methodLink RX7 122 yX7_unlike ∈ ps_T := ps_in 793 (by decide +kernel) (by decide +kernel)
theorem pm_795 : Cond.instanceMethod yX7_unlike ∈ ps_T := ps_in 795 (by decide +kernel) (by decide +kernel)
theorem pn_37 : Cond.selects RX7 yX7_unlike yX7_unlike ∈ ps_T := ps_inS 37 (by decide +kernel) (by decide +kernel)
theorem pm_796 : Cond.code yX7_unlike cX7_unlike 6 (some .int) ∈ ps_T := ps_in 796 (by decide +kernel) (by decide +kernel)
theorem cw_X7_122 : ps_cwV RX7 122 RX7 yX7_unlike cX7_unlike 6 (some .int) 1 := ⟨⟨pm_793, pm_795, pn_37, pm_9, pm_796⟩, ⟨by decide, by decide⟩, by decide +kernel⟩
theorem pm_821 : Cond.methodLink RX7 131 yX7_songsOf ∈ ps_T := ps_in 821 (by decide +kernel) (by decide +kernel)
theorem pm_823 : Cond.instanceMethod yX7_songsOf ∈ ps_T := ps_in 823 (by decide +kernel) (by decide +kernel)
theorem pn_42 : Cond.selects RX7 yX7_songsOf yX7_songsOf ∈ ps_T := ps_inS 42 (by decide +kernel) (by decide +kernel)
theorem pm_824 : Cond.code yX7_songsOf cX7_songsOf 4 (some .int) ∈ ps_T := ps_in 824 (by decide +kernel) (by decide +kernel)
theorem cw_X7_131 : ps_cwV RX7 131 RX7 yX7_songsOf cX7_songsOf 4 (some .int) 1 := ⟨⟨pm_821, pm_823, pn_42, pm_9, pm_824⟩, ⟨by decide, by decide⟩, by decide +kernel⟩
theorem pm_817 : Cond.methodLink RX7 128 yX7_strengths ∈ ps_T := ps_in 817 (by decide +kernel) (by decide +kernel)
theorem pm_819 : Cond.instanceMethod yX7_strengths ∈ ps_T := ps_in 819 (by decide +kernel) (by decide +kernel)
theorem pn_41 : Cond.selects RX7 yX7_strengths yX7_strengths ∈ ps_T := ps_inS 41 (by decide +kernel) (by decide +kernel)
theorem pm_820 : Cond.code yX7_strengths cX7_strengths 4 (some .int) ∈ ps_T := ps_in 820 (by decide +kernel) (by decide +kernel)
theorem cw_X7_128 : ps_cwV RX7 128 RX7 yX7_strengths cX7_strengths 4 (some .int) 1 := ⟨⟨pm_817, pm_819, pn_41, pm_9, pm_820⟩, ⟨by decide, by decide⟩, by decide +kernel⟩
theorem pb_25 : (Int8.ofInt (25)).toInt32 = (nI 25) := by decide
theorem pm_841 : Cond.methodLink RX7 134 yX7_songsWith ∈ ps_T := ps_in 841 (by decide +kernel) (by decide +kernel)
theorem pm_843 : Cond.instanceMethod yX7_songsWith ∈ ps_T := ps_in 843 (by decide +kernel) (by decide +kernel)
theorem pn_43 : Cond.selects RX7 yX7_songsWith yX7_songsWith ∈ ps_T := ps_inS 43 (by decide +kernel) (by decide +kernel)
theorem pm_844 : Cond.code yX7_songsWith cX7_songsWith 7 (some .int) ∈ ps_T := ps_in 844 (by decide +kernel) (by decide +kernel)
theorem cw_X7_134 : ps_cwV RX7 134 RX7 yX7_songsWith cX7_songsWith 7 (some .int) 2 := ⟨⟨pm_841, pm_843, pn_43, pm_9, pm_844⟩, ⟨by decide, by decide⟩, by decide +kernel⟩
theorem pm_650 : Cond.fieldLink RX7 140 RX7 "length" "I" ∈ ps_T := ps_in 650 (by decide +kernel) (by decide +kernel)
theorem gf_X7_140 {X : ps_X} {cc : ByteArray} (C : ps_C X RX7 cc) {M : ps_M} {pc : Nat} {lv : List (Option Value)} {stk : List Value} {a : Nat} (hk : ps_ck 20 a = true) (hd : decode cc pc = .ok (.getfield 140, 3)) (k : ps_G X M (pc + 3) lv (.int (ps_rd M a 9) :: stk)) : ps_G X M pc lv (.ref (xb X + a) :: stk) := ps_get C (κ := 20) (ci := 7) (slot := 9) (CN := RX7) (T := TX7) (N := 13) hk rfl rfl inX7 (by decide) pm_650 rfl rfl hd k
theorem pm_857 : Cond.methodLink RX7 137 yX7_ofParrots ∈ ps_T := ps_in 857 (by decide +kernel) (by decide +kernel)
theorem pm_859 : Cond.instanceMethod yX7_ofParrots ∈ ps_T := ps_in 859 (by decide +kernel) (by decide +kernel)
theorem pn_44 : Cond.selects RX7 yX7_ofParrots yX7_ofParrots ∈ ps_T := ps_inS 44 (by decide +kernel) (by decide +kernel)
theorem pm_860 : Cond.code yX7_ofParrots cX7_ofParrots 5 (some .int) ∈ ps_T := ps_in 860 (by decide +kernel) (by decide +kernel)
theorem cw_X7_137 : ps_cwV RX7 137 RX7 yX7_ofParrots cX7_ofParrots 5 (some .int) 1 := ⟨⟨pm_857, pm_859, pn_44, pm_9, pm_860⟩, ⟨by decide, by decide⟩, by decide +kernel⟩
theorem pm_873 : Cond.methodLink RX7 149 yX7_putBack ∈ ps_T := ps_in 873 (by decide +kernel) (by decide +kernel)
theorem pm_875 : Cond.instanceMethod yX7_putBack ∈ ps_T := ps_in 875 (by decide +kernel) (by decide +kernel)
theorem pn_47 : Cond.selects RX7 yX7_putBack yX7_putBack ∈ ps_T := ps_inS 47 (by decide +kernel) (by decide +kernel)
theorem pm_876 : Cond.code yX7_putBack cX7_putBack 2 none ∈ ps_T := ps_in 876 (by decide +kernel) (by decide +kernel)
theorem cw_X7_149 : ps_cwV RX7 149 RX7 yX7_putBack cX7_putBack 2 none 0 := ⟨⟨pm_873, pm_875, pn_47, pm_9, pm_876⟩, ⟨by decide, by decide⟩, by decide +kernel⟩
theorem pm_869 : Cond.methodLink RX7 146 yX7_hearsAll ∈ ps_T := ps_in 869 (by decide +kernel) (by decide +kernel)
theorem pm_871 : Cond.instanceMethod yX7_hearsAll ∈ ps_T := ps_in 871 (by decide +kernel) (by decide +kernel)
theorem pn_46 : Cond.selects RX7 yX7_hearsAll yX7_hearsAll ∈ ps_T := ps_inS 46 (by decide +kernel) (by decide +kernel)
theorem pm_872 : Cond.code yX7_hearsAll cX7_hearsAll 4 none ∈ ps_T := ps_in 872 (by decide +kernel) (by decide +kernel)
theorem cw_X7_146 : ps_cwV RX7 146 RX7 yX7_hearsAll cX7_hearsAll 4 none 2 := ⟨⟨pm_869, pm_871, pn_46, pm_9, pm_872⟩, ⟨by decide, by decide⟩, by decide +kernel⟩
theorem pm_865 : Cond.methodLink RX7 143 yX7_keepTrial ∈ ps_T := ps_in 865 (by decide +kernel) (by decide +kernel)
theorem pm_867 : Cond.instanceMethod yX7_keepTrial ∈ ps_T := ps_in 867 (by decide +kernel) (by decide +kernel)
theorem pn_45 : Cond.selects RX7 yX7_keepTrial yX7_keepTrial ∈ ps_T := ps_inS 45 (by decide +kernel) (by decide +kernel)
theorem pm_868 : Cond.code yX7_keepTrial cX7_keepTrial 2 none ∈ ps_T := ps_in 868 (by decide +kernel) (by decide +kernel)
theorem cw_X7_143 : ps_cwV RX7 143 RX7 yX7_keepTrial cX7_keepTrial 2 none 0 := ⟨⟨pm_865, pm_867, pn_45, pm_9, pm_868⟩, ⟨by decide, by decide⟩, by decide +kernel⟩
theorem pm_881 : Cond.methodLink RX7 152 yX7_known ∈ ps_T := ps_in 881 (by decide +kernel) (by decide +kernel)
theorem pm_883 : Cond.instanceMethod yX7_known ∈ ps_T := ps_in 883 (by decide +kernel) (by decide +kernel)
theorem pn_48 : Cond.selects RX7 yX7_known yX7_known ∈ ps_T := ps_inS 48 (by decide +kernel) (by decide +kernel)
theorem pm_884 : Cond.code yX7_known cX7_known 4 (some .int) ∈ ps_T := ps_in 884 (by decide +kernel) (by decide +kernel)
theorem cw_X7_152 : ps_cwV RX7 152 RX7 yX7_known cX7_known 4 (some .int) 1 := ⟨⟨pm_881, pm_883, pn_48, pm_9, pm_884⟩, ⟨by decide, by decide⟩, by decide +kernel⟩
theorem pm_653 : Cond.fieldLink RX7 155 RX7 "at" "I" ∈ ps_T := ps_in 653 (by decide +kernel) (by decide +kernel)
theorem gf_X7_155 {X : ps_X} {cc : ByteArray} (C : ps_C X RX7 cc) {M : ps_M} {pc : Nat} {lv : List (Option Value)} {stk : List Value} {a : Nat} (hk : ps_ck 20 a = true) (hd : decode cc pc = .ok (.getfield 155, 3)) (k : ps_G X M (pc + 3) lv (.int (ps_rd M a 12) :: stk)) : ps_G X M pc lv (.ref (xb X + a) :: stk) := ps_get C (κ := 20) (ci := 7) (slot := 12) (CN := RX7) (T := TX7) (N := 13) hk rfl rfl inX7 (by decide) pm_653 rfl rfl hd k
theorem pf_X7_155 {X : ps_X} {cc : ByteArray} (C : ps_C X RX7 cc) {M : ps_M} {pc : Nat} {lv : List (Option Value)} {stk : List Value} {a : Nat} (hk : ps_ck 20 a = true) {x : Int32} (hd : decode cc pc = .ok (.putfield 155, 3)) (k : ∀ M1, M1 = ps_st M a 12 x → ps_G X M1 (pc + 3) lv stk) : ps_G X M pc lv (.int x :: .ref (xb X + a) :: stk) := ps_put C (κ := 20) (ci := 7) (slot := 12) (CN := RX7) (T := TX7) (N := 13) (ty0 := tyX7) (ps_st M a 12 x) hk rfl (by rw [ps_st_self]; rfl) ps_st_ho (fun h => h) rfl inX7 tyX7_ok nmX7 (by decide) pm_653 rfl rfl (tyX7_ok 12 (by decide)) rfl rfl (Nat.le_of_ble_eq_true rfl) hd (k _ rfl)
theorem pm_916 : Cond.methodLink RX7 158 yX7_isSign ∈ ps_T := ps_in 916 (by decide +kernel) (by decide +kernel)
theorem pm_918 : Cond.instanceMethod yX7_isSign ∈ ps_T := ps_in 918 (by decide +kernel) (by decide +kernel)
theorem pn_52 : Cond.selects RX7 yX7_isSign yX7_isSign ∈ ps_T := ps_inS 52 (by decide +kernel) (by decide +kernel)
theorem pm_919 : Cond.code yX7_isSign cX7_isSign 3 (some .boolean) ∈ ps_T := ps_in 919 (by decide +kernel) (by decide +kernel)
theorem cw_X7_158 : ps_cwV RX7 158 RX7 yX7_isSign cX7_isSign 3 (some .boolean) 2 := ⟨⟨pm_916, pm_918, pn_52, pm_9, pm_919⟩, ⟨by decide, by decide⟩, by decide +kernel⟩
theorem pm_648 : Cond.fieldLink RX7 32 RX7 "read" "[I" ∈ ps_T := ps_in 648 (by decide +kernel) (by decide +kernel)
theorem gf_X7_32 {X : ps_X} {cc : ByteArray} (C : ps_C X RX7 cc) {M : ps_M} {pc : Nat} {lv : List (Option Value)} {stk : List Value} {a : Nat} (hk : ps_ck 20 a = true) (hd : decode cc pc = .ok (.getfield 32, 3)) (k : ps_G X M (pc + 3) lv (.ref (xb X + (a + 8)) :: stk)) : ps_G X M pc lv (.ref (xb X + a) :: stk) := ps_get C (κ := 20) (ci := 7) (slot := 7) (CN := RX7) (T := TX7) (N := 13) hk rfl rfl inX7 (by decide) pm_648 rfl rfl hd k
theorem kf_20_8 {a : Nat} (h : ps_ck 20 a = true) : ps_ck 25 (a + 8) = true := (by decide +kernel : ∀ a, a < 425 → ps_ck 20 a = true → ps_ck 25 (a + 8) = true) a (ps_ck_lt h) h
theorem pm_652 : Cond.fieldLink RX7 162 RX7 "orders" "I" ∈ ps_T := ps_in 652 (by decide +kernel) (by decide +kernel)
theorem gf_X7_162 {X : ps_X} {cc : ByteArray} (C : ps_C X RX7 cc) {M : ps_M} {pc : Nat} {lv : List (Option Value)} {stk : List Value} {a : Nat} (hk : ps_ck 20 a = true) (hd : decode cc pc = .ok (.getfield 162, 3)) (k : ps_G X M (pc + 3) lv (.int (ps_rd M a 11) :: stk)) : ps_G X M pc lv (.ref (xb X + a) :: stk) := ps_get C (κ := 20) (ci := 7) (slot := 11) (CN := RX7) (T := TX7) (N := 13) hk rfl rfl inX7 (by decide) pm_652 rfl rfl hd k
theorem pm_924 : Cond.methodLink RX7 165 yX7_digit ∈ ps_T := ps_in 924 (by decide +kernel) (by decide +kernel)
theorem pm_926 : Cond.instanceMethod yX7_digit ∈ ps_T := ps_in 926 (by decide +kernel) (by decide +kernel)
theorem pn_54 : Cond.selects RX7 yX7_digit yX7_digit ∈ ps_T := ps_inS 54 (by decide +kernel) (by decide +kernel)
theorem pm_927 : Cond.code yX7_digit cX7_digit 3 (some .boolean) ∈ ps_T := ps_in 927 (by decide +kernel) (by decide +kernel)
theorem cw_X7_165 : ps_cwV RX7 165 RX7 yX7_digit cX7_digit 3 (some .boolean) 1 := ⟨⟨pm_924, pm_926, pn_54, pm_9, pm_927⟩, ⟨by decide, by decide⟩, by decide +kernel⟩
theorem pb_83 : (Int8.ofInt (83)).toInt32 = (nI 83) := by decide
theorem pb_76 : (Int8.ofInt (76)).toInt32 = (nI 76) := by decide
theorem pb_72 : (Int8.ofInt (72)).toInt32 = (nI 72) := by decide
theorem pb_66 : (Int8.ofInt (66)).toInt32 = (nI 66) := by decide
theorem pf_X7_162 {X : ps_X} {cc : ByteArray} (C : ps_C X RX7 cc) {M : ps_M} {pc : Nat} {lv : List (Option Value)} {stk : List Value} {a : Nat} (hk : ps_ck 20 a = true) {x : Int32} (hd : decode cc pc = .ok (.putfield 162, 3)) (k : ∀ M1, M1 = ps_st M a 11 x → ps_G X M1 (pc + 3) lv stk) : ps_G X M pc lv (.int x :: .ref (xb X + a) :: stk) := ps_put C (κ := 20) (ci := 7) (slot := 11) (CN := RX7) (T := TX7) (N := 13) (ty0 := tyX7) (ps_st M a 11 x) hk rfl (by rw [ps_st_self]; rfl) ps_st_ho (fun h => h) rfl inX7 tyX7_ok nmX7 (by decide) pm_652 rfl rfl (tyX7_ok 11 (by decide)) rfl rfl (Nat.le_of_ble_eq_true rfl) hd (k _ rfl)
theorem pb_78 : (Int8.ofInt (78)).toInt32 = (nI 78) := by decide
theorem pm_912 : Cond.methodLink RX7 168 yX7_accepts ∈ ps_T := ps_in 912 (by decide +kernel) (by decide +kernel)
theorem pm_914 : Cond.instanceMethod yX7_accepts ∈ ps_T := ps_in 914 (by decide +kernel) (by decide +kernel)
theorem pn_51 : Cond.selects RX7 yX7_accepts yX7_accepts ∈ ps_T := ps_inS 51 (by decide +kernel) (by decide +kernel)
theorem pm_915 : Cond.code yX7_accepts cX7_accepts 3 (some .boolean) ∈ ps_T := ps_in 915 (by decide +kernel) (by decide +kernel)
theorem cw_X7_168 : ps_cwV RX7 168 RX7 yX7_accepts cX7_accepts 3 (some .boolean) 1 := ⟨⟨pm_912, pm_914, pn_51, pm_9, pm_915⟩, ⟨by decide, by decide⟩, by decide +kernel⟩
theorem pm_928 : Cond.methodLink RX7 176 yX7_number ∈ ps_T := ps_in 928 (by decide +kernel) (by decide +kernel)
theorem pm_930 : Cond.instanceMethod yX7_number ∈ ps_T := ps_in 930 (by decide +kernel) (by decide +kernel)
theorem pn_55 : Cond.selects RX7 yX7_number yX7_number ∈ ps_T := ps_inS 55 (by decide +kernel) (by decide +kernel)
theorem pm_931 : Cond.code yX7_number cX7_number 4 (some .boolean) ∈ ps_T := ps_in 931 (by decide +kernel) (by decide +kernel)
theorem cw_X7_176 : ps_cwV RX7 176 RX7 yX7_number cX7_number 4 (some .boolean) 1 := ⟨⟨pm_928, pm_930, pn_55, pm_9, pm_931⟩, ⟨by decide, by decide⟩, by decide +kernel⟩
theorem pm_920 : Cond.methodLink RX7 172 yX7_letters ∈ ps_T := ps_in 920 (by decide +kernel) (by decide +kernel)
theorem pm_922 : Cond.instanceMethod yX7_letters ∈ ps_T := ps_in 922 (by decide +kernel) (by decide +kernel)
theorem pn_53 : Cond.selects RX7 yX7_letters yX7_letters ∈ ps_T := ps_inS 53 (by decide +kernel) (by decide +kernel)
theorem pm_923 : Cond.code yX7_letters cX7_letters 2 (some .boolean) ∈ ps_T := ps_in 923 (by decide +kernel) (by decide +kernel)
theorem cw_X7_172 : ps_cwV RX7 172 RX7 yX7_letters cX7_letters 2 (some .boolean) 0 := ⟨⟨pm_920, pm_922, pn_53, pm_9, pm_923⟩, ⟨by decide, by decide⟩, by decide +kernel⟩
theorem pm_908 : Cond.methodLink RX7 179 yX7_readsOrder ∈ ps_T := ps_in 908 (by decide +kernel) (by decide +kernel)
theorem pm_910 : Cond.instanceMethod yX7_readsOrder ∈ ps_T := ps_in 910 (by decide +kernel) (by decide +kernel)
theorem pn_50 : Cond.selects RX7 yX7_readsOrder yX7_readsOrder ∈ ps_T := ps_inS 50 (by decide +kernel) (by decide +kernel)
theorem pm_911 : Cond.code yX7_readsOrder cX7_readsOrder 2 (some .boolean) ∈ ps_T := ps_in 911 (by decide +kernel) (by decide +kernel)
theorem cw_X7_179 : ps_cwV RX7 179 RX7 yX7_readsOrder cX7_readsOrder 2 (some .boolean) 0 := ⟨⟨pm_908, pm_910, pn_50, pm_9, pm_911⟩, ⟨by decide, by decide⟩, by decide +kernel⟩
theorem pm_940 : Cond.methodLink RX7 182 yX7_song ∈ ps_T := ps_in 940 (by decide +kernel) (by decide +kernel)
theorem pm_942 : Cond.instanceMethod yX7_song ∈ ps_T := ps_in 942 (by decide +kernel) (by decide +kernel)
theorem pn_57 : Cond.selects RX7 yX7_song yX7_song ∈ ps_T := ps_inS 57 (by decide +kernel) (by decide +kernel)
theorem pm_943 : Cond.code yX7_song cX7_song 5 (some .int) ∈ ps_T := ps_in 943 (by decide +kernel) (by decide +kernel)
theorem cw_X7_182 : ps_cwV RX7 182 RX7 yX7_song cX7_song 5 (some .int) 2 := ⟨⟨pm_940, pm_942, pn_57, pm_9, pm_943⟩, ⟨by decide, by decide⟩, by decide +kernel⟩
theorem pm_893 : Cond.constantLong RX7 185 (lN 255) ∈ ps_T := ps_in 893 (by decide +kernel) (by decide +kernel)
theorem pf_X7_140 {X : ps_X} {cc : ByteArray} (C : ps_C X RX7 cc) {M : ps_M} {pc : Nat} {lv : List (Option Value)} {stk : List Value} {a : Nat} (hk : ps_ck 20 a = true) {x : Int32} (hd : decode cc pc = .ok (.putfield 140, 3)) (k : ∀ M1, M1 = ps_st M a 9 x → ps_G X M1 (pc + 3) lv stk) : ps_G X M pc lv (.int x :: .ref (xb X + a) :: stk) := ps_put C (κ := 20) (ci := 7) (slot := 9) (CN := RX7) (T := TX7) (N := 13) (ty0 := tyX7) (ps_st M a 9 x) hk rfl (by rw [ps_st_self]; rfl) ps_st_ho (fun h => h) rfl inX7 tyX7_ok nmX7 (by decide) pm_650 rfl rfl (tyX7_ok 9 (by decide)) rfl rfl (Nat.le_of_ble_eq_true rfl) hd (k _ rfl)
theorem pm_894 : Cond.constantLong RX7 187 (lN 33) ∈ ps_T := ps_in 894 (by decide +kernel) (by decide +kernel)
theorem pm_895 : Cond.constantLong RX7 189 (lN 126) ∈ ps_T := ps_in 895 (by decide +kernel) (by decide +kernel)
theorem pm_904 : Cond.methodLink RX7 191 yX7_faultOf ∈ ps_T := ps_in 904 (by decide +kernel) (by decide +kernel)
theorem pm_906 : Cond.instanceMethod yX7_faultOf ∈ ps_T := ps_in 906 (by decide +kernel) (by decide +kernel)
theorem pn_49 : Cond.selects RX7 yX7_faultOf yX7_faultOf ∈ ps_T := ps_inS 49 (by decide +kernel) (by decide +kernel)
theorem pm_907 : Cond.code yX7_faultOf cX7_faultOf 2 (some .int) ∈ ps_T := ps_in 907 (by decide +kernel) (by decide +kernel)
theorem cw_X7_191 : ps_cwV RX7 191 RX7 yX7_faultOf cX7_faultOf 2 (some .int) 0 := ⟨⟨pm_904, pm_906, pn_49, pm_9, pm_907⟩, ⟨by decide, by decide⟩, by decide +kernel⟩
theorem pm_936 : Cond.methodLink RX7 194 yX7_does ∈ ps_T := ps_in 936 (by decide +kernel) (by decide +kernel)
theorem pm_938 : Cond.instanceMethod yX7_does ∈ ps_T := ps_in 938 (by decide +kernel) (by decide +kernel)
theorem pn_56 : Cond.selects RX7 yX7_does yX7_does ∈ ps_T := ps_inS 56 (by decide +kernel) (by decide +kernel)
theorem pm_939 : Cond.code yX7_does cX7_does 3 (some .int) ∈ ps_T := ps_in 939 (by decide +kernel) (by decide +kernel)
theorem cw_X7_194 : ps_cwV RX7 194 RX7 yX7_does cX7_does 3 (some .int) 1 := ⟨⟨pm_936, pm_938, pn_56, pm_9, pm_939⟩, ⟨by decide, by decide⟩, by decide +kernel⟩
theorem pm_646 : Cond.fieldLink RX7 25 RX7 "isSaved" "[Z" ∈ ps_T := ps_in 646 (by decide +kernel) (by decide +kernel)
theorem gf_X7_25 {X : ps_X} {cc : ByteArray} (C : ps_C X RX7 cc) {M : ps_M} {pc : Nat} {lv : List (Option Value)} {stk : List Value} {a : Nat} (hk : ps_ck 20 a = true) (hd : decode cc pc = .ok (.getfield 25, 3)) (k : ps_G X M (pc + 3) lv (.ref (xb X + (a + 6)) :: stk)) : ps_G X M pc lv (.ref (xb X + a) :: stk) := ps_get C (κ := 20) (ci := 7) (slot := 5) (CN := RX7) (T := TX7) (N := 13) hk rfl rfl inX7 (by decide) pm_646 rfl rfl hd k
theorem kf_20_6 {a : Nat} (h : ps_ck 20 a = true) : ps_ck 19 (a + 6) = true := (by decide +kernel : ∀ a, a < 425 → ps_ck 20 a = true → ps_ck 19 (a + 6) = true) a (ps_ck_lt h) h
theorem pm_645 : Cond.fieldLink RX7 22 RX7 "saved" "[I" ∈ ps_T := ps_in 645 (by decide +kernel) (by decide +kernel)
theorem gf_X7_22 {X : ps_X} {cc : ByteArray} (C : ps_C X RX7 cc) {M : ps_M} {pc : Nat} {lv : List (Option Value)} {stk : List Value} {a : Nat} (hk : ps_ck 20 a = true) (hd : decode cc pc = .ok (.getfield 22, 3)) (k : ps_G X M (pc + 3) lv (.ref (xb X + (a + 5)) :: stk)) : ps_G X M pc lv (.ref (xb X + a) :: stk) := ps_get C (κ := 20) (ci := 7) (slot := 4) (CN := RX7) (T := TX7) (N := 13) hk rfl rfl inX7 (by decide) pm_645 rfl rfl hd k
theorem kf_20_5 {a : Nat} (h : ps_ck 20 a = true) : ps_ck 23 (a + 5) = true := (by decide +kernel : ∀ a, a < 425 → ps_ck 20 a = true → ps_ck 23 (a + 5) = true) a (ps_ck_lt h) h
