theorem ps_end_i {X : ps_X} {v r : Int32} {M5 M9 : ps_M} {cc : ByteArray} {ty : FieldType} {pc : Nat} {lv : List (Option Value)} (h : some (v, M5) = some (r, M9)) (hfin : ∀ pc lv, decode cc pc = .ok (.ireturn, 1) → narrow ty (.int r) = .int r → ps_G X M9 pc lv [.int r]) (hd : decode cc pc = .ok (.ireturn, 1)) (hn : narrow ty (.int v) = .int v) : ps_G X M5 pc lv [.int v] := by
  cases h
  exact hfin _ _ hd hn
theorem ps_end_v {X : ps_X} {v r : Int32} {M5 M9 : ps_M} {cc : ByteArray} {pc : Nat} {lv : List (Option Value)} (h : some (v, M5) = some (r, M9)) (hfin : ∀ pc lv, decode cc pc = .ok (.return_, 1) → ps_G X M9 pc lv []) (hd : decode cc pc = .ok (.return_, 1)) : ps_G X M5 pc lv [] := by
  cases h
  exact hfin _ _ hd
theorem ps_le_0 : ps_le [] [] := trivial
theorem ps_le_n {x : Option Value} {a b : List (Option Value)} (h : ps_le a b) : ps_le (none :: a) (x :: b) := h
theorem ps_le_s {x : Option Value} {v : Value} {a b : List (Option Value)} (e : x = some v) (h : ps_le a b) : ps_le (some v :: a) (x :: b) := ⟨e, h⟩
theorem ps_alen {X : ps_X} {own : String} {cc : ByteArray} (C : ps_C X own cc) {M : ps_M} {pc : Nat} {lv : List (Option Value)} {stk : List Value} {κ a n : Nat} {v : Int32} (hk : ps_ck κ a = true) (hE : ∀ f r, ps_cel (xb X) (xD X) κ a f r = .inl ((xD X).1 10, n, .inl f)) (hv : Int32.ofNat n = v) (hd : decode cc pc = .ok (.arraylength, 1)) (k : ps_G X M (pc + 1) lv (.int v :: stk)) : ps_G X M pc lv (.ref (xb X + a) :: stk) := fun H locs ls hP hR hS hl => va_alen C.1 C.2.1 C.2.2.2.2.2.1.1 hP a 0 (by rw [ps_wl_get hk, hE]) rfl hv hd (k H locs ls hP hR hS hl)
theorem ps_lookD {x : Int32} {a b c d e : Int} {p q r s t f : Int} (h1 : ¬ x.toInt = a) (h2 : ¬ x.toInt = b) (h3 : ¬ x.toInt = c) (h4 : ¬ x.toInt = d) (h5 : ¬ x.toInt = e) : Op.lookupswitch.offset [(a, p), (b, q), (c, r), (d, s), (e, t)] f x.toInt = f := by
  simp [Op.lookupswitch.offset, Ne.symm h1, Ne.symm h2, Ne.symm h3, Ne.symm h4, Ne.symm h5]
theorem pi_0 : Int32.ofInt (0) = (nI 0) := by decide
theorem pb_8 : (Int8.ofInt (8)).toInt32 = (nI 8) := by decide
theorem pm_34 : Cond.fieldLink RX5 16 RX5 "lengths" "[I" ∈ ps_T := ps_in 34 (by decide +kernel) (by decide +kernel)
theorem gf_X5_16 {X : ps_X} {cc : ByteArray} (C : ps_C X RX5 cc) {M : ps_M} {pc : Nat} {lv : List (Option Value)} {stk : List Value} {a : Nat} (hk : ps_ck 3 a = true) (hd : decode cc pc = .ok (.getfield 16, 3)) (k : ps_G X M (pc + 3) lv (.ref (xb X + (a + 10)) :: stk)) : ps_G X M pc lv (.ref (xb X + a) :: stk) := ps_get C (κ := 3) (ci := 5) (slot := 1) (CN := RX5) (T := TX5) (N := 4) hk rfl rfl inX5 (by decide) pm_34 rfl rfl hd k
theorem kf_3_10 {a : Nat} (h : ps_ck 3 a = true) : ps_ck 6 (a + 10) = true := (by decide +kernel : ∀ a, a < 415 → ps_ck 3 a = true → ps_ck 6 (a + 10) = true) a (ps_ck_lt h) h
theorem pm_229 : Cond.methodLink RX5 27 arraycopyName ∈ ps_T := ps_in 229 (by decide +kernel) (by decide +kernel)
theorem pm_54 : Cond.native arraycopyName ∈ ps_T := ps_in 54 (by decide +kernel) (by decide +kernel)
theorem pm_53 : Cond.static arraycopyName ∈ ps_T := ps_in 53 (by decide +kernel) (by decide +kernel)
theorem pm_4 : Cond.initialized RJ10 ∈ ps_T := ps_in 4 (by decide +kernel) (by decide +kernel)
theorem cw_X5_27 : Cond.methodLink RX5 27 arraycopyName ∈ ps_T ∧ Cond.native arraycopyName ∈ ps_T ∧ Cond.static arraycopyName ∈ ps_T ∧ Cond.initialized "java/lang/System" ∈ ps_T := ⟨pm_229, pm_54, pm_53, pm_4⟩
theorem pm_35 : Cond.fieldLink RX5 20 RX5 "lessons" "[I" ∈ ps_T := ps_in 35 (by decide +kernel) (by decide +kernel)
theorem gf_X5_20 {X : ps_X} {cc : ByteArray} (C : ps_C X RX5 cc) {M : ps_M} {pc : Nat} {lv : List (Option Value)} {stk : List Value} {a : Nat} (hk : ps_ck 3 a = true) (hd : decode cc pc = .ok (.getfield 20, 3)) (k : ps_G X M (pc + 3) lv (.ref (xb X + (a + 11)) :: stk)) : ps_G X M pc lv (.ref (xb X + a) :: stk) := ps_get C (κ := 3) (ci := 5) (slot := 2) (CN := RX5) (T := TX5) (N := 4) hk rfl rfl inX5 (by decide) pm_35 rfl rfl hd k
theorem kf_3_11 {a : Nat} (h : ps_ck 3 a = true) : ps_ck 6 (a + 11) = true := (by decide +kernel : ∀ a, a < 415 → ps_ck 3 a = true → ps_ck 6 (a + 11) = true) a (ps_ck_lt h) h
theorem pm_36 : Cond.fieldLink RX5 23 RX5 "count" "I" ∈ ps_T := ps_in 36 (by decide +kernel) (by decide +kernel)
theorem gf_X5_23 {X : ps_X} {cc : ByteArray} (C : ps_C X RX5 cc) {M : ps_M} {pc : Nat} {lv : List (Option Value)} {stk : List Value} {a : Nat} (hk : ps_ck 3 a = true) (hd : decode cc pc = .ok (.getfield 23, 3)) (k : ps_G X M (pc + 3) lv (.int (ps_rd M a 3) :: stk)) : ps_G X M pc lv (.ref (xb X + a) :: stk) := ps_get C (κ := 3) (ci := 5) (slot := 3) (CN := RX5) (T := TX5) (N := 4) hk rfl rfl inX5 (by decide) pm_36 rfl rfl hd k
theorem pf_X5_23 {X : ps_X} {cc : ByteArray} (C : ps_C X RX5 cc) {M : ps_M} {pc : Nat} {lv : List (Option Value)} {stk : List Value} {a : Nat} (hk : ps_ck 3 a = true) {x : Int32} (hd : decode cc pc = .ok (.putfield 23, 3)) (k : ∀ M1, M1 = ps_st M a 3 x → ps_G X M1 (pc + 3) lv stk) : ps_G X M pc lv (.int x :: .ref (xb X + a) :: stk) := ps_put C (κ := 3) (ci := 5) (slot := 3) (CN := RX5) (T := TX5) (N := 4) (ty0 := tyX5) (ps_st M a 3 x) hk rfl (by rw [ps_st_self]; rfl) ps_st_ho (fun h => h) rfl inX5 tyX5_ok nmX5 (by decide) pm_36 rfl rfl (tyX5_ok 3 (by decide)) rfl rfl (Nat.le_of_ble_eq_true rfl) hd (k _ rfl)
theorem pm_33 : Cond.fieldLink RX5 11 RX5 "bars" "[[I" ∈ ps_T := ps_in 33 (by decide +kernel) (by decide +kernel)
theorem gf_X5_11 {X : ps_X} {cc : ByteArray} (C : ps_C X RX5 cc) {M : ps_M} {pc : Nat} {lv : List (Option Value)} {stk : List Value} {a : Nat} (hk : ps_ck 3 a = true) (hd : decode cc pc = .ok (.getfield 11, 3)) (k : ps_G X M (pc + 3) lv (.ref (xb X + (a + 1)) :: stk)) : ps_G X M pc lv (.ref (xb X + a) :: stk) := ps_get C (κ := 3) (ci := 5) (slot := 0) (CN := RX5) (T := TX5) (N := 4) hk rfl rfl inX5 (by decide) pm_33 rfl rfl hd k
theorem kf_3_1 {a : Nat} (h : ps_ck 3 a = true) : ps_ck 4 (a + 1) = true := (by decide +kernel : ∀ a, a < 415 → ps_ck 3 a = true → ps_ck 4 (a + 1) = true) a (ps_ck_lt h) h
theorem ke_4 {a : Nat} {i : Int32} (h : ps_ck 4 a = true) (hi : ps_inB i 8 = true) : ps_ck 5 (a + 1 + i.toNatClampNeg) = true := (by decide +kernel : ∀ a, a < 415 → ps_ck 4 a = true → ∀ j, j < 8 → ps_ck 5 (a + 1 + j) = true) a (ps_ck_lt h) h _ (ps_inB_lt hi)
theorem pb_20 : (Int8.ofInt (20)).toInt32 = (nI 20) := by decide
theorem pi_1 : Int32.ofInt (1) = (nI 1) := by decide
theorem pi_4 : Int32.ofInt (4) = (nI 4) := by decide
theorem pm_62 : Cond.fieldLink RX3 16 RX3 "count" "I" ∈ ps_T := ps_in 62 (by decide +kernel) (by decide +kernel)
theorem gf_X3_16 {X : ps_X} {cc : ByteArray} (C : ps_C X RX3 cc) {M : ps_M} {pc : Nat} {lv : List (Option Value)} {stk : List Value} {a : Nat} (hk : ps_ck 9 a = true) (hd : decode cc pc = .ok (.getfield 16, 3)) (k : ps_G X M (pc + 3) lv (.int (ps_rd M a 1) :: stk)) : ps_G X M pc lv (.ref (xb X + a) :: stk) := ps_get C (κ := 9) (ci := 3) (slot := 1) (CN := RX3) (T := TX3) (N := 6) hk rfl rfl inX3 (by decide) pm_62 rfl rfl hd k
theorem pf_X3_16 {X : ps_X} {cc : ByteArray} (C : ps_C X RX3 cc) {M : ps_M} {pc : Nat} {lv : List (Option Value)} {stk : List Value} {a : Nat} (hk : ps_ck 9 a = true) {x : Int32} (hd : decode cc pc = .ok (.putfield 16, 3)) (k : ∀ M1, M1 = ps_st M a 1 x → ps_G X M1 (pc + 3) lv stk) : ps_G X M pc lv (.int x :: .ref (xb X + a) :: stk) := ps_put C (κ := 9) (ci := 3) (slot := 1) (CN := RX3) (T := TX3) (N := 6) (ty0 := tyX3) (ps_st M a 1 x) hk rfl (by rw [ps_st_self]; rfl) ps_st_ho (fun h => h) rfl inX3 tyX3_ok nmX3 (by decide) pm_62 rfl rfl (tyX3_ok 1 (by decide)) rfl rfl (Nat.le_of_ble_eq_true rfl) hd (k _ rfl)
theorem pm_65 : Cond.fieldLink RX3 20 RX3 "last" "I" ∈ ps_T := ps_in 65 (by decide +kernel) (by decide +kernel)
theorem gf_X3_20 {X : ps_X} {cc : ByteArray} (C : ps_C X RX3 cc) {M : ps_M} {pc : Nat} {lv : List (Option Value)} {stk : List Value} {a : Nat} (hk : ps_ck 9 a = true) (hd : decode cc pc = .ok (.getfield 20, 3)) (k : ps_G X M (pc + 3) lv (.int (ps_rd M a 2) :: stk)) : ps_G X M pc lv (.ref (xb X + a) :: stk) := ps_get C (κ := 9) (ci := 3) (slot := 2) (CN := RX3) (T := TX3) (N := 6) hk rfl rfl inX3 (by decide) pm_65 rfl rfl hd k
theorem pf_X3_20 {X : ps_X} {cc : ByteArray} (C : ps_C X RX3 cc) {M : ps_M} {pc : Nat} {lv : List (Option Value)} {stk : List Value} {a : Nat} (hk : ps_ck 9 a = true) {x : Int32} (hd : decode cc pc = .ok (.putfield 20, 3)) (k : ∀ M1, M1 = ps_st M a 2 x → ps_G X M1 (pc + 3) lv stk) : ps_G X M pc lv (.int x :: .ref (xb X + a) :: stk) := ps_put C (κ := 9) (ci := 3) (slot := 2) (CN := RX3) (T := TX3) (N := 6) (ty0 := tyX3) (ps_st M a 2 x) hk rfl (by rw [ps_st_self]; rfl) ps_st_ho (fun h => h) rfl inX3 tyX3_ok nmX3 (by decide) pm_65 rfl rfl (tyX3_ok 2 (by decide)) rfl rfl (Nat.le_of_ble_eq_true rfl) hd (k _ rfl)
theorem pm_68 : Cond.fieldLink RX3 23 RX3 "heardToday" "I" ∈ ps_T := ps_in 68 (by decide +kernel) (by decide +kernel)
theorem gf_X3_23 {X : ps_X} {cc : ByteArray} (C : ps_C X RX3 cc) {M : ps_M} {pc : Nat} {lv : List (Option Value)} {stk : List Value} {a : Nat} (hk : ps_ck 9 a = true) (hd : decode cc pc = .ok (.getfield 23, 3)) (k : ps_G X M (pc + 3) lv (.int (ps_rd M a 3) :: stk)) : ps_G X M pc lv (.ref (xb X + a) :: stk) := ps_get C (κ := 9) (ci := 3) (slot := 3) (CN := RX3) (T := TX3) (N := 6) hk rfl rfl inX3 (by decide) pm_68 rfl rfl hd k
theorem pf_X3_23 {X : ps_X} {cc : ByteArray} (C : ps_C X RX3 cc) {M : ps_M} {pc : Nat} {lv : List (Option Value)} {stk : List Value} {a : Nat} (hk : ps_ck 9 a = true) {x : Int32} (hd : decode cc pc = .ok (.putfield 23, 3)) (k : ∀ M1, M1 = ps_st M a 3 x → ps_G X M1 (pc + 3) lv stk) : ps_G X M pc lv (.int x :: .ref (xb X + a) :: stk) := ps_put C (κ := 9) (ci := 3) (slot := 3) (CN := RX3) (T := TX3) (N := 6) (ty0 := tyX3) (ps_st M a 3 x) hk rfl (by rw [ps_st_self]; rfl) ps_st_ho (fun h => h) rfl inX3 tyX3_ok nmX3 (by decide) pm_68 rfl rfl (tyX3_ok 3 (by decide)) rfl rfl (Nat.le_of_ble_eq_true rfl) hd (k _ rfl)
theorem pm_71 : Cond.fieldLink RX3 26 RX3 "heardInAll" "I" ∈ ps_T := ps_in 71 (by decide +kernel) (by decide +kernel)
theorem gf_X3_26 {X : ps_X} {cc : ByteArray} (C : ps_C X RX3 cc) {M : ps_M} {pc : Nat} {lv : List (Option Value)} {stk : List Value} {a : Nat} (hk : ps_ck 9 a = true) (hd : decode cc pc = .ok (.getfield 26, 3)) (k : ps_G X M (pc + 3) lv (.int (ps_rd M a 4) :: stk)) : ps_G X M pc lv (.ref (xb X + a) :: stk) := ps_get C (κ := 9) (ci := 3) (slot := 4) (CN := RX3) (T := TX3) (N := 6) hk rfl rfl inX3 (by decide) pm_71 rfl rfl hd k
theorem pf_X3_26 {X : ps_X} {cc : ByteArray} (C : ps_C X RX3 cc) {M : ps_M} {pc : Nat} {lv : List (Option Value)} {stk : List Value} {a : Nat} (hk : ps_ck 9 a = true) {x : Int32} (hd : decode cc pc = .ok (.putfield 26, 3)) (k : ∀ M1, M1 = ps_st M a 4 x → ps_G X M1 (pc + 3) lv stk) : ps_G X M pc lv (.int x :: .ref (xb X + a) :: stk) := ps_put C (κ := 9) (ci := 3) (slot := 4) (CN := RX3) (T := TX3) (N := 6) (ty0 := tyX3) (ps_st M a 4 x) hk rfl (by rw [ps_st_self]; rfl) ps_st_ho (fun h => h) rfl inX3 tyX3_ok nmX3 (by decide) pm_71 rfl rfl (tyX3_ok 4 (by decide)) rfl rfl (Nat.le_of_ble_eq_true rfl) hd (k _ rfl)
theorem pm_74 : Cond.fieldLink RX3 29 RX3 "forgotten" "I" ∈ ps_T := ps_in 74 (by decide +kernel) (by decide +kernel)
theorem gf_X3_29 {X : ps_X} {cc : ByteArray} (C : ps_C X RX3 cc) {M : ps_M} {pc : Nat} {lv : List (Option Value)} {stk : List Value} {a : Nat} (hk : ps_ck 9 a = true) (hd : decode cc pc = .ok (.getfield 29, 3)) (k : ps_G X M (pc + 3) lv (.int (ps_rd M a 5) :: stk)) : ps_G X M pc lv (.ref (xb X + a) :: stk) := ps_get C (κ := 9) (ci := 3) (slot := 5) (CN := RX3) (T := TX3) (N := 6) hk rfl rfl inX3 (by decide) pm_74 rfl rfl hd k
theorem pf_X3_29 {X : ps_X} {cc : ByteArray} (C : ps_C X RX3 cc) {M : ps_M} {pc : Nat} {lv : List (Option Value)} {stk : List Value} {a : Nat} (hk : ps_ck 9 a = true) {x : Int32} (hd : decode cc pc = .ok (.putfield 29, 3)) (k : ∀ M1, M1 = ps_st M a 5 x → ps_G X M1 (pc + 3) lv stk) : ps_G X M pc lv (.int x :: .ref (xb X + a) :: stk) := ps_put C (κ := 9) (ci := 3) (slot := 5) (CN := RX3) (T := TX3) (N := 6) (ty0 := tyX3) (ps_st M a 5 x) hk rfl (by rw [ps_st_self]; rfl) ps_st_ho (fun h => h) rfl inX3 tyX3_ok nmX3 (by decide) pm_74 rfl rfl (tyX3_ok 5 (by decide)) rfl rfl (Nat.le_of_ble_eq_true rfl) hd (k _ rfl)
theorem pm_61 : Cond.fieldLink RX3 13 RX3 "links" "[[I" ∈ ps_T := ps_in 61 (by decide +kernel) (by decide +kernel)
theorem gf_X3_13 {X : ps_X} {cc : ByteArray} (C : ps_C X RX3 cc) {M : ps_M} {pc : Nat} {lv : List (Option Value)} {stk : List Value} {a : Nat} (hk : ps_ck 9 a = true) (hd : decode cc pc = .ok (.getfield 13, 3)) (k : ps_G X M (pc + 3) lv (.ref (xb X + (a + 1)) :: stk)) : ps_G X M pc lv (.ref (xb X + a) :: stk) := ps_get C (κ := 9) (ci := 3) (slot := 0) (CN := RX3) (T := TX3) (N := 6) hk rfl rfl inX3 (by decide) pm_61 rfl rfl hd k
theorem kf_9_1 {a : Nat} (h : ps_ck 9 a = true) : ps_ck 10 (a + 1) = true := (by decide +kernel : ∀ a, a < 415 → ps_ck 9 a = true → ps_ck 10 (a + 1) = true) a (ps_ck_lt h) h
theorem ke_10 {a : Nat} {i : Int32} (h : ps_ck 10 a = true) (hi : ps_inB i 4 = true) : ps_ck 11 (a + 1 + i.toNatClampNeg) = true := (by decide +kernel : ∀ a, a < 415 → ps_ck 10 a = true → ∀ j, j < 4 → ps_ck 11 (a + 1 + j) = true) a (ps_ck_lt h) h _ (ps_inB_lt hi)
theorem pb_61 : (Int8.ofInt (61)).toInt32 = (nI 61) := by decide
theorem pm_234 : Cond.methodLink RX3 32 arraycopyName ∈ ps_T := ps_in 234 (by decide +kernel) (by decide +kernel)
theorem cw_X3_32 : Cond.methodLink RX3 32 arraycopyName ∈ ps_T ∧ Cond.native arraycopyName ∈ ps_T ∧ Cond.static arraycopyName ∈ ps_T ∧ Cond.initialized "java/lang/System" ∈ ps_T := ⟨pm_234, pm_54, pm_53, pm_4⟩
theorem pm_90 : Cond.fieldLink RX1 9 RX1 "settings" "[I" ∈ ps_T := ps_in 90 (by decide +kernel) (by decide +kernel)
theorem gf_X1_9 {X : ps_X} {cc : ByteArray} (C : ps_C X RX1 cc) {M : ps_M} {pc : Nat} {lv : List (Option Value)} {stk : List Value} {a : Nat} (hk : ps_ck 1 a = true) (hd : decode cc pc = .ok (.getfield 9, 3)) (k : ps_G X M (pc + 3) lv (.ref (xb X + (a + 1)) :: stk)) : ps_G X M pc lv (.ref (xb X + a) :: stk) := ps_get C (κ := 1) (ci := 1) (slot := 0) (CN := RX1) (T := TX1) (N := 6) hk rfl rfl inX1 (by decide) pm_90 rfl rfl hd k
theorem kf_1_1 {a : Nat} (h : ps_ck 1 a = true) : ps_ck 2 (a + 1) = true := (by decide +kernel : ∀ a, a < 415 → ps_ck 1 a = true → ps_ck 2 (a + 1) = true) a (ps_ck_lt h) h
theorem pm_52 : Cond.methodLink RX1 41 arraycopyName ∈ ps_T := ps_in 52 (by decide +kernel) (by decide +kernel)
theorem cw_X1_41 : Cond.methodLink RX1 41 arraycopyName ∈ ps_T ∧ Cond.native arraycopyName ∈ ps_T ∧ Cond.static arraycopyName ∈ ps_T ∧ Cond.initialized "java/lang/System" ∈ ps_T := ⟨pm_52, pm_54, pm_53, pm_4⟩
theorem pm_92 : Cond.fieldLink RX1 18 RX1 "songs" "LParrotSongs$Songbook;" ∈ ps_T := ps_in 92 (by decide +kernel) (by decide +kernel)
theorem gf_X1_18 {X : ps_X} {cc : ByteArray} (C : ps_C X RX1 cc) {M : ps_M} {pc : Nat} {lv : List (Option Value)} {stk : List Value} {a : Nat} (hk : ps_ck 1 a = true) (hd : decode cc pc = .ok (.getfield 18, 3)) (k : ps_G X M (pc + 3) lv (.ref (xb X + (a + 2)) :: stk)) : ps_G X M pc lv (.ref (xb X + a) :: stk) := ps_get C (κ := 1) (ci := 1) (slot := 1) (CN := RX1) (T := TX1) (N := 6) hk rfl rfl inX1 (by decide) pm_92 rfl rfl hd k
theorem kf_1_2 {a : Nat} (h : ps_ck 1 a = true) : ps_ck 3 (a + 2) = true := (by decide +kernel : ∀ a, a < 415 → ps_ck 1 a = true → ps_ck 3 (a + 2) = true) a (ps_ck_lt h) h
theorem pm_96 : Cond.fieldLink RX1 28 RX1 "parrotCount" "I" ∈ ps_T := ps_in 96 (by decide +kernel) (by decide +kernel)
theorem gf_X1_28 {X : ps_X} {cc : ByteArray} (C : ps_C X RX1 cc) {M : ps_M} {pc : Nat} {lv : List (Option Value)} {stk : List Value} {a : Nat} (hk : ps_ck 1 a = true) (hd : decode cc pc = .ok (.getfield 28, 3)) (k : ps_G X M (pc + 3) lv (.int (ps_rd M a 3) :: stk)) : ps_G X M pc lv (.ref (xb X + a) :: stk) := ps_get C (κ := 1) (ci := 1) (slot := 3) (CN := RX1) (T := TX1) (N := 6) hk rfl rfl inX1 (by decide) pm_96 rfl rfl hd k
theorem pf_X1_28 {X : ps_X} {cc : ByteArray} (C : ps_C X RX1 cc) {M : ps_M} {pc : Nat} {lv : List (Option Value)} {stk : List Value} {a : Nat} (hk : ps_ck 1 a = true) {x : Int32} (hd : decode cc pc = .ok (.putfield 28, 3)) (k : ∀ M1, M1 = ps_st M a 3 x → ps_G X M1 (pc + 3) lv stk) : ps_G X M pc lv (.int x :: .ref (xb X + a) :: stk) := ps_put C (κ := 1) (ci := 1) (slot := 3) (CN := RX1) (T := TX1) (N := 6) (ty0 := tyX1) (ps_st M a 3 x) hk rfl (by rw [ps_st_self]; rfl) ps_st_ho (fun h => h) rfl inX1 tyX1_ok nmX1 (by decide) pm_96 rfl rfl (tyX1_ok 3 (by decide)) rfl rfl (Nat.le_of_ble_eq_true rfl) hd (k _ rfl)
theorem pm_98 : Cond.fieldLink RX1 32 RX1 "nights" "I" ∈ ps_T := ps_in 98 (by decide +kernel) (by decide +kernel)
theorem gf_X1_32 {X : ps_X} {cc : ByteArray} (C : ps_C X RX1 cc) {M : ps_M} {pc : Nat} {lv : List (Option Value)} {stk : List Value} {a : Nat} (hk : ps_ck 1 a = true) (hd : decode cc pc = .ok (.getfield 32, 3)) (k : ps_G X M (pc + 3) lv (.int (ps_rd M a 4) :: stk)) : ps_G X M pc lv (.ref (xb X + a) :: stk) := ps_get C (κ := 1) (ci := 1) (slot := 4) (CN := RX1) (T := TX1) (N := 6) hk rfl rfl inX1 (by decide) pm_98 rfl rfl hd k
theorem pf_X1_32 {X : ps_X} {cc : ByteArray} (C : ps_C X RX1 cc) {M : ps_M} {pc : Nat} {lv : List (Option Value)} {stk : List Value} {a : Nat} (hk : ps_ck 1 a = true) {x : Int32} (hd : decode cc pc = .ok (.putfield 32, 3)) (k : ∀ M1, M1 = ps_st M a 4 x → ps_G X M1 (pc + 3) lv stk) : ps_G X M pc lv (.int x :: .ref (xb X + a) :: stk) := ps_put C (κ := 1) (ci := 1) (slot := 4) (CN := RX1) (T := TX1) (N := 6) (ty0 := tyX1) (ps_st M a 4 x) hk rfl (by rw [ps_st_self]; rfl) ps_st_ho (fun h => h) rfl inX1 tyX1_ok nmX1 (by decide) pm_98 rfl rfl (tyX1_ok 4 (by decide)) rfl rfl (Nat.le_of_ble_eq_true rfl) hd (k _ rfl)
theorem pm_94 : Cond.fieldLink RX1 24 RX1 "parrots" "[LParrotSongs$Parrot;" ∈ ps_T := ps_in 94 (by decide +kernel) (by decide +kernel)
theorem gf_X1_24 {X : ps_X} {cc : ByteArray} (C : ps_C X RX1 cc) {M : ps_M} {pc : Nat} {lv : List (Option Value)} {stk : List Value} {a : Nat} (hk : ps_ck 1 a = true) (hd : decode cc pc = .ok (.getfield 24, 3)) (k : ps_G X M (pc + 3) lv (.ref (xb X + (a + 14)) :: stk)) : ps_G X M pc lv (.ref (xb X + a) :: stk) := ps_get C (κ := 1) (ci := 1) (slot := 2) (CN := RX1) (T := TX1) (N := 6) hk rfl rfl inX1 (by decide) pm_94 rfl rfl hd k
theorem kf_1_14 {a : Nat} (h : ps_ck 1 a = true) : ps_ck 7 (a + 14) = true := (by decide +kernel : ∀ a, a < 415 → ps_ck 1 a = true → ps_ck 7 (a + 14) = true) a (ps_ck_lt h) h
theorem ke_7 {a : Nat} {i : Int32} (h : ps_ck 7 a = true) (hi : ps_inB i 4 = true) : ps_ck 9 (a + 2 + 6 * i.toNatClampNeg) = true := (by decide +kernel : ∀ a, a < 415 → ps_ck 7 a = true → ∀ j, j < 4 → ps_ck 9 (a + 2 + 6 * j) = true) a (ps_ck_lt h) h _ (ps_inB_lt hi)
theorem pm_230 : Cond.methodLink RX1 52 yX3_copyFrom ∈ ps_T := ps_in 230 (by decide +kernel) (by decide +kernel)
theorem pm_231 : Cond.instanceMethod yX3_copyFrom ∈ ps_T := ps_in 231 (by decide +kernel) (by decide +kernel)
theorem pm_232 : Cond.selects RX3 yX3_copyFrom yX3_copyFrom ∈ ps_T := ps_in 232 (by decide +kernel) (by decide +kernel)
theorem pm_5 : Cond.initialized RX3 ∈ ps_T := ps_in 5 (by decide +kernel) (by decide +kernel)
theorem pm_233 : Cond.code yX3_copyFrom cX3_copyFrom 3 none ∈ ps_T := ps_in 233 (by decide +kernel) (by decide +kernel)
theorem cw_X1_52 : ps_cwV RX1 52 RX3 yX3_copyFrom cX3_copyFrom 3 none 1 := ⟨⟨pm_230, pm_231, pm_232, pm_5, pm_233⟩, ⟨by decide, by decide⟩, by decide +kernel⟩
theorem pm_225 : Cond.methodLink RX1 48 yX5_copyFrom ∈ ps_T := ps_in 225 (by decide +kernel) (by decide +kernel)
theorem pm_226 : Cond.instanceMethod yX5_copyFrom ∈ ps_T := ps_in 226 (by decide +kernel) (by decide +kernel)
theorem pm_227 : Cond.selects RX5 yX5_copyFrom yX5_copyFrom ∈ ps_T := ps_in 227 (by decide +kernel) (by decide +kernel)
theorem pm_3 : Cond.initialized RX5 ∈ ps_T := ps_in 3 (by decide +kernel) (by decide +kernel)
theorem pm_228 : Cond.code yX5_copyFrom cX5_copyFrom 3 none ∈ ps_T := ps_in 228 (by decide +kernel) (by decide +kernel)
theorem cw_X1_48 : ps_cwV RX1 48 RX5 yX5_copyFrom cX5_copyFrom 3 none 1 := ⟨⟨pm_225, pm_226, pm_227, pm_3, pm_228⟩, ⟨by decide, by decide⟩, by decide +kernel⟩
theorem pm_124 : Cond.fieldLink RX0 16 RX0 "before" "LParrotSongs$House;" ∈ ps_T := ps_in 124 (by decide +kernel) (by decide +kernel)
theorem gf_X0_16 {X : ps_X} {cc : ByteArray} (C : ps_C X RX0 cc) {M : ps_M} {pc : Nat} {lv : List (Option Value)} {stk : List Value} {a : Nat} (hk : ps_ck 12 a = true) (hd : decode cc pc = .ok (.getfield 16, 3)) (k : ps_ck 1 (ps_rr M 6) = true → ps_G X M (pc + 3) lv (.ref (xb X + ps_rr M 6) :: stk)) : ps_G X M pc lv (.ref (xb X + a) :: stk) := fun H locs ls hP hR hS hl => ps_get C (κ := 12) (ci := 0) (slot := 1) (CN := RX0) (T := TX0) (N := 3) hk rfl rfl inX0 (by decide) pm_124 rfl rfl hd (k (hR 6 (by decide))) H locs ls hP hR hS hl
theorem pm_221 : Cond.methodLink RX0 24 yX1_copyFrom ∈ ps_T := ps_in 221 (by decide +kernel) (by decide +kernel)
theorem pm_222 : Cond.instanceMethod yX1_copyFrom ∈ ps_T := ps_in 222 (by decide +kernel) (by decide +kernel)
theorem pm_223 : Cond.selects RX1 yX1_copyFrom yX1_copyFrom ∈ ps_T := ps_in 223 (by decide +kernel) (by decide +kernel)
theorem pm_2 : Cond.initialized RX1 ∈ ps_T := ps_in 2 (by decide +kernel) (by decide +kernel)
theorem pm_224 : Cond.code yX1_copyFrom cX1_copyFrom 3 none ∈ ps_T := ps_in 224 (by decide +kernel) (by decide +kernel)
theorem cw_X0_24 : ps_cwV RX0 24 RX1 yX1_copyFrom cX1_copyFrom 3 none 1 := ⟨⟨pm_221, pm_222, pm_223, pm_2, pm_224⟩, ⟨by decide, by decide⟩, by decide +kernel⟩
theorem pi_m1 : Int32.ofInt (-1) = (ps_m 1) := by decide
theorem pb_m5 : (Int8.ofInt (-5)).toInt32 = (ps_m 5) := by decide
theorem pm_123 : Cond.fieldLink RX0 11 RX0 "states" "[LParrotSongs$House;" ∈ ps_T := ps_in 123 (by decide +kernel) (by decide +kernel)
theorem gf_X0_11 {X : ps_X} {cc : ByteArray} (C : ps_C X RX0 cc) {M : ps_M} {pc : Nat} {lv : List (Option Value)} {stk : List Value} {a : Nat} (hk : ps_ck 12 a = true) (hd : decode cc pc = .ok (.getfield 11, 3)) (k : ps_G X M (pc + 3) lv (.ref (xb X + (a + 1)) :: stk)) : ps_G X M pc lv (.ref (xb X + a) :: stk) := ps_get C (κ := 12) (ci := 0) (slot := 0) (CN := RX0) (T := TX0) (N := 3) hk rfl rfl inX0 (by decide) pm_123 rfl rfl hd k
theorem kf_12_1 {a : Nat} (h : ps_ck 12 a = true) : ps_ck 13 (a + 1) = true := (by decide +kernel : ∀ a, a < 415 → ps_ck 12 a = true → ps_ck 13 (a + 1) = true) a (ps_ck_lt h) h
theorem pb_6 : (Int8.ofInt (6)).toInt32 = (nI 6) := by decide
theorem pi_5 : Int32.ofInt (5) = (nI 5) := by decide
theorem pm_125 : Cond.fieldLink RX0 20 RX0 "count" "I" ∈ ps_T := ps_in 125 (by decide +kernel) (by decide +kernel)
theorem pf_X0_20 {X : ps_X} {cc : ByteArray} (C : ps_C X RX0 cc) {M : ps_M} {pc : Nat} {lv : List (Option Value)} {stk : List Value} {a : Nat} (hk : ps_ck 12 a = true) {x : Int32} (hd : decode cc pc = .ok (.putfield 20, 3)) (k : ∀ M1, M1 = ps_st M a 2 x → ps_G X M1 (pc + 3) lv stk) : ps_G X M pc lv (.int x :: .ref (xb X + a) :: stk) := ps_put C (κ := 12) (ci := 0) (slot := 2) (CN := RX0) (T := TX0) (N := 3) (ty0 := tyX0) (ps_st M a 2 x) hk rfl (by rw [ps_st_self]; rfl) ps_st_ho (fun h => h) rfl inX0 tyX0_ok nmX0 (by decide) pm_125 rfl rfl (tyX0_ok 2 (by decide)) rfl rfl (Nat.le_of_ble_eq_true rfl) hd (k _ rfl)
theorem gf_X0_20 {X : ps_X} {cc : ByteArray} (C : ps_C X RX0 cc) {M : ps_M} {pc : Nat} {lv : List (Option Value)} {stk : List Value} {a : Nat} (hk : ps_ck 12 a = true) (hd : decode cc pc = .ok (.getfield 20, 3)) (k : ps_G X M (pc + 3) lv (.int (ps_rd M a 2) :: stk)) : ps_G X M pc lv (.ref (xb X + a) :: stk) := ps_get C (κ := 12) (ci := 0) (slot := 2) (CN := RX0) (T := TX0) (N := 3) hk rfl rfl inX0 (by decide) pm_125 rfl rfl hd k
theorem pf_X0_16 {X : ps_X} {cc : ByteArray} (C : ps_C X RX0 cc) {M : ps_M} {pc : Nat} {lv : List (Option Value)} {stk : List Value} {a : Nat} (hk : ps_ck 12 a = true) {h : Nat} (hh : ps_ck 1 h = true) (hd : decode cc pc = .ok (.putfield 16, 3)) (k : ∀ M1, M1 = ps_sr M 6 h → ps_G X M1 (pc + 3) lv stk) : ps_G X M pc lv (.ref (xb X + h) :: .ref (xb X + a) :: stk) := ps_put C (κ := 12) (ci := 0) (slot := 1) (CN := RX0) (T := TX0) (N := 3) (ty0 := tyX0) (ps_sr M 6 h) hk rfl rfl (ps_sr_ho (Or.inl ⟨rfl, hk⟩)) (ps_sr_ro hh) rfl inX0 tyX0_ok nmX0 (by decide) pm_124 rfl rfl (tyX0_ok 1 (by decide)) rfl rfl (Nat.le_of_ble_eq_true rfl) hd (k _ rfl)
theorem pm_254 : Cond.methodLink RX0 37 yX0_dropOldest ∈ ps_T := ps_in 254 (by decide +kernel) (by decide +kernel)
theorem pm_256 : Cond.instanceMethod yX0_dropOldest ∈ ps_T := ps_in 256 (by decide +kernel) (by decide +kernel)
theorem pn_1 : Cond.selects RX0 yX0_dropOldest yX0_dropOldest ∈ ps_T := ps_inS 1 (by decide +kernel) (by decide +kernel)
theorem pm_6 : Cond.initialized RX0 ∈ ps_T := ps_in 6 (by decide +kernel) (by decide +kernel)
theorem pm_257 : Cond.code yX0_dropOldest cX0_dropOldest 3 none ∈ ps_T := ps_in 257 (by decide +kernel) (by decide +kernel)
theorem cw_X0_37 : ps_cwV RX0 37 RX0 yX0_dropOldest cX0_dropOldest 3 none 0 := ⟨⟨pm_254, pm_256, pn_1, pm_6, pm_257⟩, ⟨by decide, by decide⟩, by decide +kernel⟩
theorem pm_250 : Cond.methodLink RX0 34 yX0_record ∈ ps_T := ps_in 250 (by decide +kernel) (by decide +kernel)
theorem pm_252 : Cond.instanceMethod yX0_record ∈ ps_T := ps_in 252 (by decide +kernel) (by decide +kernel)
theorem pn_0 : Cond.selects RX0 yX0_record yX0_record ∈ ps_T := ps_inS 0 (by decide +kernel) (by decide +kernel)
theorem pm_253 : Cond.code yX0_record cX0_record 2 none ∈ ps_T := ps_in 253 (by decide +kernel) (by decide +kernel)
theorem cw_X0_34 : ps_cwV RX0 34 RX0 yX0_record cX0_record 2 none 0 := ⟨⟨pm_250, pm_252, pn_0, pm_6, pm_253⟩, ⟨by decide, by decide⟩, by decide +kernel⟩
theorem pm_248 : Cond.static yX6_isError ∈ ps_T := ps_in 248 (by decide +kernel) (by decide +kernel)
theorem pm_1 : Cond.initialized RX6 ∈ ps_T := ps_in 1 (by decide +kernel) (by decide +kernel)
theorem pm_249 : Cond.code yX6_isError cX6_isError 1 (some .boolean) ∈ ps_T := ps_in 249 (by decide +kernel) (by decide +kernel)
theorem pb_m2 : (Int8.ofInt (-2)).toInt32 = (ps_m 2) := by decide
theorem pb_m4 : (Int8.ofInt (-4)).toInt32 = (ps_m 4) := by decide
theorem pm_69 : Cond.fieldLink RX1 61 RX3 "heardToday" "I" ∈ ps_T := ps_in 69 (by decide +kernel) (by decide +kernel)
theorem gf_X1_61 {X : ps_X} {cc : ByteArray} (C : ps_C X RX1 cc) {M : ps_M} {pc : Nat} {lv : List (Option Value)} {stk : List Value} {a : Nat} (hk : ps_ck 9 a = true) (hd : decode cc pc = .ok (.getfield 61, 3)) (k : ps_G X M (pc + 3) lv (.int (ps_rd M a 3) :: stk)) : ps_G X M pc lv (.ref (xb X + a) :: stk) := ps_get C (κ := 9) (ci := 3) (slot := 3) (CN := RX3) (T := TX3) (N := 6) hk rfl rfl inX3 (by decide) pm_69 rfl rfl hd k
theorem pi_3 : Int32.ofInt (3) = (nI 3) := by decide
theorem pm_302 : Cond.methodLink RX5 42 yX5_has ∈ ps_T := ps_in 302 (by decide +kernel) (by decide +kernel)
theorem pm_291 : Cond.instanceMethod yX5_has ∈ ps_T := ps_in 291 (by decide +kernel) (by decide +kernel)
theorem pm_292 : Cond.selects RX5 yX5_has yX5_has ∈ ps_T := ps_in 292 (by decide +kernel) (by decide +kernel)
theorem pm_293 : Cond.code yX5_has cX5_has 2 (some .boolean) ∈ ps_T := ps_in 293 (by decide +kernel) (by decide +kernel)
theorem cw_X5_42 : ps_cwV RX5 42 RX5 yX5_has cX5_has 2 (some .boolean) 1 := ⟨⟨pm_302, pm_291, pm_292, pm_3, pm_293⟩, ⟨by decide, by decide⟩, by decide +kernel⟩
theorem pb_m6 : (Int8.ofInt (-6)).toInt32 = (ps_m 6) := by decide
theorem pm_311 : Cond.methodLink RX5 46 yX5_hasBar ∈ ps_T := ps_in 311 (by decide +kernel) (by decide +kernel)
theorem pm_312 : Cond.instanceMethod yX5_hasBar ∈ ps_T := ps_in 312 (by decide +kernel) (by decide +kernel)
theorem pm_313 : Cond.selects RX5 yX5_hasBar yX5_hasBar ∈ ps_T := ps_in 313 (by decide +kernel) (by decide +kernel)
theorem pm_314 : Cond.code yX5_hasBar cX5_hasBar 3 (some .boolean) ∈ ps_T := ps_in 314 (by decide +kernel) (by decide +kernel)
theorem cw_X5_46 : ps_cwV RX5 46 RX5 yX5_hasBar cX5_hasBar 3 (some .boolean) 2 := ⟨⟨pm_311, pm_312, pm_313, pm_3, pm_314⟩, ⟨by decide, by decide⟩, by decide +kernel⟩
theorem pi_2 : Int32.ofInt (2) = (nI 2) := by decide
theorem pm_278 : Cond.methodLink RX3 59 yX3_write ∈ ps_T := ps_in 278 (by decide +kernel) (by decide +kernel)
theorem pm_280 : Cond.instanceMethod yX3_write ∈ ps_T := ps_in 280 (by decide +kernel) (by decide +kernel)
theorem pn_2 : Cond.selects RX3 yX3_write yX3_write ∈ ps_T := ps_inS 2 (by decide +kernel) (by decide +kernel)
theorem pm_281 : Cond.code yX3_write cX3_write 6 none ∈ ps_T := ps_in 281 (by decide +kernel) (by decide +kernel)
theorem cw_X3_59 : ps_cwV RX3 59 RX3 yX3_write cX3_write 6 none 5 := ⟨⟨pm_278, pm_280, pn_2, pm_5, pm_281⟩, ⟨by decide, by decide⟩, by decide +kernel⟩
theorem pb_9 : (Int8.ofInt (9)).toInt32 = (nI 9) := by decide
theorem pm_375 : Cond.methodLink RX3 54 Lib.Math.min.name ∈ ps_T := ps_in 375 (by decide +kernel) (by decide +kernel)
theorem pm_376 : Cond.static Lib.Math.min.name ∈ ps_T := ps_in 376 (by decide +kernel) (by decide +kernel)
theorem pm_9 : Cond.initialized RJ9 ∈ ps_T := ps_in 9 (by decide +kernel) (by decide +kernel)
theorem cw_X3_54 : Cond.methodLink RX3 54 Lib.Math.min.name ∈ ps_T ∧ Cond.static Lib.Math.min.name ∈ ps_T ∧ Cond.initialized "java/lang/Math" ∈ ps_T ∧ Cond.code Lib.Math.min.name Lib.Math.min.code 2 (some .int) ∈ ps_T := ⟨pm_375, pm_376, pm_9, ps_in 377 (by decide +kernel) (by decide +kernel)⟩
theorem pm_378 : Cond.methodLink RX3 46 yX3_remove ∈ ps_T := ps_in 378 (by decide +kernel) (by decide +kernel)
theorem pm_380 : Cond.instanceMethod yX3_remove ∈ ps_T := ps_in 380 (by decide +kernel) (by decide +kernel)
theorem pn_5 : Cond.selects RX3 yX3_remove yX3_remove ∈ ps_T := ps_inS 5 (by decide +kernel) (by decide +kernel)
theorem pm_381 : Cond.code yX3_remove cX3_remove 3 none ∈ ps_T := ps_in 381 (by decide +kernel) (by decide +kernel)
theorem cw_X3_46 : ps_cwV RX3 46 RX3 yX3_remove cX3_remove 3 none 1 := ⟨⟨pm_378, pm_380, pn_5, pm_5, pm_381⟩, ⟨by decide, by decide⟩, by decide +kernel⟩
theorem pm_371 : Cond.methodLink RX3 50 yX3_find ∈ ps_T := ps_in 371 (by decide +kernel) (by decide +kernel)
theorem pm_373 : Cond.instanceMethod yX3_find ∈ ps_T := ps_in 373 (by decide +kernel) (by decide +kernel)
theorem pn_4 : Cond.selects RX3 yX3_find yX3_find ∈ ps_T := ps_inS 4 (by decide +kernel) (by decide +kernel)
theorem pm_374 : Cond.code yX3_find cX3_find 4 (some .int) ∈ ps_T := ps_in 374 (by decide +kernel) (by decide +kernel)
theorem cw_X3_50 : ps_cwV RX3 50 RX3 yX3_find cX3_find 4 (some .int) 2 := ⟨⟨pm_371, pm_373, pn_4, pm_5, pm_374⟩, ⟨by decide, by decide⟩, by decide +kernel⟩
theorem pm_382 : Cond.methodLink RX3 42 yX3_weakest ∈ ps_T := ps_in 382 (by decide +kernel) (by decide +kernel)
theorem pm_384 : Cond.instanceMethod yX3_weakest ∈ ps_T := ps_in 384 (by decide +kernel) (by decide +kernel)
theorem pn_6 : Cond.selects RX3 yX3_weakest yX3_weakest ∈ ps_T := ps_inS 6 (by decide +kernel) (by decide +kernel)
theorem pm_385 : Cond.code yX3_weakest cX3_weakest 3 (some .int) ∈ ps_T := ps_in 385 (by decide +kernel) (by decide +kernel)
theorem cw_X3_42 : ps_cwV RX3 42 RX3 yX3_weakest cX3_weakest 3 (some .int) 0 := ⟨⟨pm_382, pm_384, pn_6, pm_5, pm_385⟩, ⟨by decide, by decide⟩, by decide +kernel⟩
theorem pm_367 : Cond.methodLink RX3 38 yX3_grow ∈ ps_T := ps_in 367 (by decide +kernel) (by decide +kernel)
theorem pm_369 : Cond.instanceMethod yX3_grow ∈ ps_T := ps_in 369 (by decide +kernel) (by decide +kernel)
theorem pn_3 : Cond.selects RX3 yX3_grow yX3_grow ∈ ps_T := ps_inS 3 (by decide +kernel) (by decide +kernel)
theorem pm_370 : Cond.code yX3_grow cX3_grow 6 none ∈ ps_T := ps_in 370 (by decide +kernel) (by decide +kernel)
theorem cw_X3_38 : ps_cwV RX3 38 RX3 yX3_grow cX3_grow 6 none 3 := ⟨⟨pm_367, pm_369, pn_3, pm_5, pm_370⟩, ⟨by decide, by decide⟩, by decide +kernel⟩
theorem pm_621 : Cond.methodLink RX1 91 yX5_countLesson ∈ ps_T := ps_in 621 (by decide +kernel) (by decide +kernel)
theorem pm_622 : Cond.instanceMethod yX5_countLesson ∈ ps_T := ps_in 622 (by decide +kernel) (by decide +kernel)
theorem pm_623 : Cond.selects RX5 yX5_countLesson yX5_countLesson ∈ ps_T := ps_in 623 (by decide +kernel) (by decide +kernel)
theorem pm_624 : Cond.code yX5_countLesson cX5_countLesson 2 none ∈ ps_T := ps_in 624 (by decide +kernel) (by decide +kernel)
theorem cw_X1_91 : ps_cwV RX1 91 RX5 yX5_countLesson cX5_countLesson 2 none 1 := ⟨⟨pm_621, pm_622, pm_623, pm_3, pm_624⟩, ⟨by decide, by decide⟩, by decide +kernel⟩
theorem pm_363 : Cond.methodLink RX1 87 yX3_hear ∈ ps_T := ps_in 363 (by decide +kernel) (by decide +kernel)
theorem pm_364 : Cond.instanceMethod yX3_hear ∈ ps_T := ps_in 364 (by decide +kernel) (by decide +kernel)
theorem pm_365 : Cond.selects RX3 yX3_hear yX3_hear ∈ ps_T := ps_in 365 (by decide +kernel) (by decide +kernel)
theorem pm_366 : Cond.code yX3_hear cX3_hear 4 none ∈ ps_T := ps_in 366 (by decide +kernel) (by decide +kernel)
theorem cw_X1_87 : ps_cwV RX1 87 RX3 yX3_hear cX3_hear 4 none 3 := ⟨⟨pm_363, pm_364, pm_365, pm_5, pm_366⟩, ⟨by decide, by decide⟩, by decide +kernel⟩
theorem pm_362 : Cond.methodLink RX1 83 yX5_barAt ∈ ps_T := ps_in 362 (by decide +kernel) (by decide +kernel)
theorem pm_308 : Cond.instanceMethod yX5_barAt ∈ ps_T := ps_in 308 (by decide +kernel) (by decide +kernel)
theorem pm_309 : Cond.selects RX5 yX5_barAt yX5_barAt ∈ ps_T := ps_in 309 (by decide +kernel) (by decide +kernel)
theorem pm_310 : Cond.code yX5_barAt cX5_barAt 3 (some .int) ∈ ps_T := ps_in 310 (by decide +kernel) (by decide +kernel)
theorem cw_X1_83 : ps_cwV RX1 83 RX5 yX5_barAt cX5_barAt 3 (some .int) 2 := ⟨⟨pm_362, pm_308, pm_309, pm_3, pm_310⟩, ⟨by decide, by decide⟩, by decide +kernel⟩
theorem pm_343 : Cond.methodLink RX1 75 yX1_isTired ∈ ps_T := ps_in 343 (by decide +kernel) (by decide +kernel)
theorem pm_344 : Cond.instanceMethod yX1_isTired ∈ ps_T := ps_in 344 (by decide +kernel) (by decide +kernel)
theorem pm_345 : Cond.selects RX1 yX1_isTired yX1_isTired ∈ ps_T := ps_in 345 (by decide +kernel) (by decide +kernel)
theorem pm_346 : Cond.code yX1_isTired cX1_isTired 2 (some .boolean) ∈ ps_T := ps_in 346 (by decide +kernel) (by decide +kernel)
theorem cw_X1_75 : ps_cwV RX1 75 RX1 yX1_isTired cX1_isTired 2 (some .boolean) 1 := ⟨⟨pm_343, pm_344, pm_345, pm_2, pm_346⟩, ⟨by decide, by decide⟩, by decide +kernel⟩
theorem pm_361 : Cond.methodLink RX1 79 yX5_lengthOf ∈ ps_T := ps_in 361 (by decide +kernel) (by decide +kernel)
theorem pm_299 : Cond.instanceMethod yX5_lengthOf ∈ ps_T := ps_in 299 (by decide +kernel) (by decide +kernel)
theorem pm_300 : Cond.selects RX5 yX5_lengthOf yX5_lengthOf ∈ ps_T := ps_in 300 (by decide +kernel) (by decide +kernel)
theorem pm_301 : Cond.code yX5_lengthOf cX5_lengthOf 2 (some .int) ∈ ps_T := ps_in 301 (by decide +kernel) (by decide +kernel)
theorem cw_X1_79 : ps_cwV RX1 79 RX5 yX5_lengthOf cX5_lengthOf 2 (some .int) 1 := ⟨⟨pm_361, pm_299, pm_300, pm_3, pm_301⟩, ⟨by decide, by decide⟩, by decide +kernel⟩
theorem pm_620 : Cond.methodLink RX1 71 yX5_hasBar ∈ ps_T := ps_in 620 (by decide +kernel) (by decide +kernel)
theorem cw_X1_71 : ps_cwV RX1 71 RX5 yX5_hasBar cX5_hasBar 3 (some .boolean) 2 := ⟨⟨pm_620, pm_312, pm_313, pm_3, pm_314⟩, ⟨by decide, by decide⟩, by decide +kernel⟩
theorem pm_619 : Cond.methodLink RX1 68 yX5_has ∈ ps_T := ps_in 619 (by decide +kernel) (by decide +kernel)
theorem cw_X1_68 : ps_cwV RX1 68 RX5 yX5_has cX5_has 2 (some .boolean) 1 := ⟨⟨pm_619, pm_291, pm_292, pm_3, pm_293⟩, ⟨by decide, by decide⟩, by decide +kernel⟩
theorem pm_618 : Cond.methodLink RX1 64 yX1_hasParrot ∈ ps_T := ps_in 618 (by decide +kernel) (by decide +kernel)
theorem pm_287 : Cond.instanceMethod yX1_hasParrot ∈ ps_T := ps_in 287 (by decide +kernel) (by decide +kernel)
theorem pm_288 : Cond.selects RX1 yX1_hasParrot yX1_hasParrot ∈ ps_T := ps_in 288 (by decide +kernel) (by decide +kernel)
theorem pm_289 : Cond.code yX1_hasParrot cX1_hasParrot 2 (some .boolean) ∈ ps_T := ps_in 289 (by decide +kernel) (by decide +kernel)
theorem cw_X1_64 : ps_cwV RX1 64 RX1 yX1_hasParrot cX1_hasParrot 2 (some .boolean) 1 := ⟨⟨pm_618, pm_287, pm_288, pm_2, pm_289⟩, ⟨by decide, by decide⟩, by decide +kernel⟩
theorem pm_66 : Cond.fieldLink RX1 95 RX3 "last" "I" ∈ ps_T := ps_in 66 (by decide +kernel) (by decide +kernel)
theorem gf_X1_95 {X : ps_X} {cc : ByteArray} (C : ps_C X RX1 cc) {M : ps_M} {pc : Nat} {lv : List (Option Value)} {stk : List Value} {a : Nat} (hk : ps_ck 9 a = true) (hd : decode cc pc = .ok (.getfield 95, 3)) (k : ps_G X M (pc + 3) lv (.int (ps_rd M a 2) :: stk)) : ps_G X M pc lv (.ref (xb X + a) :: stk) := ps_get C (κ := 9) (ci := 3) (slot := 2) (CN := RX3) (T := TX3) (N := 6) hk rfl rfl inX3 (by decide) pm_66 rfl rfl hd k
theorem pf_X1_95 {X : ps_X} {cc : ByteArray} (C : ps_C X RX1 cc) {M : ps_M} {pc : Nat} {lv : List (Option Value)} {stk : List Value} {a : Nat} (hk : ps_ck 9 a = true) {x : Int32} (hd : decode cc pc = .ok (.putfield 95, 3)) (k : ∀ M1, M1 = ps_st M a 2 x → ps_G X M1 (pc + 3) lv stk) : ps_G X M pc lv (.int x :: .ref (xb X + a) :: stk) := ps_put C (κ := 9) (ci := 3) (slot := 2) (CN := RX3) (T := TX3) (N := 6) (ty0 := tyX3) (ps_st M a 2 x) hk rfl (by rw [ps_st_self]; rfl) ps_st_ho (fun h => h) rfl inX3 tyX3_ok nmX3 (by decide) pm_66 rfl rfl (tyX3_ok 2 (by decide)) rfl rfl (Nat.le_of_ble_eq_true rfl) hd (k _ rfl)
theorem pb_40 : (Int8.ofInt (40)).toInt32 = (nI 40) := by decide
theorem pm_100 : Cond.fieldLink RX1 35 RX1 "sung" "[I" ∈ ps_T := ps_in 100 (by decide +kernel) (by decide +kernel)
theorem gf_X1_35 {X : ps_X} {cc : ByteArray} (C : ps_C X RX1 cc) {M : ps_M} {pc : Nat} {lv : List (Option Value)} {stk : List Value} {a : Nat} (hk : ps_ck 1 a = true) (hd : decode cc pc = .ok (.getfield 35, 3)) (k : ps_G X M (pc + 3) lv (.ref (xb X + (a + 15)) :: stk)) : ps_G X M pc lv (.ref (xb X + a) :: stk) := ps_get C (κ := 1) (ci := 1) (slot := 5) (CN := RX1) (T := TX1) (N := 6) hk rfl rfl inX1 (by decide) pm_100 rfl rfl hd k
theorem kf_1_15 {a : Nat} (h : ps_ck 1 a = true) : ps_ck 8 (a + 15) = true := (by decide +kernel : ∀ a, a < 415 → ps_ck 1 a = true → ps_ck 8 (a + 15) = true) a (ps_ck_lt h) h
theorem pm_637 : Cond.methodLink RX1 106 yX3_nextBehind ∈ ps_T := ps_in 637 (by decide +kernel) (by decide +kernel)
theorem pm_316 : Cond.instanceMethod yX3_nextBehind ∈ ps_T := ps_in 316 (by decide +kernel) (by decide +kernel)
theorem pm_317 : Cond.selects RX3 yX3_nextBehind yX3_nextBehind ∈ ps_T := ps_in 317 (by decide +kernel) (by decide +kernel)
theorem pm_318 : Cond.code yX3_nextBehind cX3_nextBehind 5 (some .int) ∈ ps_T := ps_in 318 (by decide +kernel) (by decide +kernel)
theorem cw_X1_106 : ps_cwV RX1 106 RX3 yX3_nextBehind cX3_nextBehind 5 (some .int) 1 := ⟨⟨pm_637, pm_316, pm_317, pm_5, pm_318⟩, ⟨by decide, by decide⟩, by decide +kernel⟩
theorem pm_638 : Cond.methodLink RX1 102 yX1_singSungTo ∈ ps_T := ps_in 638 (by decide +kernel) (by decide +kernel)
theorem pm_640 : Cond.instanceMethod yX1_singSungTo ∈ ps_T := ps_in 640 (by decide +kernel) (by decide +kernel)
theorem pn_18 : Cond.selects RX1 yX1_singSungTo yX1_singSungTo ∈ ps_T := ps_inS 18 (by decide +kernel) (by decide +kernel)
theorem pm_641 : Cond.code yX1_singSungTo cX1_singSungTo 4 none ∈ ps_T := ps_in 641 (by decide +kernel) (by decide +kernel)
theorem cw_X1_102 : ps_cwV RX1 102 RX1 yX1_singSungTo cX1_singSungTo 4 none 2 := ⟨⟨pm_638, pm_640, pn_18, pm_2, pm_641⟩, ⟨by decide, by decide⟩, by decide +kernel⟩
theorem pm_633 : Cond.methodLink RX1 98 yX1_findSung ∈ ps_T := ps_in 633 (by decide +kernel) (by decide +kernel)
theorem pm_635 : Cond.instanceMethod yX1_findSung ∈ ps_T := ps_in 635 (by decide +kernel) (by decide +kernel)
theorem pn_17 : Cond.selects RX1 yX1_findSung yX1_findSung ∈ ps_T := ps_inS 17 (by decide +kernel) (by decide +kernel)
theorem pm_636 : Cond.code yX1_findSung cX1_findSung 5 (some .int) ∈ ps_T := ps_in 636 (by decide +kernel) (by decide +kernel)
theorem cw_X1_98 : ps_cwV RX1 98 RX1 yX1_findSung cX1_findSung 5 (some .int) 2 := ⟨⟨pm_633, pm_635, pn_17, pm_2, pm_636⟩, ⟨by decide, by decide⟩, by decide +kernel⟩
theorem pj_999 : (Int16.ofInt (999)).toInt32 = (nI 999) := by decide
theorem pm_274 : Cond.methodLink RX1 109 yX3_sleep ∈ ps_T := ps_in 274 (by decide +kernel) (by decide +kernel)
theorem pm_275 : Cond.instanceMethod yX3_sleep ∈ ps_T := ps_in 275 (by decide +kernel) (by decide +kernel)
theorem pm_276 : Cond.selects RX3 yX3_sleep yX3_sleep ∈ ps_T := ps_in 276 (by decide +kernel) (by decide +kernel)
theorem pm_277 : Cond.code yX3_sleep cX3_sleep 5 (some .int) ∈ ps_T := ps_in 277 (by decide +kernel) (by decide +kernel)
theorem cw_X1_109 : ps_cwV RX1 109 RX3 yX3_sleep cX3_sleep 5 (some .int) 1 := ⟨⟨pm_274, pm_275, pm_276, pm_5, pm_277⟩, ⟨by decide, by decide⟩, by decide +kernel⟩
theorem pm_307 : Cond.methodLink RX5 54 yX5_barAt ∈ ps_T := ps_in 307 (by decide +kernel) (by decide +kernel)
theorem cw_X5_54 : ps_cwV RX5 54 RX5 yX5_barAt cX5_barAt 3 (some .int) 2 := ⟨⟨pm_307, pm_308, pm_309, pm_3, pm_310⟩, ⟨by decide, by decide⟩, by decide +kernel⟩
theorem pm_315 : Cond.methodLink RX5 62 yX3_nextBehind ∈ ps_T := ps_in 315 (by decide +kernel) (by decide +kernel)
theorem cw_X5_62 : ps_cwV RX5 62 RX3 yX3_nextBehind cX3_nextBehind 5 (some .int) 1 := ⟨⟨pm_315, pm_316, pm_317, pm_5, pm_318⟩, ⟨by decide, by decide⟩, by decide +kernel⟩
theorem pm_298 : Cond.methodLink RX5 50 yX5_lengthOf ∈ ps_T := ps_in 298 (by decide +kernel) (by decide +kernel)
theorem cw_X5_50 : ps_cwV RX5 50 RX5 yX5_lengthOf cX5_lengthOf 2 (some .int) 1 := ⟨⟨pm_298, pm_299, pm_300, pm_3, pm_301⟩, ⟨by decide, by decide⟩, by decide +kernel⟩
theorem pm_303 : Cond.methodLink RX5 67 yX5_firstWrong ∈ ps_T := ps_in 303 (by decide +kernel) (by decide +kernel)
theorem pm_304 : Cond.instanceMethod yX5_firstWrong ∈ ps_T := ps_in 304 (by decide +kernel) (by decide +kernel)
theorem pm_305 : Cond.selects RX5 yX5_firstWrong yX5_firstWrong ∈ ps_T := ps_in 305 (by decide +kernel) (by decide +kernel)
theorem pm_306 : Cond.code yX5_firstWrong cX5_firstWrong 4 (some .int) ∈ ps_T := ps_in 306 (by decide +kernel) (by decide +kernel)
theorem cw_X5_67 : ps_cwV RX5 67 RX5 yX5_firstWrong cX5_firstWrong 4 (some .int) 2 := ⟨⟨pm_303, pm_304, pm_305, pm_3, pm_306⟩, ⟨by decide, by decide⟩, by decide +kernel⟩
theorem pm_439 : Cond.methodLink RX1 112 yX5_isKnownBy ∈ ps_T := ps_in 439 (by decide +kernel) (by decide +kernel)
theorem pm_440 : Cond.instanceMethod yX5_isKnownBy ∈ ps_T := ps_in 440 (by decide +kernel) (by decide +kernel)
theorem pm_441 : Cond.selects RX5 yX5_isKnownBy yX5_isKnownBy ∈ ps_T := ps_in 441 (by decide +kernel) (by decide +kernel)
theorem pm_442 : Cond.code yX5_isKnownBy cX5_isKnownBy 3 (some .boolean) ∈ ps_T := ps_in 442 (by decide +kernel) (by decide +kernel)
theorem cw_X1_112 : ps_cwV RX1 112 RX5 yX5_isKnownBy cX5_isKnownBy 3 (some .boolean) 2 := ⟨⟨pm_439, pm_440, pm_441, pm_3, pm_442⟩, ⟨by decide, by decide⟩, by decide +kernel⟩
theorem pm_73 : Cond.fieldLink RX1 116 RX3 "heardInAll" "I" ∈ ps_T := ps_in 73 (by decide +kernel) (by decide +kernel)
theorem gf_X1_116 {X : ps_X} {cc : ByteArray} (C : ps_C X RX1 cc) {M : ps_M} {pc : Nat} {lv : List (Option Value)} {stk : List Value} {a : Nat} (hk : ps_ck 9 a = true) (hd : decode cc pc = .ok (.getfield 116, 3)) (k : ps_G X M (pc + 3) lv (.int (ps_rd M a 4) :: stk)) : ps_G X M pc lv (.ref (xb X + a) :: stk) := ps_get C (κ := 9) (ci := 3) (slot := 4) (CN := RX3) (T := TX3) (N := 6) hk rfl rfl inX3 (by decide) pm_73 rfl rfl hd k
theorem pm_64 : Cond.fieldLink RX1 119 RX3 "count" "I" ∈ ps_T := ps_in 64 (by decide +kernel) (by decide +kernel)
theorem gf_X1_119 {X : ps_X} {cc : ByteArray} (C : ps_C X RX1 cc) {M : ps_M} {pc : Nat} {lv : List (Option Value)} {stk : List Value} {a : Nat} (hk : ps_ck 9 a = true) (hd : decode cc pc = .ok (.getfield 119, 3)) (k : ps_G X M (pc + 3) lv (.int (ps_rd M a 1) :: stk)) : ps_G X M pc lv (.ref (xb X + a) :: stk) := ps_get C (κ := 9) (ci := 3) (slot := 1) (CN := RX3) (T := TX3) (N := 6) hk rfl rfl inX3 (by decide) pm_64 rfl rfl hd k
theorem pm_76 : Cond.fieldLink RX1 122 RX3 "forgotten" "I" ∈ ps_T := ps_in 76 (by decide +kernel) (by decide +kernel)
theorem gf_X1_122 {X : ps_X} {cc : ByteArray} (C : ps_C X RX1 cc) {M : ps_M} {pc : Nat} {lv : List (Option Value)} {stk : List Value} {a : Nat} (hk : ps_ck 9 a = true) (hd : decode cc pc = .ok (.getfield 122, 3)) (k : ps_G X M (pc + 3) lv (.int (ps_rd M a 5) :: stk)) : ps_G X M pc lv (.ref (xb X + a) :: stk) := ps_get C (κ := 9) (ci := 3) (slot := 5) (CN := RX3) (T := TX3) (N := 6) hk rfl rfl inX3 (by decide) pm_76 rfl rfl hd k
theorem pm_147 : Cond.fieldLink RX2 15 RX2 "length" "I" ∈ ps_T := ps_in 147 (by decide +kernel) (by decide +kernel)
theorem gf_X2_15 {X : ps_X} {cc : ByteArray} (C : ps_C X RX2 cc) {M : ps_M} {pc : Nat} {lv : List (Option Value)} {stk : List Value} {a : Nat} (hk : ps_ck 15 a = true) (hd : decode cc pc = .ok (.getfield 15, 3)) (k : ps_G X M (pc + 3) lv (.int (ps_rd M a 1) :: stk)) : ps_G X M pc lv (.ref (xb X + a) :: stk) := ps_get C (κ := 15) (ci := 2) (slot := 1) (CN := RX2) (T := TX2) (N := 2) hk rfl rfl inX2 (by decide) pm_147 rfl rfl hd k
theorem pm_146 : Cond.fieldLink RX2 11 RX2 "text" "[C" ∈ ps_T := ps_in 146 (by decide +kernel) (by decide +kernel)
theorem gf_X2_11 {X : ps_X} {cc : ByteArray} (C : ps_C X RX2 cc) {M : ps_M} {pc : Nat} {lv : List (Option Value)} {stk : List Value} {a : Nat} (hk : ps_ck 15 a = true) (hd : decode cc pc = .ok (.getfield 11, 3)) (k : ps_G X M (pc + 3) lv (.ref (xb X + (a + 1)) :: stk)) : ps_G X M pc lv (.ref (xb X + a) :: stk) := ps_get C (κ := 15) (ci := 2) (slot := 0) (CN := RX2) (T := TX2) (N := 2) hk rfl rfl inX2 (by decide) pm_146 rfl rfl hd k
theorem kf_15_1 {a : Nat} (h : ps_ck 15 a = true) : ps_ck 16 (a + 1) = true := (by decide +kernel : ∀ a, a < 415 → ps_ck 15 a = true → ps_ck 16 (a + 1) = true) a (ps_ck_lt h) h
theorem pm_542 : Cond.constantLong RX2 23 (lN 255) ∈ ps_T := ps_in 542 (by decide +kernel) (by decide +kernel)
theorem pm_543 : Cond.constantLong RX2 25 (lN 33) ∈ ps_T := ps_in 543 (by decide +kernel) (by decide +kernel)
theorem pm_544 : Cond.constantLong RX2 27 (lN 126) ∈ ps_T := ps_in 544 (by decide +kernel) (by decide +kernel)
theorem pb_80 : (Int8.ofInt (80)).toInt32 = (nI 80) := by decide
theorem pf_X2_15 {X : ps_X} {cc : ByteArray} (C : ps_C X RX2 cc) {M : ps_M} {pc : Nat} {lv : List (Option Value)} {stk : List Value} {a : Nat} (hk : ps_ck 15 a = true) {x : Int32} (hd : decode cc pc = .ok (.putfield 15, 3)) (k : ∀ M1, M1 = ps_st M a 1 x → ps_G X M1 (pc + 3) lv stk) : ps_G X M pc lv (.int x :: .ref (xb X + a) :: stk) := ps_put C (κ := 15) (ci := 2) (slot := 1) (CN := RX2) (T := TX2) (N := 2) (ty0 := tyX2) (ps_st M a 1 x) hk rfl (by rw [ps_st_self]; rfl) ps_st_ho (fun h => h) rfl inX2 tyX2_ok nmX2 (by decide) pm_147 rfl rfl (tyX2_ok 1 (by decide)) rfl rfl (Nat.le_of_ble_eq_true rfl) hd (k _ rfl)
theorem pm_539 : Cond.methodLink RX2 19 yX2_sizeOf ∈ ps_T := ps_in 539 (by decide +kernel) (by decide +kernel)
theorem pm_540 : Cond.static yX2_sizeOf ∈ ps_T := ps_in 540 (by decide +kernel) (by decide +kernel)
theorem pm_8 : Cond.initialized RX2 ∈ ps_T := ps_in 8 (by decide +kernel) (by decide +kernel)
theorem pm_541 : Cond.code yX2_sizeOf cX2_sizeOf 7 (some .int) ∈ ps_T := ps_in 541 (by decide +kernel) (by decide +kernel)
theorem cw_X2_19 : ps_cwS RX2 19 yX2_sizeOf cX2_sizeOf 7 (some .int) 1 := ⟨⟨pm_539, pm_540, pm_8, pm_541⟩, ⟨by decide, by decide⟩, by decide +kernel⟩
theorem pm_158 : Cond.fieldLink RX4 18 RX4 "at" "I" ∈ ps_T := ps_in 158 (by decide +kernel) (by decide +kernel)
theorem pf_X4_18 {X : ps_X} {cc : ByteArray} (C : ps_C X RX4 cc) {M : ps_M} {pc : Nat} {lv : List (Option Value)} {stk : List Value} {a : Nat} (hk : ps_ck 14 a = true) {x : Int32} (hd : decode cc pc = .ok (.putfield 18, 3)) (k : ∀ M1, M1 = ps_st M a 1 x → ps_G X M1 (pc + 3) lv stk) : ps_G X M pc lv (.int x :: .ref (xb X + a) :: stk) := ps_put C (κ := 14) (ci := 4) (slot := 1) (CN := RX4) (T := TX4) (N := 9) (ty0 := tyX4) (ps_st M a 1 x) hk rfl (by rw [ps_st_self]; rfl) ps_st_ho (fun h => h) rfl inX4 tyX4_ok nmX4 (by decide) pm_158 rfl rfl (tyX4_ok 1 (by decide)) rfl rfl (Nat.le_of_ble_eq_true rfl) hd (k _ rfl)
theorem pm_159 : Cond.fieldLink RX4 22 RX4 "awaits" "Z" ∈ ps_T := ps_in 159 (by decide +kernel) (by decide +kernel)
theorem pf_X4_22 {X : ps_X} {cc : ByteArray} (C : ps_C X RX4 cc) {M : ps_M} {pc : Nat} {lv : List (Option Value)} {stk : List Value} {a : Nat} (hk : ps_ck 14 a = true) {x : Int32} (hx : ps_isB x = true) (hd : decode cc pc = .ok (.putfield 22, 3)) (k : ∀ M1, M1 = ps_st M a 2 x → ps_G X M1 (pc + 3) lv stk) : ps_G X M pc lv (.int x :: .ref (xb X + a) :: stk) := ps_put C (κ := 14) (ci := 4) (slot := 2) (CN := RX4) (T := TX4) (N := 9) (ty0 := tyX4) (ps_st M a 2 x) hk rfl (by rw [ps_st_self]; rfl) ps_st_ho (fun h => h) rfl inX4 tyX4_ok nmX4 (by decide) pm_159 rfl rfl (tyX4_ok 2 (by decide)) (ps_isB_n hx) (by rcases of_decide_eq_true hx with rfl | rfl <;> rfl) (Nat.le_of_ble_eq_true rfl) hd (k _ rfl)
theorem pm_170 : Cond.fieldLink RX4 43 RX4 "barCount" "I" ∈ ps_T := ps_in 170 (by decide +kernel) (by decide +kernel)
theorem pf_X4_43 {X : ps_X} {cc : ByteArray} (C : ps_C X RX4 cc) {M : ps_M} {pc : Nat} {lv : List (Option Value)} {stk : List Value} {a : Nat} (hk : ps_ck 14 a = true) {x : Int32} (hd : decode cc pc = .ok (.putfield 43, 3)) (k : ∀ M1, M1 = ps_st M a 8 x → ps_G X M1 (pc + 3) lv stk) : ps_G X M pc lv (.int x :: .ref (xb X + a) :: stk) := ps_put C (κ := 14) (ci := 4) (slot := 8) (CN := RX4) (T := TX4) (N := 9) (ty0 := tyX4) (ps_st M a 8 x) hk rfl (by rw [ps_st_self]; rfl) ps_st_ho (fun h => h) rfl inX4 tyX4_ok nmX4 (by decide) pm_170 rfl rfl (tyX4_ok 8 (by decide)) rfl rfl (Nat.le_of_ble_eq_true rfl) hd (k _ rfl)
theorem gf_X4_43 {X : ps_X} {cc : ByteArray} (C : ps_C X RX4 cc) {M : ps_M} {pc : Nat} {lv : List (Option Value)} {stk : List Value} {a : Nat} (hk : ps_ck 14 a = true) (hd : decode cc pc = .ok (.getfield 43, 3)) (k : ps_G X M (pc + 3) lv (.int (ps_rd M a 8) :: stk)) : ps_G X M pc lv (.ref (xb X + a) :: stk) := ps_get C (κ := 14) (ci := 4) (slot := 8) (CN := RX4) (T := TX4) (N := 9) hk rfl rfl inX4 (by decide) pm_170 rfl rfl hd k
theorem pm_156 : Cond.fieldLink RX4 12 RX4 "pad" "LParrotSongs$Pad;" ∈ ps_T := ps_in 156 (by decide +kernel) (by decide +kernel)
theorem gf_X4_12 {X : ps_X} {cc : ByteArray} (C : ps_C X RX4 cc) {M : ps_M} {pc : Nat} {lv : List (Option Value)} {stk : List Value} {a : Nat} (hk : ps_ck 14 a = true) (hd : decode cc pc = .ok (.getfield 12, 3)) (k : ps_G X M (pc + 3) lv (.ref (xb X + (a + 1)) :: stk)) : ps_G X M pc lv (.ref (xb X + a) :: stk) := ps_get C (κ := 14) (ci := 4) (slot := 0) (CN := RX4) (T := TX4) (N := 9) hk rfl rfl inX4 (by decide) pm_156 rfl rfl hd k
theorem kf_14_1 {a : Nat} (h : ps_ck 14 a = true) : ps_ck 15 (a + 1) = true := (by decide +kernel : ∀ a, a < 415 → ps_ck 14 a = true → ps_ck 15 (a + 1) = true) a (ps_ck_lt h) h
theorem gf_X4_18 {X : ps_X} {cc : ByteArray} (C : ps_C X RX4 cc) {M : ps_M} {pc : Nat} {lv : List (Option Value)} {stk : List Value} {a : Nat} (hk : ps_ck 14 a = true) (hd : decode cc pc = .ok (.getfield 18, 3)) (k : ps_G X M (pc + 3) lv (.int (ps_rd M a 1) :: stk)) : ps_G X M pc lv (.ref (xb X + a) :: stk) := ps_get C (κ := 14) (ci := 4) (slot := 1) (CN := RX4) (T := TX4) (N := 9) hk rfl rfl inX4 (by decide) pm_158 rfl rfl hd k
theorem pb_97 : (Int8.ofInt (97)).toInt32 = (nI 97) := by decide
theorem pb_122 : (Int8.ofInt (122)).toInt32 = (nI 122) := by decide
theorem pm_168 : Cond.fieldLink RX4 39 RX4 "bars" "[I" ∈ ps_T := ps_in 168 (by decide +kernel) (by decide +kernel)
theorem gf_X4_39 {X : ps_X} {cc : ByteArray} (C : ps_C X RX4 cc) {M : ps_M} {pc : Nat} {lv : List (Option Value)} {stk : List Value} {a : Nat} (hk : ps_ck 14 a = true) (hd : decode cc pc = .ok (.getfield 39, 3)) (k : ps_G X M (pc + 3) lv (.ref (xb X + (a + 3)) :: stk)) : ps_G X M pc lv (.ref (xb X + a) :: stk) := ps_get C (κ := 14) (ci := 4) (slot := 7) (CN := RX4) (T := TX4) (N := 9) hk rfl rfl inX4 (by decide) pm_168 rfl rfl hd k
theorem kf_14_3 {a : Nat} (h : ps_ck 14 a = true) : ps_ck 17 (a + 3) = true := (by decide +kernel : ∀ a, a < 415 → ps_ck 14 a = true → ps_ck 17 (a + 3) = true) a (ps_ck_lt h) h
theorem pm_565 : Cond.methodLink RX4 63 yX2_signAt ∈ ps_T := ps_in 565 (by decide +kernel) (by decide +kernel)
theorem pm_566 : Cond.instanceMethod yX2_signAt ∈ ps_T := ps_in 566 (by decide +kernel) (by decide +kernel)
theorem pm_567 : Cond.selects RX2 yX2_signAt yX2_signAt ∈ ps_T := ps_in 567 (by decide +kernel) (by decide +kernel)
theorem pm_568 : Cond.code yX2_signAt cX2_signAt 2 (some .char) ∈ ps_T := ps_in 568 (by decide +kernel) (by decide +kernel)
theorem cw_X4_63 : ps_cwV RX4 63 RX2 yX2_signAt cX2_signAt 2 (some .char) 1 := ⟨⟨pm_565, pm_566, pm_567, pm_8, pm_568⟩, ⟨by decide, by decide⟩, by decide +kernel⟩
theorem pb_48 : (Int8.ofInt (48)).toInt32 = (nI 48) := by decide
theorem pb_57 : (Int8.ofInt (57)).toInt32 = (nI 57) := by decide
theorem pm_162 : Cond.fieldLink RX4 30 RX4 "parrot" "I" ∈ ps_T := ps_in 162 (by decide +kernel) (by decide +kernel)
theorem pf_X4_30 {X : ps_X} {cc : ByteArray} (C : ps_C X RX4 cc) {M : ps_M} {pc : Nat} {lv : List (Option Value)} {stk : List Value} {a : Nat} (hk : ps_ck 14 a = true) {x : Int32} (hd : decode cc pc = .ok (.putfield 30, 3)) (k : ∀ M1, M1 = ps_st M a 4 x → ps_G X M1 (pc + 3) lv stk) : ps_G X M pc lv (.int x :: .ref (xb X + a) :: stk) := ps_put C (κ := 14) (ci := 4) (slot := 4) (CN := RX4) (T := TX4) (N := 9) (ty0 := tyX4) (ps_st M a 4 x) hk rfl (by rw [ps_st_self]; rfl) ps_st_ho (fun h => h) rfl inX4 tyX4_ok nmX4 (by decide) pm_162 rfl rfl (tyX4_ok 4 (by decide)) rfl rfl (Nat.le_of_ble_eq_true rfl) hd (k _ rfl)
theorem pm_585 : Cond.methodLink RX4 82 yX4_takeDigit ∈ ps_T := ps_in 585 (by decide +kernel) (by decide +kernel)
theorem pm_587 : Cond.instanceMethod yX4_takeDigit ∈ ps_T := ps_in 587 (by decide +kernel) (by decide +kernel)
theorem pn_13 : Cond.selects RX4 yX4_takeDigit yX4_takeDigit ∈ ps_T := ps_inS 13 (by decide +kernel) (by decide +kernel)
theorem pm_7 : Cond.initialized RX4 ∈ ps_T := ps_in 7 (by decide +kernel) (by decide +kernel)
theorem pm_588 : Cond.code yX4_takeDigit cX4_takeDigit 2 (some .int) ∈ ps_T := ps_in 588 (by decide +kernel) (by decide +kernel)
theorem cw_X4_82 : ps_cwV RX4 82 RX4 yX4_takeDigit cX4_takeDigit 2 (some .int) 0 := ⟨⟨pm_585, pm_587, pn_13, pm_7, pm_588⟩, ⟨by decide, by decide⟩, by decide +kernel⟩
theorem pm_581 : Cond.methodLink RX4 79 yX4_isDigit ∈ ps_T := ps_in 581 (by decide +kernel) (by decide +kernel)
theorem pm_583 : Cond.instanceMethod yX4_isDigit ∈ ps_T := ps_in 583 (by decide +kernel) (by decide +kernel)
theorem pn_12 : Cond.selects RX4 yX4_isDigit yX4_isDigit ∈ ps_T := ps_inS 12 (by decide +kernel) (by decide +kernel)
theorem pm_584 : Cond.code yX4_isDigit cX4_isDigit 1 (some .boolean) ∈ ps_T := ps_in 584 (by decide +kernel) (by decide +kernel)
theorem cw_X4_79 : ps_cwV RX4 79 RX4 yX4_isDigit cX4_isDigit 1 (some .boolean) 0 := ⟨⟨pm_581, pm_583, pn_12, pm_7, pm_584⟩, ⟨by decide, by decide⟩, by decide +kernel⟩
theorem pm_166 : Cond.fieldLink RX4 36 RX4 "number" "I" ∈ ps_T := ps_in 166 (by decide +kernel) (by decide +kernel)
theorem pf_X4_36 {X : ps_X} {cc : ByteArray} (C : ps_C X RX4 cc) {M : ps_M} {pc : Nat} {lv : List (Option Value)} {stk : List Value} {a : Nat} (hk : ps_ck 14 a = true) {x : Int32} (hd : decode cc pc = .ok (.putfield 36, 3)) (k : ∀ M1, M1 = ps_st M a 6 x → ps_G X M1 (pc + 3) lv stk) : ps_G X M pc lv (.int x :: .ref (xb X + a) :: stk) := ps_put C (κ := 14) (ci := 4) (slot := 6) (CN := RX4) (T := TX4) (N := 9) (ty0 := tyX4) (ps_st M a 6 x) hk rfl (by rw [ps_st_self]; rfl) ps_st_ho (fun h => h) rfl inX4 tyX4_ok nmX4 (by decide) pm_166 rfl rfl (tyX4_ok 6 (by decide)) rfl rfl (Nat.le_of_ble_eq_true rfl) hd (k _ rfl)
theorem gf_X4_36 {X : ps_X} {cc : ByteArray} (C : ps_C X RX4 cc) {M : ps_M} {pc : Nat} {lv : List (Option Value)} {stk : List Value} {a : Nat} (hk : ps_ck 14 a = true) (hd : decode cc pc = .ok (.getfield 36, 3)) (k : ps_G X M (pc + 3) lv (.int (ps_rd M a 6) :: stk)) : ps_G X M pc lv (.ref (xb X + a) :: stk) := ps_get C (κ := 14) (ci := 4) (slot := 6) (CN := RX4) (T := TX4) (N := 9) hk rfl rfl inX4 (by decide) pm_166 rfl rfl hd k
theorem pb_10 : (Int8.ofInt (10)).toInt32 = (nI 10) := by decide
theorem pb_46 : (Int8.ofInt (46)).toInt32 = (nI 46) := by decide
theorem pm_164 : Cond.fieldLink RX4 33 RX4 "song" "I" ∈ ps_T := ps_in 164 (by decide +kernel) (by decide +kernel)
theorem pf_X4_33 {X : ps_X} {cc : ByteArray} (C : ps_C X RX4 cc) {M : ps_M} {pc : Nat} {lv : List (Option Value)} {stk : List Value} {a : Nat} (hk : ps_ck 14 a = true) {x : Int32} (hd : decode cc pc = .ok (.putfield 33, 3)) (k : ∀ M1, M1 = ps_st M a 5 x → ps_G X M1 (pc + 3) lv stk) : ps_G X M pc lv (.int x :: .ref (xb X + a) :: stk) := ps_put C (κ := 14) (ci := 4) (slot := 5) (CN := RX4) (T := TX4) (N := 9) (ty0 := tyX4) (ps_st M a 5 x) hk rfl (by rw [ps_st_self]; rfl) ps_st_ho (fun h => h) rfl inX4 tyX4_ok nmX4 (by decide) pm_164 rfl rfl (tyX4_ok 5 (by decide)) rfl rfl (Nat.le_of_ble_eq_true rfl) hd (k _ rfl)
theorem pb_47 : (Int8.ofInt (47)).toInt32 = (nI 47) := by decide
theorem pm_593 : Cond.methodLink RX4 76 yX4_readNumber ∈ ps_T := ps_in 593 (by decide +kernel) (by decide +kernel)
theorem pm_595 : Cond.instanceMethod yX4_readNumber ∈ ps_T := ps_in 595 (by decide +kernel) (by decide +kernel)
theorem pn_15 : Cond.selects RX4 yX4_readNumber yX4_readNumber ∈ ps_T := ps_inS 15 (by decide +kernel) (by decide +kernel)
theorem pm_596 : Cond.code yX4_readNumber cX4_readNumber 1 (some .boolean) ∈ ps_T := ps_in 596 (by decide +kernel) (by decide +kernel)
theorem cw_X4_76 : ps_cwV RX4 76 RX4 yX4_readNumber cX4_readNumber 1 (some .boolean) 0 := ⟨⟨pm_593, pm_595, pn_15, pm_7, pm_596⟩, ⟨by decide, by decide⟩, by decide +kernel⟩
theorem pm_589 : Cond.methodLink RX4 56 yX4_take ∈ ps_T := ps_in 589 (by decide +kernel) (by decide +kernel)
theorem pm_591 : Cond.instanceMethod yX4_take ∈ ps_T := ps_in 591 (by decide +kernel) (by decide +kernel)
theorem pn_14 : Cond.selects RX4 yX4_take yX4_take ∈ ps_T := ps_inS 14 (by decide +kernel) (by decide +kernel)
theorem pm_592 : Cond.code yX4_take cX4_take 2 (some .boolean) ∈ ps_T := ps_in 592 (by decide +kernel) (by decide +kernel)
theorem cw_X4_56 : ps_cwV RX4 56 RX4 yX4_take cX4_take 2 (some .boolean) 1 := ⟨⟨pm_589, pm_591, pn_14, pm_7, pm_592⟩, ⟨by decide, by decide⟩, by decide +kernel⟩
theorem pm_577 : Cond.methodLink RX4 73 yX4_readParrot ∈ ps_T := ps_in 577 (by decide +kernel) (by decide +kernel)
theorem pm_579 : Cond.instanceMethod yX4_readParrot ∈ ps_T := ps_in 579 (by decide +kernel) (by decide +kernel)
theorem pn_11 : Cond.selects RX4 yX4_readParrot yX4_readParrot ∈ ps_T := ps_inS 11 (by decide +kernel) (by decide +kernel)
theorem pm_580 : Cond.code yX4_readParrot cX4_readParrot 1 (some .boolean) ∈ ps_T := ps_in 580 (by decide +kernel) (by decide +kernel)
theorem cw_X4_73 : ps_cwV RX4 73 RX4 yX4_readParrot cX4_readParrot 1 (some .boolean) 0 := ⟨⟨pm_577, pm_579, pn_11, pm_7, pm_580⟩, ⟨by decide, by decide⟩, by decide +kernel⟩
theorem pm_160 : Cond.fieldLink RX4 26 RX4 "kind" "C" ∈ ps_T := ps_in 160 (by decide +kernel) (by decide +kernel)
theorem pf_X4_26 {X : ps_X} {cc : ByteArray} (C : ps_C X RX4 cc) {M : ps_M} {pc : Nat} {lv : List (Option Value)} {stk : List Value} {a : Nat} (hk : ps_ck 14 a = true) {x : Int32} (hx : ps_isC x = true) (hd : decode cc pc = .ok (.putfield 26, 3)) (k : ∀ M1, M1 = ps_st M a 3 x → ps_G X M1 (pc + 3) lv stk) : ps_G X M pc lv (.int x :: .ref (xb X + a) :: stk) := ps_put C (κ := 14) (ci := 4) (slot := 3) (CN := RX4) (T := TX4) (N := 9) (ty0 := tyX4) (ps_st M a 3 x) hk rfl (by rw [ps_st_self]; rfl) ps_st_ho (fun h => h) rfl inX4 tyX4_ok nmX4 (by decide) pm_160 rfl rfl (tyX4_ok 3 (by decide)) (ps_isC_n hx).1 (ps_isC_n hx).2 (Nat.le_of_ble_eq_true rfl) hd (k _ rfl)
theorem gf_X4_26 {X : ps_X} {cc : ByteArray} (C : ps_C X RX4 cc) {M : ps_M} {pc : Nat} {lv : List (Option Value)} {stk : List Value} {a : Nat} (hk : ps_ck 14 a = true) (hd : decode cc pc = .ok (.getfield 26, 3)) (k : ps_G X M (pc + 3) lv (.int (ps_rd M a 3) :: stk)) : ps_G X M pc lv (.ref (xb X + a) :: stk) := ps_get C (κ := 14) (ci := 4) (slot := 3) (CN := RX4) (T := TX4) (N := 9) hk rfl rfl inX4 (by decide) pm_160 rfl rfl hd k
theorem pz_66 {x : Int32} (h : x.toInt = 66) : x = nI 66 := Int32.toInt_inj.mp (h.trans (by decide : (66 : Int) = (nI 66).toInt))
theorem pz_72 {x : Int32} (h : x.toInt = 72) : x = nI 72 := Int32.toInt_inj.mp (h.trans (by decide : (72 : Int) = (nI 72).toInt))
theorem pz_76 {x : Int32} (h : x.toInt = 76) : x = nI 76 := Int32.toInt_inj.mp (h.trans (by decide : (76 : Int) = (nI 76).toInt))
theorem pz_78 {x : Int32} (h : x.toInt = 78) : x = nI 78 := Int32.toInt_inj.mp (h.trans (by decide : (78 : Int) = (nI 78).toInt))
theorem pz_80 {x : Int32} (h : x.toInt = 80) : x = nI 80 := Int32.toInt_inj.mp (h.trans (by decide : (80 : Int) = (nI 80).toInt))
theorem pz_83 {x : Int32} (h : x.toInt = 83) : x = nI 83 := Int32.toInt_inj.mp (h.trans (by decide : (83 : Int) = (nI 83).toInt))
theorem pm_569 : Cond.methodLink RX4 67 yX4_readBars ∈ ps_T := ps_in 569 (by decide +kernel) (by decide +kernel)
theorem pm_571 : Cond.instanceMethod yX4_readBars ∈ ps_T := ps_in 571 (by decide +kernel) (by decide +kernel)
theorem pn_9 : Cond.selects RX4 yX4_readBars yX4_readBars ∈ ps_T := ps_inS 9 (by decide +kernel) (by decide +kernel)
theorem pm_572 : Cond.code yX4_readBars cX4_readBars 1 (some .boolean) ∈ ps_T := ps_in 572 (by decide +kernel) (by decide +kernel)
theorem cw_X4_67 : ps_cwV RX4 67 RX4 yX4_readBars cX4_readBars 1 (some .boolean) 0 := ⟨⟨pm_569, pm_571, pn_9, pm_7, pm_572⟩, ⟨by decide, by decide⟩, by decide +kernel⟩
theorem pb_42 : (Int8.ofInt (42)).toInt32 = (nI 42) := by decide
theorem pm_573 : Cond.methodLink RX4 70 yX4_readLesson ∈ ps_T := ps_in 573 (by decide +kernel) (by decide +kernel)
theorem pm_575 : Cond.instanceMethod yX4_readLesson ∈ ps_T := ps_in 575 (by decide +kernel) (by decide +kernel)
theorem pn_10 : Cond.selects RX4 yX4_readLesson yX4_readLesson ∈ ps_T := ps_inS 10 (by decide +kernel) (by decide +kernel)
theorem pm_576 : Cond.code yX4_readLesson cX4_readLesson 1 (some .boolean) ∈ ps_T := ps_in 576 (by decide +kernel) (by decide +kernel)
theorem cw_X4_70 : ps_cwV RX4 70 RX4 yX4_readLesson cX4_readLesson 1 (some .boolean) 0 := ⟨⟨pm_573, pm_575, pn_10, pm_7, pm_576⟩, ⟨by decide, by decide⟩, by decide +kernel⟩
theorem gf_X4_22 {X : ps_X} {cc : ByteArray} (C : ps_C X RX4 cc) {M : ps_M} {pc : Nat} {lv : List (Option Value)} {stk : List Value} {a : Nat} (hk : ps_ck 14 a = true) (hd : decode cc pc = .ok (.getfield 22, 3)) (k : ps_G X M (pc + 3) lv (.int (ps_rd M a 2) :: stk)) : ps_G X M pc lv (.ref (xb X + a) :: stk) := ps_get C (κ := 14) (ci := 4) (slot := 2) (CN := RX4) (T := TX4) (N := 9) hk rfl rfl inX4 (by decide) pm_159 rfl rfl hd k
theorem pb_59 : (Int8.ofInt (59)).toInt32 = (nI 59) := by decide
theorem pm_148 : Cond.fieldLink RX4 60 RX2 "length" "I" ∈ ps_T := ps_in 148 (by decide +kernel) (by decide +kernel)
theorem gf_X4_60 {X : ps_X} {cc : ByteArray} (C : ps_C X RX4 cc) {M : ps_M} {pc : Nat} {lv : List (Option Value)} {stk : List Value} {a : Nat} (hk : ps_ck 15 a = true) (hd : decode cc pc = .ok (.getfield 60, 3)) (k : ps_G X M (pc + 3) lv (.int (ps_rd M a 1) :: stk)) : ps_G X M pc lv (.ref (xb X + a) :: stk) := ps_get C (κ := 15) (ci := 2) (slot := 1) (CN := RX2) (T := TX2) (N := 2) hk rfl rfl inX2 (by decide) pm_148 rfl rfl hd k
theorem pm_561 : Cond.methodLink RX4 53 yX4_readOrder ∈ ps_T := ps_in 561 (by decide +kernel) (by decide +kernel)
theorem pm_563 : Cond.instanceMethod yX4_readOrder ∈ ps_T := ps_in 563 (by decide +kernel) (by decide +kernel)
theorem pn_8 : Cond.selects RX4 yX4_readOrder yX4_readOrder ∈ ps_T := ps_inS 8 (by decide +kernel) (by decide +kernel)
theorem pm_564 : Cond.code yX4_readOrder cX4_readOrder 1 (some .boolean) ∈ ps_T := ps_in 564 (by decide +kernel) (by decide +kernel)
theorem cw_X4_53 : ps_cwV RX4 53 RX4 yX4_readOrder cX4_readOrder 1 (some .boolean) 0 := ⟨⟨pm_561, pm_563, pn_8, pm_7, pm_564⟩, ⟨by decide, by decide⟩, by decide +kernel⟩
theorem pm_557 : Cond.methodLink RX4 49 yX4_readNext ∈ ps_T := ps_in 557 (by decide +kernel) (by decide +kernel)
theorem pm_558 : Cond.instanceMethod yX4_readNext ∈ ps_T := ps_in 558 (by decide +kernel) (by decide +kernel)
theorem pm_559 : Cond.selects RX4 yX4_readNext yX4_readNext ∈ ps_T := ps_in 559 (by decide +kernel) (by decide +kernel)
theorem pm_560 : Cond.code yX4_readNext cX4_readNext 1 (some .boolean) ∈ ps_T := ps_in 560 (by decide +kernel) (by decide +kernel)
theorem cw_X4_49 : ps_cwV RX4 49 RX4 yX4_readNext cX4_readNext 1 (some .boolean) 0 := ⟨⟨pm_557, pm_558, pm_559, pm_7, pm_560⟩, ⟨by decide, by decide⟩, by decide +kernel⟩
theorem pm_553 : Cond.methodLink RX4 46 yX4_start ∈ ps_T := ps_in 553 (by decide +kernel) (by decide +kernel)
theorem pm_554 : Cond.instanceMethod yX4_start ∈ ps_T := ps_in 554 (by decide +kernel) (by decide +kernel)
theorem pm_555 : Cond.selects RX4 yX4_start yX4_start ∈ ps_T := ps_in 555 (by decide +kernel) (by decide +kernel)
theorem pm_556 : Cond.code yX4_start cX4_start 1 none ∈ ps_T := ps_in 556 (by decide +kernel) (by decide +kernel)
theorem cw_X4_46 : ps_cwV RX4 46 RX4 yX4_start cX4_start 1 none 0 := ⟨⟨pm_553, pm_554, pm_555, pm_7, pm_556⟩, ⟨by decide, by decide⟩, by decide +kernel⟩
theorem pm_469 : Cond.methodLink RX5 33 Lib.Math.min.name ∈ ps_T := ps_in 469 (by decide +kernel) (by decide +kernel)
theorem cw_X5_33 : Cond.methodLink RX5 33 Lib.Math.min.name ∈ ps_T ∧ Cond.static Lib.Math.min.name ∈ ps_T ∧ Cond.initialized "java/lang/Math" ∈ ps_T ∧ Cond.code Lib.Math.min.name Lib.Math.min.code 2 (some .int) ∈ ps_T := ⟨pm_469, pm_376, pm_9, ps_in 377 (by decide +kernel) (by decide +kernel)⟩
theorem pm_611 : Cond.methodLink RX5 39 Lib.Math.max.name ∈ ps_T := ps_in 611 (by decide +kernel) (by decide +kernel)
theorem pm_612 : Cond.static Lib.Math.max.name ∈ ps_T := ps_in 612 (by decide +kernel) (by decide +kernel)
theorem cw_X5_39 : Cond.methodLink RX5 39 Lib.Math.max.name ∈ ps_T ∧ Cond.static Lib.Math.max.name ∈ ps_T ∧ Cond.initialized "java/lang/Math" ∈ ps_T ∧ Cond.code Lib.Math.max.name Lib.Math.max.code 2 (some .int) ∈ ps_T := ⟨pm_611, pm_612, pm_9, ps_in 613 (by decide +kernel) (by decide +kernel)⟩
theorem pm_423 : Cond.constant RJ6 265 (nI 1431655765) ∈ ps_T := ps_in 423 (by decide +kernel) (by decide +kernel)
theorem pm_424 : Cond.constant RJ6 266 (nI 858993459) ∈ ps_T := ps_in 424 (by decide +kernel) (by decide +kernel)
theorem pm_425 : Cond.constant RJ6 267 (nI 252645135) ∈ ps_T := ps_in 425 (by decide +kernel) (by decide +kernel)
theorem pb_16 : (Int8.ofInt (16)).toInt32 = (nI 16) := by decide
theorem pb_63 : (Int8.ofInt (63)).toInt32 = (nI 63) := by decide
theorem pm_420 : Cond.methodLink RX5 57 yJ6_bitCount_0f7a4 ∈ ps_T := ps_in 420 (by decide +kernel) (by decide +kernel)
theorem pm_421 : Cond.static yJ6_bitCount_0f7a4 ∈ ps_T := ps_in 421 (by decide +kernel) (by decide +kernel)
theorem pm_10 : Cond.initialized RJ6 ∈ ps_T := ps_in 10 (by decide +kernel) (by decide +kernel)
theorem pm_422 : Cond.code yJ6_bitCount_0f7a4 cJ6_bitCount_0f7a4 1 (some .int) ∈ ps_T := ps_in 422 (by decide +kernel) (by decide +kernel)
theorem cw_X5_57 : ps_cwS RX5 57 yJ6_bitCount_0f7a4 cJ6_bitCount_0f7a4 1 (some .int) 1 := ⟨⟨pm_420, pm_421, pm_10, pm_422⟩, ⟨by decide, by decide⟩, by decide +kernel⟩
theorem pb_100 : (Int8.ofInt (100)).toInt32 = (nI 100) := by decide
theorem pm_355 : Cond.methodLink RX5 71 yX5_hundredths ∈ ps_T := ps_in 355 (by decide +kernel) (by decide +kernel)
theorem pm_295 : Cond.instanceMethod yX5_hundredths ∈ ps_T := ps_in 295 (by decide +kernel) (by decide +kernel)
theorem pm_296 : Cond.selects RX5 yX5_hundredths yX5_hundredths ∈ ps_T := ps_in 296 (by decide +kernel) (by decide +kernel)
theorem pm_297 : Cond.code yX5_hundredths cX5_hundredths 4 (some .int) ∈ ps_T := ps_in 297 (by decide +kernel) (by decide +kernel)
theorem cw_X5_71 : ps_cwV RX5 71 RX5 yX5_hundredths cX5_hundredths 4 (some .int) 2 := ⟨⟨pm_355, pm_295, pm_296, pm_3, pm_297⟩, ⟨by decide, by decide⟩, by decide +kernel⟩
theorem pm_455 : Cond.methodLink RX5 74 yX5_isKnownBy ∈ ps_T := ps_in 455 (by decide +kernel) (by decide +kernel)
theorem cw_X5_74 : ps_cwV RX5 74 RX5 yX5_isKnownBy cX5_isKnownBy 3 (some .boolean) 2 := ⟨⟨pm_455, pm_440, pm_441, pm_3, pm_442⟩, ⟨by decide, by decide⟩, by decide +kernel⟩
theorem pm_484 : Cond.methodLink RX5 78 yX5_hasPair ∈ ps_T := ps_in 484 (by decide +kernel) (by decide +kernel)
theorem pm_486 : Cond.instanceMethod yX5_hasPair ∈ ps_T := ps_in 486 (by decide +kernel) (by decide +kernel)
theorem pn_7 : Cond.selects RX5 yX5_hasPair yX5_hasPair ∈ ps_T := ps_inS 7 (by decide +kernel) (by decide +kernel)
theorem pm_487 : Cond.code yX5_hasPair cX5_hasPair 5 (some .boolean) ∈ ps_T := ps_in 487 (by decide +kernel) (by decide +kernel)
theorem cw_X5_78 : ps_cwV RX5 78 RX5 yX5_hasPair cX5_hasPair 5 (some .boolean) 3 := ⟨⟨pm_484, pm_486, pn_7, pm_3, pm_487⟩, ⟨by decide, by decide⟩, by decide +kernel⟩
theorem pm_194 : Cond.fieldLink RX6 19 RX6 "history" "LParrotSongs$History;" ∈ ps_T := ps_in 194 (by decide +kernel) (by decide +kernel)
theorem gf_X6_19 {X : ps_X} {cc : ByteArray} (C : ps_C X RX6 cc) {M : ps_M} {pc : Nat} {lv : List (Option Value)} {stk : List Value} {a : Nat} (hk : ps_ck 0 a = true) (hd : decode cc pc = .ok (.getfield 19, 3)) (k : ps_G X M (pc + 3) lv (.ref (xb X + (a + 41)) :: stk)) : ps_G X M pc lv (.ref (xb X + a) :: stk) := ps_get C (κ := 0) (ci := 6) (slot := 1) (CN := RX6) (T := TX6) (N := 6) hk rfl rfl inX6 (by decide) pm_194 rfl rfl hd k
theorem kf_0_41 {a : Nat} (h : ps_ck 0 a = true) : ps_ck 12 (a + 41) = true := (by decide +kernel : ∀ a, a < 415 → ps_ck 0 a = true → ps_ck 12 (a + 41) = true) a (ps_ck_lt h) h
theorem pm_193 : Cond.fieldLink RX6 10 RX6 "house" "LParrotSongs$House;" ∈ ps_T := ps_in 193 (by decide +kernel) (by decide +kernel)
theorem gf_X6_10 {X : ps_X} {cc : ByteArray} (C : ps_C X RX6 cc) {M : ps_M} {pc : Nat} {lv : List (Option Value)} {stk : List Value} {a : Nat} (hk : ps_ck 0 a = true) (hd : decode cc pc = .ok (.getfield 10, 3)) (k : ps_G X M (pc + 3) lv (.ref (xb X + (a + 1)) :: stk)) : ps_G X M pc lv (.ref (xb X + a) :: stk) := ps_get C (κ := 0) (ci := 6) (slot := 0) (CN := RX6) (T := TX6) (N := 6) hk rfl rfl inX6 (by decide) pm_193 rfl rfl hd k
theorem kf_0_1 {a : Nat} (h : ps_ck 0 a = true) : ps_ck 1 (a + 1) = true := (by decide +kernel : ∀ a, a < 415 → ps_ck 0 a = true → ps_ck 1 (a + 1) = true) a (ps_ck_lt h) h
theorem pm_243 : Cond.methodLink RX6 53 yX0_keepUnlessError ∈ ps_T := ps_in 243 (by decide +kernel) (by decide +kernel)
theorem pm_244 : Cond.instanceMethod yX0_keepUnlessError ∈ ps_T := ps_in 244 (by decide +kernel) (by decide +kernel)
theorem pm_245 : Cond.selects RX0 yX0_keepUnlessError yX0_keepUnlessError ∈ ps_T := ps_in 245 (by decide +kernel) (by decide +kernel)
theorem pm_246 : Cond.code yX0_keepUnlessError cX0_keepUnlessError 2 (some .int) ∈ ps_T := ps_in 246 (by decide +kernel) (by decide +kernel)
theorem cw_X6_53 : ps_cwV RX6 53 RX0 yX0_keepUnlessError cX0_keepUnlessError 2 (some .int) 1 := ⟨⟨pm_243, pm_244, pm_245, pm_6, pm_246⟩, ⟨by decide, by decide⟩, by decide +kernel⟩
theorem pm_235 : Cond.methodLink RX6 49 yX1_changeSetting ∈ ps_T := ps_in 235 (by decide +kernel) (by decide +kernel)
theorem pm_236 : Cond.instanceMethod yX1_changeSetting ∈ ps_T := ps_in 236 (by decide +kernel) (by decide +kernel)
theorem pm_237 : Cond.selects RX1 yX1_changeSetting yX1_changeSetting ∈ ps_T := ps_in 237 (by decide +kernel) (by decide +kernel)
theorem pm_238 : Cond.code yX1_changeSetting cX1_changeSetting 4 (some .int) ∈ ps_T := ps_in 238 (by decide +kernel) (by decide +kernel)
theorem cw_X6_49 : ps_cwV RX6 49 RX1 yX1_changeSetting cX1_changeSetting 4 (some .int) 2 := ⟨⟨pm_235, pm_236, pm_237, pm_2, pm_238⟩, ⟨by decide, by decide⟩, by decide +kernel⟩
theorem pm_217 : Cond.methodLink RX6 45 yX0_noteBefore ∈ ps_T := ps_in 217 (by decide +kernel) (by decide +kernel)
theorem pm_218 : Cond.instanceMethod yX0_noteBefore ∈ ps_T := ps_in 218 (by decide +kernel) (by decide +kernel)
theorem pm_219 : Cond.selects RX0 yX0_noteBefore yX0_noteBefore ∈ ps_T := ps_in 219 (by decide +kernel) (by decide +kernel)
theorem pm_220 : Cond.code yX0_noteBefore cX0_noteBefore 2 none ∈ ps_T := ps_in 220 (by decide +kernel) (by decide +kernel)
theorem cw_X6_45 : ps_cwV RX6 45 RX0 yX0_noteBefore cX0_noteBefore 2 none 1 := ⟨⟨pm_217, pm_218, pm_219, pm_6, pm_220⟩, ⟨by decide, by decide⟩, by decide +kernel⟩
theorem pm_262 : Cond.methodLink RX6 57 yX1_addParrot ∈ ps_T := ps_in 262 (by decide +kernel) (by decide +kernel)
theorem pm_263 : Cond.instanceMethod yX1_addParrot ∈ ps_T := ps_in 263 (by decide +kernel) (by decide +kernel)
theorem pm_264 : Cond.selects RX1 yX1_addParrot yX1_addParrot ∈ ps_T := ps_in 264 (by decide +kernel) (by decide +kernel)
theorem pm_265 : Cond.code yX1_addParrot cX1_addParrot 1 (some .int) ∈ ps_T := ps_in 265 (by decide +kernel) (by decide +kernel)
theorem cw_X6_57 : ps_cwV RX6 57 RX1 yX1_addParrot cX1_addParrot 1 (some .int) 0 := ⟨⟨pm_262, pm_263, pm_264, pm_2, pm_265⟩, ⟨by decide, by decide⟩, by decide +kernel⟩
theorem pm_614 : Cond.methodLink RX6 61 yX1_teach ∈ ps_T := ps_in 614 (by decide +kernel) (by decide +kernel)
theorem pm_615 : Cond.instanceMethod yX1_teach ∈ ps_T := ps_in 615 (by decide +kernel) (by decide +kernel)
theorem pm_616 : Cond.selects RX1 yX1_teach yX1_teach ∈ ps_T := ps_in 616 (by decide +kernel) (by decide +kernel)
theorem pm_617 : Cond.code yX1_teach cX1_teach 6 (some .int) ∈ ps_T := ps_in 617 (by decide +kernel) (by decide +kernel)
theorem cw_X6_61 : ps_cwV RX6 61 RX1 yX1_teach cX1_teach 6 (some .int) 3 := ⟨⟨pm_614, pm_615, pm_616, pm_2, pm_617⟩, ⟨by decide, by decide⟩, by decide +kernel⟩
theorem pm_625 : Cond.methodLink RX6 65 yX1_silence ∈ ps_T := ps_in 625 (by decide +kernel) (by decide +kernel)
theorem pm_626 : Cond.instanceMethod yX1_silence ∈ ps_T := ps_in 626 (by decide +kernel) (by decide +kernel)
theorem pm_627 : Cond.selects RX1 yX1_silence yX1_silence ∈ ps_T := ps_in 627 (by decide +kernel) (by decide +kernel)
theorem pm_628 : Cond.code yX1_silence cX1_silence 3 (some .int) ∈ ps_T := ps_in 628 (by decide +kernel) (by decide +kernel)
theorem cw_X6_65 : ps_cwV RX6 65 RX1 yX1_silence cX1_silence 3 (some .int) 1 := ⟨⟨pm_625, pm_626, pm_627, pm_2, pm_628⟩, ⟨by decide, by decide⟩, by decide +kernel⟩
theorem pm_629 : Cond.methodLink RX6 68 yX1_letPractise ∈ ps_T := ps_in 629 (by decide +kernel) (by decide +kernel)
theorem pm_630 : Cond.instanceMethod yX1_letPractise ∈ ps_T := ps_in 630 (by decide +kernel) (by decide +kernel)
theorem pm_631 : Cond.selects RX1 yX1_letPractise yX1_letPractise ∈ ps_T := ps_in 631 (by decide +kernel) (by decide +kernel)
theorem pm_632 : Cond.code yX1_letPractise cX1_letPractise 6 (some .int) ∈ ps_T := ps_in 632 (by decide +kernel) (by decide +kernel)
theorem cw_X6_68 : ps_cwV RX6 68 RX1 yX1_letPractise cX1_letPractise 6 (some .int) 2 := ⟨⟨pm_629, pm_630, pm_631, pm_2, pm_632⟩, ⟨by decide, by decide⟩, by decide +kernel⟩
theorem pm_270 : Cond.methodLink RX6 71 yX1_passNight ∈ ps_T := ps_in 270 (by decide +kernel) (by decide +kernel)
theorem pm_271 : Cond.instanceMethod yX1_passNight ∈ ps_T := ps_in 271 (by decide +kernel) (by decide +kernel)
theorem pm_272 : Cond.selects RX1 yX1_passNight yX1_passNight ∈ ps_T := ps_in 272 (by decide +kernel) (by decide +kernel)
theorem pm_273 : Cond.code yX1_passNight cX1_passNight 3 (some .int) ∈ ps_T := ps_in 273 (by decide +kernel) (by decide +kernel)
theorem cw_X6_71 : ps_cwV RX6 71 RX1 yX1_passNight cX1_passNight 3 (some .int) 0 := ⟨⟨pm_270, pm_271, pm_272, pm_2, pm_273⟩, ⟨by decide, by decide⟩, by decide +kernel⟩
theorem pm_93 : Cond.fieldLink RX6 74 RX1 "songs" "LParrotSongs$Songbook;" ∈ ps_T := ps_in 93 (by decide +kernel) (by decide +kernel)
theorem gf_X6_74 {X : ps_X} {cc : ByteArray} (C : ps_C X RX6 cc) {M : ps_M} {pc : Nat} {lv : List (Option Value)} {stk : List Value} {a : Nat} (hk : ps_ck 1 a = true) (hd : decode cc pc = .ok (.getfield 74, 3)) (k : ps_G X M (pc + 3) lv (.ref (xb X + (a + 2)) :: stk)) : ps_G X M pc lv (.ref (xb X + a) :: stk) := ps_get C (κ := 1) (ci := 1) (slot := 1) (CN := RX1) (T := TX1) (N := 6) hk rfl rfl inX1 (by decide) pm_93 rfl rfl hd k
theorem pz_0 {x : Int32} (h : x.toInt = 0) : x = nI 0 := Int32.toInt_inj.mp (h.trans (by decide : (0 : Int) = (nI 0).toInt))
theorem pz_1 {x : Int32} (h : x.toInt = 1) : x = nI 1 := Int32.toInt_inj.mp (h.trans (by decide : (1 : Int) = (nI 1).toInt))
theorem pz_2 {x : Int32} (h : x.toInt = 2) : x = nI 2 := Int32.toInt_inj.mp (h.trans (by decide : (2 : Int) = (nI 2).toInt))
theorem pz_3 {x : Int32} (h : x.toInt = 3) : x = nI 3 := Int32.toInt_inj.mp (h.trans (by decide : (3 : Int) = (nI 3).toInt))
theorem pz_4 {x : Int32} (h : x.toInt = 4) : x = nI 4 := Int32.toInt_inj.mp (h.trans (by decide : (4 : Int) = (nI 4).toInt))
theorem pz_5 {x : Int32} (h : x.toInt = 5) : x = nI 5 := Int32.toInt_inj.mp (h.trans (by decide : (5 : Int) = (nI 5).toInt))
theorem pm_435 : Cond.methodLink RX6 99 yX1_parrotsKnowing ∈ ps_T := ps_in 435 (by decide +kernel) (by decide +kernel)
theorem pm_436 : Cond.instanceMethod yX1_parrotsKnowing ∈ ps_T := ps_in 436 (by decide +kernel) (by decide +kernel)
theorem pm_437 : Cond.selects RX1 yX1_parrotsKnowing yX1_parrotsKnowing ∈ ps_T := ps_in 437 (by decide +kernel) (by decide +kernel)
theorem pm_438 : Cond.code yX1_parrotsKnowing cX1_parrotsKnowing 4 (some .int) ∈ ps_T := ps_in 438 (by decide +kernel) (by decide +kernel)
theorem cw_X6_99 : ps_cwV RX6 99 RX1 yX1_parrotsKnowing cX1_parrotsKnowing 4 (some .int) 1 := ⟨⟨pm_435, pm_436, pm_437, pm_2, pm_438⟩, ⟨by decide, by decide⟩, by decide +kernel⟩
theorem pm_431 : Cond.methodLink RX6 96 yX5_lessonsWith ∈ ps_T := ps_in 431 (by decide +kernel) (by decide +kernel)
theorem pm_432 : Cond.instanceMethod yX5_lessonsWith ∈ ps_T := ps_in 432 (by decide +kernel) (by decide +kernel)
theorem pm_433 : Cond.selects RX5 yX5_lessonsWith yX5_lessonsWith ∈ ps_T := ps_in 433 (by decide +kernel) (by decide +kernel)
theorem pm_434 : Cond.code yX5_lessonsWith cX5_lessonsWith 2 (some .int) ∈ ps_T := ps_in 434 (by decide +kernel) (by decide +kernel)
theorem cw_X6_96 : ps_cwV RX6 96 RX5 yX5_lessonsWith cX5_lessonsWith 2 (some .int) 1 := ⟨⟨pm_431, pm_432, pm_433, pm_3, pm_434⟩, ⟨by decide, by decide⟩, by decide +kernel⟩
theorem pm_427 : Cond.methodLink RX6 93 yX5_lastBar ∈ ps_T := ps_in 427 (by decide +kernel) (by decide +kernel)
theorem pm_428 : Cond.instanceMethod yX5_lastBar ∈ ps_T := ps_in 428 (by decide +kernel) (by decide +kernel)
theorem pm_429 : Cond.selects RX5 yX5_lastBar yX5_lastBar ∈ ps_T := ps_in 429 (by decide +kernel) (by decide +kernel)
theorem pm_430 : Cond.code yX5_lastBar cX5_lastBar 2 (some .int) ∈ ps_T := ps_in 430 (by decide +kernel) (by decide +kernel)
theorem cw_X6_93 : ps_cwV RX6 93 RX5 yX5_lastBar cX5_lastBar 2 (some .int) 1 := ⟨⟨pm_427, pm_428, pm_429, pm_3, pm_430⟩, ⟨by decide, by decide⟩, by decide +kernel⟩
theorem pm_426 : Cond.methodLink RX6 90 yX5_barAt ∈ ps_T := ps_in 426 (by decide +kernel) (by decide +kernel)
theorem cw_X6_90 : ps_cwV RX6 90 RX5 yX5_barAt cX5_barAt 3 (some .int) 2 := ⟨⟨pm_426, pm_308, pm_309, pm_3, pm_310⟩, ⟨by decide, by decide⟩, by decide +kernel⟩
theorem pm_416 : Cond.methodLink RX6 87 yX5_unlikeBars ∈ ps_T := ps_in 416 (by decide +kernel) (by decide +kernel)
theorem pm_417 : Cond.instanceMethod yX5_unlikeBars ∈ ps_T := ps_in 417 (by decide +kernel) (by decide +kernel)
theorem pm_418 : Cond.selects RX5 yX5_unlikeBars yX5_unlikeBars ∈ ps_T := ps_in 418 (by decide +kernel) (by decide +kernel)
theorem pm_419 : Cond.code yX5_unlikeBars cX5_unlikeBars 4 (some .int) ∈ ps_T := ps_in 419 (by decide +kernel) (by decide +kernel)
theorem cw_X6_87 : ps_cwV RX6 87 RX5 yX5_unlikeBars cX5_unlikeBars 4 (some .int) 1 := ⟨⟨pm_416, pm_417, pm_418, pm_3, pm_419⟩, ⟨by decide, by decide⟩, by decide +kernel⟩
theorem pm_415 : Cond.methodLink RX6 84 yX5_lengthOf ∈ ps_T := ps_in 415 (by decide +kernel) (by decide +kernel)
theorem cw_X6_84 : ps_cwV RX6 84 RX5 yX5_lengthOf cX5_lengthOf 2 (some .int) 1 := ⟨⟨pm_415, pm_299, pm_300, pm_3, pm_301⟩, ⟨by decide, by decide⟩, by decide +kernel⟩
theorem pm_290 : Cond.methodLink RX6 78 yX5_has ∈ ps_T := ps_in 290 (by decide +kernel) (by decide +kernel)
theorem cw_X6_78 : ps_cwV RX6 78 RX5 yX5_has cX5_has 2 (some .boolean) 1 := ⟨⟨pm_290, pm_291, pm_292, pm_3, pm_293⟩, ⟨by decide, by decide⟩, by decide +kernel⟩
theorem pm_460 : Cond.methodLink RX6 102 yX5_hasBar ∈ ps_T := ps_in 460 (by decide +kernel) (by decide +kernel)
theorem cw_X6_102 : ps_cwV RX6 102 RX5 yX5_hasBar cX5_hasBar 3 (some .boolean) 2 := ⟨⟨pm_460, pm_312, pm_313, pm_3, pm_314⟩, ⟨by decide, by decide⟩, by decide +kernel⟩
theorem pm_95 : Cond.fieldLink RX6 109 RX1 "parrots" "[LParrotSongs$Parrot;" ∈ ps_T := ps_in 95 (by decide +kernel) (by decide +kernel)
theorem gf_X6_109 {X : ps_X} {cc : ByteArray} (C : ps_C X RX6 cc) {M : ps_M} {pc : Nat} {lv : List (Option Value)} {stk : List Value} {a : Nat} (hk : ps_ck 1 a = true) (hd : decode cc pc = .ok (.getfield 109, 3)) (k : ps_G X M (pc + 3) lv (.ref (xb X + (a + 14)) :: stk)) : ps_G X M pc lv (.ref (xb X + a) :: stk) := ps_get C (κ := 1) (ci := 1) (slot := 2) (CN := RX1) (T := TX1) (N := 6) hk rfl rfl inX1 (by decide) pm_95 rfl rfl hd k
theorem pz_6 {x : Int32} (h : x.toInt = 6) : x = nI 6 := Int32.toInt_inj.mp (h.trans (by decide : (6 : Int) = (nI 6).toInt))
theorem pm_451 : Cond.methodLink RX6 132 yX5_knownBy ∈ ps_T := ps_in 451 (by decide +kernel) (by decide +kernel)
theorem pm_452 : Cond.instanceMethod yX5_knownBy ∈ ps_T := ps_in 452 (by decide +kernel) (by decide +kernel)
theorem pm_453 : Cond.selects RX5 yX5_knownBy yX5_knownBy ∈ ps_T := ps_in 453 (by decide +kernel) (by decide +kernel)
theorem pm_454 : Cond.code yX5_knownBy cX5_knownBy 4 (some .int) ∈ ps_T := ps_in 454 (by decide +kernel) (by decide +kernel)
theorem cw_X6_132 : ps_cwV RX6 132 RX5 yX5_knownBy cX5_knownBy 4 (some .int) 1 := ⟨⟨pm_451, pm_452, pm_453, pm_3, pm_454⟩, ⟨by decide, by decide⟩, by decide +kernel⟩
theorem pm_75 : Cond.fieldLink RX6 129 RX3 "forgotten" "I" ∈ ps_T := ps_in 75 (by decide +kernel) (by decide +kernel)
theorem gf_X6_129 {X : ps_X} {cc : ByteArray} (C : ps_C X RX6 cc) {M : ps_M} {pc : Nat} {lv : List (Option Value)} {stk : List Value} {a : Nat} (hk : ps_ck 9 a = true) (hd : decode cc pc = .ok (.getfield 129, 3)) (k : ps_G X M (pc + 3) lv (.int (ps_rd M a 5) :: stk)) : ps_G X M pc lv (.ref (xb X + a) :: stk) := ps_get C (κ := 9) (ci := 3) (slot := 5) (CN := RX3) (T := TX3) (N := 6) hk rfl rfl inX3 (by decide) pm_75 rfl rfl hd k
theorem pm_72 : Cond.fieldLink RX6 126 RX3 "heardInAll" "I" ∈ ps_T := ps_in 72 (by decide +kernel) (by decide +kernel)
theorem gf_X6_126 {X : ps_X} {cc : ByteArray} (C : ps_C X RX6 cc) {M : ps_M} {pc : Nat} {lv : List (Option Value)} {stk : List Value} {a : Nat} (hk : ps_ck 9 a = true) (hd : decode cc pc = .ok (.getfield 126, 3)) (k : ps_G X M (pc + 3) lv (.int (ps_rd M a 4) :: stk)) : ps_G X M pc lv (.ref (xb X + a) :: stk) := ps_get C (κ := 9) (ci := 3) (slot := 4) (CN := RX3) (T := TX3) (N := 6) hk rfl rfl inX3 (by decide) pm_72 rfl rfl hd k
theorem pm_70 : Cond.fieldLink RX6 123 RX3 "heardToday" "I" ∈ ps_T := ps_in 70 (by decide +kernel) (by decide +kernel)
theorem gf_X6_123 {X : ps_X} {cc : ByteArray} (C : ps_C X RX6 cc) {M : ps_M} {pc : Nat} {lv : List (Option Value)} {stk : List Value} {a : Nat} (hk : ps_ck 9 a = true) (hd : decode cc pc = .ok (.getfield 123, 3)) (k : ps_G X M (pc + 3) lv (.int (ps_rd M a 3) :: stk)) : ps_G X M pc lv (.ref (xb X + a) :: stk) := ps_get C (κ := 9) (ci := 3) (slot := 3) (CN := RX3) (T := TX3) (N := 6) hk rfl rfl inX3 (by decide) pm_70 rfl rfl hd k
theorem pm_67 : Cond.fieldLink RX6 120 RX3 "last" "I" ∈ ps_T := ps_in 67 (by decide +kernel) (by decide +kernel)
theorem gf_X6_120 {X : ps_X} {cc : ByteArray} (C : ps_C X RX6 cc) {M : ps_M} {pc : Nat} {lv : List (Option Value)} {stk : List Value} {a : Nat} (hk : ps_ck 9 a = true) (hd : decode cc pc = .ok (.getfield 120, 3)) (k : ps_G X M (pc + 3) lv (.int (ps_rd M a 2) :: stk)) : ps_G X M pc lv (.ref (xb X + a) :: stk) := ps_get C (κ := 9) (ci := 3) (slot := 2) (CN := RX3) (T := TX3) (N := 6) hk rfl rfl inX3 (by decide) pm_67 rfl rfl hd k
theorem pm_447 : Cond.methodLink RX6 117 yX3_strengthInAll ∈ ps_T := ps_in 447 (by decide +kernel) (by decide +kernel)
theorem pm_448 : Cond.instanceMethod yX3_strengthInAll ∈ ps_T := ps_in 448 (by decide +kernel) (by decide +kernel)
theorem pm_449 : Cond.selects RX3 yX3_strengthInAll yX3_strengthInAll ∈ ps_T := ps_in 449 (by decide +kernel) (by decide +kernel)
theorem pm_450 : Cond.code yX3_strengthInAll cX3_strengthInAll 3 (some .int) ∈ ps_T := ps_in 450 (by decide +kernel) (by decide +kernel)
theorem cw_X6_117 : ps_cwV RX6 117 RX3 yX3_strengthInAll cX3_strengthInAll 3 (some .int) 0 := ⟨⟨pm_447, pm_448, pm_449, pm_5, pm_450⟩, ⟨by decide, by decide⟩, by decide +kernel⟩
theorem pm_63 : Cond.fieldLink RX6 113 RX3 "count" "I" ∈ ps_T := ps_in 63 (by decide +kernel) (by decide +kernel)
theorem gf_X6_113 {X : ps_X} {cc : ByteArray} (C : ps_C X RX6 cc) {M : ps_M} {pc : Nat} {lv : List (Option Value)} {stk : List Value} {a : Nat} (hk : ps_ck 9 a = true) (hd : decode cc pc = .ok (.getfield 113, 3)) (k : ps_G X M (pc + 3) lv (.int (ps_rd M a 1) :: stk)) : ps_G X M pc lv (.ref (xb X + a) :: stk) := ps_get C (κ := 9) (ci := 3) (slot := 1) (CN := RX3) (T := TX3) (N := 6) hk rfl rfl inX3 (by decide) pm_63 rfl rfl hd k
theorem pm_286 : Cond.methodLink RX6 106 yX1_hasParrot ∈ ps_T := ps_in 286 (by decide +kernel) (by decide +kernel)
theorem cw_X6_106 : ps_cwV RX6 106 RX1 yX1_hasParrot cX1_hasParrot 2 (some .boolean) 1 := ⟨⟨pm_286, pm_287, pm_288, pm_2, pm_289⟩, ⟨by decide, by decide⟩, by decide +kernel⟩
theorem pm_516 : Cond.methodLink RX6 136 yX3_ofLink ∈ ps_T := ps_in 516 (by decide +kernel) (by decide +kernel)
theorem pm_517 : Cond.instanceMethod yX3_ofLink ∈ ps_T := ps_in 517 (by decide +kernel) (by decide +kernel)
theorem pm_518 : Cond.selects RX3 yX3_ofLink yX3_ofLink ∈ ps_T := ps_in 518 (by decide +kernel) (by decide +kernel)
theorem pm_519 : Cond.code yX3_ofLink cX3_ofLink 3 (some .int) ∈ ps_T := ps_in 519 (by decide +kernel) (by decide +kernel)
theorem cw_X6_136 : ps_cwV RX6 136 RX3 yX3_ofLink cX3_ofLink 3 (some .int) 2 := ⟨⟨pm_516, pm_517, pm_518, pm_5, pm_519⟩, ⟨by decide, by decide⟩, by decide +kernel⟩
theorem pb_26 : (Int8.ofInt (26)).toInt32 = (nI 26) := by decide
theorem pb_99 : (Int8.ofInt (99)).toInt32 = (nI 99) := by decide
theorem pm_474 : Cond.methodLink RX6 139 yX3_nextBehind ∈ ps_T := ps_in 474 (by decide +kernel) (by decide +kernel)
theorem cw_X6_139 : ps_cwV RX6 139 RX3 yX3_nextBehind cX3_nextBehind 5 (some .int) 1 := ⟨⟨pm_474, pm_316, pm_317, pm_5, pm_318⟩, ⟨by decide, by decide⟩, by decide +kernel⟩
theorem pm_294 : Cond.methodLink RX6 142 yX5_hundredths ∈ ps_T := ps_in 294 (by decide +kernel) (by decide +kernel)
theorem cw_X6_142 : ps_cwV RX6 142 RX5 yX5_hundredths cX5_hundredths 4 (some .int) 2 := ⟨⟨pm_294, pm_295, pm_296, pm_3, pm_297⟩, ⟨by decide, by decide⟩, by decide +kernel⟩
theorem pm_480 : Cond.methodLink RX6 149 yX5_songsWithPair ∈ ps_T := ps_in 480 (by decide +kernel) (by decide +kernel)
theorem pm_481 : Cond.instanceMethod yX5_songsWithPair ∈ ps_T := ps_in 481 (by decide +kernel) (by decide +kernel)
theorem pm_482 : Cond.selects RX5 yX5_songsWithPair yX5_songsWithPair ∈ ps_T := ps_in 482 (by decide +kernel) (by decide +kernel)
theorem pm_483 : Cond.code yX5_songsWithPair cX5_songsWithPair 5 (some .int) ∈ ps_T := ps_in 483 (by decide +kernel) (by decide +kernel)
theorem cw_X6_149 : ps_cwV RX6 149 RX5 yX5_songsWithPair cX5_songsWithPair 5 (some .int) 2 := ⟨⟨pm_480, pm_481, pm_482, pm_3, pm_483⟩, ⟨by decide, by decide⟩, by decide +kernel⟩
theorem pm_479 : Cond.methodLink RX6 146 yX5_firstWrong ∈ ps_T := ps_in 479 (by decide +kernel) (by decide +kernel)
theorem cw_X6_146 : ps_cwV RX6 146 RX5 yX5_firstWrong cX5_firstWrong 4 (some .int) 2 := ⟨⟨pm_479, pm_304, pm_305, pm_3, pm_306⟩, ⟨by decide, by decide⟩, by decide +kernel⟩
theorem pm_465 : Cond.methodLink RX6 152 yX5_sameAtEnd ∈ ps_T := ps_in 465 (by decide +kernel) (by decide +kernel)
theorem pm_466 : Cond.instanceMethod yX5_sameAtEnd ∈ ps_T := ps_in 466 (by decide +kernel) (by decide +kernel)
theorem pm_467 : Cond.selects RX5 yX5_sameAtEnd yX5_sameAtEnd ∈ ps_T := ps_in 467 (by decide +kernel) (by decide +kernel)
theorem pm_468 : Cond.code yX5_sameAtEnd cX5_sameAtEnd 5 (some .int) ∈ ps_T := ps_in 468 (by decide +kernel) (by decide +kernel)
theorem cw_X6_152 : ps_cwV RX6 152 RX5 yX5_sameAtEnd cX5_sameAtEnd 5 (some .int) 2 := ⟨⟨pm_465, pm_466, pm_467, pm_3, pm_468⟩, ⟨by decide, by decide⟩, by decide +kernel⟩
theorem pm_502 : Cond.methodLink RX6 155 yX5_songsFrom ∈ ps_T := ps_in 502 (by decide +kernel) (by decide +kernel)
theorem pm_503 : Cond.instanceMethod yX5_songsFrom ∈ ps_T := ps_in 503 (by decide +kernel) (by decide +kernel)
theorem pm_504 : Cond.selects RX5 yX5_songsFrom yX5_songsFrom ∈ ps_T := ps_in 504 (by decide +kernel) (by decide +kernel)
theorem pm_505 : Cond.code yX5_songsFrom cX5_songsFrom 4 (some .int) ∈ ps_T := ps_in 505 (by decide +kernel) (by decide +kernel)
theorem cw_X6_155 : ps_cwV RX6 155 RX5 yX5_songsFrom cX5_songsFrom 4 (some .int) 1 := ⟨⟨pm_502, pm_503, pm_504, pm_3, pm_505⟩, ⟨by decide, by decide⟩, by decide +kernel⟩
theorem pz_7 {x : Int32} (h : x.toInt = 7) : x = nI 7 := Int32.toInt_inj.mp (h.trans (by decide : (7 : Int) = (nI 7).toInt))
theorem pz_8 {x : Int32} (h : x.toInt = 8) : x = nI 8 := Int32.toInt_inj.mp (h.trans (by decide : (8 : Int) = (nI 8).toInt))
theorem pz_9 {x : Int32} (h : x.toInt = 9) : x = nI 9 := Int32.toInt_inj.mp (h.trans (by decide : (9 : Int) = (nI 9).toInt))
theorem pz_10 {x : Int32} (h : x.toInt = 10) : x = nI 10 := Int32.toInt_inj.mp (h.trans (by decide : (10 : Int) = (nI 10).toInt))
theorem pz_11 {x : Int32} (h : x.toInt = 11) : x = nI 11 := Int32.toInt_inj.mp (h.trans (by decide : (11 : Int) = (nI 11).toInt))
theorem pz_12 {x : Int32} (h : x.toInt = 12) : x = nI 12 := Int32.toInt_inj.mp (h.trans (by decide : (12 : Int) = (nI 12).toInt))
theorem pz_13 {x : Int32} (h : x.toInt = 13) : x = nI 13 := Int32.toInt_inj.mp (h.trans (by decide : (13 : Int) = (nI 13).toInt))
theorem pm_126 : Cond.fieldLink RX6 193 RX0 "count" "I" ∈ ps_T := ps_in 126 (by decide +kernel) (by decide +kernel)
theorem gf_X6_193 {X : ps_X} {cc : ByteArray} (C : ps_C X RX6 cc) {M : ps_M} {pc : Nat} {lv : List (Option Value)} {stk : List Value} {a : Nat} (hk : ps_ck 12 a = true) (hd : decode cc pc = .ok (.getfield 193, 3)) (k : ps_G X M (pc + 3) lv (.int (ps_rd M a 2) :: stk)) : ps_G X M pc lv (.ref (xb X + a) :: stk) := ps_get C (κ := 12) (ci := 0) (slot := 2) (CN := RX0) (T := TX0) (N := 3) hk rfl rfl inX0 (by decide) pm_126 rfl rfl hd k
theorem pm_195 : Cond.fieldLink RX6 26 RX6 "reader" "LParrotSongs$Reader;" ∈ ps_T := ps_in 195 (by decide +kernel) (by decide +kernel)
theorem gf_X6_26 {X : ps_X} {cc : ByteArray} (C : ps_C X RX6 cc) {M : ps_M} {pc : Nat} {lv : List (Option Value)} {stk : List Value} {a : Nat} (hk : ps_ck 0 a = true) (hd : decode cc pc = .ok (.getfield 26, 3)) (k : ps_G X M (pc + 3) lv (.ref (xb X + (a + 323)) :: stk)) : ps_G X M pc lv (.ref (xb X + a) :: stk) := ps_get C (κ := 0) (ci := 6) (slot := 2) (CN := RX6) (T := TX6) (N := 6) hk rfl rfl inX6 (by decide) pm_195 rfl rfl hd k
theorem kf_0_323 {a : Nat} (h : ps_ck 0 a = true) : ps_ck 14 (a + 323) = true := (by decide +kernel : ∀ a, a < 415 → ps_ck 0 a = true → ps_ck 14 (a + 323) = true) a (ps_ck_lt h) h
theorem pm_157 : Cond.fieldLink RX6 184 RX4 "pad" "LParrotSongs$Pad;" ∈ ps_T := ps_in 157 (by decide +kernel) (by decide +kernel)
theorem gf_X6_184 {X : ps_X} {cc : ByteArray} (C : ps_C X RX6 cc) {M : ps_M} {pc : Nat} {lv : List (Option Value)} {stk : List Value} {a : Nat} (hk : ps_ck 14 a = true) (hd : decode cc pc = .ok (.getfield 184, 3)) (k : ps_G X M (pc + 3) lv (.ref (xb X + (a + 1)) :: stk)) : ps_G X M pc lv (.ref (xb X + a) :: stk) := ps_get C (κ := 14) (ci := 4) (slot := 0) (CN := RX4) (T := TX4) (N := 9) hk rfl rfl inX4 (by decide) pm_157 rfl rfl hd k
theorem pm_149 : Cond.fieldLink RX6 188 RX2 "length" "I" ∈ ps_T := ps_in 149 (by decide +kernel) (by decide +kernel)
theorem gf_X6_188 {X : ps_X} {cc : ByteArray} (C : ps_C X RX6 cc) {M : ps_M} {pc : Nat} {lv : List (Option Value)} {stk : List Value} {a : Nat} (hk : ps_ck 15 a = true) (hd : decode cc pc = .ok (.getfield 188, 3)) (k : ps_G X M (pc + 3) lv (.int (ps_rd M a 1) :: stk)) : ps_G X M pc lv (.ref (xb X + a) :: stk) := ps_get C (κ := 15) (ci := 2) (slot := 1) (CN := RX2) (T := TX2) (N := 2) hk rfl rfl inX2 (by decide) pm_149 rfl rfl hd k
theorem pm_91 : Cond.fieldLink RX6 180 RX1 "settings" "[I" ∈ ps_T := ps_in 91 (by decide +kernel) (by decide +kernel)
theorem gf_X6_180 {X : ps_X} {cc : ByteArray} (C : ps_C X RX6 cc) {M : ps_M} {pc : Nat} {lv : List (Option Value)} {stk : List Value} {a : Nat} (hk : ps_ck 1 a = true) (hd : decode cc pc = .ok (.getfield 180, 3)) (k : ps_G X M (pc + 3) lv (.ref (xb X + (a + 1)) :: stk)) : ps_G X M pc lv (.ref (xb X + a) :: stk) := ps_get C (κ := 1) (ci := 1) (slot := 0) (CN := RX1) (T := TX1) (N := 6) hk rfl rfl inX1 (by decide) pm_91 rfl rfl hd k
theorem pm_339 : Cond.methodLink RX6 177 yX1_tiredParrots ∈ ps_T := ps_in 339 (by decide +kernel) (by decide +kernel)
theorem pm_340 : Cond.instanceMethod yX1_tiredParrots ∈ ps_T := ps_in 340 (by decide +kernel) (by decide +kernel)
theorem pm_341 : Cond.selects RX1 yX1_tiredParrots yX1_tiredParrots ∈ ps_T := ps_in 341 (by decide +kernel) (by decide +kernel)
theorem pm_342 : Cond.code yX1_tiredParrots cX1_tiredParrots 3 (some .int) ∈ ps_T := ps_in 342 (by decide +kernel) (by decide +kernel)
theorem cw_X6_177 : ps_cwV RX6 177 RX1 yX1_tiredParrots cX1_tiredParrots 3 (some .int) 0 := ⟨⟨pm_339, pm_340, pm_341, pm_2, pm_342⟩, ⟨by decide, by decide⟩, by decide +kernel⟩
theorem pm_335 : Cond.methodLink RX6 174 yX1_forgottenByAll ∈ ps_T := ps_in 335 (by decide +kernel) (by decide +kernel)
theorem pm_336 : Cond.instanceMethod yX1_forgottenByAll ∈ ps_T := ps_in 336 (by decide +kernel) (by decide +kernel)
theorem pm_337 : Cond.selects RX1 yX1_forgottenByAll yX1_forgottenByAll ∈ ps_T := ps_in 337 (by decide +kernel) (by decide +kernel)
theorem pm_338 : Cond.code yX1_forgottenByAll cX1_forgottenByAll 3 (some .int) ∈ ps_T := ps_in 338 (by decide +kernel) (by decide +kernel)
theorem cw_X6_174 : ps_cwV RX6 174 RX1 yX1_forgottenByAll cX1_forgottenByAll 3 (some .int) 0 := ⟨⟨pm_335, pm_336, pm_337, pm_2, pm_338⟩, ⟨by decide, by decide⟩, by decide +kernel⟩
theorem pm_331 : Cond.methodLink RX6 171 yX1_linksOfAll ∈ ps_T := ps_in 331 (by decide +kernel) (by decide +kernel)
theorem pm_332 : Cond.instanceMethod yX1_linksOfAll ∈ ps_T := ps_in 332 (by decide +kernel) (by decide +kernel)
theorem pm_333 : Cond.selects RX1 yX1_linksOfAll yX1_linksOfAll ∈ ps_T := ps_in 333 (by decide +kernel) (by decide +kernel)
theorem pm_334 : Cond.code yX1_linksOfAll cX1_linksOfAll 3 (some .int) ∈ ps_T := ps_in 334 (by decide +kernel) (by decide +kernel)
theorem cw_X6_171 : ps_cwV RX6 171 RX1 yX1_linksOfAll cX1_linksOfAll 3 (some .int) 0 := ⟨⟨pm_331, pm_332, pm_333, pm_2, pm_334⟩, ⟨by decide, by decide⟩, by decide +kernel⟩
theorem pm_327 : Cond.methodLink RX6 168 yX1_heardByAll ∈ ps_T := ps_in 327 (by decide +kernel) (by decide +kernel)
theorem pm_328 : Cond.instanceMethod yX1_heardByAll ∈ ps_T := ps_in 328 (by decide +kernel) (by decide +kernel)
theorem pm_329 : Cond.selects RX1 yX1_heardByAll yX1_heardByAll ∈ ps_T := ps_in 329 (by decide +kernel) (by decide +kernel)
theorem pm_330 : Cond.code yX1_heardByAll cX1_heardByAll 3 (some .int) ∈ ps_T := ps_in 330 (by decide +kernel) (by decide +kernel)
theorem cw_X6_168 : ps_cwV RX6 168 RX1 yX1_heardByAll cX1_heardByAll 3 (some .int) 0 := ⟨⟨pm_327, pm_328, pm_329, pm_2, pm_330⟩, ⟨by decide, by decide⟩, by decide +kernel⟩
theorem pm_323 : Cond.methodLink RX6 165 yX5_lessonsInAll ∈ ps_T := ps_in 323 (by decide +kernel) (by decide +kernel)
theorem pm_324 : Cond.instanceMethod yX5_lessonsInAll ∈ ps_T := ps_in 324 (by decide +kernel) (by decide +kernel)
theorem pm_325 : Cond.selects RX5 yX5_lessonsInAll yX5_lessonsInAll ∈ ps_T := ps_in 325 (by decide +kernel) (by decide +kernel)
theorem pm_326 : Cond.code yX5_lessonsInAll cX5_lessonsInAll 3 (some .int) ∈ ps_T := ps_in 326 (by decide +kernel) (by decide +kernel)
theorem cw_X6_165 : ps_cwV RX6 165 RX5 yX5_lessonsInAll cX5_lessonsInAll 3 (some .int) 0 := ⟨⟨pm_323, pm_324, pm_325, pm_3, pm_326⟩, ⟨by decide, by decide⟩, by decide +kernel⟩
theorem pm_97 : Cond.fieldLink RX6 162 RX1 "parrotCount" "I" ∈ ps_T := ps_in 97 (by decide +kernel) (by decide +kernel)
theorem gf_X6_162 {X : ps_X} {cc : ByteArray} (C : ps_C X RX6 cc) {M : ps_M} {pc : Nat} {lv : List (Option Value)} {stk : List Value} {a : Nat} (hk : ps_ck 1 a = true) (hd : decode cc pc = .ok (.getfield 162, 3)) (k : ps_G X M (pc + 3) lv (.int (ps_rd M a 3) :: stk)) : ps_G X M pc lv (.ref (xb X + a) :: stk) := ps_get C (κ := 1) (ci := 1) (slot := 3) (CN := RX1) (T := TX1) (N := 6) hk rfl rfl inX1 (by decide) pm_97 rfl rfl hd k
theorem pm_37 : Cond.fieldLink RX6 161 RX5 "count" "I" ∈ ps_T := ps_in 37 (by decide +kernel) (by decide +kernel)
theorem gf_X6_161 {X : ps_X} {cc : ByteArray} (C : ps_C X RX6 cc) {M : ps_M} {pc : Nat} {lv : List (Option Value)} {stk : List Value} {a : Nat} (hk : ps_ck 3 a = true) (hd : decode cc pc = .ok (.getfield 161, 3)) (k : ps_G X M (pc + 3) lv (.int (ps_rd M a 3) :: stk)) : ps_G X M pc lv (.ref (xb X + a) :: stk) := ps_get C (κ := 3) (ci := 5) (slot := 3) (CN := RX5) (T := TX5) (N := 4) hk rfl rfl inX5 (by decide) pm_37 rfl rfl hd k
theorem pm_99 : Cond.fieldLink RX6 158 RX1 "nights" "I" ∈ ps_T := ps_in 99 (by decide +kernel) (by decide +kernel)
theorem gf_X6_158 {X : ps_X} {cc : ByteArray} (C : ps_C X RX6 cc) {M : ps_M} {pc : Nat} {lv : List (Option Value)} {stk : List Value} {a : Nat} (hk : ps_ck 1 a = true) (hd : decode cc pc = .ok (.getfield 158, 3)) (k : ps_G X M (pc + 3) lv (.int (ps_rd M a 4) :: stk)) : ps_G X M pc lv (.ref (xb X + a) :: stk) := ps_get C (κ := 1) (ci := 1) (slot := 4) (CN := RX1) (T := TX1) (N := 6) hk rfl rfl inX1 (by decide) pm_99 rfl rfl hd k
theorem pm_198 : Cond.fieldLink RX6 41 RX6 "pupil" "LParrotSongs$Parrot;" ∈ ps_T := ps_in 198 (by decide +kernel) (by decide +kernel)
theorem gf_X6_41 {X : ps_X} {cc : ByteArray} (C : ps_C X RX6 cc) {M : ps_M} {pc : Nat} {lv : List (Option Value)} {stk : List Value} {a : Nat} (hk : ps_ck 0 a = true) (hd : decode cc pc = .ok (.getfield 41, 3)) (k : ps_G X M (pc + 3) lv (.ref (xb X + (a + 329)) :: stk)) : ps_G X M pc lv (.ref (xb X + a) :: stk) := ps_get C (κ := 0) (ci := 6) (slot := 5) (CN := RX6) (T := TX6) (N := 6) hk rfl rfl inX6 (by decide) pm_198 rfl rfl hd k
theorem kf_0_329 {a : Nat} (h : ps_ck 0 a = true) : ps_ck 9 (a + 329) = true := (by decide +kernel : ∀ a, a < 415 → ps_ck 0 a = true → ps_ck 9 (a + 329) = true) a (ps_ck_lt h) h
theorem pb_30 : (Int8.ofInt (30)).toInt32 = (nI 30) := by decide
theorem pf_X6_120 {X : ps_X} {cc : ByteArray} (C : ps_C X RX6 cc) {M : ps_M} {pc : Nat} {lv : List (Option Value)} {stk : List Value} {a : Nat} (hk : ps_ck 9 a = true) {x : Int32} (hd : decode cc pc = .ok (.putfield 120, 3)) (k : ∀ M1, M1 = ps_st M a 2 x → ps_G X M1 (pc + 3) lv stk) : ps_G X M pc lv (.int x :: .ref (xb X + a) :: stk) := ps_put C (κ := 9) (ci := 3) (slot := 2) (CN := RX3) (T := TX3) (N := 6) (ty0 := tyX3) (ps_st M a 2 x) hk rfl (by rw [ps_st_self]; rfl) ps_st_ho (fun h => h) rfl inX3 tyX3_ok nmX3 (by decide) pm_67 rfl rfl (tyX3_ok 2 (by decide)) rfl rfl (Nat.le_of_ble_eq_true rfl) hd (k _ rfl)
theorem pm_357 : Cond.methodLink RX6 202 yX1_singWholeTo ∈ ps_T := ps_in 357 (by decide +kernel) (by decide +kernel)
theorem pm_358 : Cond.instanceMethod yX1_singWholeTo ∈ ps_T := ps_in 358 (by decide +kernel) (by decide +kernel)
theorem pm_359 : Cond.selects RX1 yX1_singWholeTo yX1_singWholeTo ∈ ps_T := ps_in 359 (by decide +kernel) (by decide +kernel)
theorem pm_360 : Cond.code yX1_singWholeTo cX1_singWholeTo 4 none ∈ ps_T := ps_in 360 (by decide +kernel) (by decide +kernel)
theorem cw_X6_202 : ps_cwV RX6 202 RX1 yX1_singWholeTo cX1_singWholeTo 4 none 2 := ⟨⟨pm_357, pm_358, pm_359, pm_2, pm_360⟩, ⟨by decide, by decide⟩, by decide +kernel⟩
theorem pm_492 : Cond.methodLink RX6 198 yX5_isKnownBy ∈ ps_T := ps_in 492 (by decide +kernel) (by decide +kernel)
theorem cw_X6_198 : ps_cwV RX6 198 RX5 yX5_isKnownBy cX5_isKnownBy 3 (some .boolean) 2 := ⟨⟨pm_492, pm_440, pm_441, pm_3, pm_442⟩, ⟨by decide, by decide⟩, by decide +kernel⟩
theorem pm_356 : Cond.methodLink RX6 194 yX3_copyFrom ∈ ps_T := ps_in 356 (by decide +kernel) (by decide +kernel)
theorem cw_X6_194 : ps_cwV RX6 194 RX3 yX3_copyFrom cX3_copyFrom 3 none 1 := ⟨⟨pm_356, pm_231, pm_232, pm_5, pm_233⟩, ⟨by decide, by decide⟩, by decide +kernel⟩
theorem pm_351 : Cond.methodLink RX6 206 yX5_hundredthsInAll ∈ ps_T := ps_in 351 (by decide +kernel) (by decide +kernel)
theorem pm_352 : Cond.instanceMethod yX5_hundredthsInAll ∈ ps_T := ps_in 352 (by decide +kernel) (by decide +kernel)
theorem pm_353 : Cond.selects RX5 yX5_hundredthsInAll yX5_hundredthsInAll ∈ ps_T := ps_in 353 (by decide +kernel) (by decide +kernel)
theorem pm_354 : Cond.code yX5_hundredthsInAll cX5_hundredthsInAll 4 (some .int) ∈ ps_T := ps_in 354 (by decide +kernel) (by decide +kernel)
theorem cw_X6_206 : ps_cwV RX6 206 RX5 yX5_hundredthsInAll cX5_hundredthsInAll 4 (some .int) 1 := ⟨⟨pm_351, pm_352, pm_353, pm_3, pm_354⟩, ⟨by decide, by decide⟩, by decide +kernel⟩
theorem pm_497 : Cond.methodLink RX6 209 yX3_sleep ∈ ps_T := ps_in 497 (by decide +kernel) (by decide +kernel)
theorem cw_X6_209 : ps_cwV RX6 209 RX3 yX3_sleep cX3_sleep 5 (some .int) 1 := ⟨⟨pm_497, pm_275, pm_276, pm_5, pm_277⟩, ⟨by decide, by decide⟩, by decide +kernel⟩
theorem pm_535 : Cond.methodLink RX6 212 yX2_append ∈ ps_T := ps_in 535 (by decide +kernel) (by decide +kernel)
theorem pm_536 : Cond.instanceMethod yX2_append ∈ ps_T := ps_in 536 (by decide +kernel) (by decide +kernel)
theorem pm_537 : Cond.selects RX2 yX2_append yX2_append ∈ ps_T := ps_in 537 (by decide +kernel) (by decide +kernel)
theorem pm_538 : Cond.code yX2_append cX2_append 5 (some .int) ∈ ps_T := ps_in 538 (by decide +kernel) (by decide +kernel)
theorem cw_X6_212 : ps_cwV RX6 212 RX2 yX2_append cX2_append 5 (some .int) 1 := ⟨⟨pm_535, pm_536, pm_537, pm_8, pm_538⟩, ⟨by decide, by decide⟩, by decide +kernel⟩
theorem pf_X6_188 {X : ps_X} {cc : ByteArray} (C : ps_C X RX6 cc) {M : ps_M} {pc : Nat} {lv : List (Option Value)} {stk : List Value} {a : Nat} (hk : ps_ck 15 a = true) {x : Int32} (hd : decode cc pc = .ok (.putfield 188, 3)) (k : ∀ M1, M1 = ps_st M a 1 x → ps_G X M1 (pc + 3) lv stk) : ps_G X M pc lv (.int x :: .ref (xb X + a) :: stk) := ps_put C (κ := 15) (ci := 2) (slot := 1) (CN := RX2) (T := TX2) (N := 2) (ty0 := tyX2) (ps_st M a 1 x) hk rfl (by rw [ps_st_self]; rfl) ps_st_ho (fun h => h) rfl inX2 tyX2_ok nmX2 (by decide) pm_149 rfl rfl (tyX2_ok 1 (by decide)) rfl rfl (Nat.le_of_ble_eq_true rfl) hd (k _ rfl)
theorem pm_549 : Cond.methodLink RX6 216 yX4_findFault ∈ ps_T := ps_in 549 (by decide +kernel) (by decide +kernel)
theorem pm_550 : Cond.instanceMethod yX4_findFault ∈ ps_T := ps_in 550 (by decide +kernel) (by decide +kernel)
theorem pm_551 : Cond.selects RX4 yX4_findFault yX4_findFault ∈ ps_T := ps_in 551 (by decide +kernel) (by decide +kernel)
theorem pm_552 : Cond.code yX4_findFault cX4_findFault 2 (some .int) ∈ ps_T := ps_in 552 (by decide +kernel) (by decide +kernel)
theorem cw_X6_216 : ps_cwV RX6 216 RX4 yX4_findFault cX4_findFault 2 (some .int) 0 := ⟨⟨pm_549, pm_550, pm_551, pm_7, pm_552⟩, ⟨by decide, by decide⟩, by decide +kernel⟩
theorem pm_161 : Cond.fieldLink RX6 238 RX4 "kind" "C" ∈ ps_T := ps_in 161 (by decide +kernel) (by decide +kernel)
theorem gf_X6_238 {X : ps_X} {cc : ByteArray} (C : ps_C X RX6 cc) {M : ps_M} {pc : Nat} {lv : List (Option Value)} {stk : List Value} {a : Nat} (hk : ps_ck 14 a = true) (hd : decode cc pc = .ok (.getfield 238, 3)) (k : ps_G X M (pc + 3) lv (.int (ps_rd M a 3) :: stk)) : ps_G X M pc lv (.ref (xb X + a) :: stk) := ps_get C (κ := 14) (ci := 4) (slot := 3) (CN := RX4) (T := TX4) (N := 9) hk rfl rfl inX4 (by decide) pm_161 rfl rfl hd k
theorem pb_m3 : (Int8.ofInt (-3)).toInt32 = (ps_m 3) := by decide
theorem pm_169 : Cond.fieldLink RX6 242 RX4 "bars" "[I" ∈ ps_T := ps_in 169 (by decide +kernel) (by decide +kernel)
theorem gf_X6_242 {X : ps_X} {cc : ByteArray} (C : ps_C X RX6 cc) {M : ps_M} {pc : Nat} {lv : List (Option Value)} {stk : List Value} {a : Nat} (hk : ps_ck 14 a = true) (hd : decode cc pc = .ok (.getfield 242, 3)) (k : ps_G X M (pc + 3) lv (.ref (xb X + (a + 3)) :: stk)) : ps_G X M pc lv (.ref (xb X + a) :: stk) := ps_get C (κ := 14) (ci := 4) (slot := 7) (CN := RX4) (T := TX4) (N := 9) hk rfl rfl inX4 (by decide) pm_169 rfl rfl hd k
theorem pm_171 : Cond.fieldLink RX6 245 RX4 "barCount" "I" ∈ ps_T := ps_in 171 (by decide +kernel) (by decide +kernel)
theorem gf_X6_245 {X : ps_X} {cc : ByteArray} (C : ps_C X RX6 cc) {M : ps_M} {pc : Nat} {lv : List (Option Value)} {stk : List Value} {a : Nat} (hk : ps_ck 14 a = true) (hd : decode cc pc = .ok (.getfield 245, 3)) (k : ps_G X M (pc + 3) lv (.int (ps_rd M a 8) :: stk)) : ps_G X M pc lv (.ref (xb X + a) :: stk) := ps_get C (κ := 14) (ci := 4) (slot := 8) (CN := RX4) (T := TX4) (N := 9) hk rfl rfl inX4 (by decide) pm_171 rfl rfl hd k
theorem pm_607 : Cond.methodLink RX6 248 yX5_add ∈ ps_T := ps_in 607 (by decide +kernel) (by decide +kernel)
theorem pm_608 : Cond.instanceMethod yX5_add ∈ ps_T := ps_in 608 (by decide +kernel) (by decide +kernel)
theorem pm_609 : Cond.selects RX5 yX5_add yX5_add ∈ ps_T := ps_in 609 (by decide +kernel) (by decide +kernel)
theorem pm_610 : Cond.code yX5_add cX5_add 4 (some .int) ∈ ps_T := ps_in 610 (by decide +kernel) (by decide +kernel)
theorem cw_X6_248 : ps_cwV RX6 248 RX5 yX5_add cX5_add 4 (some .int) 2 := ⟨⟨pm_607, pm_608, pm_609, pm_3, pm_610⟩, ⟨by decide, by decide⟩, by decide +kernel⟩
theorem pm_163 : Cond.fieldLink RX6 252 RX4 "parrot" "I" ∈ ps_T := ps_in 163 (by decide +kernel) (by decide +kernel)
theorem gf_X6_252 {X : ps_X} {cc : ByteArray} (C : ps_C X RX6 cc) {M : ps_M} {pc : Nat} {lv : List (Option Value)} {stk : List Value} {a : Nat} (hk : ps_ck 14 a = true) (hd : decode cc pc = .ok (.getfield 252, 3)) (k : ps_G X M (pc + 3) lv (.int (ps_rd M a 4) :: stk)) : ps_G X M pc lv (.ref (xb X + a) :: stk) := ps_get C (κ := 14) (ci := 4) (slot := 4) (CN := RX4) (T := TX4) (N := 9) hk rfl rfl inX4 (by decide) pm_163 rfl rfl hd k
theorem pm_167 : Cond.fieldLink RX6 258 RX4 "number" "I" ∈ ps_T := ps_in 167 (by decide +kernel) (by decide +kernel)
theorem gf_X6_258 {X : ps_X} {cc : ByteArray} (C : ps_C X RX6 cc) {M : ps_M} {pc : Nat} {lv : List (Option Value)} {stk : List Value} {a : Nat} (hk : ps_ck 14 a = true) (hd : decode cc pc = .ok (.getfield 258, 3)) (k : ps_G X M (pc + 3) lv (.int (ps_rd M a 6) :: stk)) : ps_G X M pc lv (.ref (xb X + a) :: stk) := ps_get C (κ := 14) (ci := 4) (slot := 6) (CN := RX4) (T := TX4) (N := 9) hk rfl rfl inX4 (by decide) pm_167 rfl rfl hd k
theorem pm_165 : Cond.fieldLink RX6 255 RX4 "song" "I" ∈ ps_T := ps_in 165 (by decide +kernel) (by decide +kernel)
theorem gf_X6_255 {X : ps_X} {cc : ByteArray} (C : ps_C X RX6 cc) {M : ps_M} {pc : Nat} {lv : List (Option Value)} {stk : List Value} {a : Nat} (hk : ps_ck 14 a = true) (hd : decode cc pc = .ok (.getfield 255, 3)) (k : ps_G X M (pc + 3) lv (.int (ps_rd M a 5) :: stk)) : ps_G X M pc lv (.ref (xb X + a) :: stk) := ps_get C (κ := 14) (ci := 4) (slot := 5) (CN := RX4) (T := TX4) (N := 9) hk rfl rfl inX4 (by decide) pm_165 rfl rfl hd k
theorem pm_642 : Cond.methodLink RX6 229 yX6_isError ∈ ps_T := ps_in 642 (by decide +kernel) (by decide +kernel)
theorem cw_X6_229 : ps_cwS RX6 229 yX6_isError cX6_isError 1 (some .boolean) 1 := ⟨⟨pm_642, pm_248, pm_1, pm_249⟩, ⟨by decide, by decide⟩, by decide +kernel⟩
theorem pm_603 : Cond.methodLink RX6 226 yX6_carryOrder ∈ ps_T := ps_in 603 (by decide +kernel) (by decide +kernel)
theorem pm_605 : Cond.instanceMethod yX6_carryOrder ∈ ps_T := ps_in 605 (by decide +kernel) (by decide +kernel)
theorem pn_16 : Cond.selects RX6 yX6_carryOrder yX6_carryOrder ∈ ps_T := ps_inS 16 (by decide +kernel) (by decide +kernel)
theorem pm_606 : Cond.code yX6_carryOrder cX6_carryOrder 1 (some .int) ∈ ps_T := ps_in 606 (by decide +kernel) (by decide +kernel)
theorem cw_X6_226 : ps_cwV RX6 226 RX6 yX6_carryOrder cX6_carryOrder 1 (some .int) 0 := ⟨⟨pm_603, pm_605, pn_16, pm_1, pm_606⟩, ⟨by decide, by decide⟩, by decide +kernel⟩
theorem pm_602 : Cond.methodLink RX6 222 yX4_readNext ∈ ps_T := ps_in 602 (by decide +kernel) (by decide +kernel)
theorem cw_X6_222 : ps_cwV RX6 222 RX4 yX4_readNext cX4_readNext 1 (some .boolean) 0 := ⟨⟨pm_602, pm_558, pm_559, pm_7, pm_560⟩, ⟨by decide, by decide⟩, by decide +kernel⟩
theorem pm_601 : Cond.methodLink RX6 219 yX4_start ∈ ps_T := ps_in 601 (by decide +kernel) (by decide +kernel)
theorem cw_X6_219 : ps_cwV RX6 219 RX4 yX4_start cX4_start 1 none 0 := ⟨⟨pm_601, pm_554, pm_555, pm_7, pm_556⟩, ⟨by decide, by decide⟩, by decide +kernel⟩
theorem pm_390 : Cond.methodLink RX6 232 yX0_takeBack ∈ ps_T := ps_in 390 (by decide +kernel) (by decide +kernel)
theorem pm_391 : Cond.instanceMethod yX0_takeBack ∈ ps_T := ps_in 391 (by decide +kernel) (by decide +kernel)
theorem pm_392 : Cond.selects RX0 yX0_takeBack yX0_takeBack ∈ ps_T := ps_in 392 (by decide +kernel) (by decide +kernel)
theorem pm_393 : Cond.code yX0_takeBack cX0_takeBack 2 (some .int) ∈ ps_T := ps_in 393 (by decide +kernel) (by decide +kernel)
theorem cw_X6_232 : ps_cwV RX6 232 RX0 yX0_takeBack cX0_takeBack 2 (some .int) 1 := ⟨⟨pm_390, pm_391, pm_392, pm_6, pm_393⟩, ⟨by decide, by decide⟩, by decide +kernel⟩
theorem pm_196 : Cond.fieldLink RX6 30 RX6 "slots" "[LParrotSongs$House;" ∈ ps_T := ps_in 196 (by decide +kernel) (by decide +kernel)
theorem gf_X6_30 {X : ps_X} {cc : ByteArray} (C : ps_C X RX6 cc) {M : ps_M} {pc : Nat} {lv : List (Option Value)} {stk : List Value} {a : Nat} (hk : ps_ck 0 a = true) (hd : decode cc pc = .ok (.getfield 30, 3)) (k : ps_G X M (pc + 3) lv (.ref (xb X + (a + 327)) :: stk)) : ps_G X M pc lv (.ref (xb X + a) :: stk) := ps_get C (κ := 0) (ci := 6) (slot := 3) (CN := RX6) (T := TX6) (N := 6) hk rfl rfl inX6 (by decide) pm_196 rfl rfl hd k
theorem kf_0_327 {a : Nat} (h : ps_ck 0 a = true) : ps_ck 18 (a + 327) = true := (by decide +kernel : ∀ a, a < 415 → ps_ck 0 a = true → ps_ck 18 (a + 327) = true) a (ps_ck_lt h) h
theorem ke_18 {a : Nat} {i : Int32} (h : ps_ck 18 a = true) (hi : ps_inB i 2 = true) : ps_ck 1 (a + 8 + 40 * i.toNatClampNeg) = true := (by decide +kernel : ∀ a, a < 415 → ps_ck 18 a = true → ∀ j, j < 2 → ps_ck 1 (a + 8 + 40 * j) = true) a (ps_ck_lt h) h _ (ps_inB_lt hi)
theorem pm_197 : Cond.fieldLink RX6 34 RX6 "saved" "[Z" ∈ ps_T := ps_in 197 (by decide +kernel) (by decide +kernel)
theorem gf_X6_34 {X : ps_X} {cc : ByteArray} (C : ps_C X RX6 cc) {M : ps_M} {pc : Nat} {lv : List (Option Value)} {stk : List Value} {a : Nat} (hk : ps_ck 0 a = true) (hd : decode cc pc = .ok (.getfield 34, 3)) (k : ps_G X M (pc + 3) lv (.ref (xb X + (a + 328)) :: stk)) : ps_G X M pc lv (.ref (xb X + a) :: stk) := ps_get C (κ := 0) (ci := 6) (slot := 4) (CN := RX6) (T := TX6) (N := 6) hk rfl rfl inX6 (by decide) pm_197 rfl rfl hd k
theorem kf_0_328 {a : Nat} (h : ps_ck 0 a = true) : ps_ck 19 (a + 328) = true := (by decide +kernel : ∀ a, a < 415 → ps_ck 0 a = true → ps_ck 19 (a + 328) = true) a (ps_ck_lt h) h
theorem pm_398 : Cond.methodLink RX6 236 yX1_copyFrom ∈ ps_T := ps_in 398 (by decide +kernel) (by decide +kernel)
theorem cw_X6_236 : ps_cwV RX6 236 RX1 yX1_copyFrom cX1_copyFrom 3 none 1 := ⟨⟨pm_398, pm_222, pm_223, pm_2, pm_224⟩, ⟨by decide, by decide⟩, by decide +kernel⟩
theorem pm_512 : Cond.methodLink RL 15 yX6_link ∈ ps_T := ps_in 512 (by decide +kernel) (by decide +kernel)
theorem pm_513 : Cond.instanceMethod yX6_link ∈ ps_T := ps_in 513 (by decide +kernel) (by decide +kernel)
theorem pm_514 : Cond.selects RX6 yX6_link yX6_link ∈ ps_T := ps_in 514 (by decide +kernel) (by decide +kernel)
theorem pm_515 : Cond.code yX6_link cX6_link 4 (some .int) ∈ ps_T := ps_in 515 (by decide +kernel) (by decide +kernel)
theorem cw_L_15 : ps_cwV RL 15 RX6 yX6_link cX6_link 4 (some .int) 3 := ⟨⟨pm_512, pm_513, pm_514, pm_1, pm_515⟩, ⟨by decide, by decide⟩, by decide +kernel⟩
theorem pm_443 : Cond.methodLink RL 9 yX6_of ∈ ps_T := ps_in 443 (by decide +kernel) (by decide +kernel)
theorem pm_444 : Cond.instanceMethod yX6_of ∈ ps_T := ps_in 444 (by decide +kernel) (by decide +kernel)
theorem pm_445 : Cond.selects RX6 yX6_of yX6_of ∈ ps_T := ps_in 445 (by decide +kernel) (by decide +kernel)
theorem pm_446 : Cond.code yX6_of cX6_of 4 (some .int) ∈ ps_T := ps_in 446 (by decide +kernel) (by decide +kernel)
theorem cw_L_9 : ps_cwV RL 9 RX6 yX6_of cX6_of 4 (some .int) 2 := ⟨⟨pm_443, pm_444, pm_445, pm_1, pm_446⟩, ⟨by decide, by decide⟩, by decide +kernel⟩
theorem pm_470 : Cond.methodLink RL 19 yX6_sings ∈ ps_T := ps_in 470 (by decide +kernel) (by decide +kernel)
theorem pm_471 : Cond.instanceMethod yX6_sings ∈ ps_T := ps_in 471 (by decide +kernel) (by decide +kernel)
theorem pm_472 : Cond.selects RX6 yX6_sings yX6_sings ∈ ps_T := ps_in 472 (by decide +kernel) (by decide +kernel)
theorem pm_473 : Cond.code yX6_sings cX6_sings 6 (some .int) ∈ ps_T := ps_in 473 (by decide +kernel) (by decide +kernel)
theorem cw_L_19 : ps_cwV RL 19 RX6 yX6_sings cX6_sings 6 (some .int) 3 := ⟨⟨pm_470, pm_471, pm_472, pm_1, pm_473⟩, ⟨by decide, by decide⟩, by decide +kernel⟩
theorem pm_520 : Cond.methodLink RL 22 yL_next ∈ ps_T := ps_in 520 (by decide +kernel) (by decide +kernel)
theorem pm_521 : Cond.static yL_next ∈ ps_T := ps_in 521 (by decide +kernel) (by decide +kernel)
theorem pm_0 : Cond.initialized RL ∈ ps_T := ps_in 0 (by decide +kernel) (by decide +kernel)
theorem pm_522 : Cond.code yL_next cL_next 7 (some .int) ∈ ps_T := ps_in 522 (by decide +kernel) (by decide +kernel)
theorem cw_L_22 : ps_cwS RL 22 yL_next cL_next 7 (some .int) 3 := ⟨⟨pm_520, pm_521, pm_0, pm_522⟩, ⟨by decide, by decide⟩, by decide +kernel⟩
theorem pm_411 : Cond.methodLink RL 32 yX6_ofSong ∈ ps_T := ps_in 411 (by decide +kernel) (by decide +kernel)
theorem pm_412 : Cond.instanceMethod yX6_ofSong ∈ ps_T := ps_in 412 (by decide +kernel) (by decide +kernel)
theorem pm_413 : Cond.selects RX6 yX6_ofSong yX6_ofSong ∈ ps_T := ps_in 413 (by decide +kernel) (by decide +kernel)
theorem pm_414 : Cond.code yX6_ofSong cX6_ofSong 4 (some .int) ∈ ps_T := ps_in 414 (by decide +kernel) (by decide +kernel)
theorem cw_L_32 : ps_cwV RL 32 RX6 yX6_ofSong cX6_ofSong 4 (some .int) 2 := ⟨⟨pm_411, pm_412, pm_413, pm_1, pm_414⟩, ⟨by decide, by decide⟩, by decide +kernel⟩
theorem pm_461 : Cond.methodLink RL 38 yX6_rhymes ∈ ps_T := ps_in 461 (by decide +kernel) (by decide +kernel)
theorem pm_462 : Cond.instanceMethod yX6_rhymes ∈ ps_T := ps_in 462 (by decide +kernel) (by decide +kernel)
theorem pm_463 : Cond.selects RX6 yX6_rhymes yX6_rhymes ∈ ps_T := ps_in 463 (by decide +kernel) (by decide +kernel)
theorem pm_464 : Cond.code yX6_rhymes cX6_rhymes 3 (some .int) ∈ ps_T := ps_in 464 (by decide +kernel) (by decide +kernel)
theorem cw_L_38 : ps_cwV RL 38 RX6 yX6_rhymes cX6_rhymes 3 (some .int) 2 := ⟨⟨pm_461, pm_462, pm_463, pm_1, pm_464⟩, ⟨by decide, by decide⟩, by decide +kernel⟩
theorem pm_498 : Cond.methodLink RL 53 yX6_follows ∈ ps_T := ps_in 498 (by decide +kernel) (by decide +kernel)
theorem pm_499 : Cond.instanceMethod yX6_follows ∈ ps_T := ps_in 499 (by decide +kernel) (by decide +kernel)
theorem pm_500 : Cond.selects RX6 yX6_follows yX6_follows ∈ ps_T := ps_in 500 (by decide +kernel) (by decide +kernel)
theorem pm_501 : Cond.code yX6_follows cX6_follows 4 (some .int) ∈ ps_T := ps_in 501 (by decide +kernel) (by decide +kernel)
theorem cw_L_53 : ps_cwV RL 53 RX6 yX6_follows cX6_follows 4 (some .int) 2 := ⟨⟨pm_498, pm_499, pm_500, pm_1, pm_501⟩, ⟨by decide, by decide⟩, by decide +kernel⟩
theorem pm_319 : Cond.methodLink RL 28 yX6_count ∈ ps_T := ps_in 319 (by decide +kernel) (by decide +kernel)
theorem pm_320 : Cond.instanceMethod yX6_count ∈ ps_T := ps_in 320 (by decide +kernel) (by decide +kernel)
theorem pm_321 : Cond.selects RX6 yX6_count yX6_count ∈ ps_T := ps_in 321 (by decide +kernel) (by decide +kernel)
theorem pm_322 : Cond.code yX6_count cX6_count 2 (some .int) ∈ ps_T := ps_in 322 (by decide +kernel) (by decide +kernel)
theorem cw_L_28 : ps_cwV RL 28 RX6 yX6_count cX6_count 2 (some .int) 1 := ⟨⟨pm_319, pm_320, pm_321, pm_1, pm_322⟩, ⟨by decide, by decide⟩, by decide +kernel⟩
theorem pm_493 : Cond.methodLink RL 50 yX6_keeps ∈ ps_T := ps_in 493 (by decide +kernel) (by decide +kernel)
theorem pm_494 : Cond.instanceMethod yX6_keeps ∈ ps_T := ps_in 494 (by decide +kernel) (by decide +kernel)
theorem pm_495 : Cond.selects RX6 yX6_keeps yX6_keeps ∈ ps_T := ps_in 495 (by decide +kernel) (by decide +kernel)
theorem pm_496 : Cond.code yX6_keeps cX6_keeps 4 (some .int) ∈ ps_T := ps_in 496 (by decide +kernel) (by decide +kernel)
theorem cw_L_50 : ps_cwV RL 50 RX6 yX6_keeps cX6_keeps 4 (some .int) 2 := ⟨⟨pm_493, pm_494, pm_495, pm_1, pm_496⟩, ⟨by decide, by decide⟩, by decide +kernel⟩
theorem pm_488 : Cond.methodLink RL 47 yX6_lessonsFor ∈ ps_T := ps_in 488 (by decide +kernel) (by decide +kernel)
theorem pm_489 : Cond.instanceMethod yX6_lessonsFor ∈ ps_T := ps_in 489 (by decide +kernel) (by decide +kernel)
theorem pm_490 : Cond.selects RX6 yX6_lessonsFor yX6_lessonsFor ∈ ps_T := ps_in 490 (by decide +kernel) (by decide +kernel)
theorem pm_491 : Cond.code yX6_lessonsFor cX6_lessonsFor 4 (some .int) ∈ ps_T := ps_in 491 (by decide +kernel) (by decide +kernel)
theorem cw_L_47 : ps_cwV RL 47 RX6 yX6_lessonsFor cX6_lessonsFor 4 (some .int) 2 := ⟨⟨pm_488, pm_489, pm_490, pm_1, pm_491⟩, ⟨by decide, by decide⟩, by decide +kernel⟩
theorem pm_456 : Cond.methodLink RL 35 yX6_bar ∈ ps_T := ps_in 456 (by decide +kernel) (by decide +kernel)
theorem pm_457 : Cond.instanceMethod yX6_bar ∈ ps_T := ps_in 457 (by decide +kernel) (by decide +kernel)
theorem pm_458 : Cond.selects RX6 yX6_bar yX6_bar ∈ ps_T := ps_in 458 (by decide +kernel) (by decide +kernel)
theorem pm_459 : Cond.code yX6_bar cX6_bar 3 (some .int) ∈ ps_T := ps_in 459 (by decide +kernel) (by decide +kernel)
theorem cw_L_35 : ps_cwV RL 35 RX6 yX6_bar cX6_bar 3 (some .int) 2 := ⟨⟨pm_456, pm_457, pm_458, pm_1, pm_459⟩, ⟨by decide, by decide⟩, by decide +kernel⟩
theorem pm_475 : Cond.methodLink RL 44 yX6_mistake ∈ ps_T := ps_in 475 (by decide +kernel) (by decide +kernel)
theorem pm_476 : Cond.instanceMethod yX6_mistake ∈ ps_T := ps_in 476 (by decide +kernel) (by decide +kernel)
theorem pm_477 : Cond.selects RX6 yX6_mistake yX6_mistake ∈ ps_T := ps_in 477 (by decide +kernel) (by decide +kernel)
theorem pm_478 : Cond.code yX6_mistake cX6_mistake 9 (some .int) ∈ ps_T := ps_in 478 (by decide +kernel) (by decide +kernel)
theorem cw_L_44 : ps_cwV RL 44 RX6 yX6_mistake cX6_mistake 9 (some .int) 3 := ⟨⟨pm_475, pm_476, pm_477, pm_1, pm_478⟩, ⟨by decide, by decide⟩, by decide +kernel⟩
theorem pm_282 : Cond.methodLink RL 41 yX6_knows ∈ ps_T := ps_in 282 (by decide +kernel) (by decide +kernel)
theorem pm_283 : Cond.instanceMethod yX6_knows ∈ ps_T := ps_in 283 (by decide +kernel) (by decide +kernel)
theorem pm_284 : Cond.selects RX6 yX6_knows yX6_knows ∈ ps_T := ps_in 284 (by decide +kernel) (by decide +kernel)
theorem pm_285 : Cond.code yX6_knows cX6_knows 3 (some .int) ∈ ps_T := ps_in 285 (by decide +kernel) (by decide +kernel)
theorem cw_L_41 : ps_cwV RL 41 RX6 yX6_knows cX6_knows 3 (some .int) 2 := ⟨⟨pm_282, pm_283, pm_284, pm_1, pm_285⟩, ⟨by decide, by decide⟩, by decide +kernel⟩
theorem pb_7 : (Int8.ofInt (7)).toInt32 = (nI 7) := by decide
theorem pb_11 : (Int8.ofInt (11)).toInt32 = (nI 11) := by decide
theorem pm_509 : Cond.methodLink RL 56 yL_areLinks ∈ ps_T := ps_in 509 (by decide +kernel) (by decide +kernel)
theorem pm_510 : Cond.static yL_areLinks ∈ ps_T := ps_in 510 (by decide +kernel) (by decide +kernel)
theorem pm_511 : Cond.code yL_areLinks cL_areLinks 7 (some .boolean) ∈ ps_T := ps_in 511 (by decide +kernel) (by decide +kernel)
theorem cw_L_56 : ps_cwS RL 56 yL_areLinks cL_areLinks 7 (some .boolean) 2 := ⟨⟨pm_509, pm_510, pm_0, pm_511⟩, ⟨by decide, by decide⟩, by decide +kernel⟩
theorem pb_12 : (Int8.ofInt (12)).toInt32 = (nI 12) := by decide
theorem pm_597 : Cond.methodLink RL 73 yX6_carryOut ∈ ps_T := ps_in 597 (by decide +kernel) (by decide +kernel)
theorem pm_598 : Cond.instanceMethod yX6_carryOut ∈ ps_T := ps_in 598 (by decide +kernel) (by decide +kernel)
theorem pm_599 : Cond.selects RX6 yX6_carryOut yX6_carryOut ∈ ps_T := ps_in 599 (by decide +kernel) (by decide +kernel)
theorem pm_600 : Cond.code yX6_carryOut cX6_carryOut 2 (some .int) ∈ ps_T := ps_in 600 (by decide +kernel) (by decide +kernel)
theorem cw_L_73 : ps_cwV RL 73 RX6 yX6_carryOut cX6_carryOut 2 (some .int) 0 := ⟨⟨pm_597, pm_598, pm_599, pm_1, pm_600⟩, ⟨by decide, by decide⟩, by decide +kernel⟩
theorem pm_545 : Cond.methodLink RL 70 yX6_fault ∈ ps_T := ps_in 545 (by decide +kernel) (by decide +kernel)
theorem pm_546 : Cond.instanceMethod yX6_fault ∈ ps_T := ps_in 546 (by decide +kernel) (by decide +kernel)
theorem pm_547 : Cond.selects RX6 yX6_fault yX6_fault ∈ ps_T := ps_in 547 (by decide +kernel) (by decide +kernel)
theorem pm_548 : Cond.code yX6_fault cX6_fault 1 (some .int) ∈ ps_T := ps_in 548 (by decide +kernel) (by decide +kernel)
theorem cw_L_70 : ps_cwV RL 70 RX6 yX6_fault cX6_fault 1 (some .int) 0 := ⟨⟨pm_545, pm_546, pm_547, pm_1, pm_548⟩, ⟨by decide, by decide⟩, by decide +kernel⟩
theorem pm_531 : Cond.methodLink RL 66 yX6_put ∈ ps_T := ps_in 531 (by decide +kernel) (by decide +kernel)
theorem pm_532 : Cond.instanceMethod yX6_put ∈ ps_T := ps_in 532 (by decide +kernel) (by decide +kernel)
theorem pm_533 : Cond.selects RX6 yX6_put yX6_put ∈ ps_T := ps_in 533 (by decide +kernel) (by decide +kernel)
theorem pm_534 : Cond.code yX6_put cX6_put 3 (some .int) ∈ ps_T := ps_in 534 (by decide +kernel) (by decide +kernel)
theorem cw_L_66 : ps_cwV RL 66 RX6 yX6_put cX6_put 3 (some .int) 1 := ⟨⟨pm_531, pm_532, pm_533, pm_1, pm_534⟩, ⟨by decide, by decide⟩, by decide +kernel⟩
theorem pm_530 : Cond.constantLong RL 64 (lN 83) ∈ ps_T := ps_in 530 (by decide +kernel) (by decide +kernel)
theorem pm_526 : Cond.methodLink RL 60 yX6_wipe ∈ ps_T := ps_in 526 (by decide +kernel) (by decide +kernel)
theorem pm_527 : Cond.instanceMethod yX6_wipe ∈ ps_T := ps_in 527 (by decide +kernel) (by decide +kernel)
theorem pm_528 : Cond.selects RX6 yX6_wipe yX6_wipe ∈ ps_T := ps_in 528 (by decide +kernel) (by decide +kernel)
theorem pm_529 : Cond.code yX6_wipe cX6_wipe 2 (some .int) ∈ ps_T := ps_in 529 (by decide +kernel) (by decide +kernel)
theorem cw_L_60 : ps_cwV RL 60 RX6 yX6_wipe cX6_wipe 2 (some .int) 0 := ⟨⟨pm_526, pm_527, pm_528, pm_1, pm_529⟩, ⟨by decide, by decide⟩, by decide +kernel⟩
theorem pm_266 : Cond.methodLink RL 93 yX6_night ∈ ps_T := ps_in 266 (by decide +kernel) (by decide +kernel)
theorem pm_267 : Cond.instanceMethod yX6_night ∈ ps_T := ps_in 267 (by decide +kernel) (by decide +kernel)
theorem pm_268 : Cond.selects RX6 yX6_night yX6_night ∈ ps_T := ps_in 268 (by decide +kernel) (by decide +kernel)
theorem pm_269 : Cond.code yX6_night cX6_night 1 (some .int) ∈ ps_T := ps_in 269 (by decide +kernel) (by decide +kernel)
theorem cw_L_93 : ps_cwV RL 93 RX6 yX6_night cX6_night 1 (some .int) 0 := ⟨⟨pm_266, pm_267, pm_268, pm_1, pm_269⟩, ⟨by decide, by decide⟩, by decide +kernel⟩
theorem pb_60 : (Int8.ofInt (60)).toInt32 = (nI 60) := by decide
theorem pm_213 : Cond.methodLink RL 90 yX6_set ∈ ps_T := ps_in 213 (by decide +kernel) (by decide +kernel)
theorem pm_214 : Cond.instanceMethod yX6_set ∈ ps_T := ps_in 214 (by decide +kernel) (by decide +kernel)
theorem pm_215 : Cond.selects RX6 yX6_set yX6_set ∈ ps_T := ps_in 215 (by decide +kernel) (by decide +kernel)
theorem pm_216 : Cond.code yX6_set cX6_set 3 (some .int) ∈ ps_T := ps_in 216 (by decide +kernel) (by decide +kernel)
theorem cw_L_90 : ps_cwV RL 90 RX6 yX6_set cX6_set 3 (some .int) 2 := ⟨⟨pm_213, pm_214, pm_215, pm_1, pm_216⟩, ⟨by decide, by decide⟩, by decide +kernel⟩
theorem pm_654 : Cond.methodLink RL 87 yX6_practise ∈ ps_T := ps_in 654 (by decide +kernel) (by decide +kernel)
theorem pm_655 : Cond.instanceMethod yX6_practise ∈ ps_T := ps_in 655 (by decide +kernel) (by decide +kernel)
theorem pm_656 : Cond.selects RX6 yX6_practise yX6_practise ∈ ps_T := ps_in 656 (by decide +kernel) (by decide +kernel)
theorem pm_657 : Cond.code yX6_practise cX6_practise 3 (some .int) ∈ ps_T := ps_in 657 (by decide +kernel) (by decide +kernel)
theorem cw_L_87 : ps_cwV RL 87 RX6 yX6_practise cX6_practise 3 (some .int) 2 := ⟨⟨pm_654, pm_655, pm_656, pm_1, pm_657⟩, ⟨by decide, by decide⟩, by decide +kernel⟩
theorem pm_650 : Cond.methodLink RL 84 yX6_hush ∈ ps_T := ps_in 650 (by decide +kernel) (by decide +kernel)
theorem pm_651 : Cond.instanceMethod yX6_hush ∈ ps_T := ps_in 651 (by decide +kernel) (by decide +kernel)
theorem pm_652 : Cond.selects RX6 yX6_hush yX6_hush ∈ ps_T := ps_in 652 (by decide +kernel) (by decide +kernel)
theorem pm_653 : Cond.code yX6_hush cX6_hush 2 (some .int) ∈ ps_T := ps_in 653 (by decide +kernel) (by decide +kernel)
theorem cw_L_84 : ps_cwV RL 84 RX6 yX6_hush cX6_hush 2 (some .int) 1 := ⟨⟨pm_650, pm_651, pm_652, pm_1, pm_653⟩, ⟨by decide, by decide⟩, by decide +kernel⟩
theorem pm_646 : Cond.methodLink RL 81 yX6_lesson ∈ ps_T := ps_in 646 (by decide +kernel) (by decide +kernel)
theorem pm_647 : Cond.instanceMethod yX6_lesson ∈ ps_T := ps_in 647 (by decide +kernel) (by decide +kernel)
theorem pm_648 : Cond.selects RX6 yX6_lesson yX6_lesson ∈ ps_T := ps_in 648 (by decide +kernel) (by decide +kernel)
theorem pm_649 : Cond.code yX6_lesson cX6_lesson 4 (some .int) ∈ ps_T := ps_in 649 (by decide +kernel) (by decide +kernel)
theorem cw_L_81 : ps_cwV RL 81 RX6 yX6_lesson cX6_lesson 4 (some .int) 3 := ⟨⟨pm_646, pm_647, pm_648, pm_1, pm_649⟩, ⟨by decide, by decide⟩, by decide +kernel⟩
theorem pm_523 : Cond.methodLink RL 79 yL_sings ∈ ps_T := ps_in 523 (by decide +kernel) (by decide +kernel)
theorem pm_524 : Cond.static yL_sings ∈ ps_T := ps_in 524 (by decide +kernel) (by decide +kernel)
theorem pm_525 : Cond.code yL_sings cL_sings 6 (some .boolean) ∈ ps_T := ps_in 525 (by decide +kernel) (by decide +kernel)
theorem cw_L_79 : ps_cwS RL 79 yL_sings cL_sings 6 (some .boolean) 2 := ⟨⟨pm_523, pm_524, pm_0, pm_525⟩, ⟨by decide, by decide⟩, by decide +kernel⟩
theorem pm_258 : Cond.methodLink RL 76 yX6_parrot ∈ ps_T := ps_in 258 (by decide +kernel) (by decide +kernel)
theorem pm_259 : Cond.instanceMethod yX6_parrot ∈ ps_T := ps_in 259 (by decide +kernel) (by decide +kernel)
theorem pm_260 : Cond.selects RX6 yX6_parrot yX6_parrot ∈ ps_T := ps_in 260 (by decide +kernel) (by decide +kernel)
theorem pm_261 : Cond.code yX6_parrot cX6_parrot 1 (some .int) ∈ ps_T := ps_in 261 (by decide +kernel) (by decide +kernel)
theorem cw_L_76 : ps_cwV RL 76 RX6 yX6_parrot cX6_parrot 1 (some .int) 0 := ⟨⟨pm_258, pm_259, pm_260, pm_1, pm_261⟩, ⟨by decide, by decide⟩, by decide +kernel⟩
