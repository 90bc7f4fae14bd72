theorem ps_sld {X : ps_X} {own : String} {cc : ByteArray} (C : ps_C X own cc) {M : ps_M} {pc : Nat} {lv : List (Option Value)} {stk : List Value} {b L : Nat} {sc : Nat → Int32} {i : Int32} (hX : va_X b L sc (xs X) (xs X).heap) (hbl : b < xb X ∧ b < (xs X).heap.size) (hi : ps_inB i L = true) (hd : decode cc pc = .ok (.iaload, 1)) (k : ps_G X M (pc + 1) lv (.int (sc i.toNatClampNeg) :: stk)) : ps_G X M pc lv (.int i :: .ref b :: stk) := fun H locs ls hP hR hS hl => va_sld C.1 C.2.1 hX hbl.2 (Nat.not_le.mpr hbl.1) hS (ps_inB_in hi) hd (k H locs ls hP hR hS hl)
theorem ps_slen {X : ps_X} {own : String} {cc : ByteArray} (C : ps_C X own cc) {M : ps_M} {pc : Nat} {lv : List (Option Value)} {stk : List Value} {b L : Nat} {sc : Nat → Int32} (hX : va_X b L sc (xs X) (xs X).heap) (hbl : b < xb X ∧ b < (xs X).heap.size) (hd : decode cc pc = .ok (.arraylength, 1)) (k : ps_G X M (pc + 1) lv (.int (Int32.ofNat L) :: stk)) : ps_G X M pc lv (.ref b :: stk) := fun H locs ls hP hR hS hl => va_slen C.1 C.2.1 hX hbl.2 (Nat.not_le.mpr hbl.1) hS hd (k H locs ls hP hR hS hl)
theorem ps_ldc {X : ps_X} {own : String} {cc : ByteArray} (C : ps_C X own cc) {M : ps_M} {pc : Nat} {lv : List (Option Value)} {stk : List Value} {i : Nat} {v : Int32} (hm : Jvm.Cond.constant own i v ∈ ps_T) (hd : decode cc pc = .ok (.ldc i, 2)) (k : ps_G X M (pc + 2) lv (.int v :: stk)) : ps_G X M pc lv stk := fun H locs ls hP hR hS hl => lv_ldc C.1 C.2.1 C.2.2.2.1 (C.2.2.2.2.1 _ hm) hd (k H locs ls hP hR hS hl)
/-! a method that reads the law's script -/
def ps_Sx (sb Ls : Nat) (sc : Nat → Int32) (b : Nat) (U : State) : Prop := va_X sb Ls sc U U.heap ∧ (sb < b ∧ sb < U.heap.size)
abbrev ps_Tc (l : Launch) (b : Nat) (D : va_G) (sb Ls : Nat) (sc : Nat → Int32) (y : MethodName) (cc : ByteArray) (maxL : Nat) (ty : FieldType) (j : Nat) (As : List Value) (M : ps_M) (r : Int32) (M1 : ps_M) : Prop := Met l y (ps_ws y cc maxL (some ty)) (ps_lvl j) (va_Pc As (fun U => ps_W b D M U ∧ ps_Sx sb Ls sc b U)) (ps_Qi b D M1 r) 0 0 (ps_A b)
theorem ps_blindc {As : List Value} {b : Nat} {D : va_G} {M : ps_M} {sb Ls : Nat} {sc : Nat → Int32} : FrameBlind (va_Pc As (fun U => ps_W b D M U ∧ ps_Sx sb Ls sc b U)) := fun a U g mk q => by
  obtain ⟨q0, q1, q2, q3⟩ := q
  obtain ⟨r0, r1⟩ := ps_blind a U g mk ⟨q0, q1⟩
  exact ⟨r0, r1, va_X.moved (u := U) (U := U.calling g mk a) (Vm.Alike.refl U.vm) q2, q3⟩
theorem ps_goS_c {X : ps_X} {own : String} {cc : ByteArray} (C : ps_C X own cc) {M : ps_M} {pc : Nat} {lv : List (Option Value)} {stk : List Value} {sb Ls : Nat} {sc : Nat → Int32} (hX : va_X sb Ls sc (xs X) (xs X).heap) (hbl : sb < xb X ∧ sb < (xs X).heap.size) {y : MethodName} {bytes : ByteArray} {maxL idx n j : Nat} {ty : FieldType} {As rest : List Value} {M1 : ps_M} {r : Int32} (hM : ps_Tc (xl X) (xb X) (xD X) sb Ls sc y bytes maxL ty j As M r M1) (hw : ps_cwS own idx y bytes maxL (some ty) n) (hR : j + 1 ≤ (xR X).frames ∧ 8 + (maxL + 11) + 30 * j ≤ (xR X).locals) (hst : stk = As.reverse ++ rest) (hn : As.length = n) (hcat : (rest.map fun v => v.category).sum ≤ 8) (hd : decode cc pc = .ok (.invokestatic idx, 3)) (k : ps_G X M1 (pc + 3) lv (.int r :: rest)) : ps_G X M pc lv stk := fun H locs ls hP hR0 hS hl => by
  subst hst
  have hsz : (xs X).heap.size ≤ H.size := hS.1
  refine va_calli (va_runS (As := As) (rest := rest) ⟨C.1, C.2.1, C.2.2.1, C.2.2.2.1, C.2.2.2.2.1⟩ hM ⟨ps_cb C hw.1.1 hw.1.2.2.1 hw.1.2.2.2 hw.2.1 hw.2.2 hR, C.2.2.2.2.1 _ hw.1.2.1⟩ ⟨ps_blindc, fun U hU hW => ⟨rfl, ⟨by rw [hU]; exact hP, hR0, ps_K_warm hW hU hS C.2.2.2.2.2.1⟩, va_X.moved hW.alike (va_X.kept hX (by rw [hU]; exact hS.2.1 sb hbl.2 (Nat.not_le.mpr hbl.1))), hbl.1, by rw [hU]; exact Nat.lt_of_lt_of_le hbl.2 hsz⟩⟩ rfl hn hl.2.1 rfl (lv_room hcat) hd ⟨C.2.2.2.2.2.2.2.1, C.2.2.2.2.2.2.2.2⟩) hS (fun q _ h => h) (fun q h => h) (fun r' u t H1 locs1 ht hvm hw' hB hz1 hk1 hS1 => ?_)
  obtain ⟨rfl, rfl⟩ := hw'
  exact k H1 locs1 ls (by rw [← ht]; exact hB.1) hB.2.1 hS1 hl
theorem ps_met_c {l : Launch} {b : Nat} {D : va_G} {sb Ls : Nat} {sc : Nat → Int32} {y : MethodName} {own : String} {cc : ByteArray} {maxL j : Nat} {ty : FieldType} {As : List Value} {lv : List (Option Value)} {M M1 : ps_M} {r : Int32} (hy : plainName y.cls = true) (ho : y.cls = own) (hn : lv.length = maxL) (ha : (lg_sl As).length ≤ maxL) (hp : ps_pairs 0 lv = lv_args 0 As)
    (hb : ∀ X : ps_X, xl X = l → xb X = b → xD X = D → xR X = ps_lvl j → xn X = maxL → ps_C X own cc → va_X sb Ls sc (xs X) (xs X).heap → (sb < xb X ∧ sb < (xs X).heap.size) → (∀ pc lv, decode cc pc = .ok (.ireturn, 1) → narrow ty (.int r) = .int r → ps_G X M1 pc lv [.int r]) → ps_G X M 0 lv []) : ps_Tc l b D sb Ls sc y cc maxL ty j As M r M1 := by
  refine Met.ofW (cc := cc) (maxL := maxL) (ret := some ty) hy rfl ?_
  intro p e s m args below meth c s₁ B hml hv
  obtain ⟨rfl, ⟨hP, hR, hK⟩, hXs, hXb⟩ := hv
  have hts := atoms_spec (ws := ps_ws y cc maxL (some ty)) B.pre
  have hown : s.vm.findClass own = some m.cls := by rw [← ho]; exact findClass_of_methodNamed B.named
  have hlocks := B.notSynchronized
  have hr := B.returns
  let X : ps_X := (p, l, e, ps_lvl j, s, m, As.toArray, below, meth, c, 0, 0, maxL, b, D, MQ below (ps_Qi b D M1 r) As.toArray s 0 0 (ps_A b))
  have hC : ps_C X own cc := ⟨B.exec, B.bytes, hml, hown, fun w hw => hts w (List.mem_cons_of_mem _ hw), hK, hlocks, Nat.zero_le _, Nat.zero_le _⟩
  have hG := hb X rfl rfl rfl rfl rfl hC hXs hXb (fun pc lv' hd hnr H locs ls hP' hR' hS hl => W.zret (ty := ty) B.exec B.bytes hr hnr (fun t ht hW => ⟨⟨r, M1, rfl, ⟨rfl, rfl⟩, by rw [ht]; exact hP', hR', ps_K_warm hW ht hS hK⟩, hS.F ht⟩) hS.2.2 hd hlocks)
  rw [lg_entry_eq]
  exact hG s.heap [] _ hP hR va_S.rf (ps_entry hn ha hp)
theorem pm_406 : Cond.constant RL 7 (nI 15485959) ∈ ps_T := ps_in 406 (by decide +kernel) (by decide +kernel)
theorem pj_8508 : (Int16.ofInt (8508)).toInt32 = (nI 8508) := by decide
theorem pm_407 : Cond.constant RL 8 (nI 2147483647) ∈ ps_T := ps_in 407 (by decide +kernel) (by decide +kernel)
theorem pb_36 : (Int8.ofInt (36)).toInt32 = (nI 36) := by decide
theorem pm_386 : Cond.methodLink RL 97 yX6_undo ∈ ps_T := ps_in 386 (by decide +kernel) (by decide +kernel)
theorem pm_387 : Cond.instanceMethod yX6_undo ∈ ps_T := ps_in 387 (by decide +kernel) (by decide +kernel)
theorem pm_388 : Cond.selects RX6 yX6_undo yX6_undo ∈ ps_T := ps_in 388 (by decide +kernel) (by decide +kernel)
theorem pm_389 : Cond.code yX6_undo cX6_undo 1 (some .int) ∈ ps_T := ps_in 389 (by decide +kernel) (by decide +kernel)
theorem cw_L_97 : ps_cwV RL 97 RX6 yX6_undo cX6_undo 1 (some .int) 0 := ⟨⟨pm_386, pm_387, pm_388, pm_1, pm_389⟩, ⟨by decide, by decide⟩, by decide +kernel⟩
theorem pm_399 : Cond.methodLink RL 100 yX6_restore ∈ ps_T := ps_in 399 (by decide +kernel) (by decide +kernel)
theorem pm_400 : Cond.instanceMethod yX6_restore ∈ ps_T := ps_in 400 (by decide +kernel) (by decide +kernel)
theorem pm_401 : Cond.selects RX6 yX6_restore yX6_restore ∈ ps_T := ps_in 401 (by decide +kernel) (by decide +kernel)
theorem pm_402 : Cond.code yX6_restore cX6_restore 2 (some .int) ∈ ps_T := ps_in 402 (by decide +kernel) (by decide +kernel)
theorem cw_L_100 : ps_cwV RL 100 RX6 yX6_restore cX6_restore 2 (some .int) 1 := ⟨⟨pm_399, pm_400, pm_401, pm_1, pm_402⟩, ⟨by decide, by decide⟩, by decide +kernel⟩
theorem pm_408 : Cond.methodLink RL 120 yL_areSongs ∈ ps_T := ps_in 408 (by decide +kernel) (by decide +kernel)
theorem pm_409 : Cond.static yL_areSongs ∈ ps_T := ps_in 409 (by decide +kernel) (by decide +kernel)
set_option maxRecDepth 100000 in
theorem pm_410 : Cond.code yL_areSongs cL_areSongs 10 (some .boolean) ∈ ps_T := ps_in 410 rfl (by decide +kernel)
theorem cw_L_120 : ps_cwS RL 120 yL_areSongs cL_areSongs 10 (some .boolean) 1 := ⟨⟨pm_408, pm_409, pm_0, pm_410⟩, ⟨by decide, by decide⟩, by decide +kernel⟩
theorem pm_506 : Cond.methodLink RL 113 yL_areSums ∈ ps_T := ps_in 506 (by decide +kernel) (by decide +kernel)
theorem pm_507 : Cond.static yL_areSums ∈ ps_T := ps_in 507 (by decide +kernel) (by decide +kernel)
set_option maxRecDepth 100000 in
theorem pm_508 : Cond.code yL_areSums cL_areSums 8 (some .boolean) ∈ ps_T := ps_in 508 rfl (by decide +kernel)
theorem cw_L_113 : ps_cwS RL 113 yL_areSums cL_areSums 8 (some .boolean) 1 := ⟨⟨pm_506, pm_507, pm_0, pm_508⟩, ⟨by decide, by decide⟩, by decide +kernel⟩
theorem pm_347 : Cond.methodLink RL 103 yX6_bestLesson ∈ ps_T := ps_in 347 (by decide +kernel) (by decide +kernel)
theorem pm_348 : Cond.instanceMethod yX6_bestLesson ∈ ps_T := ps_in 348 (by decide +kernel) (by decide +kernel)
theorem pm_349 : Cond.selects RX6 yX6_bestLesson yX6_bestLesson ∈ ps_T := ps_in 349 (by decide +kernel) (by decide +kernel)
theorem pm_350 : Cond.code yX6_bestLesson cX6_bestLesson 8 (some .int) ∈ ps_T := ps_in 350 (by decide +kernel) (by decide +kernel)
theorem cw_L_103 : ps_cwV RL 103 RX6 yX6_bestLesson cX6_bestLesson 8 (some .int) 2 := ⟨⟨pm_347, pm_348, pm_349, pm_1, pm_350⟩, ⟨by decide, by decide⟩, by decide +kernel⟩
theorem pm_394 : Cond.methodLink RL 117 yX6_save ∈ ps_T := ps_in 394 (by decide +kernel) (by decide +kernel)
theorem pm_395 : Cond.instanceMethod yX6_save ∈ ps_T := ps_in 395 (by decide +kernel) (by decide +kernel)
theorem pm_396 : Cond.selects RX6 yX6_save yX6_save ∈ ps_T := ps_in 396 (by decide +kernel) (by decide +kernel)
theorem pm_397 : Cond.code yX6_save cX6_save 2 (some .int) ∈ ps_T := ps_in 397 (by decide +kernel) (by decide +kernel)
theorem cw_L_117 : ps_cwV RL 117 RX6 yX6_save cX6_save 2 (some .int) 1 := ⟨⟨pm_394, pm_395, pm_396, pm_1, pm_397⟩, ⟨by decide, by decide⟩, by decide +kernel⟩
theorem pm_643 : Cond.methodLink RL 110 yL_acts ∈ ps_T := ps_in 643 (by decide +kernel) (by decide +kernel)
theorem pm_644 : Cond.static yL_acts ∈ ps_T := ps_in 644 (by decide +kernel) (by decide +kernel)
set_option maxRecDepth 100000 in
theorem pm_645 : Cond.code yL_acts cL_acts 22 (some .boolean) ∈ ps_T := ps_in 645 rfl (by decide +kernel)
theorem cw_L_110 : ps_cwS RL 110 yL_acts cL_acts 22 (some .boolean) 2 := ⟨⟨pm_643, pm_644, pm_0, pm_645⟩, ⟨by decide, by decide⟩, by decide +kernel⟩
theorem pm_403 : Cond.methodLink RL 106 yL_cell ∈ ps_T := ps_in 403 (by decide +kernel) (by decide +kernel)
theorem pm_404 : Cond.static yL_cell ∈ ps_T := ps_in 404 (by decide +kernel) (by decide +kernel)
set_option maxRecDepth 100000 in
theorem pm_405 : Cond.code yL_cell cL_cell 2 (some .int) ∈ ps_T := ps_in 405 rfl (by decide +kernel)
theorem cw_L_106 : ps_cwS RL 106 yL_cell cL_cell 2 (some .int) 2 := ⟨⟨pm_403, pm_404, pm_0, pm_405⟩, ⟨by decide, by decide⟩, by decide +kernel⟩
theorem pb_50 : (Int8.ofInt (50)).toInt32 = (nI 50) := by decide
