theorem pm_12 : Cond.instantiable RX6 6 ∈ ps_T := ps_in 12 (by decide +kernel) (by decide +kernel)
theorem pm_11 : Cond.classLink RL 10 RX6 ∈ ps_T := ps_in 11 (by decide +kernel) (by decide +kernel)
theorem pm_13 : Cond.methodLink RL 96 yX6_init ∈ ps_T := ps_in 13 (by decide +kernel) (by decide +kernel)
theorem pm_15 : Cond.code yX6_init cX6_init 2 none ∈ ps_T := ps_in 15 (by decide +kernel) (by decide +kernel)
theorem pm_14 : Cond.instanceMethod yX6_init ∈ ps_T := ps_in 14 (by decide +kernel) (by decide +kernel)
theorem lt_in {w : Cond} (i : Nat) (h : tables_1[i]? = some w) : w ∈ lw_tbl := List.mem_append_right _ (List.mem_of_getElem? h)
theorem st_hA {s : State} : ∀ a : Nat, a < s.heap.size → ¬ ps_A s.heap.size a := fun a h => Nat.not_le.mpr h
theorem st_ps_least {b : Nat} {s : State} (hts : ∀ w ∈ lw_tbl, w.before #[Value.ref b] s = true) (hgv : (Jvm.Cond.and given_1 narrow_1).before #[Value.ref b] s = true) : ∃ t : Nat, va_Z RX6 "LEAST_VALUES" "[I" (.ref t) (ps_A s.heap.size) s s.heap ∧ va_T .int t 4 (fun j => .int (ps_least j)) (ps_A s.heap.size) s s.heap := by
  have hs := flat_of_before _ hgv
  obtain ⟨t, ht, hT⟩ := va_Tof (tm := (.static RX6 "LEAST_VALUES" "[I")) (ty := .int) (N := 4) (f := fun j => .int (ps_least j)) (A := ps_A s.heap.size) (by decide) (hs (Cond.arrayOf (.static RX6 "LEAST_VALUES" "[I") .int) (by decide +kernel)) (va_eqt (hs (Cond.eq (.length (.static RX6 "LEAST_VALUES" "[I")) (.int (Int32.ofNat 4))) (by decide +kernel))) (fun j hj => by
    rcases (show j = 0 ∨ j = 1 ∨ j = 2 ∨ j = 3 by omega) with rfl | rfl | rfl | rfl
    · exact va_eqt (hs (Cond.eq (.elem (.static RX6 "LEAST_VALUES" "[I") (.int (Int32.ofNat 0))) (.int (ps_least 0))) (by decide +kernel))
    · exact va_eqt (hs (Cond.eq (.elem (.static RX6 "LEAST_VALUES" "[I") (.int (Int32.ofNat 1))) (.int (ps_least 1))) (by decide +kernel))
    · exact va_eqt (hs (Cond.eq (.elem (.static RX6 "LEAST_VALUES" "[I") (.int (Int32.ofNat 2))) (.int (ps_least 2))) (by decide +kernel))
    · exact va_eqt (hs (Cond.eq (.elem (.static RX6 "LEAST_VALUES" "[I") (.int (Int32.ofNat 3))) (.int (ps_least 3))) (by decide +kernel))) st_hA
  exact ⟨t, va_Zof (hts _ (lt_in 240 (by decide +kernel))) (hts _ (lt_in 1 (by decide +kernel))) ht st_hA, hT⟩
theorem st_ps_most {b : Nat} {s : State} (hts : ∀ w ∈ lw_tbl, w.before #[Value.ref b] s = true) (hgv : (Jvm.Cond.and given_1 narrow_1).before #[Value.ref b] s = true) : ∃ t : Nat, va_Z RX6 "MOST_VALUES" "[I" (.ref t) (ps_A s.heap.size) s s.heap ∧ va_T .int t 4 (fun j => .int (ps_most j)) (ps_A s.heap.size) s s.heap := by
  have hs := flat_of_before _ hgv
  obtain ⟨t, ht, hT⟩ := va_Tof (tm := (.static RX6 "MOST_VALUES" "[I")) (ty := .int) (N := 4) (f := fun j => .int (ps_most j)) (A := ps_A s.heap.size) (by decide) (hs (Cond.arrayOf (.static RX6 "MOST_VALUES" "[I") .int) (by decide +kernel)) (va_eqt (hs (Cond.eq (.length (.static RX6 "MOST_VALUES" "[I")) (.int (Int32.ofNat 4))) (by decide +kernel))) (fun j hj => by
    rcases (show j = 0 ∨ j = 1 ∨ j = 2 ∨ j = 3 by omega) with rfl | rfl | rfl | rfl
    · exact va_eqt (hs (Cond.eq (.elem (.static RX6 "MOST_VALUES" "[I") (.int (Int32.ofNat 0))) (.int (ps_most 0))) (by decide +kernel))
    · exact va_eqt (hs (Cond.eq (.elem (.static RX6 "MOST_VALUES" "[I") (.int (Int32.ofNat 1))) (.int (ps_most 1))) (by decide +kernel))
    · exact va_eqt (hs (Cond.eq (.elem (.static RX6 "MOST_VALUES" "[I") (.int (Int32.ofNat 2))) (.int (ps_most 2))) (by decide +kernel))
    · exact va_eqt (hs (Cond.eq (.elem (.static RX6 "MOST_VALUES" "[I") (.int (Int32.ofNat 3))) (.int (ps_most 3))) (by decide +kernel))) st_hA
  exact ⟨t, va_Zof (hts _ (lt_in 242 (by decide +kernel))) (hts _ (lt_in 1 (by decide +kernel))) ht st_hA, hT⟩
theorem st_ps_first {b : Nat} {s : State} (hts : ∀ w ∈ lw_tbl, w.before #[Value.ref b] s = true) (hgv : (Jvm.Cond.and given_1 narrow_1).before #[Value.ref b] s = true) : ∃ t : Nat, va_Z RX6 "FIRST_VALUES" "[I" (.ref t) (ps_A s.heap.size) s s.heap ∧ va_T .int t 4 (fun j => .int (ps_first j)) (ps_A s.heap.size) s s.heap := by
  have hs := flat_of_before _ hgv
  obtain ⟨t, ht, hT⟩ := va_Tof (tm := (.static RX6 "FIRST_VALUES" "[I")) (ty := .int) (N := 4) (f := fun j => .int (ps_first j)) (A := ps_A s.heap.size) (by decide) (hs (Cond.arrayOf (.static RX6 "FIRST_VALUES" "[I") .int) (by decide +kernel)) (va_eqt (hs (Cond.eq (.length (.static RX6 "FIRST_VALUES" "[I")) (.int (Int32.ofNat 4))) (by decide +kernel))) (fun j hj => by
    rcases (show j = 0 ∨ j = 1 ∨ j = 2 ∨ j = 3 by omega) with rfl | rfl | rfl | rfl
    · exact va_eqt (hs (Cond.eq (.elem (.static RX6 "FIRST_VALUES" "[I") (.int (Int32.ofNat 0))) (.int (ps_first 0))) (by decide +kernel))
    · exact va_eqt (hs (Cond.eq (.elem (.static RX6 "FIRST_VALUES" "[I") (.int (Int32.ofNat 1))) (.int (ps_first 1))) (by decide +kernel))
    · exact va_eqt (hs (Cond.eq (.elem (.static RX6 "FIRST_VALUES" "[I") (.int (Int32.ofNat 2))) (.int (ps_first 2))) (by decide +kernel))
    · exact va_eqt (hs (Cond.eq (.elem (.static RX6 "FIRST_VALUES" "[I") (.int (Int32.ofNat 3))) (.int (ps_first 3))) (by decide +kernel))) st_hA
  exact ⟨t, va_Zof (hts _ (lt_in 51 (by decide +kernel))) (hts _ (lt_in 1 (by decide +kernel))) ht st_hA, hT⟩
theorem st_arr {b : Nat} {s : State} {ty : FieldType} (h : (Cond.arrayClass ty).before #[Value.ref b] s = true) (hra : ∀ cA : ClassId, s.vm.findClass ("[" ++ ty.toString) = some cA → va_RA s cA ty) (hne : ("[" ++ ty.toString) = (FieldType.array ty).toString) : ∃ cA, ArrOfT s cA ty ∧ va_RA s cA ty := by
  obtain ⟨cA, k, cm, g1, g2, g3⟩ := Cond.arrayClass_spec h
  exact ⟨cA, fun n z => ⟨fun q hq => (by cases hq), k, g2, cm, g3⟩, hra cA (by rw [hne]; exact g1)⟩
theorem st_ao {b : Nat} {s : State} {C : String} (h : (Cond.arrayOver (.object C)).before #[Value.ref b] s = true) : ∃ cA, ArrOfT s cA (.object C) ∧ va_RA s cA (.object C) := by
  obtain ⟨comp, cA, k, h1, h2, h3, h4, h5⟩ := Cond.arrayOver_spec h
  exact ⟨cA, fun n z => ⟨fun q hq => (by cases hq), k, h3, comp, h4⟩, k, comp, h3, h4, h1, h5⟩
theorem st_K {b : Nat} {s : State} (hts : ∀ w ∈ lw_tbl, w.before #[Value.ref b] s = true) (hgv : (Jvm.Cond.and given_1 narrow_1).before #[Value.ref b] s = true) : ∃ D : va_G, pc_K s.heap.size D s := by
  have hT : ∀ w ∈ ps_T, w.before #[Value.ref b] s = true := fun w h => hts w (List.mem_filter.mp h).1
  obtain ⟨c0, i0, k0⟩ := u_known (n := 3) hT inX0 (hT _ pm_115)
  obtain ⟨c1, i1, k1⟩ := u_known (n := 6) hT inX1 (hT _ pm_20)
  obtain ⟨c2, i2, k2⟩ := u_known (n := 2) hT inX2 (hT _ pm_141)
  obtain ⟨c3, i3, k3⟩ := u_known (n := 6) hT inX3 (hT _ pm_55)
  obtain ⟨c4, i4, k4⟩ := u_known (n := 9) hT inX4 (hT _ pm_135)
  obtain ⟨c5, i5, k5⟩ := u_known (n := 4) hT inX5 (hT _ pm_26)
  obtain ⟨c6, i6, k6⟩ := u_known (n := 6) hT inX6 (hT _ pm_12)
  obtain ⟨d0, e0, f0⟩ := st_arr (ty := .int) (hT _ pm_47) (fun _ h => h) rfl
  obtain ⟨d1, e1, f1⟩ := st_arr (ty := .char) (hT _ pm_155) (fun _ h => h) rfl
  obtain ⟨d2, e2, f2⟩ := st_arr (ty := .boolean) (hT _ pm_212) (fun _ h => h) rfl
  have hov : (Cond.arrayOver (.array .int)).before #[Value.ref b] s = true := hts _ (lt_in 32 (by decide +kernel))
  have hH : (Cond.arrayOver (.object RX1)).before #[Value.ref b] s = true := hts _ (lt_in 121 (by decide +kernel))
  have hQ : (Cond.arrayOver (.object RX3)).before #[Value.ref b] s = true := hts _ (lt_in 49 (by decide +kernel))
  obtain ⟨d4, e4, f4⟩ := st_ao hH
  obtain ⟨d5, e5, f5⟩ := st_ao hQ
  have hAA := mn_AA.of hov (hT _ pm_47)
  obtain ⟨d3, cB, cc, kA, kB, g1, g2, g3, g4, g5, g6⟩ := hAA
  have e3 : ArrOfT s d3 (.array .int) := fun n z => ⟨fun q hq => (by cases hq), kA, g2, cB, g3⟩
  have f3 : va_RA s d3 (.array .int) := g1
  obtain ⟨t1, z1⟩ := st_ps_least hts hgv
  obtain ⟨t2, z2⟩ := st_ps_most hts hgv
  obtain ⟨t3, z3⟩ := st_ps_first hts hgv
  refine ⟨(fun j => match j with | 0 => c0 | 1 => c1 | 2 => c2 | 3 => c3 | 4 => c4 | 5 => c5 | 6 => c6 | 10 => d0 | 11 => d1 | 12 => d2 | 13 => d3 | 14 => d4 | _ => d5, fun j => match j with | 0 => i0 | 1 => i1 | 2 => i2 | 3 => i3 | 4 => i4 | 5 => i5 | _ => i6), ⟨⟨fun j q hj => ?_, fun j q hj => ?_⟩, ⟨va_Nw.of rfl (hts (.fieldLinkNest RX1 55 RX6 "LEAST_VALUES" "[I" RX6) (lt_in 239 (by decide +kernel))), va_Nw.of rfl (hts (.fieldLinkNest RX1 58 RX6 "MOST_VALUES" "[I" RX6) (lt_in 241 (by decide +kernel))), va_Nw.of rfl (hts (.methodLinkNest RX0 28 yX6_isError RX6) (lt_in 247 (by decide +kernel)))⟩, t1, t2, t3, z1, z2, z3⟩, ⟨va_Nw.of rfl (hts (.methodLinkNest RX6 25 yX4_init RX6) (lt_in 136 (by decide +kernel))), va_Nw.of rfl (hts (.methodLinkNest RX6 40 yX3_init RX6) (lt_in 192 (by decide +kernel))), va_Nw.of rfl (hts (.methodLinkNest RX1 17 yX5_init RX6) (lt_in 27 (by decide +kernel))), va_Nw.of rfl (hts (.methodLinkNest RX1 47 yX3_init RX6) (lt_in 56 (by decide +kernel))), va_Nw.of rfl (hts (.methodLinkNest RX4 11 yX2_init RX6) (lt_in 142 (by decide +kernel))), va_Nw.of rfl (hts (.fieldLinkNest RX1 38 RX6 "FIRST_VALUES" "[I" RX6) (lt_in 50 (by decide +kernel)))⟩, va_AO.of hH, va_AO.of hQ, mn_AA.of hov (hT _ pm_47)⟩
  · have hlt : j < 7 := (List.getElem?_eq_some_iff.mp hj).1
    rcases (show j = 0 ∨ j = 1 ∨ j = 2 ∨ j = 3 ∨ j = 4 ∨ j = 5 ∨ j = 6 by omega) with rfl | rfl | rfl | rfl | rfl | rfl | rfl
    · cases hj
      exact k0
    · cases hj
      exact k1
    · cases hj
      exact k2
    · cases hj
      exact k3
    · cases hj
      exact k4
    · cases hj
      exact k5
    · cases hj
      exact k6
  · have hlt : j < 6 := (List.getElem?_eq_some_iff.mp hj).1
    rcases (show j = 0 ∨ j = 1 ∨ j = 2 ∨ j = 3 ∨ j = 4 ∨ j = 5 by omega) with rfl | rfl | rfl | rfl | rfl | rfl
    · cases hj
      exact ⟨e0, f0⟩
    · cases hj
      exact ⟨e1, f1⟩
    · cases hj
      exact ⟨e2, f2⟩
    · cases hj
      exact ⟨e3, f3⟩
    · cases hj
      exact ⟨e4, f4⟩
    · cases hj
      exact ⟨e5, f5⟩
/-- the law's road from its entry to pc 8 -/
theorem st_walk {X : ps_X} (C : pc_C X RL cL_law 0 room_1) {b : Nat} (k : ∀ g : Nat → va_E, pg X 415 415 12964 (pc_cut (xb X) (xD X) 0 g) 8 [some (.ref b), some (.ref (xb X + 0)), none, none, none, none, none, none] []) (g : Nat → va_E) : pg X 0 0 0 g 0 [some (.ref b), none, none, none, none, none, none, none] [] := by
  refine pg_new C (ci := 6) (CN := RX6) (T := TX6) (ty := tyX6) [.null, .null, .null, .null, .null, .null] tyX6_ok inX6 pm_11 pm_12 pm_1 rfl (fun j hj => by rcases (show j = 0 ∨ j = 1 ∨ j = 2 ∨ j = 3 ∨ j = 4 ∨ j = 5 by omega) with rfl | rfl | rfl | rfl | rfl | rfl <;> rfl) rfl (Nat.le_of_ble_eq_true rfl) (Nat.le_of_ble_eq_true rfl) dL_law_0 ?_
  refine pg_n (n1 := 0 + 1) (kc1 := 1) (ks1 := 6) rfl rfl rfl ?_
  refine pg_dup C rfl dL_law_3 ?_
  refine pg_goI C (a := 0) (mc := 414) (ms := 12958) (j := 4) (g1 := _) (ct_X6 (xl X) (xb X) (xD X) 0 _ rfl up_eq) pm_13 pm_1 pm_15 pm_14 ⟨⟨by decide, by decide⟩, by decide +kernel, rfl⟩ rfl ⟨Nat.le_of_ble_eq_true rfl, Nat.le_of_ble_eq_true rfl⟩ ⟨Nat.le_of_ble_eq_true rfl, Nat.le_of_ble_eq_true rfl⟩ (Nat.le_of_ble_eq_true rfl) dL_law_4 ?_
  refine pg_n (n1 := 415) (kc1 := 415) (ks1 := 12964) rfl rfl rfl ?_
  refine pg_astore1 C rfl dL_law_7 ?_
  exact k _
