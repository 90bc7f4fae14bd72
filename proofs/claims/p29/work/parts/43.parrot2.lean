/-! the class's parrot: singing on, sums, a link, a copy, a night -/
def pa_str (L : List ps_L) (b : Option Nat) : Nat := match b with
  | none => 0
  | some j => (ps_lk L j).2.2.1
theorem pr_next {M : ps_M} {q : Nat} {L : List ps_L} (hR : ps_RL M q L) (hL : L.length ≤ 61) (hok : ps_okL L) {a : Nat} (ha : a < 26) : ff_X3_nextBehind q (nI a) M = some (ps_cl (ps_nx L a), M) := by
  unfold ff_X3_nextBehind
  rw [hR.1]
  show ps_let (ps_dn L.length) _ = _
  rw [ps_letE]
  have key : ∀ (k n : Nat) (b : Option Nat), k ≤ L.length → k < n → pa_best L a k L.length b → fk_X3_nextBehind_13 q n (nI a) (ps_cl (b.map (fun j => (ps_lk L j).2.1))) (nI (pa_str L b)) (ps_dn k) M = some (ps_cl (ps_nx L a), M) := by
    intro k
    induction k with
    | zero =>
      intro n b h1 h2 h3
      obtain ⟨n, rfl⟩ : ∃ m, n = m + 1 := ⟨n - 1, by omega⟩
      rw [fk_X3_nextBehind_13, ps_dn_0, if_pos (of_eq_true (ev_mlt (by omega) (by omega) (by omega)))]
      rw [pa_best_one h3 (ps_bst_best L a L.length)]
      rfl
    | succ k ih =>
      intro n b h1 h2 h3
      obtain ⟨n, rfl⟩ : ∃ m, n = m + 1 := ⟨n - 1, by omega⟩
      obtain ⟨r1, r2, r3, r4⟩ := hR.2 k (by omega)
      obtain ⟨o1, o2, o3, o4, o5⟩ := okL_at hok (show k < L.length by omega)
      have hs : pa_str L b ≤ 9 := by
        cases b with
        | none => exact Nat.zero_le _
        | some j => exact (okL_at hok h3.1.2.1).2.2.2.1
      have hd := pa_best_dn (by omega) h3
      rw [fk_X3_nextBehind_13, ps_dn_s]
      by_cases m1 : (ps_lk L k).1 = a
      · by_cases m2 : (ps_lk L k).2.2.1 ≤ pa_str L b
        · have hn : ¬ ((ps_lk L k).1 = a ∧ ∀ j, b = some j → (ps_lk L j).2.2.1 < (ps_lk L k).2.2.1) := fun z => by
            cases b with
            | none =>
              have : (ps_lk L k).2.2.1 ≤ 0 := m2
              omega
            | some j =>
              have h5 := z.2 j rfl
              have : (ps_lk L k).2.2.1 ≤ (ps_lk L j).2.2.1 := m2
              omega
          rw [if_neg hn] at hd
          simp (disch := omega) only [ps_letE, ps_b2E, nI_add, pk_mul, nI_clamp, ev_inB, nI_leI, nI_ltI, nI_eq, if_pos, if_neg, ev_eqm, ev_eqm2, ev_ltm, ev_lem, ev_mlt, ev_mle, ev_mm, ev_subm, pk_sub, ev_true, if_true, if_false, ite_true, ite_false, Option.map, ev_rs, ev_ra, ev_rj, ev_cpO, ps_isB1, ps_isB0, Nat.add_assoc, Nat.reduceAdd, r1, r2, r3, m1, ps_dn_m]
          exact ih n b (by omega) (by omega) hd
        · have hy : ((ps_lk L k).1 = a ∧ ∀ j, b = some j → (ps_lk L j).2.2.1 < (ps_lk L k).2.2.1) := ⟨m1, fun j e => by
            subst e
            have : ¬ (ps_lk L k).2.2.1 ≤ (ps_lk L j).2.2.1 := m2
            omega⟩
          rw [if_pos hy] at hd
          simp (disch := omega) only [ps_letE, ps_b2E, nI_add, pk_mul, nI_clamp, ev_inB, nI_leI, nI_ltI, nI_eq, if_pos, if_neg, ev_eqm, ev_eqm2, ev_ltm, ev_lem, ev_mlt, ev_mle, ev_mm, ev_subm, pk_sub, ev_true, if_true, if_false, ite_true, ite_false, Option.map, ev_rs, ev_ra, ev_rj, ev_cpO, ps_isB1, ps_isB0, Nat.add_assoc, Nat.reduceAdd, r1, r2, r3, m1, ps_dn_m]
          exact ih n (some k) (by omega) (by omega) hd
      · rw [if_neg (fun z => m1 z.1)] at hd
        simp (disch := omega) only [ps_letE, ps_b2E, nI_add, pk_mul, nI_clamp, ev_inB, nI_leI, nI_ltI, nI_eq, if_pos, if_neg, ev_eqm, ev_eqm2, ev_ltm, ev_lem, ev_mlt, ev_mle, ev_mm, ev_subm, pk_sub, ev_true, if_true, if_false, ite_true, ite_false, Option.map, ev_rs, ev_ra, ev_rj, ev_cpO, ps_isB1, ps_isB0, Nat.add_assoc, Nat.reduceAdd, r1, ps_dn_m]
        exact ih n b (by omega) (by omega) hd
  exact key L.length ps_fu none (Nat.le_refl _) (by unfold ps_fu; omega) (fun t h1 h2 => absurd h2 (Nat.not_lt.mpr h1))
def pa_sum (L : List ps_L) : Int32 := ps_fo (fun i s => s + nI (ps_lk L i).2.2.1) L.length (nI 0)
theorem pr_sum {M : ps_M} {q : Nat} {L : List ps_L} (hR : ps_RL M q L) (hL : L.length ≤ 61) : ff_X3_strengthInAll q M = some (pa_sum L, M) := by
  unfold ff_X3_strengthInAll
  refine (ps_whP (F := fun n i (s : Int32) => fk_X3_strengthInAll_4 q n s (nI i) M) (I := fun _ _ => True) L.length (fun _ _ => true) (fun i s => s + nI (ps_lk L i).2.2.1) (fun i s => some (s, M)) (fun n i s h1 h2 h3 => ?_) (fun n i s h1 h2 h3 => ⟨?_, trivial⟩) L.length ps_fu 0 (nI 0) (by omega) (by unfold ps_fu; omega) trivial).1
  · rw [fk_X3_strengthInAll_4, hR.1]
    have h4 : ¬ i < L.length := fun q => by simp at h3; omega
    simp (disch := omega) only [ps_letE, ps_b2E, nI_add, pk_mul, nI_clamp, ev_inB, nI_leI, nI_ltI, nI_eq, if_pos, if_neg, ev_eqm, ev_eqm2, ev_ltm, ev_lem, ev_mlt, ev_mle, ev_mm, ev_subm, pk_sub, ev_true, if_true, if_false, ite_true, ite_false, Option.map, ev_rs, ev_ra, ev_rj, ev_cpO, ps_isB1, ps_isB0]
  · rw [fk_X3_strengthInAll_4, hR.1]
    obtain ⟨r1, r2, r3, r4⟩ := hR.2 i h1
    simp (disch := omega) only [ps_letE, ps_b2E, nI_add, pk_mul, nI_clamp, ev_inB, nI_leI, nI_ltI, nI_eq, if_pos, if_neg, ev_eqm, ev_eqm2, ev_ltm, ev_lem, ev_mlt, ev_mle, ev_mm, ev_subm, pk_sub, ev_true, if_true, if_false, ite_true, ite_false, Option.map, ev_rs, ev_ra, ev_rj, ev_cpO, ps_isB1, ps_isB0, Nat.add_assoc, Nat.reduceAdd, r3]
/-- a column of a link -/
def pa_col (x : ps_L) (c : Nat) : Nat := if c = 0 then x.1 else if c = 1 then x.2.1 else if c = 2 then x.2.2.1 else x.2.2.2
theorem pr_ofLink {M : ps_M} {q : Nat} {L : List ps_L} (hR : ps_RL M q L) (hL : L.length ≤ 61) {k c : Nat} (hk : k < L.length) (hc : c < 4) : ff_X3_ofLink q (nI k) (nI c) M = some (nI (pa_col (ps_lk L (L.length - 1 - k)) c), M) := by
  unfold ff_X3_ofLink
  rw [hR.1]
  obtain ⟨r1, r2, r3, r4⟩ := hR.2 (L.length - 1 - k) (by omega)
  simp (disch := omega) only [ps_letE, ps_b2E, nI_add, pk_mul, nI_clamp, ev_inB, nI_leI, nI_ltI, nI_eq, if_pos, if_neg, ev_eqm, ev_eqm2, ev_ltm, ev_lem, ev_mlt, ev_mle, ev_mm, ev_subm, pk_sub, ev_true, if_true, if_false, ite_true, ite_false, Option.map, ev_rs, ev_ra, ev_rj, ev_cpO, ps_isB1, ps_isB0, Nat.add_assoc, Nat.reduceAdd]
  unfold pa_col
  rcases (by omega : c = 0 ∨ c = 1 ∨ c = 2 ∨ c = 3) with rfl | rfl | rfl | rfl
  · exact congrArg (fun z => some (z, M)) r1
  · exact congrArg (fun z => some (z, M)) r2
  · exact congrArg (fun z => some (z, M)) r3
  · exact congrArg (fun z => some (z, M)) r4
theorem pr_copy1 {M : ps_M} {q b c : Nat} (n : Nat) (hc : c < 4) : fk_X3_copyFrom_2 q (n + 1) b (nI c) M = fk_X3_copyFrom_2 q n b (nI (c + 1)) (ps_cp M (b + 2 + c) 0 (q + 2 + c) 0 61) := by
  rw [fk_X3_copyFrom_2]
  simp (disch := omega) only [ps_letE, ps_b2E, nI_add, pk_mul, nI_clamp, ev_inB, nI_leI, nI_ltI, nI_eq, if_pos, if_neg, ev_eqm, ev_eqm2, ev_ltm, ev_lem, ev_mlt, ev_mle, ev_mm, ev_subm, pk_sub, ev_true, if_true, if_false, ite_true, ite_false, Option.map, ev_rs, ev_ra, ev_rj, ev_cpO, ps_isB1, ps_isB0, Nat.reduceAdd]
theorem pr_copy {M : ps_M} {q b : Nat} {P : ps_P} (hR : ps_RP M b P) (hL : P.1.length ≤ 61) (hq : q + 6 ≤ b ∨ b + 6 ≤ q) : ∃ M1, ff_X3_copyFrom q b M = some (nI 0, M1) ∧ ps_RP M1 q P ∧ ps_Fr q (q + 6) M M1 := by
  unfold ff_X3_copyFrom
  obtain ⟨n, hn⟩ : ∃ n, ps_fu = n + 1 + 1 + 1 + 1 + 1 := ⟨9995, rfl⟩
  rw [hn, pr_copy1 _ (by omega : 0 < 4), pr_copy1 _ (by omega : 1 < 4), pr_copy1 _ (by omega : 2 < 4), pr_copy1 _ (by omega : 3 < 4), fk_X3_copyFrom_2]
  obtain ⟨R1, R2, R3, R4, R5⟩ := hR
  simp (disch := omega) only [ps_letE, ps_b2E, nI_add, pk_mul, nI_clamp, ev_inB, nI_leI, nI_ltI, nI_eq, if_pos, if_neg, ev_eqm, ev_eqm2, ev_ltm, ev_lem, ev_mlt, ev_mle, ev_mm, ev_subm, pk_sub, ev_true, if_true, if_false, ite_true, ite_false, Option.map, ev_rs, ev_ra, ev_rj, ev_cpO, ps_isB1, ps_isB0, Nat.add_assoc, Nat.reduceAdd, Nat.add_zero, Nat.zero_add, ev_ca, R1.1, R2, R3, R4, R5]
  refine ⟨_, rfl, ⟨⟨?_, fun j hj => ?_⟩, ?_, ?_, ?_, ?_⟩, ?_⟩
  · simp (disch := omega) only [ps_letE, ps_b2E, nI_add, pk_mul, nI_clamp, ev_inB, nI_leI, nI_ltI, nI_eq, if_pos, if_neg, ev_eqm, ev_eqm2, ev_ltm, ev_lem, ev_mlt, ev_mle, ev_mm, ev_subm, pk_sub, ev_true, if_true, if_false, ite_true, ite_false, Option.map, ev_rs, ev_ra, ev_rj, ev_cpO, ps_isB1, ps_isB0, ev_ca, R1.1]
  · obtain ⟨r1, r2, r3, r4⟩ := R1.2 j hj
    simp (disch := omega) only [ps_letE, ps_b2E, nI_add, pk_mul, nI_clamp, ev_inB, nI_leI, nI_ltI, nI_eq, if_pos, if_neg, ev_eqm, ev_eqm2, ev_ltm, ev_lem, ev_mlt, ev_mle, ev_mm, ev_subm, pk_sub, ev_true, if_true, if_false, ite_true, ite_false, Option.map, ev_rs, ev_ra, ev_rj, ev_cpO, ps_isB1, ps_isB0, ev_ca, ev_ci, Nat.sub_zero, Nat.zero_add, r1, r2, r3, r4, and_self]
  · simp (disch := omega) only [ps_letE, ps_b2E, nI_add, pk_mul, nI_clamp, ev_inB, nI_leI, nI_ltI, nI_eq, if_pos, if_neg, ev_eqm, ev_eqm2, ev_ltm, ev_lem, ev_mlt, ev_mle, ev_mm, ev_subm, pk_sub, ev_true, if_true, if_false, ite_true, ite_false, Option.map, ev_rs, ev_ra, ev_rj, ev_cpO, ps_isB1, ps_isB0]
  · simp (disch := omega) only [ps_letE, ps_b2E, nI_add, pk_mul, nI_clamp, ev_inB, nI_leI, nI_ltI, nI_eq, if_pos, if_neg, ev_eqm, ev_eqm2, ev_ltm, ev_lem, ev_mlt, ev_mle, ev_mm, ev_subm, pk_sub, ev_true, if_true, if_false, ite_true, ite_false, Option.map, ev_rs, ev_ra, ev_rj, ev_cpO, ps_isB1, ps_isB0]
  · simp (disch := omega) only [ps_letE, ps_b2E, nI_add, pk_mul, nI_clamp, ev_inB, nI_leI, nI_ltI, nI_eq, if_pos, if_neg, ev_eqm, ev_eqm2, ev_ltm, ev_lem, ev_mlt, ev_mle, ev_mm, ev_subm, pk_sub, ev_true, if_true, if_false, ite_true, ite_false, Option.map, ev_rs, ev_ra, ev_rj, ev_cpO, ps_isB1, ps_isB0]
  · simp (disch := omega) only [ps_letE, ps_b2E, nI_add, pk_mul, nI_clamp, ev_inB, nI_leI, nI_ltI, nI_eq, if_pos, if_neg, ev_eqm, ev_eqm2, ev_ltm, ev_lem, ev_mlt, ev_mle, ev_mm, ev_subm, pk_sub, ev_true, if_true, if_false, ite_true, ite_false, Option.map, ev_rs, ev_ra, ev_rj, ev_cpO, ps_isB1, ps_isB0]
  · exact ps_Fr_tr (ps_Fr_tr (ps_Fr_tr (ps_Fr_tr (ps_Fr_tr (ps_Fr_tr (ps_Fr_tr (ps_Fr_tr (ps_Fr_cp (by omega) (by omega)) (ps_Fr_cp (by omega) (by omega))) (ps_Fr_cp (by omega) (by omega))) (ps_Fr_cp (by omega) (by omega))) (ps_Fr_st (by omega) (by omega))) (ps_Fr_st (by omega) (by omega))) (ps_Fr_st (by omega) (by omega))) (ps_Fr_st (by omega) (by omega))) (ps_Fr_st (by omega) (by omega))
/-! a night -/
theorem nI_sublt {a b : Nat} (ha : a < 1000) (hb : b < 1000) : (nI a - nI b < nI 1) = (a < b + 1) := by
  refine propext ?_
  rw [Int32.lt_iff_toInt_lt, pk_sub_toInt (by omega) (by omega), nI_toInt (by omega)]
  omega
theorem fm_take {fade : Nat} {L : List ps_L} {i : Nat} (hi : i < L.length) : (L.take (i + 1)).filterMap (ps_fa fade) = (L.take i).filterMap (ps_fa fade) ++ (match ps_fa fade (ps_lk L i) with | none => [] | some y => [y]) := by
  have e : L.take (i + 1) = L.take i ++ [ps_lk L i] := by
    rw [List.take_succ]
    unfold ps_lk
    rw [List.getD_eq_getElem?_getD, List.getElem?_eq_getElem hi]
    rfl
  rw [e, List.filterMap_append]
  cases h : ps_fa fade (ps_lk L i) <;> simp [h]
def ps_at (M : ps_M) (q j : Nat) (x : ps_L) : Prop := ps_rd M (q + 2) j = nI x.1 ∧ ps_rd M (q + 3) j = nI x.2.1 ∧ ps_rd M (q + 4) j = nI x.2.2.1 ∧ ps_rd M (q + 5) j = nI x.2.2.2
theorem ps_at_w {M : ps_M} {q i j : Nat} {x y : ps_L} (h : ps_at M q j x) (hy : j = i → x = y) : ps_at (ps_st (ps_st (ps_st (ps_st M (q + 2) i (nI y.1)) (q + 3) i (nI y.2.1)) (q + 4) i (nI y.2.2.1)) (q + 5) i (nI y.2.2.2)) q j x := by
  by_cases e : j = i
  · rw [hy e, e]
    unfold ps_at
    simp (disch := omega) only [ps_letE, ps_b2E, nI_add, pk_mul, nI_clamp, ev_inB, nI_leI, nI_ltI, nI_eq, if_pos, if_neg, ev_eqm, ev_eqm2, ev_ltm, ev_lem, ev_mlt, ev_mle, ev_mm, ev_subm, pk_sub, ev_true, if_true, if_false, ite_true, ite_false, Option.map, ev_rs, ev_ra, ev_rj, ev_cpO, ps_isB1, ps_isB0, and_self]
  · unfold ps_at
    simp (disch := omega) only [ps_letE, ps_b2E, nI_add, pk_mul, nI_clamp, ev_inB, nI_leI, nI_ltI, nI_eq, if_pos, if_neg, ev_eqm, ev_eqm2, ev_ltm, ev_lem, ev_mlt, ev_mle, ev_mm, ev_subm, pk_sub, ev_true, if_true, if_false, ite_true, ite_false, Option.map, ev_rs, ev_ra, ev_rj, ev_cpO, ps_isB1, ps_isB0]
    exact h
def ps_RS (fade : Nat) (L : List ps_L) (q : Nat) (M0 : ps_M) (i k : Nat) (M : ps_M) : Prop := k = ((L.take i).filterMap (ps_fa fade)).length ∧ (∀ j, ps_rd M q j = ps_rd M0 q j) ∧ (∀ j, j < k → ps_at M q j (ps_lk ((L.take i).filterMap (ps_fa fade)) j)) ∧ (∀ j, i ≤ j → j < L.length → ps_at M q j (ps_lk L j)) ∧ ps_Fr q (q + 6) M0 M
theorem pr_sleep {M : ps_M} {q : Nat} {P : ps_P} (hR : ps_RP M q P) (hok : ps_ok P) {fade : Nat} (hf : fade ≤ 3) : ∃ M1, ff_X3_sleep q (nI fade) M = some (nI (P.1.length - (P.1.filterMap (ps_fa fade)).length), M1) ∧ ps_RP M1 q (ps_sl fade P) ∧ ps_Fr q (q + 6) M M1 := by
  obtain ⟨L, last, td, ia, fg⟩ := P
  obtain ⟨R1, R2, R3, R4, R5⟩ := hR
  obtain ⟨o1, o2, o3⟩ := hok
  dsimp only at R1 R2 R3 R4 R5 o1 o2 o3 ⊢
  unfold ff_X3_sleep
  refine Exists.elim (ps_whR (F := fun n i (k : Nat) M => fk_X3_sleep_4 q n (nI fade) (nI k) (nI i) M) (Rel := fun i k M1 => ps_RS fade L q M i k M1) L.length (fun _ _ => true) (fun i k => k + (match ps_fa fade (ps_lk L i) with | none => 0 | some _ => 1)) (fun i k M1 => some (nI (L.length - k), ps_st (ps_st (ps_st (ps_st M1 q 1 (nI k)) q 5 (fg + nI (L.length - k))) q 2 (ps_m 6)) q 3 (nI 0))) (fun n i k M1 h1 h2 h3 => ?_) (fun n i k M1 h1 h2 h3 => ?_) L.length ps_fu 0 0 M (by omega) (by unfold ps_fu; omega) ⟨rfl, fun _ => rfl, fun j h => absurd h (Nat.not_lt_zero j), fun j _ h => R1.2 j h, ps_Fr_rf⟩) (fun M1 z => ?_)
  rotate_left 2
  · obtain ⟨e, r⟩ := z
    rw [ps_wh_all, Nat.zero_add] at r
    obtain ⟨r1, r2, r3, r4, r5⟩ := r
    rw [List.take_length] at r1 r3
    rw [r1] at e r3
    refine ⟨_, e, ⟨⟨?_, fun j hj => ?_⟩, ?_, ?_, ?_, ?_⟩, ?_⟩
    · simp (disch := omega) only [ps_letE, ps_b2E, nI_add, pk_mul, nI_clamp, ev_inB, nI_leI, nI_ltI, nI_eq, if_pos, if_neg, ev_eqm, ev_eqm2, ev_ltm, ev_lem, ev_mlt, ev_mle, ev_mm, ev_subm, pk_sub, ev_true, if_true, if_false, ite_true, ite_false, Option.map, ev_rs, ev_ra, ev_rj, ev_cpO, ps_isB1, ps_isB0]
      rfl
    · obtain ⟨t1, t2, t3, t4⟩ := r3 j hj
      simp (disch := omega) only [ps_letE, ps_b2E, nI_add, pk_mul, nI_clamp, ev_inB, nI_leI, nI_ltI, nI_eq, if_pos, if_neg, ev_eqm, ev_eqm2, ev_ltm, ev_lem, ev_mlt, ev_mle, ev_mm, ev_subm, pk_sub, ev_true, if_true, if_false, ite_true, ite_false, Option.map, ev_rs, ev_ra, ev_rj, ev_cpO, ps_isB1, ps_isB0, t1, t2, t3, t4]
      exact ⟨rfl, rfl, rfl, rfl⟩
    · simp (disch := omega) only [ps_letE, ps_b2E, nI_add, pk_mul, nI_clamp, ev_inB, nI_leI, nI_ltI, nI_eq, if_pos, if_neg, ev_eqm, ev_eqm2, ev_ltm, ev_lem, ev_mlt, ev_mle, ev_mm, ev_subm, pk_sub, ev_true, if_true, if_false, ite_true, ite_false, Option.map, ev_rs, ev_ra, ev_rj, ev_cpO, ps_isB1, ps_isB0]
      rfl
    · simp (disch := omega) only [ps_letE, ps_b2E, nI_add, pk_mul, nI_clamp, ev_inB, nI_leI, nI_ltI, nI_eq, if_pos, if_neg, ev_eqm, ev_eqm2, ev_ltm, ev_lem, ev_mlt, ev_mle, ev_mm, ev_subm, pk_sub, ev_true, if_true, if_false, ite_true, ite_false, Option.map, ev_rs, ev_ra, ev_rj, ev_cpO, ps_isB1, ps_isB0]
      rfl
    · simp (disch := omega) only [ps_letE, ps_b2E, nI_add, pk_mul, nI_clamp, ev_inB, nI_leI, nI_ltI, nI_eq, if_pos, if_neg, ev_eqm, ev_eqm2, ev_ltm, ev_lem, ev_mlt, ev_mle, ev_mm, ev_subm, pk_sub, ev_true, if_true, if_false, ite_true, ite_false, Option.map, ev_rs, ev_ra, ev_rj, ev_cpO, ps_isB1, ps_isB0, r2, R4]
      rfl
    · simp (disch := omega) only [ps_letE, ps_b2E, nI_add, pk_mul, nI_clamp, ev_inB, nI_leI, nI_ltI, nI_eq, if_pos, if_neg, ev_eqm, ev_eqm2, ev_ltm, ev_lem, ev_mlt, ev_mle, ev_mm, ev_subm, pk_sub, ev_true, if_true, if_false, ite_true, ite_false, Option.map, ev_rs, ev_ra, ev_rj, ev_cpO, ps_isB1, ps_isB0]
      rfl
    · exact ps_Fr_tr r5 (ps_Fr_tr (ps_Fr_tr (ps_Fr_tr (ps_Fr_st (by omega) (by omega)) (ps_Fr_st (by omega) (by omega))) (ps_Fr_st (by omega) (by omega))) (ps_Fr_st (by omega) (by omega)))
  · have h4 : i = L.length := by
      by_cases q : i < L.length
      · exact absurd (h3 q) (by simp)
      · omega
    have hk : k ≤ L.length := by
      rw [h2.1]
      exact Nat.le_trans (List.length_filterMap_le _ _) (by rw [List.length_take]; omega)
    rw [fk_X3_sleep_4, h2.2.1 1, R1.1, h4]
    simp (disch := omega) only [ps_letE, ps_b2E, nI_add, pk_mul, nI_clamp, ev_inB, nI_leI, nI_ltI, nI_eq, if_pos, if_neg, ev_eqm, ev_eqm2, ev_ltm, ev_lem, ev_mlt, ev_mle, ev_mm, ev_subm, pk_sub, ev_true, if_true, if_false, ite_true, ite_false, Option.map, ev_rs, ev_ra, ev_rj, ev_cpO, ps_isB1, ps_isB0, h2.2.1, R5]
  · obtain ⟨r1, r2, r3, r4, r5⟩ := h2
    have hk : k ≤ i := by
      rw [r1]
      exact Nat.le_trans (List.length_filterMap_le _ _) (by rw [List.length_take]; omega)
    obtain ⟨t1, t2, t3, t4⟩ := r4 i (Nat.le_refl _) h1
    obtain ⟨u1, u2, u3, u4, u5⟩ := okL_at o2 h1
    have step : ∀ (y : ps_L), ps_fa fade (ps_lk L i) = some y → ps_RS fade L q M (i + 1) (k + 1) (ps_st (ps_st (ps_st (ps_st M1 (q + 2) k (nI y.1)) (q + 3) k (nI y.2.1)) (q + 4) k (nI y.2.2.1)) (q + 5) k (nI y.2.2.2)) := by
      intro y hy
      have ft := fm_take (fade := fade) h1
      rw [hy] at ft
      refine ⟨by rw [ft, List.length_append, r1]; rfl, fun j => ?_, fun j hj => ?_, fun j ha hb => ?_, ?_⟩
      · simp (disch := omega) only [ps_letE, ps_b2E, nI_add, pk_mul, nI_clamp, ev_inB, nI_leI, nI_ltI, nI_eq, if_pos, if_neg, ev_eqm, ev_eqm2, ev_ltm, ev_lem, ev_mlt, ev_mle, ev_mm, ev_subm, pk_sub, ev_true, if_true, if_false, ite_true, ite_false, Option.map, ev_rs, ev_ra, ev_rj, ev_cpO, ps_isB1, ps_isB0, r2]
      · rw [ft, lk_app, ← r1]
        by_cases c : j < k
        · rw [if_pos c]
          exact ps_at_w (r3 j c) (fun z => by omega)
        · have hj2 : j = k := by omega
          subst hj2
          rw [if_neg c, if_pos rfl]
          unfold ps_at
          simp (disch := omega) only [ps_letE, ps_b2E, nI_add, pk_mul, nI_clamp, ev_inB, nI_leI, nI_ltI, nI_eq, if_pos, if_neg, ev_eqm, ev_eqm2, ev_ltm, ev_lem, ev_mlt, ev_mle, ev_mm, ev_subm, pk_sub, ev_true, if_true, if_false, ite_true, ite_false, Option.map, ev_rs, ev_ra, ev_rj, ev_cpO, ps_isB1, ps_isB0, and_self]
      · exact ps_at_w (r4 j (by omega) hb) (fun z => by omega)
      · exact ps_Fr_tr r5 (ps_Fr_tr (ps_Fr_tr (ps_Fr_tr (ps_Fr_st (by omega) (by omega)) (ps_Fr_st (by omega) (by omega))) (ps_Fr_st (by omega) (by omega))) (ps_Fr_st (by omega) (by omega)))
    rw [fk_X3_sleep_4, r2 1, R1.1]
    by_cases c1 : (ps_lk L i).2.2.2 = 1
    · have hy : ps_fa fade (ps_lk L i) = some ((ps_lk L i).1, (ps_lk L i).2.1, (ps_lk L i).2.2.1, 0) := if_pos c1
      refine ⟨_, ?_, by rw [hy]; exact step _ hy⟩
      rw [hy]
      simp (disch := omega) only [ps_letE, ps_b2E, nI_add, pk_mul, nI_clamp, ev_inB, nI_leI, nI_ltI, nI_eq, if_pos, if_neg, ev_eqm, ev_eqm2, ev_ltm, ev_lem, ev_mlt, ev_mle, ev_mm, ev_subm, pk_sub, ev_true, if_true, if_false, ite_true, ite_false, Option.map, ev_rs, ev_ra, ev_rj, ev_cpO, ps_isB1, ps_isB0, Nat.add_assoc, Nat.reduceAdd, t1, t2, t3, t4, c1, fk_X3_sleep_37, Nat.sub_zero, pr_write]
    · by_cases c2 : (ps_lk L i).2.2.1 < fade + 1
      · have hy : ps_fa fade (ps_lk L i) = none := by unfold ps_fa; rw [if_neg c1, if_pos c2]
        refine ⟨M1, ?_, ?_⟩
        · rw [hy]
          have e4 : (ps_lk L i).2.2.2 = 0 := by omega
          simp (disch := omega) only [ps_letE, ps_b2E, nI_add, pk_mul, nI_clamp, ev_inB, nI_leI, nI_ltI, nI_eq, if_pos, if_neg, ev_eqm, ev_eqm2, ev_ltm, ev_lem, ev_mlt, ev_mle, ev_mm, ev_subm, pk_sub, ev_true, if_true, if_false, ite_true, ite_false, Option.map, ev_rs, ev_ra, ev_rj, ev_cpO, ps_isB1, ps_isB0, Nat.add_assoc, Nat.reduceAdd, t3, t4, e4, fk_X3_sleep_37, nI_sublt, Nat.add_zero]
        · have ft := fm_take (fade := fade) h1
          rw [hy] at ft ⊢
          simp only [List.append_nil] at ft
          exact ⟨by rw [ft]; exact r1, r2, fun j hj => by rw [ft]; exact r3 j hj, fun j ha hb => r4 j (by omega) hb, r5⟩
      · have hy : ps_fa fade (ps_lk L i) = some ((ps_lk L i).1, (ps_lk L i).2.1, (ps_lk L i).2.2.1 - fade, 0) := by unfold ps_fa; rw [if_neg c1, if_neg c2]
        refine ⟨_, ?_, by rw [hy]; exact step _ hy⟩
        rw [hy]
        have e4 : (ps_lk L i).2.2.2 = 0 := by omega
        simp (disch := omega) only [ps_letE, ps_b2E, nI_add, pk_mul, nI_clamp, ev_inB, nI_leI, nI_ltI, nI_eq, if_pos, if_neg, ev_eqm, ev_eqm2, ev_ltm, ev_lem, ev_mlt, ev_mle, ev_mm, ev_subm, pk_sub, ev_true, if_true, if_false, ite_true, ite_false, Option.map, ev_rs, ev_ra, ev_rj, ev_cpO, ps_isB1, ps_isB0, Nat.add_assoc, Nat.reduceAdd, t1, t2, t3, t4, e4, fk_X3_sleep_37, nI_sublt, pr_write]
