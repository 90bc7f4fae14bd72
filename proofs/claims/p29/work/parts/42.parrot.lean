/-! the class's parrot -/
theorem pr_find {M : ps_M} {q : Nat} {L : List ps_L} (hR : ps_RL M q L) (hL : L.length ≤ 61) (hok : ps_okL L) {a b : Nat} (ha : a < 26) (hb : b < 26) : ff_X3_find q (nI a) (nI b) M = some (if ps_fd L a b < L.length then nI (ps_fd L a b) else ps_m 6, M) := by
  unfold ff_X3_find
  refine (ps_scP (F := fun n i => fk_X3_find_2 q n (nI a) (nI b) (nI i) M) L.length _ (fun i => some (if i < L.length then nI i else ps_m 6, M)) (fun n i h1 h2 => ?_) (fun n i h1 h2 => ?_) L.length ps_fu 0 (Nat.zero_add _) (by unfold ps_fu; omega))
  · rw [fk_X3_find_2, hR.1]
    by_cases h : i < L.length
    · have h3 := of_decide_eq_true (by simpa using h2 h : decide ((ps_lk L i).1 = a ∧ (ps_lk L i).2.1 = b) = true)
      obtain ⟨r1, r2, r3, r4⟩ := hR.2 i h
      simp (disch := omega) only [ps_letE, ps_b2E, nI_add, pk_mul, nI_clamp, ev_inB, nI_leI, nI_ltI, nI_eq, if_pos, if_neg, ev_eqm, ev_eqm2, ev_ltm, ev_lem, ev_mlt, ev_mle, ev_mm, ev_subm, pk_sub, ev_true, if_true, if_false, ite_true, ite_false, Option.map, ev_rs, ev_ra, ev_rj, ev_cpO, ps_isB1, ps_isB0, Nat.add_assoc, Nat.reduceAdd, r1, r2, h3.1, h3.2]
    · simp (disch := omega) only [ps_letE, ps_b2E, nI_add, pk_mul, nI_clamp, ev_inB, nI_leI, nI_ltI, nI_eq, if_pos, if_neg, ev_eqm, ev_eqm2, ev_ltm, ev_lem, ev_mlt, ev_mle, ev_mm, ev_subm, pk_sub, ev_true, if_true, if_false, ite_true, ite_false, Option.map, ev_rs, ev_ra, ev_rj, ev_cpO, ps_isB1, ps_isB0]
  · rw [fk_X3_find_2, hR.1]
    obtain ⟨r1, r2, r3, r4⟩ := hR.2 i h1
    obtain ⟨o1, o2, -⟩ := okL_at hok h1
    by_cases m1 : (ps_lk L i).1 = a
    · have m2 : ¬ (ps_lk L i).2.1 = b := fun e => by simp [m1, e] at h2
      simp (disch := omega) only [ps_letE, ps_b2E, nI_add, pk_mul, nI_clamp, ev_inB, nI_leI, nI_ltI, nI_eq, if_pos, if_neg, ev_eqm, ev_eqm2, ev_ltm, ev_lem, ev_mlt, ev_mle, ev_mm, ev_subm, pk_sub, ev_true, if_true, if_false, ite_true, ite_false, Option.map, ev_rs, ev_ra, ev_rj, ev_cpO, ps_isB1, ps_isB0, Nat.add_assoc, Nat.reduceAdd, r1, r2, m1]
    · simp (disch := omega) only [ps_letE, ps_b2E, nI_add, pk_mul, nI_clamp, ev_inB, nI_leI, nI_ltI, nI_eq, if_pos, if_neg, ev_eqm, ev_eqm2, ev_ltm, ev_lem, ev_mlt, ev_mle, ev_mm, ev_subm, pk_sub, ev_true, if_true, if_false, ite_true, ite_false, Option.map, ev_rs, ev_ra, ev_rj, ev_cpO, ps_isB1, ps_isB0, Nat.add_assoc, Nat.reduceAdd, r1, r2]
theorem pr_weakest {M : ps_M} {q : Nat} {L : List ps_L} (hR : ps_RL M q L) (hL : L.length ≤ 61) (h0 : 0 < L.length) (hok : ps_okL L) : ff_X3_weakest q M = some (nI (pa_wk L), M) := by
  unfold ff_X3_weakest
  refine (ps_whP (F := fun n i (w : Nat) => fk_X3_weakest_4 q n (nI w) (nI i) M) (I := fun i w => w < L.length) L.length (fun _ _ => true) (fun i w => if (ps_lk L i).2.2.1 < (ps_lk L w).2.2.1 then i else w) (fun i w => some (nI w, M)) (fun n i w h1 h2 h3 => ?_) (fun n i w h1 h2 h3 => ?_) (L.length - 1) ps_fu 1 0 (by omega) (by unfold ps_fu; omega) h0).1
  · rw [fk_X3_weakest_4, hR.1]
    have h4 : ¬ i < L.length := fun q => by simp at h3; omega
    simp (disch := omega) only [ps_letE, ps_b2E, nI_add, pk_mul, nI_clamp, ev_inB, nI_leI, nI_ltI, nI_eq, if_pos, if_neg, ev_eqm, ev_eqm2, ev_ltm, ev_lem, ev_mlt, ev_mle, ev_mm, ev_subm, pk_sub, ev_true, if_true, if_false, ite_true, ite_false, Option.map, ev_rs, ev_ra, ev_rj, ev_cpO, ps_isB1, ps_isB0]
  · rw [fk_X3_weakest_4, hR.1]
    obtain ⟨-, -, r3, -⟩ := hR.2 i h1
    obtain ⟨-, -, t3, -⟩ := hR.2 w h2
    obtain ⟨-, -, -, o1, -⟩ := okL_at hok h1
    obtain ⟨-, -, -, o2, -⟩ := okL_at hok h2
    by_cases m : (ps_lk L i).2.2.1 < (ps_lk L w).2.2.1
    · refine ⟨?_, by rw [if_pos m]; exact h1⟩
      rw [if_pos m]
      simp (disch := omega) only [ps_letE, ps_b2E, nI_add, pk_mul, nI_clamp, ev_inB, nI_leI, nI_ltI, nI_eq, if_pos, if_neg, ev_eqm, ev_eqm2, ev_ltm, ev_lem, ev_mlt, ev_mle, ev_mm, ev_subm, pk_sub, ev_true, if_true, if_false, ite_true, ite_false, Option.map, ev_rs, ev_ra, ev_rj, ev_cpO, ps_isB1, ps_isB0, Nat.add_assoc, Nat.reduceAdd, r3, t3]
    · refine ⟨?_, by rw [if_neg m]; exact h2⟩
      rw [if_neg m]
      simp (disch := omega) only [ps_letE, ps_b2E, nI_add, pk_mul, nI_clamp, ev_inB, nI_leI, nI_ltI, nI_eq, if_pos, if_neg, ev_eqm, ev_eqm2, ev_ltm, ev_lem, ev_mlt, ev_mle, ev_mm, ev_subm, pk_sub, ev_true, if_true, if_false, ite_true, ite_false, Option.map, ev_rs, ev_ra, ev_rj, ev_cpO, ps_isB1, ps_isB0, Nat.add_assoc, Nat.reduceAdd, r3, t3]
theorem pr_rem1 {M : ps_M} {q l i c : Nat} (n : Nat) (hi : i < l) (hL : l ≤ 61) (hc : c < 4) (h : ps_rd M q 1 = nI l) : fk_X3_remove_15 q (n + 1) (nI i) (nI c) M = fk_X3_remove_15 q n (nI i) (nI (c + 1)) (ps_cp M (q + 2 + c) (i + 1) (q + 2 + c) i (l - i - 1)) := by
  rw [fk_X3_remove_15, h]
  simp (disch := omega) only [ps_letE, ps_b2E, nI_add, pk_mul, nI_clamp, ev_inB, nI_leI, nI_ltI, nI_eq, if_pos, if_neg, ev_eqm, ev_eqm2, ev_ltm, ev_lem, ev_mlt, ev_mle, ev_mm, ev_subm, pk_sub, ev_true, if_true, if_false, ite_true, ite_false, Option.map, ev_rs, ev_ra, ev_rj, ev_cpO, ps_isB1, ps_isB0, Nat.reduceAdd]
theorem pr_remove {M : ps_M} {q : Nat} {L : List ps_L} {i : Nat} (hR : ps_RL M q L) (hL : L.length ≤ 61) (hi : i < L.length) : ∃ M1, ff_X3_remove q (nI i) M = some (nI 0, M1) ∧ ps_RL M1 q (L.eraseIdx i) ∧ ps_Fr q (q + 6) M M1 ∧ ∀ j, j ≠ 1 → ps_rd M1 q j = ps_rd M q j := by
  unfold ff_X3_remove
  rw [hR.1]
  obtain ⟨n, hn⟩ : ∃ n, ps_fu = n + 1 + 1 + 1 + 1 + 1 := ⟨9995, rfl⟩
  rw [hn]
  simp (disch := omega) only [ps_letE, ps_b2E, nI_add, pk_mul, nI_clamp, ev_inB, nI_leI, nI_ltI, nI_eq, if_pos, if_neg, ev_eqm, ev_eqm2, ev_ltm, ev_lem, ev_mlt, ev_mle, ev_mm, ev_subm, pk_sub, ev_true, if_true, if_false, ite_true, ite_false, Option.map, ev_rs, ev_ra, ev_rj, ev_cpO, ps_isB1, ps_isB0]
  rw [pr_rem1 _ hi hL (by omega : 0 < 4) hR.1, pr_rem1 _ hi hL (by omega : 1 < 4) (by rw [ev_ca (by omega)]; exact hR.1), pr_rem1 _ hi hL (by omega : 2 < 4) (by rw [ev_ca (by omega), ev_ca (by omega)]; exact hR.1), pr_rem1 _ hi hL (by omega : 3 < 4) (by rw [ev_ca (by omega), ev_ca (by omega), ev_ca (by omega)]; exact hR.1), fk_X3_remove_15]
  simp (disch := omega) only [ps_letE, ps_b2E, nI_add, pk_mul, nI_clamp, ev_inB, nI_leI, nI_ltI, nI_eq, if_pos, if_neg, ev_eqm, ev_eqm2, ev_ltm, ev_lem, ev_mlt, ev_mle, ev_mm, ev_subm, pk_sub, ev_true, if_true, if_false, ite_true, ite_false, Option.map, ev_rs, ev_ra, ev_rj, ev_cpO, ps_isB1, ps_isB0, ev_ca, hR.1]
  refine ⟨_, rfl, ⟨?_, fun j hj => ?_⟩, ?_, fun j hj => ?_⟩
  · rw [ev_rs, len_erase hi]
  · rw [len_erase hi] at hj
    rw [lk_erase]
    by_cases h : j < i
    · obtain ⟨r1, r2, r3, r4⟩ := hR.2 j (by omega)
      rw [if_pos h]
      simp (disch := omega) only [ps_letE, ps_b2E, nI_add, pk_mul, nI_clamp, ev_inB, nI_leI, nI_ltI, nI_eq, if_pos, if_neg, ev_eqm, ev_eqm2, ev_ltm, ev_lem, ev_mlt, ev_mle, ev_mm, ev_subm, pk_sub, ev_true, if_true, if_false, ite_true, ite_false, Option.map, ev_rs, ev_ra, ev_rj, ev_cpO, ps_isB1, ps_isB0, ev_ca, ev_co, r1, r2, r3, r4, and_self]
    · obtain ⟨r1, r2, r3, r4⟩ := hR.2 (j + 1) (by omega)
      have e : i + 1 + (j - i) = j + 1 := by omega
      rw [if_neg h]
      simp (disch := omega) only [ps_letE, ps_b2E, nI_add, pk_mul, nI_clamp, ev_inB, nI_leI, nI_ltI, nI_eq, if_pos, if_neg, ev_eqm, ev_eqm2, ev_ltm, ev_lem, ev_mlt, ev_mle, ev_mm, ev_subm, pk_sub, ev_true, if_true, if_false, ite_true, ite_false, Option.map, ev_rs, ev_ra, ev_rj, ev_cpO, ps_isB1, ps_isB0, ev_ca, ev_ci, e, r1, r2, r3, r4, and_self]
  · exact ps_Fr_tr (ps_Fr_tr (ps_Fr_tr (ps_Fr_tr (ps_Fr_cp (by omega) (by omega)) (ps_Fr_cp (by omega) (by omega))) (ps_Fr_cp (by omega) (by omega))) (ps_Fr_cp (by omega) (by omega))) (ps_Fr_st (by omega) (by omega))
  · simp (disch := omega) only [ps_letE, ps_b2E, nI_add, pk_mul, nI_clamp, ev_inB, nI_leI, nI_ltI, nI_eq, if_pos, if_neg, ev_eqm, ev_eqm2, ev_ltm, ev_lem, ev_mlt, ev_mle, ev_mm, ev_subm, pk_sub, ev_true, if_true, if_false, ite_true, ite_false, Option.map, ev_rs, ev_ra, ev_rj, ev_cpO, ps_isB1, ps_isB0, ev_ca]
theorem ps_RL_st {M : ps_M} {q j : Nat} {v : Int32} {L : List ps_L} (h : ps_RL M q L) (hj : j ≠ 1) : ps_RL (ps_st M q j v) q L := by
  refine ⟨by rw [ev_rj (Ne.symm hj)]; exact h.1, fun i hi => ?_⟩
  rw [ev_ra (by omega), ev_ra (by omega), ev_ra (by omega), ev_ra (by omega)]
  exact h.2 i hi
theorem pr_write {M : ps_M} {q i : Nat} (hi : i < 61) (a b c d : Int32) : ff_X3_write q (nI i) a b c d M = some (nI 0, ps_st (ps_st (ps_st (ps_st M (q + 2) i a) (q + 3) i b) (q + 4) i c) (q + 5) i d) := by
  unfold ff_X3_write
  simp (disch := omega) only [ps_letE, ps_b2E, nI_add, pk_mul, nI_clamp, ev_inB, nI_leI, nI_ltI, nI_eq, if_pos, if_neg, ev_eqm, ev_eqm2, ev_ltm, ev_lem, ev_mlt, ev_mle, ev_mm, ev_subm, pk_sub, ev_true, if_true, if_false, ite_true, ite_false, Option.map, ev_rs, ev_ra, ev_rj, ev_cpO, ps_isB1, ps_isB0, Nat.add_assoc, Nat.reduceAdd]
theorem pr_grow42 {M : ps_M} {q : Nat} {L : List ps_L} (hR : ps_RL M q L) (hL : L.length ≤ 60) (a b t : Nat) (z1 z2 : Int32) : ∃ M1, fk_X3_grow_42 q (nI a) (nI b) z1 (nI t) z2 M = some (nI 0, M1) ∧ ps_RL M1 q (L ++ [(a, b, t, 1)]) ∧ ps_Fr q (q + 6) M M1 ∧ ∀ j, j ≠ 1 → ps_rd M1 q j = ps_rd M q j := by
  unfold fk_X3_grow_42
  rw [hR.1]
  simp (disch := omega) only [ps_letE, ps_b2E, nI_add, pk_mul, nI_clamp, ev_inB, nI_leI, nI_ltI, nI_eq, if_pos, if_neg, ev_eqm, ev_eqm2, ev_ltm, ev_lem, ev_mlt, ev_mle, ev_mm, ev_subm, pk_sub, ev_true, if_true, if_false, ite_true, ite_false, Option.map, ev_rs, ev_ra, ev_rj, ev_cpO, ps_isB1, ps_isB0, pr_write, hR.1]
  refine ⟨_, rfl, ⟨?_, fun j hj => ?_⟩, ?_, fun j hj => ?_⟩
  · rw [ev_rs]
    simp
  · rw [List.length_append] at hj
    rw [lk_app]
    by_cases h : j < L.length
    · obtain ⟨r1, r2, r3, r4⟩ := hR.2 j h
      rw [if_pos h]
      simp (disch := omega) only [ps_letE, ps_b2E, nI_add, pk_mul, nI_clamp, ev_inB, nI_leI, nI_ltI, nI_eq, if_pos, if_neg, ev_eqm, ev_eqm2, ev_ltm, ev_lem, ev_mlt, ev_mle, ev_mm, ev_subm, pk_sub, ev_true, if_true, if_false, ite_true, ite_false, Option.map, ev_rs, ev_ra, ev_rj, ev_cpO, ps_isB1, ps_isB0, r1, r2, r3, r4, and_self]
    · have e : j = L.length := by simp at hj; omega
      subst e
      rw [if_neg h, if_pos rfl]
      simp (disch := omega) only [ps_letE, ps_b2E, nI_add, pk_mul, nI_clamp, ev_inB, nI_leI, nI_ltI, nI_eq, if_pos, if_neg, ev_eqm, ev_eqm2, ev_ltm, ev_lem, ev_mlt, ev_mle, ev_mm, ev_subm, pk_sub, ev_true, if_true, if_false, ite_true, ite_false, Option.map, ev_rs, ev_ra, ev_rj, ev_cpO, ps_isB1, ps_isB0, and_self]
  · exact ps_Fr_tr (ps_Fr_tr (ps_Fr_tr (ps_Fr_tr (ps_Fr_st (by omega) (by omega)) (ps_Fr_st (by omega) (by omega))) (ps_Fr_st (by omega) (by omega))) (ps_Fr_st (by omega) (by omega))) (ps_Fr_st (by omega) (by omega))
  · simp (disch := omega) only [ps_letE, ps_b2E, nI_add, pk_mul, nI_clamp, ev_inB, nI_leI, nI_ltI, nI_eq, if_pos, if_neg, ev_eqm, ev_eqm2, ev_ltm, ev_lem, ev_mlt, ev_mle, ev_mm, ev_subm, pk_sub, ev_true, if_true, if_false, ite_true, ite_false, Option.map, ev_rs, ev_ra, ev_rj, ev_cpO, ps_isB1, ps_isB0]
theorem pr_grow {M : ps_M} {q : Nat} {L : List ps_L} (hR : ps_RL M q L) (hL : L.length ≤ 60) (hok : ps_okL L) {a b gain : Nat} (ha : a < 26) (hb : b < 26) (h3 : gain ≤ 3) : ∃ M1, ff_X3_grow q (nI a) (nI b) (nI gain) M = some (nI 0, M1) ∧ ps_RL M1 q (ps_gr gain a b L) ∧ ps_Fr q (q + 6) M M1 ∧ ∀ j, j ≠ 1 → ps_rd M1 q j = ps_rd M q j := by
  unfold ff_X3_grow
  rw [pr_find hR (by omega) hok ha hb]
  unfold ps_gr
  by_cases k : ps_fd L a b < L.length
  · obtain ⟨-, -, r3, -⟩ := hR.2 _ k
    obtain ⟨-, -, o1, o2, -⟩ := okL_at hok k
    obtain ⟨M2, e2, R2, F2, k2⟩ := pr_remove hR (by omega) k
    have hm : (if nI ((ps_lk L (ps_fd L a b)).2.2.1 + gain) < nI 9 then nI ((ps_lk L (ps_fd L a b)).2.2.1 + gain) else nI 9) = nI (min 9 ((ps_lk L (ps_fd L a b)).2.2.1 + gain)) := by
      by_cases c : (ps_lk L (ps_fd L a b)).2.2.1 + gain < 9
      · rw [if_pos (nI_lt c (by omega)), Nat.min_eq_right (by omega)]
      · rw [if_neg (nI_nlt (by omega) (by omega)), Nat.min_eq_left (by omega)]
    obtain ⟨M3, e3, R3, F3, k3⟩ := pr_grow42 R2 (by rw [len_erase k]; omega) a b (min 9 ((ps_lk L (ps_fd L a b)).2.2.1 + gain)) (nI gain) (nI (ps_fd L a b))
    rw [if_pos k, if_pos k]
    simp (disch := omega) only [ps_b2E, ps_letE, ev_eqm, if_false, nI_clamp, Nat.add_assoc, Nat.reduceAdd, ev_inB, ev_true, if_true, r3, nI_add, hm, e2]
    exact ⟨M3, e3, R3, ps_Fr_tr F2 F3, fun j hj => (k3 j hj).trans (k2 j hj)⟩
  · rw [if_neg k, if_neg k]
    simp only [ps_b2E, if_true]
    exact pr_grow42 hR hL a b gain (nI gain) (ps_m 6)
theorem pr_hear45 {M : ps_M} {q : Nat} {P : ps_P} (hR : ps_RL M q P.1) (h3 : ps_rd M q 3 = P.2.2.1) (h4 : ps_rd M q 4 = P.2.2.2.1) (h5 : ps_rd M q 5 = P.2.2.2.2) (bar : Nat) (z1 z2 : Int32) : ∃ M1, fk_X3_hear_45 q (nI bar) z1 z2 M = some (nI 0, M1) ∧ ps_RP M1 q (P.1, some bar, P.2.2.1 + nI 1, P.2.2.2.1 + nI 1, P.2.2.2.2) ∧ ps_Fr q (q + 6) M M1 := by
  unfold fk_X3_hear_45
  simp only [ps_letE]
  refine ⟨_, rfl, ⟨⟨?_, fun j hj => ?_⟩, ?_, ?_, ?_, ?_⟩, ps_Fr_tr (ps_Fr_tr (ps_Fr_st (by omega) (by omega)) (ps_Fr_st (by omega) (by omega))) (ps_Fr_st (by omega) (by omega))⟩
  · simp (disch := omega) only [ps_letE, ps_b2E, nI_add, pk_mul, nI_clamp, ev_inB, nI_leI, nI_ltI, nI_eq, if_pos, if_neg, ev_eqm, ev_eqm2, ev_ltm, ev_lem, ev_mlt, ev_mle, ev_mm, ev_subm, pk_sub, ev_true, if_true, if_false, ite_true, ite_false, Option.map, ev_rs, ev_ra, ev_rj, ev_cpO, ps_isB1, ps_isB0, hR.1]
  · obtain ⟨r1, r2, r3, r4⟩ := hR.2 j hj
    simp (disch := omega) only [ps_letE, ps_b2E, nI_add, pk_mul, nI_clamp, ev_inB, nI_leI, nI_ltI, nI_eq, if_pos, if_neg, ev_eqm, ev_eqm2, ev_ltm, ev_lem, ev_mlt, ev_mle, ev_mm, ev_subm, pk_sub, ev_true, if_true, if_false, ite_true, ite_false, Option.map, ev_rs, ev_ra, ev_rj, ev_cpO, ps_isB1, ps_isB0, r1, r2, r3, r4, and_self]
  · simp (disch := omega) only [ps_letE, ps_b2E, nI_add, pk_mul, nI_clamp, ev_inB, nI_leI, nI_ltI, nI_eq, if_pos, if_neg, ev_eqm, ev_eqm2, ev_ltm, ev_lem, ev_mlt, ev_mle, ev_mm, ev_subm, pk_sub, ev_true, if_true, if_false, ite_true, ite_false, Option.map, ev_rs, ev_ra, ev_rj, ev_cpO, ps_isB1, ps_isB0, ps_cl]
  · simp (disch := omega) only [ps_letE, ps_b2E, nI_add, pk_mul, nI_clamp, ev_inB, nI_leI, nI_ltI, nI_eq, if_pos, if_neg, ev_eqm, ev_eqm2, ev_ltm, ev_lem, ev_mlt, ev_mle, ev_mm, ev_subm, pk_sub, ev_true, if_true, if_false, ite_true, ite_false, Option.map, ev_rs, ev_ra, ev_rj, ev_cpO, ps_isB1, ps_isB0, h3]
  · simp (disch := omega) only [ps_letE, ps_b2E, nI_add, pk_mul, nI_clamp, ev_inB, nI_leI, nI_ltI, nI_eq, if_pos, if_neg, ev_eqm, ev_eqm2, ev_ltm, ev_lem, ev_mlt, ev_mle, ev_mm, ev_subm, pk_sub, ev_true, if_true, if_false, ite_true, ite_false, Option.map, ev_rs, ev_ra, ev_rj, ev_cpO, ps_isB1, ps_isB0, h4]
  · simp (disch := omega) only [ps_letE, ps_b2E, nI_add, pk_mul, nI_clamp, ev_inB, nI_leI, nI_ltI, nI_eq, if_pos, if_neg, ev_eqm, ev_eqm2, ev_ltm, ev_lem, ev_mlt, ev_mle, ev_mm, ev_subm, pk_sub, ev_true, if_true, if_false, ite_true, ite_false, Option.map, ev_rs, ev_ra, ev_rj, ev_cpO, ps_isB1, ps_isB0, h5]
theorem pr_hear {M : ps_M} {q : Nat} {P : ps_P} (hR : ps_RP M q P) (hok : ps_ok P) {span gain bar : Nat} (hb : bar < 26) (h1 : 1 ≤ gain) (h2 : gain ≤ 3) (h3 : span ≤ 60) : ∃ M1, ff_X3_hear q (nI bar) (nI gain) (nI span) M = some (nI 0, M1) ∧ ps_RP M1 q (ps_hr span gain bar P) ∧ ps_Fr q (q + 6) M M1 := by
  obtain ⟨L, last, td, ia, fg⟩ := P
  obtain ⟨R1, R2, R3, R4, R5⟩ := hR
  obtain ⟨o1, o2, o3⟩ := hok
  dsimp only at R1 R2 R3 R4 R5 o1 o2 o3
  unfold ff_X3_hear
  rw [R2]
  cases last with
  | none =>
    simp only [ps_cl, if_true]
    exact pr_hear45 (P := (L, none, td, ia, fg)) R1 R3 R4 R5 bar (nI gain) (nI span)
  | some a =>
    have ha := o3 a rfl
    obtain ⟨g1, g2, g3⟩ := okL_gr o2 ha hb h1 h2
    obtain ⟨M2, e2, S2, F2, k2⟩ := pr_grow R1 o1 o2 ha hb h2
    unfold ps_hr
    simp (disch := omega) only [ps_cl, ev_eqm, if_false, ps_b2E, e2, S2.1, nI_leI]
    by_cases c : span < (ps_gr gain a bar L).length
    · obtain ⟨M3, e3, S3, F3, k3⟩ := pr_remove S2 (by omega) (pa_wk_lt g3)
      rw [if_neg (by omega), if_pos c]
      rw [pr_weakest S2 (by omega) g3 g1]
      simp only [ps_b2E, e3, ps_letE]
      obtain ⟨M4, e4, S4, F4⟩ := pr_hear45 (M := ps_st M3 q 5 (ps_rd M3 q 5 + nI 1)) (P := ((ps_gr gain a bar L).eraseIdx (pa_wk (ps_gr gain a bar L)), some a, td, ia, fg + nI 1)) (ps_RL_st S3 (by omega)) (by rw [ev_rj (by omega), k3 3 (by omega), k2 3 (by omega)]; exact R3) (by rw [ev_rj (by omega), k3 4 (by omega), k2 4 (by omega)]; exact R4) (by rw [ev_rs, k3 5 (by omega), k2 5 (by omega), R5]) bar (nI gain) (nI span)
      exact ⟨M4, e4, S4, ps_Fr_tr (ps_Fr_tr (ps_Fr_tr F2 F3) (ps_Fr_st (by omega) (by omega))) F4⟩
    · rw [if_pos (by omega), if_neg c]
      obtain ⟨M4, e4, S4, F4⟩ := pr_hear45 (M := M2) (P := (ps_gr gain a bar L, some a, td, ia, fg)) S2 ((k2 3 (by omega)).trans R3) ((k2 4 (by omega)).trans R4) ((k2 5 (by omega)).trans R5) bar (nI gain) (nI span)
      exact ⟨M4, e4, S4, ps_Fr_tr F2 F4⟩
