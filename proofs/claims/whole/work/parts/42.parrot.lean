/-! the class's parrot -/
theorem pr_find {M : ps_M} {q : Nat} {L : List ps_L} (hR : ps_RL M q L) (hL : L.length ≤ 61) (hok : ps_okL L) {a b : Nat} (ha : a < 26) (hb : b < 26) : ff_X3_find q (nI a) (nI b) M = some (if ps_fd L a b < L.length then nI (ps_fd L a b) else ps_m 6, M) := by
  unfold ff_X3_find
  refine (ps_scP (F := fun n i => fk_X3_find_2 q n (nI a) (nI b) (nI i) M) L.length _ (fun i => some (if i < L.length then nI i else ps_m 6, M)) (fun n i h1 h2 => ?_) (fun n i h1 h2 => ?_) L.length ps_fu 0 (Nat.zero_add _) (by unfold ps_fu; omega))
  · dsimp only
    rw [fk_X3_find_2, hR.1]
    by_cases h : i < L.length
    · have h3 := of_decide_eq_true (by simpa using h2 h : decide ((ps_lk L i).1 = a ∧ (ps_lk L i).2.1 = b) = true)
      obtain ⟨r1, r2, r3, r4⟩ := hR.2 i h
      simp (disch := omega) only [ps_letE, ps_b2E, nI_add, pk_mul, nI_clamp, ev_inB, nI_leI, nI_ltI, nI_eq, if_pos, if_neg, ev_eqm, ev_eqm2, ev_ltm, ev_lem, ev_mlt, ev_mle, ev_mm, ev_subm, pk_sub, ev_true, if_true, if_false, ite_true, ite_false, Option.map, ev_rs, ev_ra, ev_rj, Nat.add_assoc, Nat.reduceAdd, r1, r2, h3.1, h3.2]
    · simp (disch := omega) only [ps_letE, ps_b2E, nI_add, pk_mul, nI_clamp, ev_inB, nI_leI, nI_ltI, nI_eq, if_pos, if_neg, ev_eqm, ev_eqm2, ev_ltm, ev_lem, ev_mlt, ev_mle, ev_mm, ev_subm, pk_sub, ev_true, if_true, if_false, ite_true, ite_false, Option.map, ev_rs, ev_ra, ev_rj]
  · dsimp only
    rw [fk_X3_find_2, hR.1]
    obtain ⟨r1, r2, r3, r4⟩ := hR.2 i h1
    obtain ⟨o1, o2, -⟩ := hok.1 i h1
    by_cases m1 : (ps_lk L i).1 = a
    · have m2 : ¬ (ps_lk L i).2.1 = b := fun e => by simp [m1, e] at h2
      simp (disch := omega) only [ps_letE, ps_b2E, nI_add, pk_mul, nI_clamp, ev_inB, nI_leI, nI_ltI, nI_eq, if_pos, if_neg, ev_eqm, ev_eqm2, ev_ltm, ev_lem, ev_mlt, ev_mle, ev_mm, ev_subm, pk_sub, ev_true, if_true, if_false, ite_true, ite_false, Option.map, ev_rs, ev_ra, ev_rj, Nat.add_assoc, Nat.reduceAdd, r1, r2, m1]
    · simp (disch := omega) only [ps_letE, ps_b2E, nI_add, pk_mul, nI_clamp, ev_inB, nI_leI, nI_ltI, nI_eq, if_pos, if_neg, ev_eqm, ev_eqm2, ev_ltm, ev_lem, ev_mlt, ev_mle, ev_mm, ev_subm, pk_sub, ev_true, if_true, if_false, ite_true, ite_false, Option.map, ev_rs, ev_ra, ev_rj, Nat.add_assoc, Nat.reduceAdd, r1, r2]
