/-! the model's questions, answered as the class answers them -/
theorem sc_ex {go : Nat → Bool} (n : Nat) : ps_sc go n 0 < n ↔ ∃ t, t < n ∧ go t = false := by
  obtain ⟨h1, h2, h3, h4⟩ := ps_sc_spec go n 0
  rw [Nat.zero_add] at h2 h4
  refine ⟨fun h => ⟨_, h, h4 h⟩, fun ⟨t, ht, hg⟩ => ?_⟩
  by_cases c : ps_sc go n 0 < n
  · exact c
  · have := h3 t (Nat.zero_le _) (by omega)
    rw [hg] at this
    cases this
theorem fo_or {go : Nat → Bool} {b s0 : Int32} : ∀ n, ps_fo (fun t s => if go t = false then s ||| b else s) n s0 = if ps_sc go n 0 < n then s0 ||| b else s0
  | 0 => by rw [if_neg (by omega)]; rfl
  | n + 1 => by
    rw [ps_fo_s, fo_or n]
    by_cases c : go n = false
    · rw [if_pos c, if_pos ((sc_ex (n + 1)).mpr ⟨n, by omega, c⟩)]
      by_cases c2 : ps_sc go n 0 < n
      · rw [if_pos c2, Int32.or_assoc, Int32.or_self]
      · rw [if_neg c2]
    · rw [if_neg c]
      by_cases c2 : ps_sc go n 0 < n
      · obtain ⟨t, ht, hg⟩ := (sc_ex n).mp c2
        rw [if_pos c2, if_pos ((sc_ex (n + 1)).mpr ⟨t, by omega, hg⟩)]
      · rw [if_neg c2, if_neg (fun z => ?_)]
        obtain ⟨t, ht, hg⟩ := (sc_ex (n + 1)).mp z
        by_cases e : t = n
        · subst e; exact c hg
        · exact c2 ((sc_ex n).mpr ⟨t, by omega, hg⟩)
theorem mo_with {M : ps_M} {q a c ns : Nat} {sf : Nat → ps_S} (h5 : ps_rd M (q + 1) 5 = nI ns) (hM : ps_MS M (q + 1) ns sf) (hok : ps_okS ns sf) (ha : a < 26) (hc : c < 26) : ff_X7_songsWith q (nI a) (nI c) M = some (pa_set (fun i => pa_pair (sf i) a c) ns, M) := by
  have ns8 := hok.1
  unfold ff_X7_songsWith
  refine (ps_whP (F := fun n i (s : Int32) => fk_X7_songsWith_5 q n (nI a) (nI c) s (nI i) M) (I := fun _ _ => True) ns (fun _ _ => true) (fun i s => if pa_pair (sf i) a c = true then s ||| ((nI 1) <<< ((nI i) &&& 31)) else s) (fun i s => some (s, M)) (fun n i s h1 h2 h3 => ?_) (fun n i s h1 h2 h3 => ⟨?_, trivial⟩) ns ps_fu 0 (nI 0) (by omega) (by unfold ps_fu; omega) trivial).1
  · have c : ¬ i < ns := fun c => absurd (h3 c) (by simp)
    rw [fk_X7_songsWith_5]
    simp (disch := omega) only [ps_letE, ps_b2E, nI_add, pk_mul, nI_clamp, ev_inB, nI_leI, nI_ltI, nI_eq, if_pos, if_neg, ev_eqm, ev_eqm2, ev_ltm, ev_lem, ev_mlt, ev_mle, ev_mm, ev_subm, pk_sub, ev_true, if_true, if_false, ite_true, ite_false, Option.map, ev_rs, ev_ra, ev_rj, ev_cpO, ps_isB1, ps_isB0, h5]
  · obtain ⟨s1, s2, s3⟩ := hok.2 i h1
    obtain ⟨r1, -, r3⟩ := hM i h1
    rw [fk_X7_songsWith_5, if_pos (ev_inB (by omega) (by omega)), nI_clamp (by omega), h5, if_neg (nI_ge h1 (by omega)), n_spec, ps_b2E]
    refine ((ps_whP (F := fun f t (s : Int32) => fk_X7_songsWith_26 q (fun a1' a2' a3' a4' M' => fk_X7_songsWith_5 q n a1' a2' a3' a4' M') f (nI a) (nI c) s (nI i) (nI (9 + 22 * i)) (nI (t + 1)) M) (I := fun _ _ => True) ((sf i).1 - 1) (fun _ _ => true) (fun t s => if (!(decide ((sf i).2.1 t = a ∧ (sf i).2.1 (t + 1) = c))) = false then s ||| ((nI 1) <<< ((nI i) &&& 31)) else s) (fun t s => fk_X7_songsWith_5 q n (nI a) (nI c) s (nI (i + 1)) M) (fun f t s g1 g2 g3 => ?_) (fun f t s g1 g2 g3 => ⟨?_, trivial⟩) ((sf i).1 - 1) ps_fu 0 s (by omega) (by unfold ps_fu; omega) trivial).1).trans ?_
    · have c : ¬ t < (sf i).1 - 1 := fun c => absurd (g3 c) (by simp)
      rw [fk_X7_songsWith_26]
      simp (disch := omega) only [ps_letE, ps_b2E, nI_add, pk_mul, nI_clamp, ev_inB, nI_leI, nI_ltI, nI_eq, if_pos, if_neg, ev_eqm, ev_eqm2, ev_ltm, ev_lem, ev_mlt, ev_mle, ev_mm, ev_subm, pk_sub, ev_true, if_true, if_false, ite_true, ite_false, Option.map, ev_rs, ev_ra, ev_rj, ev_cpO, ps_isB1, ps_isB0, p_spec, l_spec, n_spec, r1]
    · have b1 := s3 t (by omega)
      have b2 := s3 (t + 1) (by omega)
      have r4 : ps_rd M (q + 1) (9 + 22 * i + 1 + (t + 1)) = nI ((sf i).2.1 t) := by rw [show 9 + 22 * i + 1 + (t + 1) = 9 + 22 * i + 2 + t by omega]; exact r3 _ (by omega)
      have r5 : ps_rd M (q + 1) (9 + 22 * i + 2 + (t + 1)) = nI ((sf i).2.1 (t + 1)) := r3 _ (by omega)
      rw [fk_X7_songsWith_26]
      by_cases m1 : (sf i).2.1 t = a
      · by_cases m2 : (sf i).2.1 (t + 1) = c
        · rw [if_pos (show (!(decide ((sf i).2.1 t = a ∧ (sf i).2.1 (t + 1) = c))) = false by simp [m1, m2])]
          simp (disch := omega) only [ps_letE, ps_b2E, nI_add, pk_mul, nI_clamp, ev_inB, nI_leI, nI_ltI, nI_eq, if_pos, if_neg, ev_eqm, ev_eqm2, ev_ltm, ev_lem, ev_mlt, ev_mle, ev_mm, ev_subm, pk_sub, ev_true, if_true, if_false, ite_true, ite_false, Option.map, ev_rs, ev_ra, ev_rj, ev_cpO, ps_isB1, ps_isB0, p_spec, l_spec, n_spec, r1, r4, r5, m1, m2]
        · rw [if_neg (show ¬ (!(decide ((sf i).2.1 t = a ∧ (sf i).2.1 (t + 1) = c))) = false by simp [m2])]
          simp (disch := omega) only [ps_letE, ps_b2E, nI_add, pk_mul, nI_clamp, ev_inB, nI_leI, nI_ltI, nI_eq, if_pos, if_neg, ev_eqm, ev_eqm2, ev_ltm, ev_lem, ev_mlt, ev_mle, ev_mm, ev_subm, pk_sub, ev_true, if_true, if_false, ite_true, ite_false, Option.map, ev_rs, ev_ra, ev_rj, ev_cpO, ps_isB1, ps_isB0, p_spec, l_spec, n_spec, r1, r4, r5, m1, m2, I_or0]
      · rw [if_neg (show ¬ (!(decide ((sf i).2.1 t = a ∧ (sf i).2.1 (t + 1) = c))) = false by simp [m1])]
        simp (disch := omega) only [ps_letE, ps_b2E, nI_add, pk_mul, nI_clamp, ev_inB, nI_leI, nI_ltI, nI_eq, if_pos, if_neg, ev_eqm, ev_eqm2, ev_ltm, ev_lem, ev_mlt, ev_mle, ev_mm, ev_subm, pk_sub, ev_true, if_true, if_false, ite_true, ite_false, Option.map, ev_rs, ev_ra, ev_rj, ev_cpO, ps_isB1, ps_isB0, p_spec, l_spec, n_spec, r1, r4, m1, I_or0]
    · have := fo_or (go := fun t => !(decide ((sf i).2.1 t = a ∧ (sf i).2.1 (t + 1) = c))) (b := (nI 1) <<< ((nI i) &&& 31)) (s0 := s) ((sf i).1 - 1)
      unfold ps_fo at this
      rw [this]
      unfold pa_pair
      by_cases c : ps_sc (fun t => !(decide ((sf i).2.1 t = a ∧ (sf i).2.1 (t + 1) = c))) ((sf i).1 - 1) 0 < (sf i).1 - 1
      · rw [if_pos c, if_pos (decide_eq_true c)]
      · rw [if_neg c, if_neg (by simpa using c)]
theorem mo_rhy {M : ps_M} {q i k ns : Nat} {sf : Nat → ps_S} (hM : ps_MS M (q + 1) ns sf) (hok : ps_okS ns sf) (hi : i < ns) (hk : k < ns) : fk_X7_rhymes_56 q ps_fu (nI i) (nI k) (nI 0) (nI (9 + 22 * i + 1 + (sf i).1)) (nI (9 + 22 * k + 1 + (sf k).1)) M = some (nI (pa_rh (sf i) (sf k)), M) := by
  have ns8 := hok.1
  obtain ⟨s1, s2, s3⟩ := hok.2 i hi
  obtain ⟨u1, u2, u3⟩ := hok.2 k hk
  obtain ⟨r1, -, r3⟩ := hM i hi
  obtain ⟨t1, -, t3⟩ := hM k hk
  refine ps_scP (F := fun n t => fk_X7_rhymes_56 q n (nI i) (nI k) (nI t) (nI (9 + 22 * i + 1 + (sf i).1)) (nI (9 + 22 * k + 1 + (sf k).1)) M) (min (sf i).1 (sf k).1) _ (fun t => some (nI t, M)) (fun n t h1 h2 => ?_) (fun n t h1 h2 => ?_) (min (sf i).1 (sf k).1) ps_fu 0 (by omega) (by unfold ps_fu; omega)
  · rw [fk_X7_rhymes_56]
    by_cases c1 : t < (sf i).1
    · by_cases c2 : t < (sf k).1
      · have h3 := of_decide_eq_false (h2 (by omega))
        have b1 := s3 ((sf i).1 - 1 - t) (by omega)
        have b2 := u3 ((sf k).1 - 1 - t) (by omega)
        have e1 : ps_rd M (q + 1) (9 + 22 * i + 1 + (sf i).1 - t) = nI ((sf i).2.1 ((sf i).1 - 1 - t)) := by rw [show 9 + 22 * i + 1 + (sf i).1 - t = 9 + 22 * i + 2 + ((sf i).1 - 1 - t) by omega]; exact r3 _ (by omega)
        have e2 : ps_rd M (q + 1) (9 + 22 * k + 1 + (sf k).1 - t) = nI ((sf k).2.1 ((sf k).1 - 1 - t)) := by rw [show 9 + 22 * k + 1 + (sf k).1 - t = 9 + 22 * k + 2 + ((sf k).1 - 1 - t) by omega]; exact t3 _ (by omega)
        simp (disch := omega) only [ps_letE, ps_b2E, nI_add, pk_mul, nI_clamp, ev_inB, nI_leI, nI_ltI, nI_eq, if_pos, if_neg, ev_eqm, ev_eqm2, ev_ltm, ev_lem, ev_mlt, ev_mle, ev_mm, ev_subm, pk_sub, ev_true, if_true, if_false, ite_true, ite_false, Option.map, ev_rs, ev_ra, ev_rj, ev_cpO, ps_isB1, ps_isB0, p_spec, l_spec, n_spec, r1, t1, e1, e2, h3]
      · simp (disch := omega) only [ps_letE, ps_b2E, nI_add, pk_mul, nI_clamp, ev_inB, nI_leI, nI_ltI, nI_eq, if_pos, if_neg, ev_eqm, ev_eqm2, ev_ltm, ev_lem, ev_mlt, ev_mle, ev_mm, ev_subm, pk_sub, ev_true, if_true, if_false, ite_true, ite_false, Option.map, ev_rs, ev_ra, ev_rj, ev_cpO, ps_isB1, ps_isB0, p_spec, l_spec, n_spec, r1, t1]
    · simp (disch := omega) only [ps_letE, ps_b2E, nI_add, pk_mul, nI_clamp, ev_inB, nI_leI, nI_ltI, nI_eq, if_pos, if_neg, ev_eqm, ev_eqm2, ev_ltm, ev_lem, ev_mlt, ev_mle, ev_mm, ev_subm, pk_sub, ev_true, if_true, if_false, ite_true, ite_false, Option.map, ev_rs, ev_ra, ev_rj, ev_cpO, ps_isB1, ps_isB0, p_spec, l_spec, n_spec, r1]
  · have h3 := of_decide_eq_true h2
    have b1 := s3 ((sf i).1 - 1 - t) (by omega)
    have b2 := u3 ((sf k).1 - 1 - t) (by omega)
    have e1 : ps_rd M (q + 1) (9 + 22 * i + 1 + (sf i).1 - t) = nI ((sf i).2.1 ((sf i).1 - 1 - t)) := by rw [show 9 + 22 * i + 1 + (sf i).1 - t = 9 + 22 * i + 2 + ((sf i).1 - 1 - t) by omega]; exact r3 _ (by omega)
    have e2 : ps_rd M (q + 1) (9 + 22 * k + 1 + (sf k).1 - t) = nI ((sf k).2.1 ((sf k).1 - 1 - t)) := by rw [show 9 + 22 * k + 1 + (sf k).1 - t = 9 + 22 * k + 2 + ((sf k).1 - 1 - t) by omega]; exact t3 _ (by omega)
    rw [fk_X7_rhymes_56]
    simp (disch := omega) only [ps_letE, ps_b2E, nI_add, pk_mul, nI_clamp, ev_inB, nI_leI, nI_ltI, nI_eq, if_pos, if_neg, ev_eqm, ev_eqm2, ev_ltm, ev_lem, ev_mlt, ev_mle, ev_mm, ev_subm, pk_sub, ev_true, if_true, if_false, ite_true, ite_false, Option.map, ev_rs, ev_ra, ev_rj, ev_cpO, ps_isB1, ps_isB0, p_spec, l_spec, n_spec, r1, t1, e1, e2, h3]
theorem mo_from {M : ps_M} {q ns : Nat} {sf : Nat → ps_S} (h5 : ps_rd M (q + 1) 5 = nI ns) (hM : ps_MS M (q + 1) ns sf) (hok : ps_okS ns sf) {o : Option Nat} (ho : ∀ c, o = some c → c < 26) (a1 a2 : Int32) : fk_X7_follows_51 q ps_fu a1 a2 (ps_ml o) (nI 0) (nI 0) M = some (pa_set (fun i => decide (o = some ((sf i).2.1 0))) ns, M) := by
  have ns8 := hok.1
  refine (ps_whP (F := fun n i (s : Int32) => fk_X7_follows_51 q n a1 a2 (ps_ml o) s (nI i) M) (I := fun _ _ => True) ns (fun _ _ => true) (fun i s => if decide (o = some ((sf i).2.1 0)) = true then s ||| ((nI 1) <<< ((nI i) &&& 31)) else s) (fun i s => some (s, M)) (fun n i s h1 h2 h3 => ?_) (fun n i s h1 h2 h3 => ⟨?_, trivial⟩) ns ps_fu 0 (nI 0) (by omega) (by unfold ps_fu; omega) trivial).1
  · have c : ¬ i < ns := fun c => absurd (h3 c) (by simp)
    rw [fk_X7_follows_51]
    simp (disch := omega) only [ps_letE, ps_b2E, nI_add, pk_mul, nI_clamp, ev_inB, nI_leI, nI_ltI, nI_eq, if_pos, if_neg, ev_eqm, ev_eqm2, ev_ltm, ev_lem, ev_mlt, ev_mle, ev_mm, ev_subm, pk_sub, ev_true, if_true, if_false, ite_true, ite_false, Option.map, ev_rs, ev_ra, ev_rj, ev_cpO, ps_isB1, ps_isB0, p_spec, l_spec, n_spec, h5]
  · obtain ⟨s1, s2, s3⟩ := hok.2 i h1
    obtain ⟨r1, -, r3⟩ := hM i h1
    have r4 : ps_rd M (q + 1) (9 + 22 * i + 2) = nI ((sf i).2.1 0) := r3 0 (by omega)
    have b0 := s3 0 (by omega)
    rw [fk_X7_follows_51]
    cases o with
    | none =>
      rw [if_neg (show ¬ decide (none = some ((sf i).2.1 0)) = true by simp)]
      simp (disch := omega) only [ps_letE, ps_b2E, nI_add, pk_mul, nI_clamp, ev_inB, nI_leI, nI_ltI, nI_eq, if_pos, if_neg, ev_eqm, ev_eqm2, ev_ltm, ev_lem, ev_mlt, ev_mle, ev_mm, ev_subm, pk_sub, ev_true, if_true, if_false, ite_true, ite_false, Option.map, ev_rs, ev_ra, ev_rj, ev_cpO, ps_isB1, ps_isB0, p_spec, l_spec, n_spec, h5, ps_ml, I_or0]
    | some d =>
      have hd := ho d rfl
      by_cases m : (sf i).2.1 0 = d
      · rw [if_pos (show decide (some d = some ((sf i).2.1 0)) = true by simp [m])]
        simp (disch := omega) only [ps_letE, ps_b2E, nI_add, pk_mul, nI_clamp, ev_inB, nI_leI, nI_ltI, nI_eq, if_pos, if_neg, ev_eqm, ev_eqm2, ev_ltm, ev_lem, ev_mlt, ev_mle, ev_mm, ev_subm, pk_sub, ev_true, if_true, if_false, ite_true, ite_false, Option.map, ev_rs, ev_ra, ev_rj, ev_cpO, ps_isB1, ps_isB0, p_spec, l_spec, n_spec, h5, ps_ml, r4, m]
      · rw [if_neg (show ¬ decide (some d = some ((sf i).2.1 0)) = true by simp; exact fun z => m z.symm)]
        simp (disch := omega) only [ps_letE, ps_b2E, nI_add, pk_mul, nI_clamp, ev_inB, nI_leI, nI_ltI, nI_eq, if_pos, if_neg, ev_eqm, ev_eqm2, ev_ltm, ev_lem, ev_mlt, ev_mle, ev_mm, ev_subm, pk_sub, ev_true, if_true, if_false, ite_true, ite_false, Option.map, ev_rs, ev_ra, ev_rj, ev_cpO, ps_isB1, ps_isB0, p_spec, l_spec, n_spec, h5, ps_ml, r4, m, I_or0]
theorem fo_pair {σ τ : Type} (f : Nat → σ → σ) (g : Nat → τ → τ) : ∀ n (a : σ) (b : τ), ps_fo (fun i s => (f i s.1, g i s.2)) n (a, b) = (ps_fo f n a, ps_fo g n b)
  | 0, a, b => rfl
  | n + 1, a, b => by
    rw [ps_fo_s, ps_fo_s, ps_fo_s, fo_pair f g n a b]
theorem mo_ofP {M : ps_M} {q w : Nat} {v : ps_H} (hR : ps_RM M (q + 1) v) (hok : ps_okH v) (hw : w = 5 ∨ w = 6 ∨ w = 7) : ff_X7_ofParrots q (nI w) M = some (if w = 7 then pa_set (fun j => pa_ti v (v.2.2.2.2.1 j)) v.2.2.2.1 else if w = 5 then pa_sm (fun j => nI (v.2.2.2.2.1 j).1.length) v.2.2.2.1 else pa_sm (fun j => (v.2.2.2.2.1 j).2.2.2.2) v.2.2.2.1, M) := by
  have np := hok.2.2.1
  have h6 := hR.2.2.2.1
  unfold ff_X7_ofParrots
  refine ((ps_whP (F := fun n j (s : Int32 × Int32) => fk_X7_ofParrots_7 q n (nI w) s.1 s.2 (nI j) M) (I := fun _ _ => True) v.2.2.2.1 (fun _ _ => true) (fun j s => (s.1 + (if w = 5 then nI (v.2.2.2.2.1 j).1.length else (v.2.2.2.2.1 j).2.2.2.2), if pa_ti v (v.2.2.2.2.1 j) = true then s.2 ||| ((nI 1) <<< ((nI j) &&& 31)) else s.2)) (fun j s => some (if w = 7 then s.2 else s.1, M)) (fun n j s h1 h2 h3 => ?_) (fun n j s h1 h2 h3 => ⟨?_, trivial⟩) v.2.2.2.1 ps_fu 0 (nI 0, nI 0) (by omega) (by unfold ps_fu; omega) trivial).1).trans ?_
  · have c : ¬ j < v.2.2.2.1 := fun c => absurd (h3 c) (by simp)
    rw [fk_X7_ofParrots_7]
    by_cases c7 : w = 7
    · rw [if_pos c7]
      simp (disch := omega) only [ps_letE, ps_b2E, nI_add, pk_mul, nI_clamp, ev_inB, nI_leI, nI_ltI, nI_eq, if_pos, if_neg, ev_eqm, ev_eqm2, ev_ltm, ev_lem, ev_mlt, ev_mle, ev_mm, ev_subm, pk_sub, ev_true, if_true, if_false, ite_true, ite_false, Option.map, ev_rs, ev_ra, ev_rj, ev_cpO, ps_isB1, ps_isB0, p_spec, l_spec, n_spec, h6, c7]
    · rw [if_neg c7]
      simp (disch := omega) only [ps_letE, ps_b2E, nI_add, pk_mul, nI_clamp, ev_inB, nI_leI, nI_ltI, nI_eq, if_pos, if_neg, ev_eqm, ev_eqm2, ev_ltm, ev_lem, ev_mlt, ev_mle, ev_mm, ev_subm, pk_sub, ev_true, if_true, if_false, ite_true, ite_false, Option.map, ev_rs, ev_ra, ev_rj, ev_cpO, ps_isB1, ps_isB0, p_spec, l_spec, n_spec, h6, c7]
  · have hP := hR.2.2.2.2.2.2.2 j h1
    have hti : ff_X7_isTired q (nI j) M = some (pa_bi (pa_ti v (v.2.2.2.2.1 j)), M) := mo_tired hP (by omega) (hR.1 3 (by omega))
    rw [fk_X7_ofParrots_7]
    by_cases c5 : w = 5
    · by_cases ct : pa_ti v (v.2.2.2.2.1 j) = true
      · simp only [if_pos c5, if_pos ct]
        simp (disch := omega) only [ps_letE, ps_b2E, nI_add, pk_mul, nI_clamp, ev_inB, nI_leI, nI_ltI, nI_eq, if_pos, if_neg, ev_eqm, ev_eqm2, ev_ltm, ev_lem, ev_mlt, ev_mle, ev_mm, ev_subm, pk_sub, ev_true, if_true, if_false, ite_true, ite_false, Option.map, ev_rs, ev_ra, ev_rj, ev_cpO, ps_isB1, ps_isB0, p_spec, l_spec, n_spec, h6, c5, hP.1.1, fk_X7_ofParrots_50, hti, pa_bi, ct]
      · simp only [if_pos c5, if_neg ct]
        simp (disch := omega) only [ps_letE, ps_b2E, nI_add, pk_mul, nI_clamp, ev_inB, nI_leI, nI_ltI, nI_eq, if_pos, if_neg, ev_eqm, ev_eqm2, ev_ltm, ev_lem, ev_mlt, ev_mle, ev_mm, ev_subm, pk_sub, ev_true, if_true, if_false, ite_true, ite_false, Option.map, ev_rs, ev_ra, ev_rj, ev_cpO, ps_isB1, ps_isB0, p_spec, l_spec, n_spec, h6, c5, hP.1.1, fk_X7_ofParrots_50, hti, pa_bi, ct, I_or0, Bool.false_eq_true]
    · by_cases ct : pa_ti v (v.2.2.2.2.1 j) = true
      · simp only [if_neg c5, if_pos ct]
        simp (disch := omega) only [ps_letE, ps_b2E, nI_add, pk_mul, nI_clamp, ev_inB, nI_leI, nI_ltI, nI_eq, if_pos, if_neg, ev_eqm, ev_eqm2, ev_ltm, ev_lem, ev_mlt, ev_mle, ev_mm, ev_subm, pk_sub, ev_true, if_true, if_false, ite_true, ite_false, Option.map, ev_rs, ev_ra, ev_rj, ev_cpO, ps_isB1, ps_isB0, p_spec, l_spec, n_spec, h6, c5, hP.2.2.2.2, fk_X7_ofParrots_50, hti, pa_bi, ct]
      · simp only [if_neg c5, if_neg ct]
        simp (disch := omega) only [ps_letE, ps_b2E, nI_add, pk_mul, nI_clamp, ev_inB, nI_leI, nI_ltI, nI_eq, if_pos, if_neg, ev_eqm, ev_eqm2, ev_ltm, ev_lem, ev_mlt, ev_mle, ev_mm, ev_subm, pk_sub, ev_true, if_true, if_false, ite_true, ite_false, Option.map, ev_rs, ev_ra, ev_rj, ev_cpO, ps_isB1, ps_isB0, p_spec, l_spec, n_spec, h6, c5, hP.2.2.2.2, fk_X7_ofParrots_50, hti, pa_bi, ct, I_or0, Bool.false_eq_true]
  · have e := fo_pair (fun j (s : Int32) => s + (if w = 5 then nI (v.2.2.2.2.1 j).1.length else (v.2.2.2.2.1 j).2.2.2.2)) (fun j (s : Int32) => if pa_ti v (v.2.2.2.2.1 j) = true then s ||| ((nI 1) <<< ((nI j) &&& 31)) else s) v.2.2.2.1 (nI 0) (nI 0)
    unfold ps_fo at e
    rw [e]
    unfold pa_set pa_sm ps_fo
    by_cases c5 : w = 5
    · simp only [if_pos c5]
    · simp only [if_neg c5]
