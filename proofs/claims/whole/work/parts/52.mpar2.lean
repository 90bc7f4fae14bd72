/-! the model's parrots: what they hear, and how their links fade -/
theorem ML_fs {M M1 : ps_M} {s j : Nat} {L : List ps_L} (hL : L.length ≤ 61) (h : ∀ k, (k = 185 + 5 * j ∨ 205 + 183 * j ≤ k ∧ k < 388 + 183 * j) → ps_rd M1 s k = ps_rd M s k) (hR : ps_ML M s j L) : ps_ML M1 s j L := by
  refine ⟨by rw [h _ (Or.inl rfl)]; exact hR.1, fun i hi => ?_⟩
  rw [h _ (by omega), h _ (by omega), h _ (by omega)]
  exact hR.2 i hi
theorem mo_app {M : ps_M} {q j a b w span : Nat} {L : List ps_L} (hR : ps_ML M (q + 1) j L) (hj : j < 4) (hL : L.length ≤ 60) (hsp : ps_rd M (q + 1) 0 = nI span) (hs : span ≤ 60) (hw : w < 100) (a3 : Int32) (ha : a < 26) (hb : b < 26) (hok : ps_okL (L ++ [(a, b, min 9 w, 1)])) : ∃ M1, fk_X7_grows_43 q (nI j) (nI (26 * a + b)) a3 (nI w) M = some (nI 0, M1) ∧ ps_ML M1 (q + 1) j (if span < L.length + 1 then (L ++ [(a, b, min 9 w, 1)]).eraseIdx (pa_wk (L ++ [(a, b, min 9 w, 1)])) else L ++ [(a, b, min 9 w, 1)]) ∧ ps_Fs (q + 1) j M M1 ∧ ps_rd M1 (q + 1) 8 = ps_rd M (q + 1) 8 ∧ ps_rd M1 (q + 1) (185 + 5 * j + 4) = (if span < L.length + 1 then ps_rd M (q + 1) (185 + 5 * j + 4) + nI 1 else ps_rd M (q + 1) (185 + 5 * j + 4)) ∧ ∀ k, 185 + 5 * j < k → k < 189 + 5 * j → ps_rd M1 (q + 1) k = ps_rd M (q + 1) k := by
  have e0 : fk_X7_grows_43 q (nI j) (nI (26 * a + b)) a3 (nI w) M = fk_X7_grows_88 q (nI j) (nI (26 * a + b)) a3 (nI w) (nI (205 + 183 * j + 3 * L.length)) (q + 1) (nI (205 + 183 * j + 3 * L.length + 1)) (nI (min 9 w)) (ps_st M (q + 1) (205 + 183 * j + 3 * L.length) (nI (26 * a + b))) := by
    unfold fk_X7_grows_43
    by_cases c : w ≤ 9
    · simp (disch := omega) only [ps_letE, ps_b2E, nI_add, pk_mul, nI_clamp, ev_inB, nI_leI, nI_ltI, nI_eq, if_pos, if_neg, ev_eqm, ev_eqm2, ev_ltm, ev_lem, ev_mlt, ev_mle, ev_mm, ev_subm, pk_sub, ev_true, if_true, if_false, ite_true, ite_false, Option.map, ev_rs, ev_ra, ev_rj, ev_cpO, ps_isB1, ps_isB0, p_spec, l_spec, n_spec, hR.1, show min 9 w = w from Nat.min_eq_right c]
    · simp (disch := omega) only [ps_letE, ps_b2E, nI_add, pk_mul, nI_clamp, ev_inB, nI_leI, nI_ltI, nI_eq, if_pos, if_neg, ev_eqm, ev_eqm2, ev_ltm, ev_lem, ev_mlt, ev_mle, ev_mm, ev_subm, pk_sub, ev_true, if_true, if_false, ite_true, ite_false, Option.map, ev_rs, ev_ra, ev_rj, ev_cpO, ps_isB1, ps_isB0, p_spec, l_spec, n_spec, hR.1, show min 9 w = 9 from Nat.min_eq_left (by omega)]
  obtain ⟨M4, hM4⟩ : ∃ M4, M4 = ps_st (ps_st (ps_st (ps_st M (q + 1) (205 + 183 * j + 3 * L.length) (nI (26 * a + b))) (q + 1) (205 + 183 * j + 3 * L.length + 1) (nI (min 9 w))) (q + 1) (205 + 183 * j + 3 * L.length + 2) (nI 1)) (q + 1) (185 + 5 * j) (nI (L.length + 1)) := ⟨_, rfl⟩
  have r4 : ∀ k, k ≠ 185 + 5 * j → k < 205 + 183 * j + 3 * L.length ∨ 205 + 183 * j + 3 * L.length + 2 < k → ps_rd M4 (q + 1) k = ps_rd M (q + 1) k := fun k h1 h2 => by rw [hM4, ev_rj h1, ev_rj (by omega), ev_rj (by omega), ev_rj (by omega)]
  have h4 : ps_ML M4 (q + 1) j (L ++ [(a, b, min 9 w, 1)]) := by
    refine ⟨by rw [hM4, ev_rs]; simp, fun i hi => ?_⟩
    have hi2 : i < L.length + 1 := by simpa using hi
    rw [lk_app]
    by_cases c : i < L.length
    · rw [if_pos c, r4 _ (by omega) (by omega), r4 _ (by omega) (by omega), r4 _ (by omega) (by omega)]
      exact hR.2 i c
    · have e : i = L.length := by omega
      subst e
      rw [if_neg c, if_pos rfl, hM4]
      simp (disch := omega) only [ps_letE, ps_b2E, nI_add, pk_mul, nI_clamp, ev_inB, nI_leI, nI_ltI, nI_eq, if_pos, if_neg, ev_eqm, ev_eqm2, ev_ltm, ev_lem, ev_mlt, ev_mle, ev_mm, ev_subm, pk_sub, ev_true, if_true, if_false, ite_true, ite_false, Option.map, ev_rs, ev_ra, ev_rj, ev_cpO, ps_isB1, ps_isB0, and_self]
  have f4 : ps_Fs (q + 1) j M M4 := by
    rw [hM4]
    exact ps_Fs_tr (ps_Fs_tr (ps_Fs_tr (ps_Fs_st (by omega)) (ps_Fs_st (by omega))) (ps_Fs_st (by omega))) (ps_Fs_st (by omega))
  have hl4 : (L ++ [(a, b, min 9 w, 1)]).length = L.length + 1 := by simp
  rw [e0]
  unfold fk_X7_grows_88
  by_cases c : span < L.length + 1
  · obtain ⟨M5, t1, t2, t3, t4, t5⟩ := mo_takes h4 hj (by omega) (pa_wk_lt (L := L ++ [(a, b, min 9 w, 1)]) (by omega))
    rw [if_pos c, if_pos c]
    refine ⟨ps_st M5 (q + 1) (185 + 5 * j + 4) (ps_rd M (q + 1) (185 + 5 * j + 4) + nI 1), ?_, ML_fs ?_ (fun k hk => ev_rj (by omega)) t2, ps_Fs_tr (ps_Fs_tr f4 t3) (ps_Fs_st (by omega)), ?_, ev_rs, fun k h1 h2 => ?_⟩
    · simp (disch := omega) only [ps_letE, ps_b2E, nI_add, pk_mul, nI_clamp, ev_inB, nI_leI, nI_ltI, nI_eq, if_pos, if_neg, ev_eqm, ev_eqm2, ev_ltm, ev_lem, ev_mlt, ev_mle, ev_mm, ev_subm, pk_sub, ev_true, if_true, if_false, ite_true, ite_false, Option.map, ev_rs, ev_ra, ev_rj, ev_cpO, ps_isB1, ps_isB0, p_spec, l_spec, n_spec, hR.1, hsp]
      rw [← hM4, mo_weak h4 hj (by omega) (by omega) hok, ps_b2E, t1]
      simp (disch := omega) only [ps_letE, ps_b2E, nI_add, pk_mul, nI_clamp, ev_inB, nI_leI, nI_ltI, nI_eq, if_pos, if_neg, ev_eqm, ev_eqm2, ev_ltm, ev_lem, ev_mlt, ev_mle, ev_mm, ev_subm, pk_sub, ev_true, if_true, if_false, ite_true, ite_false, Option.map, ev_rs, ev_ra, ev_rj, ev_cpO, ps_isB1, ps_isB0, p_spec, l_spec, n_spec]
      rw [t5 _ (by omega) (by omega), r4 _ (by omega) (by omega)]
    · rw [len_erase (pa_wk_lt (by omega)), hl4]
      omega
    · rw [ev_rj (by omega), t4, r4 _ (by omega) (by omega)]
    · rw [ev_rj (by omega), t5 _ (by omega) (by omega), r4 _ (by omega) (by omega)]
  · rw [if_neg c, if_neg c]
    refine ⟨M4, ?_, h4, f4, r4 _ (by omega) (by omega), r4 _ (by omega) (by omega), fun k h1 h2 => r4 _ (by omega) (by omega)⟩
    simp (disch := omega) only [ps_letE, ps_b2E, nI_add, pk_mul, nI_clamp, ev_inB, nI_leI, nI_ltI, nI_eq, if_pos, if_neg, ev_eqm, ev_eqm2, ev_ltm, ev_lem, ev_mlt, ev_mle, ev_mm, ev_subm, pk_sub, ev_true, if_true, if_false, ite_true, ite_false, Option.map, ev_rs, ev_ra, ev_rj, ev_cpO, ps_isB1, ps_isB0, p_spec, l_spec, n_spec, hR.1, hsp]
    rw [← hM4]
theorem mo_grows {M : ps_M} {q j a b gain span : Nat} {L : List ps_L} (hR : ps_ML M (q + 1) j L) (hj : j < 4) (hL : L.length ≤ 60) (hok : ps_okL L) (hsp : ps_rd M (q + 1) 0 = nI span) (hs : span ≤ 60) (hga : ps_rd M (q + 1) 2 = nI gain) (hg1 : 1 ≤ gain) (hg3 : gain ≤ 3) (ha : a < 26) (hb : b < 26) : ∃ M1, ff_X7_grows q (nI j) (nI (26 * a + b)) M = some (nI 0, M1) ∧ ps_ML M1 (q + 1) j (if span < (ps_gr gain a b L).length then (ps_gr gain a b L).eraseIdx (pa_wk (ps_gr gain a b L)) else ps_gr gain a b L) ∧ ps_Fs (q + 1) j M M1 ∧ ps_rd M1 (q + 1) 8 = ps_rd M (q + 1) 8 ∧ ps_rd M1 (q + 1) (185 + 5 * j + 4) = (if span < (ps_gr gain a b L).length then ps_rd M (q + 1) (185 + 5 * j + 4) + nI 1 else ps_rd M (q + 1) (185 + 5 * j + 4)) ∧ ∀ k, 185 + 5 * j < k → k < 189 + 5 * j → ps_rd M1 (q + 1) k = ps_rd M (q + 1) k := by
  have g1 := (okL_gr hok ha hb hg1 hg3).1
  unfold ff_X7_grows
  rw [mo_link hR hj (by omega) hok ha hb, ps_b2E]
  unfold ps_gr at g1 ⊢
  by_cases c : ps_fd L a b < L.length
  · obtain ⟨-, -, o3, o4, -⟩ := okL_at hok c
    obtain ⟨-, r2, -⟩ := hR.2 _ c
    obtain ⟨M5, t1, t2, t3, t4, t5⟩ := mo_takes hR hj (by omega) c
    rw [if_pos c] at g1
    rw [if_pos c, if_pos c]
    have hm : (ps_lk L (ps_fd L a b)).2.2.1 + gain = gain + (ps_lk L (ps_fd L a b)).2.2.1 := Nat.add_comm _ _
    rw [hm] at g1 ⊢
    obtain ⟨M6, u1, u2, u3, u4, u5, u6⟩ := mo_app (w := gain + (ps_lk L (ps_fd L a b)).2.2.1) t2 hj (by rw [len_erase c]; omega) ((t3.2.2 _ (by omega) (by omega) (by omega)).trans hsp) hs (by omega) (nI (ps_fd L a b)) ha hb g1
    have hl : ∀ x : ps_L, (L.eraseIdx (ps_fd L a b) ++ [x]).length = (L.eraseIdx (ps_fd L a b)).length + 1 := fun x => by simp
    rw [hl]
    refine ⟨M6, ?_, u2, ps_Fs_tr t3 u3, u4.trans t4, ?_, fun k h1 h2 => (u6 k h1 h2).trans (t5 k (by omega) (by omega))⟩
    · simp (disch := omega) only [ps_letE, ps_b2E, nI_add, pk_mul, nI_clamp, ev_inB, nI_leI, nI_ltI, nI_eq, if_pos, if_neg, ev_eqm, ev_eqm2, ev_ltm, ev_lem, ev_mlt, ev_mle, ev_mm, ev_subm, pk_sub, ev_true, if_true, if_false, ite_true, ite_false, Option.map, ev_rs, ev_ra, ev_rj, ev_cpO, ps_isB1, ps_isB0, p_spec, l_spec, n_spec, hga, r2]
      rw [t1, ps_b2E]
      exact u1
    · rw [u5, t5 _ (by omega) (by omega)]
  · rw [if_neg c] at g1
    rw [if_neg c, if_neg c]
    have hm : gain = min 9 gain := (Nat.min_eq_right (by omega)).symm
    obtain ⟨M6, u1, u2, u3, u4, u5, u6⟩ := mo_app (w := gain) hR hj hL hsp hs (by omega) (ps_m 1) ha hb (by rw [← hm]; exact g1)
    rw [← hm] at u2
    have hl : ∀ x : ps_L, (L ++ [x]).length = L.length + 1 := fun x => by simp
    rw [hl]
    refine ⟨M6, ?_, u2, u3, u4, u5, u6⟩
    simp (disch := omega) only [ps_letE, ps_b2E, nI_add, pk_mul, nI_clamp, ev_inB, nI_leI, nI_ltI, nI_eq, if_pos, if_neg, ev_eqm, ev_eqm2, ev_ltm, ev_lem, ev_mlt, ev_mle, ev_mm, ev_subm, pk_sub, ev_true, if_true, if_false, ite_true, ite_false, Option.map, ev_rs, ev_ra, ev_rj, ev_cpO, ps_isB1, ps_isB0, p_spec, l_spec, n_spec, hga]
    exact u1
theorem mo_hears {M : ps_M} {q j bar gain span : Nat} {P : ps_P} (hR : ps_MP M (q + 1) j P) (hj : j < 4) (hok : ps_ok P) (hsp : ps_rd M (q + 1) 0 = nI span) (hs : span ≤ 60) (hga : ps_rd M (q + 1) 2 = nI gain) (hg1 : 1 ≤ gain) (hg3 : gain ≤ 3) (hb : bar < 26) : ∃ M1, ff_X7_hears q (nI j) (nI bar) M = some (nI 0, M1) ∧ ps_MP M1 (q + 1) j (ps_hr span gain bar P) ∧ ps_Fs (q + 1) j M M1 ∧ ps_rd M1 (q + 1) 8 = ps_rd M (q + 1) 8 + nI 1 := by
  obtain ⟨L, last, td, ia, fg⟩ := P
  obtain ⟨h1, h2, h3, h4, h5⟩ := hR
  obtain ⟨o1, o2, o3⟩ := hok
  dsimp only at h1 h2 h3 h4 h5 o1 o2 o3
  have fin : ∀ M5, (∀ k, 185 + 5 * j < k → k < 189 + 5 * j → ps_rd M5 (q + 1) k = ps_rd M (q + 1) k) → ps_Fs (q + 1) j M M5 → ps_rd M5 (q + 1) 8 = ps_rd M (q + 1) 8 → ∀ (L2 : List ps_L) (fg2 : Int32), L2.length ≤ 61 → ps_ML M5 (q + 1) j L2 → ps_rd M5 (q + 1) (185 + 5 * j + 4) = fg2 → ∃ M1, fk_X7_hears_34 q (nI j) (nI bar) (nI (185 + 5 * j)) M5 = some (nI 0, M1) ∧ ps_MP M1 (q + 1) j (L2, some bar, td + nI 1, ia + nI 1, fg2) ∧ ps_Fs (q + 1) j M M1 ∧ ps_rd M1 (q + 1) 8 = ps_rd M (q + 1) 8 + nI 1 := by
    intro M5 hk hF h8 L2 fg2 hl hL2 hf
    have k2 := (hk (185 + 5 * j + 2) (by omega) (by omega)).trans h3
    have k3 := (hk (185 + 5 * j + 3) (by omega) (by omega)).trans h4
    refine ⟨ps_st (ps_st (ps_st (ps_st M5 (q + 1) (185 + 5 * j + 1) (nI bar)) (q + 1) (185 + 5 * j + 2) (td + nI 1)) (q + 1) (185 + 5 * j + 3) (ia + nI 1)) (q + 1) 8 (ps_rd M (q + 1) 8 + nI 1), ?_, ⟨ML_fs hl (fun k hk => by rw [ev_rj (by omega), ev_rj (by omega), ev_rj (by omega), ev_rj (by omega)]) hL2, ?_, ?_, ?_, ?_⟩, ps_Fs_tr (ps_Fs_tr (ps_Fs_tr (ps_Fs_tr hF (ps_Fs_st (by omega))) (ps_Fs_st (by omega))) (ps_Fs_st (by omega))) (ps_Fs_st (by omega)), ev_rs⟩
    · unfold fk_X7_hears_34
      simp (disch := omega) only [ps_letE, ps_b2E, nI_add, pk_mul, nI_clamp, ev_inB, nI_leI, nI_ltI, nI_eq, if_pos, if_neg, ev_eqm, ev_eqm2, ev_ltm, ev_lem, ev_mlt, ev_mle, ev_mm, ev_subm, pk_sub, ev_true, if_true, if_false, ite_true, ite_false, Option.map, ev_rs, ev_ra, ev_rj, ev_cpO, ps_isB1, ps_isB0, p_spec, l_spec, n_spec, k2, k3, h8]
    · simp (disch := omega) only [ps_letE, ps_b2E, nI_add, pk_mul, nI_clamp, ev_inB, nI_leI, nI_ltI, nI_eq, if_pos, if_neg, ev_eqm, ev_eqm2, ev_ltm, ev_lem, ev_mlt, ev_mle, ev_mm, ev_subm, pk_sub, ev_true, if_true, if_false, ite_true, ite_false, Option.map, ev_rs, ev_ra, ev_rj, ev_cpO, ps_isB1, ps_isB0]
      rfl
    · simp (disch := omega) only [ps_letE, ps_b2E, nI_add, pk_mul, nI_clamp, ev_inB, nI_leI, nI_ltI, nI_eq, if_pos, if_neg, ev_eqm, ev_eqm2, ev_ltm, ev_lem, ev_mlt, ev_mle, ev_mm, ev_subm, pk_sub, ev_true, if_true, if_false, ite_true, ite_false, Option.map, ev_rs, ev_ra, ev_rj, ev_cpO, ps_isB1, ps_isB0]
    · simp (disch := omega) only [ps_letE, ps_b2E, nI_add, pk_mul, nI_clamp, ev_inB, nI_leI, nI_ltI, nI_eq, if_pos, if_neg, ev_eqm, ev_eqm2, ev_ltm, ev_lem, ev_mlt, ev_mle, ev_mm, ev_subm, pk_sub, ev_true, if_true, if_false, ite_true, ite_false, Option.map, ev_rs, ev_ra, ev_rj, ev_cpO, ps_isB1, ps_isB0]
    · simp (disch := omega) only [ps_letE, ps_b2E, nI_add, pk_mul, nI_clamp, ev_inB, nI_leI, nI_ltI, nI_eq, if_pos, if_neg, ev_eqm, ev_eqm2, ev_ltm, ev_lem, ev_mlt, ev_mle, ev_mm, ev_subm, pk_sub, ev_true, if_true, if_false, ite_true, ite_false, Option.map, ev_rs, ev_ra, ev_rj, ev_cpO, ps_isB1, ps_isB0, hf]
  unfold ff_X7_hears ps_hr
  cases last with
  | none =>
    have h2' : ps_rd M (q + 1) (185 + 5 * j + 1) = ps_m 1 := h2
    obtain ⟨M1, a1, a2⟩ := fin M (fun k _ _ => rfl) ps_Fs_rf rfl L fg (by omega) h1 h5
    refine ⟨M1, ?_, a2⟩
    simp (disch := omega) only [ps_letE, ps_b2E, nI_add, pk_mul, nI_clamp, ev_inB, nI_leI, nI_ltI, nI_eq, if_pos, if_neg, ev_eqm, ev_eqm2, ev_ltm, ev_lem, ev_mlt, ev_mle, ev_mm, ev_subm, pk_sub, ev_true, if_true, if_false, ite_true, ite_false, Option.map, ev_rs, ev_ra, ev_rj, ev_cpO, ps_isB1, ps_isB0, p_spec, l_spec, n_spec, h2']
    exact a1
  | some a =>
    have h2' : ps_rd M (q + 1) (185 + 5 * j + 1) = nI a := h2
    have ha := o3 a rfl
    obtain ⟨g1, g2, g3⟩ := okL_gr o2 ha hb hg1 hg3
    obtain ⟨M5, t1, t2, t3, t4, t5, t6⟩ := mo_grows h1 hj o1 o2 hsp hs hga hg1 hg3 ha hb
    by_cases c : span < (ps_gr gain a bar L).length
    · rw [if_pos c] at t2 t5
      obtain ⟨M1, a1, a2⟩ := fin M5 t6 t3 t4 _ _ (by rw [len_erase (pa_wk_lt g3)]; omega) t2 t5
      refine ⟨M1, ?_, ?_⟩
      · simp (disch := omega) only [ps_letE, ps_b2E, nI_add, pk_mul, nI_clamp, ev_inB, nI_leI, nI_ltI, nI_eq, if_pos, if_neg, ev_eqm, ev_eqm2, ev_ltm, ev_lem, ev_mlt, ev_mle, ev_mm, ev_subm, pk_sub, ev_true, if_true, if_false, ite_true, ite_false, Option.map, ev_rs, ev_ra, ev_rj, ev_cpO, ps_isB1, ps_isB0, p_spec, l_spec, n_spec, h2']
        rw [t1, ps_b2E]
        exact a1
      · dsimp only
        rw [if_pos c, ← h5]
        exact a2
    · rw [if_neg c] at t2 t5
      obtain ⟨M1, a1, a2⟩ := fin M5 t6 t3 t4 _ _ (by omega) t2 t5
      refine ⟨M1, ?_, ?_⟩
      · simp (disch := omega) only [ps_letE, ps_b2E, nI_add, pk_mul, nI_clamp, ev_inB, nI_leI, nI_ltI, nI_eq, if_pos, if_neg, ev_eqm, ev_eqm2, ev_ltm, ev_lem, ev_mlt, ev_mle, ev_mm, ev_subm, pk_sub, ev_true, if_true, if_false, ite_true, ite_false, Option.map, ev_rs, ev_ra, ev_rj, ev_cpO, ps_isB1, ps_isB0, p_spec, l_spec, n_spec, h2']
        rw [t1, ps_b2E]
        exact a1
      · dsimp only
        rw [if_neg c, ← h5]
        exact a2
theorem mo_tired {M : ps_M} {q j tire : Nat} {P : ps_P} (hR : ps_MP M (q + 1) j P) (hj : j < 4) (h3 : ps_rd M (q + 1) 3 = nI tire) : ff_X7_isTired q (nI j) M = some (pa_bi (decide (nI tire ≤ P.2.2.1)), M) := by
  have h := hR.2.2.1
  unfold ff_X7_isTired pa_bi
  by_cases c : nI tire ≤ P.2.2.1
  · rw [decide_eq_true c, if_pos rfl]
    simp (disch := omega) only [ps_letE, ps_b2E, nI_add, pk_mul, nI_clamp, ev_inB, nI_leI, nI_ltI, nI_eq, if_pos, if_neg, ev_eqm, ev_eqm2, ev_ltm, ev_lem, ev_mlt, ev_mle, ev_mm, ev_subm, pk_sub, ev_true, if_true, if_false, ite_true, ite_false, Option.map, ev_rs, ev_ra, ev_rj, ev_cpO, ps_isB1, ps_isB0, p_spec, l_spec, n_spec, h, h3]
    rw [if_neg (Int32.not_lt.mpr c)]
  · rw [decide_eq_false c, if_neg (by simp)]
    simp (disch := omega) only [ps_letE, ps_b2E, nI_add, pk_mul, nI_clamp, ev_inB, nI_leI, nI_ltI, nI_eq, if_pos, if_neg, ev_eqm, ev_eqm2, ev_ltm, ev_lem, ev_mlt, ev_mle, ev_mm, ev_subm, pk_sub, ev_true, if_true, if_false, ite_true, ite_false, Option.map, ev_rs, ev_ra, ev_rj, ev_cpO, ps_isB1, ps_isB0, p_spec, l_spec, n_spec, h, h3]
    rw [if_pos (Int32.not_le.mp c)]
