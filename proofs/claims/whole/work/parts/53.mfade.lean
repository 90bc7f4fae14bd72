/-! the links of a parrot of the model fade -/
theorem ls_set {A F : List ps_L} {x y : ps_L} : (A ++ x :: F).set A.length y = A ++ y :: F := by simp
theorem ls_era {A F : List ps_L} {x : ps_L} : (A ++ x :: F).eraseIdx A.length = A ++ F := by
  rw [List.eraseIdx_append_of_length_le (Nat.le_refl _), Nat.sub_self]
  rfl
theorem ls_at {A F : List ps_L} {x : ps_L} : ps_lk (A ++ x :: F) A.length = x := by
  unfold ps_lk
  simp
theorem lk_set {L : List ps_L} {i : Nat} (hi : i < L.length) (y : ps_L) (t : Nat) : ps_lk (L.set i y) t = if t = i then y else ps_lk L t := by
  unfold ps_lk
  rw [List.getD_eq_getElem?_getD, List.getD_eq_getElem?_getD, List.getElem?_set]
  by_cases h : i = t
  · rw [if_pos h, if_pos h.symm, if_pos (by omega)]
    rfl
  · rw [if_neg h, if_neg (fun e => h e.symm)]
theorem ls_drop {L : List ps_L} {k : Nat} (h : k < L.length) : L.drop k = ps_lk L k :: L.drop (k + 1) := by
  rw [List.drop_eq_getElem_cons h]
  congr 1
  unfold ps_lk
  rw [List.getD_eq_getElem?_getD, List.getElem?_eq_getElem h]
  rfl
theorem ls_take {L : List ps_L} {k : Nat} (h : k < L.length) : L.take (k + 1) = L.take k ++ [ps_lk L k] := by
  rw [List.take_succ]
  unfold ps_lk
  rw [List.getD_eq_getElem?_getD, List.getElem?_eq_getElem h]
  rfl
theorem ML_set {M : ps_M} {s j i m : Nat} {L : List ps_L} (hR : ps_ML M s j L) (hL : L.length ≤ 61) (hi : i < L.length) {v : Int32} (hv : v = nI m) : ps_ML (ps_st (ps_st M s (205 + 183 * j + 3 * i + 1) v) s (205 + 183 * j + 3 * i + 2) (nI 0)) s j (L.set i ((ps_lk L i).1, (ps_lk L i).2.1, m, 0)) := by
  refine ⟨by rw [ev_rj (by omega), ev_rj (by omega), List.length_set]; exact hR.1, fun t ht => ?_⟩
  rw [List.length_set] at ht
  rw [lk_set hi]
  obtain ⟨r1, r2, r3⟩ := hR.2 t ht
  by_cases c : t = i
  · subst c
    rw [if_pos rfl]
    simp (disch := omega) only [ps_letE, ps_b2E, nI_add, pk_mul, nI_clamp, ev_inB, nI_leI, nI_ltI, nI_eq, if_pos, if_neg, ev_eqm, ev_eqm2, ev_ltm, ev_lem, ev_mlt, ev_mle, ev_mm, ev_subm, pk_sub, ev_true, if_true, if_false, ite_true, ite_false, Option.map, ev_rs, ev_ra, ev_rj, ev_cpO, ps_isB1, ps_isB0, r1, hv, and_self]
  · rw [if_neg c]
    simp (disch := omega) only [ps_letE, ps_b2E, nI_add, pk_mul, nI_clamp, ev_inB, nI_leI, nI_ltI, nI_eq, if_pos, if_neg, ev_eqm, ev_eqm2, ev_ltm, ev_lem, ev_mlt, ev_mle, ev_mm, ev_subm, pk_sub, ev_true, if_true, if_false, ite_true, ite_false, Option.map, ev_rs, ev_ra, ev_rj, ev_cpO, ps_isB1, ps_isB0, r1, r2, r3, and_self]
theorem nI_suble {a b : Nat} (ha : a < 1000) (hb : b < 1000) : (nI 1 ≤ nI a - nI b) = (b + 1 ≤ a) := by
  refine propext ?_
  rw [Int32.le_iff_toInt_le, pk_sub_toInt (by omega) (by omega), nI_toInt (by omega)]
  omega
theorem nI_all (x : Int32) : ∃ m, x = nI m := ⟨x.toBitVec.toNat, by
  refine Int32.toBitVec_inj.mp ?_
  show _ = BitVec.ofNat 32 _
  simp⟩
theorem mo_fd {q j fade : Nat} (hj : j < 4) (hf : fade ≤ 3) {L : List ps_L} (hL : L.length ≤ 61) (hok : ps_okL L) : ∀ (k n : Nat) (M : ps_M), k < n → k ≤ L.length → ps_ML M (q + 1) j (L.take k ++ (L.drop k).filterMap (ps_fa fade)) → ps_rd M (q + 1) 1 = nI fade → ∃ M1, fk_X7_fades_14 q n (nI j) (nI (L.length - k - ((L.drop k).filterMap (ps_fa fade)).length)) (ps_dn k) M = some (nI (L.length - (L.filterMap (ps_fa fade)).length), M1) ∧ ps_ML M1 (q + 1) j (L.filterMap (ps_fa fade)) ∧ ps_Fs (q + 1) j M M1 ∧ ps_rd M1 (q + 1) 8 = ps_rd M (q + 1) 8 ∧ ps_rd M1 (q + 1) (185 + 5 * j + 1) = ps_m 1 ∧ ps_rd M1 (q + 1) (185 + 5 * j + 2) = nI 0 ∧ ps_rd M1 (q + 1) (185 + 5 * j + 3) = ps_rd M (q + 1) (185 + 5 * j + 3) ∧ ps_rd M1 (q + 1) (185 + 5 * j + 4) = ps_rd M (q + 1) (185 + 5 * j + 4) + nI (L.length - (L.filterMap (ps_fa fade)).length)
  | 0, n, M, h1, h2, h3, h4 => by
    obtain ⟨n, rfl⟩ : ∃ m, n = m + 1 := ⟨n - 1, by omega⟩
    rw [List.take_zero, List.nil_append, List.drop_zero] at h3
    have hl : (L.filterMap (ps_fa fade)).length ≤ L.length := List.length_filterMap_le _ _
    rw [List.drop_zero, Nat.sub_zero, ps_dn_0, fk_X7_fades_14]
    refine ⟨ps_st (ps_st (ps_st M (q + 1) (185 + 5 * j + 4) (ps_rd M (q + 1) (185 + 5 * j + 4) + nI (L.length - (L.filterMap (ps_fa fade)).length))) (q + 1) (185 + 5 * j + 1) (ps_m 1)) (q + 1) (185 + 5 * j + 2) (nI 0), ?_, ML_fs (by omega) (fun k hk => by rw [ev_rj (by omega), ev_rj (by omega), ev_rj (by omega)]) h3, ps_Fs_tr (ps_Fs_tr (ps_Fs_st (by omega)) (ps_Fs_st (by omega))) (ps_Fs_st (by omega)), ?_, ?_, ?_, ?_, ?_⟩
    · simp (disch := omega) only [ps_letE, ps_b2E, nI_add, pk_mul, nI_clamp, ev_inB, nI_leI, nI_ltI, nI_eq, if_pos, if_neg, ev_eqm, ev_eqm2, ev_ltm, ev_lem, ev_mlt, ev_mle, ev_mm, ev_subm, pk_sub, ev_true, if_true, if_false, ite_true, ite_false, Option.map, ev_rs, ev_ra, ev_rj, ev_cpO, ps_isB1, ps_isB0, p_spec, l_spec, n_spec]
    · simp (disch := omega) only [ps_letE, ps_b2E, nI_add, pk_mul, nI_clamp, ev_inB, nI_leI, nI_ltI, nI_eq, if_pos, if_neg, ev_eqm, ev_eqm2, ev_ltm, ev_lem, ev_mlt, ev_mle, ev_mm, ev_subm, pk_sub, ev_true, if_true, if_false, ite_true, ite_false, Option.map, ev_rs, ev_ra, ev_rj, ev_cpO, ps_isB1, ps_isB0]
    · simp (disch := omega) only [ps_letE, ps_b2E, nI_add, pk_mul, nI_clamp, ev_inB, nI_leI, nI_ltI, nI_eq, if_pos, if_neg, ev_eqm, ev_eqm2, ev_ltm, ev_lem, ev_mlt, ev_mle, ev_mm, ev_subm, pk_sub, ev_true, if_true, if_false, ite_true, ite_false, Option.map, ev_rs, ev_ra, ev_rj, ev_cpO, ps_isB1, ps_isB0]
    · simp (disch := omega) only [ps_letE, ps_b2E, nI_add, pk_mul, nI_clamp, ev_inB, nI_leI, nI_ltI, nI_eq, if_pos, if_neg, ev_eqm, ev_eqm2, ev_ltm, ev_lem, ev_mlt, ev_mle, ev_mm, ev_subm, pk_sub, ev_true, if_true, if_false, ite_true, ite_false, Option.map, ev_rs, ev_ra, ev_rj, ev_cpO, ps_isB1, ps_isB0]
    · simp (disch := omega) only [ps_letE, ps_b2E, nI_add, pk_mul, nI_clamp, ev_inB, nI_leI, nI_ltI, nI_eq, if_pos, if_neg, ev_eqm, ev_eqm2, ev_ltm, ev_lem, ev_mlt, ev_mle, ev_mm, ev_subm, pk_sub, ev_true, if_true, if_false, ite_true, ite_false, Option.map, ev_rs, ev_ra, ev_rj, ev_cpO, ps_isB1, ps_isB0]
    · simp (disch := omega) only [ps_letE, ps_b2E, nI_add, pk_mul, nI_clamp, ev_inB, nI_leI, nI_ltI, nI_eq, if_pos, if_neg, ev_eqm, ev_eqm2, ev_ltm, ev_lem, ev_mlt, ev_mle, ev_mm, ev_subm, pk_sub, ev_true, if_true, if_false, ite_true, ite_false, Option.map, ev_rs, ev_ra, ev_rj, ev_cpO, ps_isB1, ps_isB0]
  | k + 1, n, M, h1, h2, h3, h4 => by
    obtain ⟨n, rfl⟩ : ∃ m, n = m + 1 := ⟨n - 1, by omega⟩
    have hk : k < L.length := h2
    have hlt : (L.take k).length = k := by rw [List.length_take]; omega
    have hfl : ((L.drop (k + 1)).filterMap (ps_fa fade)).length ≤ L.length - (k + 1) := Nat.le_trans (List.length_filterMap_le _ _) (by rw [List.length_drop]; omega)
    have hC : L.take (k + 1) ++ (L.drop (k + 1)).filterMap (ps_fa fade) = L.take k ++ ps_lk L k :: (L.drop (k + 1)).filterMap (ps_fa fade) := by rw [ls_take hk, List.append_assoc]; rfl
    have hF : (L.drop k).filterMap (ps_fa fade) = match ps_fa fade (ps_lk L k) with | none => (L.drop (k + 1)).filterMap (ps_fa fade) | some y => y :: (L.drop (k + 1)).filterMap (ps_fa fade) := by
      rw [ls_drop hk, List.filterMap_cons]
      cases ps_fa fade (ps_lk L k) <;> rfl
    rw [hC] at h3
    have hat : ps_lk (L.take k ++ ps_lk L k :: (L.drop (k + 1)).filterMap (ps_fa fade)) k = ps_lk L k := by
      have := ls_at (A := L.take k) (F := (L.drop (k + 1)).filterMap (ps_fa fade)) (x := ps_lk L k)
      rw [hlt] at this
      exact this
    have hlen : (L.take k ++ ps_lk L k :: (L.drop (k + 1)).filterMap (ps_fa fade)).length = k + 1 + ((L.drop (k + 1)).filterMap (ps_fa fade)).length := by rw [List.length_append, hlt, List.length_cons]; omega
    obtain ⟨r1, r2, r3⟩ := h3.2 k (by omega)
    rw [hat] at r1 r2 r3
    obtain ⟨o1, o2, o3, o4, o5⟩ := okL_at hok hk
    have set_ : ∀ (m : Nat) (v : Int32), v = nI m → ps_ML (ps_st (ps_st M (q + 1) (205 + 183 * j + 3 * k + 1) v) (q + 1) (205 + 183 * j + 3 * k + 2) (nI 0)) (q + 1) j (L.take k ++ ((ps_lk L k).1, (ps_lk L k).2.1, m, 0) :: (L.drop (k + 1)).filterMap (ps_fa fade)) := by
      intro m v hv
      have h5 := ML_set h3 (by omega) (show k < _ by omega) hv
      rw [hat] at h5
      have h6 := ls_set (A := L.take k) (F := (L.drop (k + 1)).filterMap (ps_fa fade)) (x := ps_lk L k) (y := ((ps_lk L k).1, (ps_lk L k).2.1, m, 0))
      rw [hlt] at h6
      rw [h6] at h5
      exact h5
    have kept : ∀ (y : ps_L) (M2 : ps_M), ps_fa fade (ps_lk L k) = some y → M2 = ps_st (ps_st M (q + 1) (205 + 183 * j + 3 * k + 1) (nI y.2.2.1)) (q + 1) (205 + 183 * j + 3 * k + 2) (nI 0) → y = ((ps_lk L k).1, (ps_lk L k).2.1, y.2.2.1, 0) → ∃ M1, fk_X7_fades_14 q n (nI j) (nI (L.length - (k + 1) - ((L.drop (k + 1)).filterMap (ps_fa fade)).length)) (ps_dn k) M2 = some (nI (L.length - (L.filterMap (ps_fa fade)).length), M1) ∧ ps_ML M1 (q + 1) j (L.filterMap (ps_fa fade)) ∧ ps_Fs (q + 1) j M M1 ∧ ps_rd M1 (q + 1) 8 = ps_rd M (q + 1) 8 ∧ ps_rd M1 (q + 1) (185 + 5 * j + 1) = ps_m 1 ∧ ps_rd M1 (q + 1) (185 + 5 * j + 2) = nI 0 ∧ ps_rd M1 (q + 1) (185 + 5 * j + 3) = ps_rd M (q + 1) (185 + 5 * j + 3) ∧ ps_rd M1 (q + 1) (185 + 5 * j + 4) = ps_rd M (q + 1) (185 + 5 * j + 4) + nI (L.length - (L.filterMap (ps_fa fade)).length) := by
      intro y M2 hy hM2 hy2
      rw [hy] at hF
      have hF2 : (L.drop k).filterMap (ps_fa fade) = y :: (L.drop (k + 1)).filterMap (ps_fa fade) := hF
      have hm := set_ y.2.2.1 _ rfl
      rw [← hy2, ← hF2, ← hM2] at hm
      obtain ⟨M1, g1, g2, g3, g4, g5, g6, g7, g8⟩ := mo_fd hj hf hL hok k n M2 (by omega) (by omega) hm (by rw [hM2, ev_rj (by omega), ev_rj (by omega)]; exact h4)
      rw [hF2, List.length_cons] at g1
      rw [show L.length - (k + 1) - ((L.drop (k + 1)).filterMap (ps_fa fade)).length = L.length - k - (((L.drop (k + 1)).filterMap (ps_fa fade)).length + 1) by omega]
      refine ⟨M1, g1, g2, ps_Fs_tr ?_ g3, ?_, g5, g6, ?_, ?_⟩
      · rw [hM2]; exact ps_Fs_tr (ps_Fs_st (by omega)) (ps_Fs_st (by omega))
      · rw [g4, hM2]; simp (disch := omega) only [ps_letE, ps_b2E, nI_add, pk_mul, nI_clamp, ev_inB, nI_leI, nI_ltI, nI_eq, if_pos, if_neg, ev_eqm, ev_eqm2, ev_ltm, ev_lem, ev_mlt, ev_mle, ev_mm, ev_subm, pk_sub, ev_true, if_true, if_false, ite_true, ite_false, Option.map, ev_rs, ev_ra, ev_rj, ev_cpO, ps_isB1, ps_isB0]
      · rw [g7, hM2]; simp (disch := omega) only [ps_letE, ps_b2E, nI_add, pk_mul, nI_clamp, ev_inB, nI_leI, nI_ltI, nI_eq, if_pos, if_neg, ev_eqm, ev_eqm2, ev_ltm, ev_lem, ev_mlt, ev_mle, ev_mm, ev_subm, pk_sub, ev_true, if_true, if_false, ite_true, ite_false, Option.map, ev_rs, ev_ra, ev_rj, ev_cpO, ps_isB1, ps_isB0]
      · rw [g8, hM2]; simp (disch := omega) only [ps_letE, ps_b2E, nI_add, pk_mul, nI_clamp, ev_inB, nI_leI, nI_ltI, nI_eq, if_pos, if_neg, ev_eqm, ev_eqm2, ev_ltm, ev_lem, ev_mlt, ev_mle, ev_mm, ev_subm, pk_sub, ev_true, if_true, if_false, ite_true, ite_false, Option.map, ev_rs, ev_ra, ev_rj, ev_cpO, ps_isB1, ps_isB0]
    rw [ps_dn_s, fk_X7_fades_14]
    by_cases c1 : (ps_lk L k).2.2.2 = 1
    · obtain ⟨M1, g1, g2⟩ := kept _ _ (if_pos c1) rfl rfl
      refine ⟨M1, ?_, g2⟩
      rw [c1] at r3
      simp (disch := omega) only [ps_letE, ps_b2E, nI_add, pk_mul, nI_clamp, ev_inB, nI_leI, nI_ltI, nI_eq, if_pos, if_neg, ev_eqm, ev_eqm2, ev_ltm, ev_lem, ev_mlt, ev_mle, ev_mm, ev_subm, pk_sub, ev_true, if_true, if_false, ite_true, ite_false, Option.map, ev_rs, ev_ra, ev_rj, ev_cpO, ps_isB1, ps_isB0, p_spec, l_spec, n_spec, r2, r3, fk_X7_fades_57, Nat.sub_zero, ps_dn_m]
      exact g1
    · have e4 : (ps_lk L k).2.2.2 = 0 := by omega
      rw [e4] at r3
      by_cases c2 : (ps_lk L k).2.2.1 < fade + 1
      · have hy : ps_fa fade (ps_lk L k) = none := by unfold ps_fa; rw [if_neg c1, if_pos c2]
        rw [hy] at hF
        have hF2 : (L.drop k).filterMap (ps_fa fade) = (L.drop (k + 1)).filterMap (ps_fa fade) := hF
        obtain ⟨m, hm⟩ := nI_all (nI (ps_lk L k).2.2.1 - nI fade)
        have h5 := set_ m _ hm
        obtain ⟨M3, t1, t2, t3, t4, t5⟩ := mo_takes h5 hj (by rw [List.length_append, hlt, List.length_cons]; omega) (show k < _ by rw [List.length_append, hlt, List.length_cons]; omega)
        have h6 := ls_era (A := L.take k) (F := (L.drop (k + 1)).filterMap (ps_fa fade)) (x := ((ps_lk L k).1, (ps_lk L k).2.1, m, 0))
        rw [hlt] at h6
        rw [h6, ← hF2] at t2
        obtain ⟨M1, g1, g2, g3, g4, g5, g6, g7, g8⟩ := mo_fd hj hf hL hok k n M3 (by omega) (by omega) t2 (by rw [t3.2.2 _ (by omega) (by omega) (by omega), ev_rj (by omega), ev_rj (by omega)]; exact h4)
        rw [hF2, show L.length - k - ((L.drop (k + 1)).filterMap (ps_fa fade)).length = L.length - (k + 1) - ((L.drop (k + 1)).filterMap (ps_fa fade)).length + 1 by omega] at g1
        refine ⟨M1, ?_, g2, ps_Fs_tr (ps_Fs_tr (ps_Fs_tr (ps_Fs_st (by omega)) (ps_Fs_st (by omega))) t3) g3, ?_, g5, g6, ?_, ?_⟩
        · simp (disch := omega) only [ps_letE, ps_b2E, nI_add, pk_mul, nI_clamp, ev_inB, nI_leI, nI_ltI, nI_eq, if_pos, if_neg, ev_eqm, ev_eqm2, ev_ltm, ev_lem, ev_mlt, ev_mle, ev_mm, ev_subm, pk_sub, ev_true, if_true, if_false, ite_true, ite_false, Option.map, ev_rs, ev_ra, ev_rj, ev_cpO, ps_isB1, ps_isB0, p_spec, l_spec, n_spec, r2, r3, h4, fk_X7_fades_57, nI_suble]
          rw [t1]
          simp (disch := omega) only [ps_letE, ps_b2E, nI_add, pk_mul, nI_clamp, ev_inB, nI_leI, nI_ltI, nI_eq, if_pos, if_neg, ev_eqm, ev_eqm2, ev_ltm, ev_lem, ev_mlt, ev_mle, ev_mm, ev_subm, pk_sub, ev_true, if_true, if_false, ite_true, ite_false, Option.map, ev_rs, ev_ra, ev_rj, ev_cpO, ps_isB1, ps_isB0, p_spec, l_spec, n_spec, ps_dn_m]
          exact g1
        · rw [g4, t4]; simp (disch := omega) only [ps_letE, ps_b2E, nI_add, pk_mul, nI_clamp, ev_inB, nI_leI, nI_ltI, nI_eq, if_pos, if_neg, ev_eqm, ev_eqm2, ev_ltm, ev_lem, ev_mlt, ev_mle, ev_mm, ev_subm, pk_sub, ev_true, if_true, if_false, ite_true, ite_false, Option.map, ev_rs, ev_ra, ev_rj, ev_cpO, ps_isB1, ps_isB0]
        · rw [g7, t5 _ (by omega) (by omega)]; simp (disch := omega) only [ps_letE, ps_b2E, nI_add, pk_mul, nI_clamp, ev_inB, nI_leI, nI_ltI, nI_eq, if_pos, if_neg, ev_eqm, ev_eqm2, ev_ltm, ev_lem, ev_mlt, ev_mle, ev_mm, ev_subm, pk_sub, ev_true, if_true, if_false, ite_true, ite_false, Option.map, ev_rs, ev_ra, ev_rj, ev_cpO, ps_isB1, ps_isB0]
        · rw [g8, t5 _ (by omega) (by omega)]; simp (disch := omega) only [ps_letE, ps_b2E, nI_add, pk_mul, nI_clamp, ev_inB, nI_leI, nI_ltI, nI_eq, if_pos, if_neg, ev_eqm, ev_eqm2, ev_ltm, ev_lem, ev_mlt, ev_mle, ev_mm, ev_subm, pk_sub, ev_true, if_true, if_false, ite_true, ite_false, Option.map, ev_rs, ev_ra, ev_rj, ev_cpO, ps_isB1, ps_isB0]
      · have hy : ps_fa fade (ps_lk L k) = some ((ps_lk L k).1, (ps_lk L k).2.1, (ps_lk L k).2.2.1 - fade, 0) := by unfold ps_fa; rw [if_neg c1, if_neg c2]
        obtain ⟨M1, g1, g2⟩ := kept _ _ hy rfl rfl
        refine ⟨M1, ?_, g2⟩
        simp (disch := omega) only [ps_letE, ps_b2E, nI_add, pk_mul, nI_clamp, ev_inB, nI_leI, nI_ltI, nI_eq, if_pos, if_neg, ev_eqm, ev_eqm2, ev_ltm, ev_lem, ev_mlt, ev_mle, ev_mm, ev_subm, pk_sub, ev_true, if_true, if_false, ite_true, ite_false, Option.map, ev_rs, ev_ra, ev_rj, ev_cpO, ps_isB1, ps_isB0, p_spec, l_spec, n_spec, r2, r3, h4, fk_X7_fades_57, ps_dn_m]
        exact g1
theorem mo_fades {M : ps_M} {q j fade : Nat} {P : ps_P} (hR : ps_MP M (q + 1) j P) (hj : j < 4) (hok : ps_ok P) (hf : fade ≤ 3) (hfa : ps_rd M (q + 1) 1 = nI fade) : ∃ M1, ff_X7_fades q (nI j) M = some (nI (P.1.length - (P.1.filterMap (ps_fa fade)).length), M1) ∧ ps_MP M1 (q + 1) j (ps_sl fade P) ∧ ps_Fs (q + 1) j M M1 ∧ ps_rd M1 (q + 1) 8 = ps_rd M (q + 1) 8 := by
  obtain ⟨L, last, td, ia, fg⟩ := P
  obtain ⟨h1, h2, h3, h4, h5⟩ := hR
  obtain ⟨o1, o2, o3⟩ := hok
  dsimp only at h1 h2 h3 h4 h5 o1 o2 o3 ⊢
  obtain ⟨M1, g1, g2, g3, g4, g5, g6, g7, g8⟩ := mo_fd (q := q) hj hf (show L.length ≤ 61 by omega) o2 L.length ps_fu M (by unfold ps_fu; omega) (Nat.le_refl _) (by rw [List.take_length, List.drop_length]; simpa using h1) hfa
  rw [List.drop_length, List.filterMap_nil, List.length_nil, Nat.sub_zero, Nat.sub_self] at g1
  refine ⟨M1, ?_, ⟨g2, g5, g6, g7.trans h4, ?_⟩, g3, g4⟩
  · unfold ff_X7_fades
    rw [p_spec, ps_b2E, if_pos (ev_inB (by omega) (by omega)), nI_clamp (by omega), h1.1, ps_letE]
    exact g1
  · rw [g8, h5]
    rfl
