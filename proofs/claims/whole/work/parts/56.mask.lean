/-! the model's questions -/
theorem ps_ml_eq {L : List ps_L} (hok : ps_okL L) {a c : Nat} (hc : c < 26) : (ps_ml (ps_nx L a) = nI c) = (ps_nx L a = some c) := by
  cases h : ps_nx L a with
  | none =>
    show (ps_m 1 = nI c) = _
    rw [ev_eqm2 (by omega) (by omega) (by omega)]
    simp
  | some d =>
    have hd := ps_nx_lt hok h
    show (nI d = nI c) = _
    rw [nI_eq (by omega) (by omega)]
    simp
theorem mo_right {M : ps_M} {q j i ns : Nat} {sf : Nat → ps_S} {L : List ps_L} (hM : ps_MS M (q + 1) ns sf) (hok : ps_okS ns sf) (hL : ps_ML M (q + 1) j L) (hj : j < 4) (hL1 : L.length ≤ 61) (hoL : ps_okL L) (hi : i < ns) : ff_X7_right q (nI j) (nI i) M = some (nI (pa_rt L (sf i)), M) := by
  have ns8 := hok.1
  obtain ⟨s1, s2, s3⟩ := hok.2 i hi
  obtain ⟨r1, -, r3⟩ := hM i hi
  unfold ff_X7_right
  rw [n_spec, ps_b2E]
  refine ps_scP (F := fun n t => fk_X7_right_8 q n (nI j) (nI i) (nI (9 + 22 * i)) (nI t) M) ((sf i).1 - 1) _ (fun t => some (nI t, M)) (fun n t h1 h2 => ?_) (fun n t h1 h2 => ?_) ((sf i).1 - 1) ps_fu 0 (by omega) (by unfold ps_fu; omega)
  · rw [fk_X7_right_8]
    by_cases h : t < (sf i).1 - 1
    · have h3 : ¬ ps_nx L ((sf i).2.1 t) = some ((sf i).2.1 (t + 1)) := of_decide_eq_false (h2 h)
      have hb := s3 (t + 1) (by omega)
      have ha := s3 t (by omega)
      have r4 : ps_rd M (q + 1) (9 + 22 * i + 3 + t) = nI ((sf i).2.1 (t + 1)) := by rw [show 9 + 22 * i + 3 + t = 9 + 22 * i + 2 + (t + 1) by omega]; exact r3 _ (by omega)
      simp (disch := omega) only [ps_letE, ps_b2E, nI_add, pk_mul, nI_clamp, ev_inB, nI_leI, nI_ltI, nI_eq, if_pos, if_neg, ev_eqm, ev_eqm2, ev_ltm, ev_lem, ev_mlt, ev_mle, ev_mm, ev_subm, pk_sub, ev_true, if_true, if_false, ite_true, ite_false, Option.map, ev_rs, ev_ra, ev_rj, ev_cpO, ps_isB1, ps_isB0, p_spec, l_spec, n_spec, r1, r3 t (by omega), mo_next hL hj hL1 hoL ha, r4, ps_ml_eq hoL, h3]
    · simp (disch := omega) only [ps_letE, ps_b2E, nI_add, pk_mul, nI_clamp, ev_inB, nI_leI, nI_ltI, nI_eq, if_pos, if_neg, ev_eqm, ev_eqm2, ev_ltm, ev_lem, ev_mlt, ev_mle, ev_mm, ev_subm, pk_sub, ev_true, if_true, if_false, ite_true, ite_false, Option.map, ev_rs, ev_ra, ev_rj, ev_cpO, ps_isB1, ps_isB0, p_spec, l_spec, n_spec, r1]
  · rw [fk_X7_right_8]
    have hb := s3 (t + 1) (by omega)
    have ha := s3 t (by omega)
    have r4 : ps_rd M (q + 1) (9 + 22 * i + 3 + t) = nI ((sf i).2.1 (t + 1)) := by rw [show 9 + 22 * i + 3 + t = 9 + 22 * i + 2 + (t + 1) by omega]; exact r3 _ (by omega)
    have h3 : ps_ml (ps_nx L ((sf i).2.1 t)) = nI ((sf i).2.1 (t + 1)) := by
      rw [ps_ml_eq hoL hb]
      exact of_decide_eq_true h2
    simp (disch := omega) only [ps_letE, ps_b2E, nI_add, pk_mul, nI_clamp, ev_inB, nI_leI, nI_ltI, nI_eq, if_pos, if_neg, ev_eqm, ev_eqm2, ev_ltm, ev_lem, ev_mlt, ev_mle, ev_mm, ev_subm, pk_sub, ev_true, if_true, if_false, ite_true, ite_false, Option.map, ev_rs, ev_ra, ev_rj, ev_cpO, ps_isB1, ps_isB0, p_spec, l_spec, n_spec, r1, r3 t (by omega), mo_next hL hj hL1 hoL ha, r4, h3]
theorem mo_hu {M : ps_M} {q j i ns : Nat} {sf : Nat → ps_S} {L : List ps_L} (hM : ps_MS M (q + 1) ns sf) (hok : ps_okS ns sf) (hL : ps_ML M (q + 1) j L) (hj : j < 4) (hL1 : L.length ≤ 61) (hoL : ps_okL L) (hi : i < ns) : ff_X7_hundredths q (nI j) (nI i) M = some (nI (pa_hu L (sf i)), M) := by
  have ns8 := hok.1
  obtain ⟨s1, s2, s3⟩ := hok.2 i hi
  obtain ⟨r1, -, -⟩ := hM i hi
  have hrt := pa_rt_le L (sf i)
  unfold ff_X7_hundredths pa_hu
  by_cases h : (sf i).1 < 2
  · have e : (sf i).1 = 1 := by omega
    rw [e] at r1
    simp (disch := omega) only [ps_letE, ps_b2E, nI_add, pk_mul, nI_clamp, ev_inB, nI_leI, nI_ltI, nI_eq, if_pos, if_neg, ev_eqm, ev_eqm2, ev_ltm, ev_lem, ev_mlt, ev_mle, ev_mm, ev_subm, pk_sub, ev_true, if_true, if_false, ite_true, ite_false, Option.map, ev_rs, ev_ra, ev_rj, ev_cpO, ps_isB1, ps_isB0, p_spec, l_spec, n_spec, r1, h]
  · simp (disch := omega) only [ps_letE, ps_b2E, nI_add, pk_mul, nI_clamp, ev_inB, nI_leI, nI_ltI, nI_eq, if_pos, if_neg, ev_eqm, ev_eqm2, ev_ltm, ev_lem, ev_mlt, ev_mle, ev_mm, ev_subm, pk_sub, ev_true, if_true, if_false, ite_true, ite_false, Option.map, ev_rs, ev_ra, ev_rj, ev_cpO, ps_isB1, ps_isB0, p_spec, l_spec, n_spec, r1, mo_right hM hok hL hj hL1 hoL hi, pk_div]
theorem hu_kn {L : List ps_L} {s : ps_S} (h1 : 1 ≤ s.1) : (pa_hu L s = 100 ↔ pa_kn L s = true) ∧ pa_hu L s ≤ 100 := by
  have hrt := pa_rt_le L s
  unfold pa_hu pa_kn
  by_cases h : s.1 < 2
  · rw [if_pos h]
    exact ⟨⟨fun _ => decide_eq_true (by omega), fun _ => rfl⟩, Nat.le_refl _⟩
  · rw [if_neg h]
    have hp : 0 < s.1 - 1 := by omega
    refine ⟨⟨fun e => decide_eq_true ?_, fun e => ?_⟩, ?_⟩
    · by_cases c : s.1 ≤ pa_rt L s + 1
      · exact c
      · have : 100 * pa_rt L s / (s.1 - 1) < 100 := by
          rw [Nat.div_lt_iff_lt_mul hp]
          omega
        omega
    · have e2 : pa_rt L s = s.1 - 1 := by
        have := of_decide_eq_true e
        omega
      rw [e2]
      exact Nat.mul_div_cancel _ hp
    · have := Nat.div_le_div_right (c := s.1 - 1) (show 100 * pa_rt L s ≤ 100 * (s.1 - 1) by omega)
      rw [Nat.mul_div_cancel _ hp] at this
      exact this
theorem I_or0 (x : Int32) : x ||| nI 0 = x := by
  show x ||| 0 = x
  simp
theorem mo_known {M : ps_M} {q j ns : Nat} {sf : Nat → ps_S} {L : List ps_L} (h5 : ps_rd M (q + 1) 5 = nI ns) (hM : ps_MS M (q + 1) ns sf) (hok : ps_okS ns sf) (hL : ps_ML M (q + 1) j L) (hj : j < 4) (hL1 : L.length ≤ 61) (hoL : ps_okL L) : ff_X7_known q (nI j) M = some (pa_all L ns sf, M) := by
  have ns8 := hok.1
  unfold ff_X7_known
  refine (ps_whP (F := fun n i (s : Int32) => fk_X7_known_4 q n (nI j) s (nI i) M) (I := fun _ _ => True) ns (fun _ _ => true) (fun i s => s + nI (pa_hu L (sf i))) (fun i s => some (s, M)) (fun n i s h1 h2 h3 => ?_) (fun n i s h1 h2 h3 => ⟨?_, trivial⟩) ns ps_fu 0 (nI 0) (by omega) (by unfold ps_fu; omega) trivial).1
  · have c : ¬ i < ns := fun c => absurd (h3 c) (by simp)
    rw [fk_X7_known_4]
    simp (disch := omega) only [ps_letE, ps_b2E, nI_add, pk_mul, nI_clamp, ev_inB, nI_leI, nI_ltI, nI_eq, if_pos, if_neg, ev_eqm, ev_eqm2, ev_ltm, ev_lem, ev_mlt, ev_mle, ev_mm, ev_subm, pk_sub, ev_true, if_true, if_false, ite_true, ite_false, Option.map, ev_rs, ev_ra, ev_rj, ev_cpO, ps_isB1, ps_isB0, p_spec, l_spec, n_spec, h5]
  · rw [fk_X7_known_4]
    simp (disch := omega) only [ps_letE, ps_b2E, nI_add, pk_mul, nI_clamp, ev_inB, nI_leI, nI_ltI, nI_eq, if_pos, if_neg, ev_eqm, ev_eqm2, ev_ltm, ev_lem, ev_mlt, ev_mle, ev_mm, ev_subm, pk_sub, ev_true, if_true, if_false, ite_true, ite_false, Option.map, ev_rs, ev_ra, ev_rj, ev_cpO, ps_isB1, ps_isB0, p_spec, l_spec, n_spec, h5, mo_hu hM hok hL hj hL1 hoL h1]
theorem mo_songsOf {M : ps_M} {q j ns : Nat} {sf : Nat → ps_S} {L : List ps_L} (h5 : ps_rd M (q + 1) 5 = nI ns) (hM : ps_MS M (q + 1) ns sf) (hok : ps_okS ns sf) (hL : ps_ML M (q + 1) j L) (hj : j < 4) (hL1 : L.length ≤ 61) (hoL : ps_okL L) : ff_X7_songsOf q (nI j) M = some (pa_set (fun i => pa_kn L (sf i)) ns, M) := by
  have ns8 := hok.1
  unfold ff_X7_songsOf
  refine (ps_whP (F := fun n i (s : Int32) => fk_X7_songsOf_4 q n (nI j) s (nI i) M) (I := fun _ _ => True) ns (fun _ _ => true) (fun i s => if pa_kn L (sf i) = true then s ||| ((nI 1) <<< ((nI i) &&& 31)) else s) (fun i s => some (s, M)) (fun n i s h1 h2 h3 => ?_) (fun n i s h1 h2 h3 => ⟨?_, trivial⟩) ns ps_fu 0 (nI 0) (by omega) (by unfold ps_fu; omega) trivial).1
  · have c : ¬ i < ns := fun c => absurd (h3 c) (by simp)
    rw [fk_X7_songsOf_4]
    simp (disch := omega) only [ps_letE, ps_b2E, nI_add, pk_mul, nI_clamp, ev_inB, nI_leI, nI_ltI, nI_eq, if_pos, if_neg, ev_eqm, ev_eqm2, ev_ltm, ev_lem, ev_mlt, ev_mle, ev_mm, ev_subm, pk_sub, ev_true, if_true, if_false, ite_true, ite_false, Option.map, ev_rs, ev_ra, ev_rj, ev_cpO, ps_isB1, ps_isB0, p_spec, l_spec, n_spec, h5]
  · obtain ⟨s1, s2, s3⟩ := hok.2 i h1
    obtain ⟨k1, k2⟩ := hu_kn (L := L) s1
    rw [fk_X7_songsOf_4]
    by_cases c : pa_kn L (sf i) = true
    · rw [if_pos c]
      simp (disch := omega) only [ps_letE, ps_b2E, nI_add, pk_mul, nI_clamp, ev_inB, nI_leI, nI_ltI, nI_eq, if_pos, if_neg, ev_eqm, ev_eqm2, ev_ltm, ev_lem, ev_mlt, ev_mle, ev_mm, ev_subm, pk_sub, ev_true, if_true, if_false, ite_true, ite_false, Option.map, ev_rs, ev_ra, ev_rj, ev_cpO, ps_isB1, ps_isB0, p_spec, l_spec, n_spec, h5, mo_hu hM hok hL hj hL1 hoL h1, k1.mpr c]
    · have c2 : ¬ pa_hu L (sf i) = 100 := fun z => c (k1.mp z)
      rw [if_neg c]
      simp (disch := omega) only [ps_letE, ps_b2E, nI_add, pk_mul, nI_clamp, ev_inB, nI_leI, nI_ltI, nI_eq, if_pos, if_neg, ev_eqm, ev_eqm2, ev_ltm, ev_lem, ev_mlt, ev_mle, ev_mm, ev_subm, pk_sub, ev_true, if_true, if_false, ite_true, ite_false, Option.map, ev_rs, ev_ra, ev_rj, ev_cpO, ps_isB1, ps_isB0, p_spec, l_spec, n_spec, h5, mo_hu hM hok hL hj hL1 hoL h1, c2, I_or0]
theorem mo_knowers {M : ps_M} {q i : Nat} {v : ps_H} (hR : ps_RM M (q + 1) v) (hok : ps_okH v) (hi : i < v.2.1) : ff_X7_knowers q (nI i) M = some (pa_set (fun j => pa_kn (v.2.2.2.2.1 j).1 (v.2.2.1 i)) v.2.2.2.1, M) := by
  have np := hok.2.2.1
  obtain ⟨s1, s2, s3⟩ := hok.2.1.2 i hi
  have h6 := hR.2.2.2.1
  unfold ff_X7_knowers
  refine (ps_whP (F := fun n j (s : Int32) => fk_X7_knowers_4 q n (nI i) s (nI j) M) (I := fun _ _ => True) v.2.2.2.1 (fun _ _ => true) (fun j s => if pa_kn (v.2.2.2.2.1 j).1 (v.2.2.1 i) = true then s ||| ((nI 1) <<< ((nI j) &&& 31)) else s) (fun j s => some (s, M)) (fun n j s h1 h2 h3 => ?_) (fun n j s h1 h2 h3 => ⟨?_, trivial⟩) v.2.2.2.1 ps_fu 0 (nI 0) (by omega) (by unfold ps_fu; omega) trivial).1
  · have c : ¬ j < v.2.2.2.1 := fun c => absurd (h3 c) (by simp)
    rw [fk_X7_knowers_4]
    simp (disch := omega) only [ps_letE, ps_b2E, nI_add, pk_mul, nI_clamp, ev_inB, nI_leI, nI_ltI, nI_eq, if_pos, if_neg, ev_eqm, ev_eqm2, ev_ltm, ev_lem, ev_mlt, ev_mle, ev_mm, ev_subm, pk_sub, ev_true, if_true, if_false, ite_true, ite_false, Option.map, ev_rs, ev_ra, ev_rj, ev_cpO, ps_isB1, ps_isB0, p_spec, l_spec, n_spec, h6]
  · obtain ⟨k1, k2⟩ := hu_kn (L := (v.2.2.2.2.1 j).1) s1
    have hPo := hok.2.2.2.1 j
    have hh := mo_hu hR.2.2.2.2.2.2.1 hok.2.1 (hR.2.2.2.2.2.2.2 j h1).1 (by omega) (Nat.le_trans hPo.1 (by omega)) hPo.2.1 hi
    rw [fk_X7_knowers_4]
    by_cases c : pa_kn (v.2.2.2.2.1 j).1 (v.2.2.1 i) = true
    · rw [if_pos c]
      simp (disch := omega) only [ps_letE, ps_b2E, nI_add, pk_mul, nI_clamp, ev_inB, nI_leI, nI_ltI, nI_eq, if_pos, if_neg, ev_eqm, ev_eqm2, ev_ltm, ev_lem, ev_mlt, ev_mle, ev_mm, ev_subm, pk_sub, ev_true, if_true, if_false, ite_true, ite_false, Option.map, ev_rs, ev_ra, ev_rj, ev_cpO, ps_isB1, ps_isB0, p_spec, l_spec, n_spec, h6, hh, k1.mpr c]
    · have c2 : ¬ pa_hu (v.2.2.2.2.1 j).1 (v.2.2.1 i) = 100 := fun z => c (k1.mp z)
      rw [if_neg c]
      simp (disch := omega) only [ps_letE, ps_b2E, nI_add, pk_mul, nI_clamp, ev_inB, nI_leI, nI_ltI, nI_eq, if_pos, if_neg, ev_eqm, ev_eqm2, ev_ltm, ev_lem, ev_mlt, ev_mle, ev_mm, ev_subm, pk_sub, ev_true, if_true, if_false, ite_true, ite_false, Option.map, ev_rs, ev_ra, ev_rj, ev_cpO, ps_isB1, ps_isB0, p_spec, l_spec, n_spec, h6, hh, c2, I_or0]
theorem mo_sum {M : ps_M} {q j : Nat} {L : List ps_L} (hL : ps_ML M (q + 1) j L) (hj : j < 4) (hL1 : L.length ≤ 61) : ff_X7_strengths q (nI j) M = some (pa_sum L, M) := by
  unfold ff_X7_strengths
  refine (ps_whP (F := fun n i (s : Int32) => fk_X7_strengths_4 q n (nI j) s (nI i) M) (I := fun _ _ => True) L.length (fun _ _ => true) (fun i s => s + nI (ps_lk L i).2.2.1) (fun i s => some (s, M)) (fun n i s h1 h2 h3 => ?_) (fun n i s h1 h2 h3 => ⟨?_, trivial⟩) L.length ps_fu 0 (nI 0) (by omega) (by unfold ps_fu; omega) trivial).1
  · have c : ¬ i < L.length := fun c => absurd (h3 c) (by simp)
    rw [fk_X7_strengths_4]
    simp (disch := omega) only [ps_letE, ps_b2E, nI_add, pk_mul, nI_clamp, ev_inB, nI_leI, nI_ltI, nI_eq, if_pos, if_neg, ev_eqm, ev_eqm2, ev_ltm, ev_lem, ev_mlt, ev_mle, ev_mm, ev_subm, pk_sub, ev_true, if_true, if_false, ite_true, ite_false, Option.map, ev_rs, ev_ra, ev_rj, ev_cpO, ps_isB1, ps_isB0, p_spec, l_spec, n_spec, hL.1]
  · rw [fk_X7_strengths_4]
    simp (disch := omega) only [ps_letE, ps_b2E, nI_add, pk_mul, nI_clamp, ev_inB, nI_leI, nI_ltI, nI_eq, if_pos, if_neg, ev_eqm, ev_eqm2, ev_ltm, ev_lem, ev_mlt, ev_mle, ev_mm, ev_subm, pk_sub, ev_true, if_true, if_false, ite_true, ite_false, Option.map, ev_rs, ev_ra, ev_rj, ev_cpO, ps_isB1, ps_isB0, p_spec, l_spec, n_spec, hL.1, (hL.2 i h1).2.1]
theorem mo_unl {M : ps_M} {q i ns : Nat} {sf : Nat → ps_S} (hM : ps_MS M (q + 1) ns sf) (hok : ps_okS ns sf) (hi : i < ns) : ff_X7_unlike q (nI i) M = some (nI (pa_un (sf i)).1, M) := by
  have ns8 := hok.1
  obtain ⟨s1, s2, s3⟩ := hok.2 i hi
  obtain ⟨r1, -, r3⟩ := hM i hi
  unfold ff_X7_unlike
  refine (ps_whP (F := fun n k (s : Nat × Int32) => fk_X7_unlike_7 q n (nI i) s.2 (nI s.1) (nI k) M) (I := fun _ _ => True) (sf i).1 (fun _ _ => true) (fun k c => (c.1 + (if ((c.2 >>> ((nI ((sf i).2.1 k)) &&& 31)) &&& nI 1) = nI 0 then 1 else 0), c.2 ||| ((nI 1) <<< ((nI ((sf i).2.1 k)) &&& 31)))) (fun k s => some (nI s.1, M)) (fun n k s h1 h2 h3 => ?_) (fun n k s h1 h2 h3 => ⟨?_, trivial⟩) (sf i).1 ps_fu 0 (0, nI 0) (by omega) (by unfold ps_fu; omega) trivial).1
  · have c : ¬ k < (sf i).1 := fun c => absurd (h3 c) (by simp)
    rw [fk_X7_unlike_7]
    simp (disch := omega) only [ps_letE, ps_b2E, nI_add, pk_mul, nI_clamp, ev_inB, nI_leI, nI_ltI, nI_eq, if_pos, if_neg, ev_eqm, ev_eqm2, ev_ltm, ev_lem, ev_mlt, ev_mle, ev_mm, ev_subm, pk_sub, ev_true, if_true, if_false, ite_true, ite_false, Option.map, ev_rs, ev_ra, ev_rj, ev_cpO, ps_isB1, ps_isB0, p_spec, l_spec, n_spec, r1]
  · rw [fk_X7_unlike_7]
    by_cases c : ((s.2 >>> ((nI ((sf i).2.1 k)) &&& 31)) &&& nI 1) = nI 0
    · simp only [if_pos c]
      simp (disch := omega) only [ps_letE, ps_b2E, nI_add, pk_mul, nI_clamp, ev_inB, nI_leI, nI_ltI, nI_eq, if_pos, if_neg, ev_eqm, ev_eqm2, ev_ltm, ev_lem, ev_mlt, ev_mle, ev_mm, ev_subm, pk_sub, ev_true, if_true, if_false, ite_true, ite_false, Option.map, ev_rs, ev_ra, ev_rj, ev_cpO, ps_isB1, ps_isB0, p_spec, l_spec, n_spec, r1, r3 k h1, c]
    · simp only [if_neg c]
      simp (disch := omega) only [ps_letE, ps_b2E, nI_add, pk_mul, nI_clamp, ev_inB, nI_leI, nI_ltI, nI_eq, if_pos, if_neg, ev_eqm, ev_eqm2, ev_ltm, ev_lem, ev_mlt, ev_mle, ev_mm, ev_subm, pk_sub, ev_true, if_true, if_false, ite_true, ite_false, Option.map, ev_rs, ev_ra, ev_rj, ev_cpO, ps_isB1, ps_isB0, p_spec, l_spec, n_spec, r1, r3 k h1, c]
