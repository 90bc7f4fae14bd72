/-! the model's questions from outside -/
theorem no_ne {x : Int32} {n j : Nat} (h : ps_no x n) (hj : j < n) (hn : n < 1000000) : ¬ x = nI j := by
  intro e
  rw [e] at h
  rcases h with h | h
  · exact nI_nlt (Nat.zero_le _) (by omega) h
  · exact nI_ge hj (by omega) h
theorem in_c (x : Int32) (n : Nat) (hn : n < 1000) (M : ps_M) : ff_X7_in x (nI 0) (nI n) M = some (if ps_inB x (n + 1) = true then nI 1 else nI 0, M) := by
  rw [in_spec]
  rcases ps_cas x (n + 1) (by omega) with ⟨j, hj, rfl⟩ | hx
  · rw [if_pos ⟨nI_le (by omega) (by omega), nI_le (by omega) (by omega)⟩, if_pos (ev_inB hj (by omega))]
  · rw [if_neg (ps_inBN hx (by omega)), if_neg (fun z => ?_)]
    rcases hx with h | h
    · exact absurd z.1 (Int32.not_le.mpr h)
    · have z2 := z.2
      rw [Int32.le_iff_toInt_le, nI_toInt (by omega)] at z2 h
      omega
theorem ml_cl {o : Option Nat} (ho : ∀ b, o = some b → b < 26) {M : ps_M} : (if nI 0 ≤ ps_ml o then some (ps_ml o, M) else some (ps_m 6, M)) = some (ps_cl o, M) := by
  cases o with
  | none => simp (disch := omega) only [ps_letE, ps_b2E, nI_add, pk_mul, nI_clamp, ev_inB, nI_leI, nI_ltI, nI_eq, if_pos, if_neg, ev_eqm, ev_eqm2, ev_ltm, ev_lem, ev_mlt, ev_mle, ev_mm, ev_subm, pk_sub, ev_true, if_true, if_false, ite_true, ite_false, Option.map, ev_rs, ev_ra, ev_rj, ev_cpO, ps_isB1, ps_isB0, ps_ml, ps_cl]
  | some b =>
    have := ho b rfl
    simp (disch := omega) only [ps_letE, ps_b2E, nI_add, pk_mul, nI_clamp, ev_inB, nI_leI, nI_ltI, nI_eq, if_pos, if_neg, ev_eqm, ev_eqm2, ev_ltm, ev_lem, ev_mlt, ev_mle, ev_mm, ev_subm, pk_sub, ev_true, if_true, if_false, ite_true, ite_false, Option.map, ev_rs, ev_ra, ev_rj, ev_cpO, ps_isB1, ps_isB0, ps_ml, ps_cl]
theorem mq_ofSong {M : ps_M} {q : Nat} {v : ps_H} (hR : ps_RM M (q + 1) v) (hok : ps_okH v) (s w : Int32) : ff_X7_ofSong q s w M = some (qa_ofSong s w v, M) := by
  have ns := hok.2.1.1
  unfold ff_X7_ofSong qa_ofSong
  rcases ps_cas s v.2.1 (by omega) with ⟨i, hi, rfl⟩ | hs
  · obtain ⟨s1, s2, s3⟩ := hok.2.1.2 i hi
    obtain ⟨r1, r2, r3⟩ := hR.2.2.2.2.2.2.1 i hi
    have e0 : ps_rd M (q + 1) (9 + 22 * i + 2) = nI ((v.2.2.1 i).2.1 0) := r3 0 (by omega)
    have e1 : ps_rd M (q + 1) (9 + 22 * i + 1 + (v.2.2.1 i).1) = nI ((v.2.2.1 i).2.1 ((v.2.2.1 i).1 - 1)) := by rw [show 9 + 22 * i + 1 + (v.2.2.1 i).1 = 9 + 22 * i + 2 + ((v.2.2.1 i).1 - 1) by omega]; exact r3 _ (by omega)
    rw [mo_isS hR hok hi, ps_b2E, if_neg (by rw [nI_eq (by omega) (by omega)]; omega), if_pos (ev_inB hi (by omega)), nI_clamp (by omega)]
    refine ps_it (fun _ => ?_) (fun _ => ps_it (fun _ => ?_) (fun _ => ps_it (fun _ => ?_) (fun _ => ps_it (fun _ => ?_) (fun _ => ps_it (fun _ => ?_) (fun _ => ps_it (fun _ => ?_) (fun _ => rfl))))))
    · simp (disch := omega) only [ps_letE, ps_b2E, nI_add, pk_mul, nI_clamp, ev_inB, nI_leI, nI_ltI, nI_eq, if_pos, if_neg, ev_eqm, ev_eqm2, ev_ltm, ev_lem, ev_mlt, ev_mle, ev_mm, ev_subm, pk_sub, ev_true, if_true, if_false, ite_true, ite_false, Option.map, ev_rs, ev_ra, ev_rj, ev_cpO, ps_isB1, ps_isB0, p_spec, l_spec, n_spec, r1]
    · rw [mo_unl hR.2.2.2.2.2.2.1 hok.2.1 hi]
      rfl
    · simp (disch := omega) only [ps_letE, ps_b2E, nI_add, pk_mul, nI_clamp, ev_inB, nI_leI, nI_ltI, nI_eq, if_pos, if_neg, ev_eqm, ev_eqm2, ev_ltm, ev_lem, ev_mlt, ev_mle, ev_mm, ev_subm, pk_sub, ev_true, if_true, if_false, ite_true, ite_false, Option.map, ev_rs, ev_ra, ev_rj, ev_cpO, ps_isB1, ps_isB0, p_spec, l_spec, n_spec, e0]
    · simp (disch := omega) only [ps_letE, ps_b2E, nI_add, pk_mul, nI_clamp, ev_inB, nI_leI, nI_ltI, nI_eq, if_pos, if_neg, ev_eqm, ev_eqm2, ev_ltm, ev_lem, ev_mlt, ev_mle, ev_mm, ev_subm, pk_sub, ev_true, if_true, if_false, ite_true, ite_false, Option.map, ev_rs, ev_ra, ev_rj, ev_cpO, ps_isB1, ps_isB0, p_spec, l_spec, n_spec, r1, e1]
    · simp (disch := omega) only [ps_letE, ps_b2E, nI_add, pk_mul, nI_clamp, ev_inB, nI_leI, nI_ltI, nI_eq, if_pos, if_neg, ev_eqm, ev_eqm2, ev_ltm, ev_lem, ev_mlt, ev_mle, ev_mm, ev_subm, pk_sub, ev_true, if_true, if_false, ite_true, ite_false, Option.map, ev_rs, ev_ra, ev_rj, ev_cpO, ps_isB1, ps_isB0, p_spec, l_spec, n_spec, r2]
    · rw [mo_knowers hR hok hi]
      rfl
  · rw [mo_isSN hR hok hs, ps_b2E, if_pos rfl, if_neg (ps_inBN hs (by omega))]
theorem mq_bar {M : ps_M} {q : Nat} {v : ps_H} (hR : ps_RM M (q + 1) v) (hok : ps_okH v) (s x : Int32) : ff_X7_bar q s x M = some (qa_bar s x v, M) := by
  have ns := hok.2.1.1
  unfold ff_X7_bar qa_bar
  rcases ps_cas s v.2.1 (by omega) with ⟨i, hi, rfl⟩ | hs
  · obtain ⟨s1, s2, s3⟩ := hok.2.1.2 i hi
    obtain ⟨r1, r2, r3⟩ := hR.2.2.2.2.2.2.1 i hi
    rw [mo_isS hR hok hi, ps_b2E, if_neg (by rw [nI_eq (by omega) (by omega)]; omega), n_spec, ps_b2E, if_pos (ev_inB (by omega) (by omega)), nI_clamp (by omega), nI_clamp (by omega), r1]
    rcases ps_cas x (v.2.2.1 i).1 (by omega) with ⟨j, hj, rfl⟩ | hx
    · rw [in_yes hj (by omega), ps_b2E, if_neg (by rw [nI_eq (by omega) (by omega)]; omega), if_pos ⟨ev_inB hi (by omega), ev_inB hj (by omega)⟩]
      simp (disch := omega) only [ps_letE, ps_b2E, nI_add, pk_mul, nI_clamp, ev_inB, nI_leI, nI_ltI, nI_eq, if_pos, if_neg, ev_eqm, ev_eqm2, ev_ltm, ev_lem, ev_mlt, ev_mle, ev_mm, ev_subm, pk_sub, ev_true, if_true, if_false, ite_true, ite_false, Option.map, ev_rs, ev_ra, ev_rj, ev_cpO, ps_isB1, ps_isB0, p_spec, l_spec, n_spec, r3 j hj]
    · rw [in_no hx (by omega), ps_b2E, if_pos rfl, if_neg (fun z => ps_inBN hx (by omega) z.2)]
  · rw [mo_isSN hR hok hs, ps_b2E, if_pos rfl, if_neg (fun z => ps_inBN hs (by omega) z.1)]
theorem mq_of {M : ps_M} {q : Nat} {v : ps_H} (hR : ps_RM M (q + 1) v) (hok : ps_okH v) (p w : Int32) : ff_X7_of q p w M = some (qa_of p w v, M) := by
  have np := hok.2.2.1
  unfold ff_X7_of qa_of
  rcases ps_cas p v.2.2.2.1 (by omega) with ⟨j, hj, rfl⟩ | hp
  · have hP := hR.2.2.2.2.2.2.2 j hj
    have hPo := hok.2.2.2.1 j
    have e3 : ps_rd M (q + 1) (185 + 5 * j + 3 - 1) = (v.2.2.2.2.1 j).2.2.1 := by rw [show 185 + 5 * j + 3 - 1 = 185 + 5 * j + 2 by omega]; exact hP.2.2.1
    have e4 : ps_rd M (q + 1) (185 + 5 * j + 4 - 1) = (v.2.2.2.2.1 j).2.2.2.1 := by rw [show 185 + 5 * j + 4 - 1 = 185 + 5 * j + 3 by omega]; exact hP.2.2.2.1
    have e5 : ps_rd M (q + 1) (185 + 5 * j + 5 - 1) = (v.2.2.2.2.1 j).2.2.2.2 := by rw [show 185 + 5 * j + 5 - 1 = 185 + 5 * j + 4 by omega]; exact hP.2.2.2.2
    rw [mo_isP hR hok hj, ps_b2E, if_neg (by rw [nI_eq (by omega) (by omega)]; omega), if_pos (ev_inB hj (by omega)), nI_clamp (by omega), p_spec, ps_b2E]
    refine ps_it (fun _ => ?_) (fun _ => ps_it (fun _ => ?_) (fun _ => ps_it (fun _ => ?_) (fun _ => ps_it (fun e => ?_) (fun _ => ps_it (fun e => ?_) (fun _ => ps_it (fun e => ?_) (fun _ => ps_it (fun _ => ?_) (fun _ => rfl)))))))
    · simp (disch := omega) only [ps_letE, ps_b2E, nI_add, pk_mul, nI_clamp, ev_inB, nI_leI, nI_ltI, nI_eq, if_pos, if_neg, ev_eqm, ev_eqm2, ev_ltm, ev_lem, ev_mlt, ev_mle, ev_mm, ev_subm, pk_sub, ev_true, if_true, if_false, ite_true, ite_false, Option.map, ev_rs, ev_ra, ev_rj, ev_cpO, ps_isB1, ps_isB0, p_spec, l_spec, n_spec, hP.1.1]
    · rw [mo_sum hP.1 (by omega) (Nat.le_trans hPo.1 (by omega))]
      rfl
    · rw [nI_add, if_pos (ev_inB (by omega) (by omega)), nI_clamp (by omega), hP.2.1]
      simp only [if_pos (show ps_inB (nI (185 + 5 * j + 1)) 937 = true from ev_inB (by omega) (by omega))]
      exact ml_cl hPo.2.2
    · subst e
      simp (disch := omega) only [ps_letE, ps_b2E, nI_add, pk_mul, nI_clamp, ev_inB, nI_leI, nI_ltI, nI_eq, if_pos, if_neg, ev_eqm, ev_eqm2, ev_ltm, ev_lem, ev_mlt, ev_mle, ev_mm, ev_subm, pk_sub, ev_true, if_true, if_false, ite_true, ite_false, Option.map, ev_rs, ev_ra, ev_rj, ev_cpO, ps_isB1, ps_isB0, p_spec, l_spec, n_spec, e3]
    · subst e
      simp (disch := omega) only [ps_letE, ps_b2E, nI_add, pk_mul, nI_clamp, ev_inB, nI_leI, nI_ltI, nI_eq, if_pos, if_neg, ev_eqm, ev_eqm2, ev_ltm, ev_lem, ev_mlt, ev_mle, ev_mm, ev_subm, pk_sub, ev_true, if_true, if_false, ite_true, ite_false, Option.map, ev_rs, ev_ra, ev_rj, ev_cpO, ps_isB1, ps_isB0, p_spec, l_spec, n_spec, e4]
    · subst e
      simp (disch := omega) only [ps_letE, ps_b2E, nI_add, pk_mul, nI_clamp, ev_inB, nI_leI, nI_ltI, nI_eq, if_pos, if_neg, ev_eqm, ev_eqm2, ev_ltm, ev_lem, ev_mlt, ev_mle, ev_mm, ev_subm, pk_sub, ev_true, if_true, if_false, ite_true, ite_false, Option.map, ev_rs, ev_ra, ev_rj, ev_cpO, ps_isB1, ps_isB0, p_spec, l_spec, n_spec, e5]
    · rw [mo_songsOf hR.2.2.1 hR.2.2.2.2.2.2.1 hok.2.1 hP.1 (by omega) (Nat.le_trans hPo.1 (by omega)) hPo.2.1]
      rfl
  · rw [mo_isPN hR hok hp, ps_b2E, if_pos rfl, if_neg (ps_inBN hp (by omega))]
theorem mq_link {M : ps_M} {q : Nat} {v : ps_H} (hR : ps_RM M (q + 1) v) (hok : ps_okH v) (p k w : Int32) : ff_X7_link q p k w M = some (qa_link p k w v, M) := by
  have np := hok.2.2.1
  unfold ff_X7_link qa_link
  rcases ps_cas p v.2.2.2.1 (by omega) with ⟨j, hj, rfl⟩ | hp
  · have hP := hR.2.2.2.2.2.2.2 j hj
    have hPo := hok.2.2.2.1 j
    have hl := hPo.1
    rw [mo_isP hR hok hj, ps_b2E, if_neg (by rw [nI_eq (by omega) (by omega)]; omega), p_spec, ps_b2E, if_pos (ev_inB (by omega) (by omega)), nI_clamp (by omega), nI_clamp (by omega), hP.1.1]
    rcases ps_cas k (v.2.2.2.2.1 j).1.length (by omega) with ⟨i, hi, rfl⟩ | hk
    · obtain ⟨r1, r2, r3⟩ := hP.1.2 ((v.2.2.2.2.1 j).1.length - 1 - i) (by omega)
      obtain ⟨o1, o2, o3, o4, o5⟩ := okL_at hPo.2.1 (show (v.2.2.2.2.1 j).1.length - 1 - i < _ by omega)
      rw [in_yes hi (by omega), ps_b2E, if_neg (by rw [nI_eq (by omega) (by omega)]; omega), if_pos ⟨ev_inB hj (by omega), ev_inB hi (by omega)⟩, p_spec, ps_b2E, if_pos (ev_inB (by omega) (by omega)), nI_clamp (by omega), nI_clamp (by omega), hP.1.1, pk_sub (by omega), pk_sub (by omega), l_spec, ps_b2E]
      generalize hT : 205 + 183 * j + 3 * ((v.2.2.2.2.1 j).1.length - 1 - i) = T at r1 r2 r3 ⊢
      generalize ps_lk (v.2.2.2.2.1 j).1 ((v.2.2.2.2.1 j).1.length - 1 - i) = x at r1 r2 r3 o1 o2 o3 o4 o5 ⊢
      have hT2 : T < 937 - 3 := by omega
      rcases ps_cas w 4 (by omega) with ⟨c, hc, rfl⟩ | hw
      · rw [if_pos (ev_inB hc (by omega)), nI_clamp (by omega)]
        obtain rfl | rfl | rfl | rfl : c = 0 ∨ c = 1 ∨ c = 2 ∨ c = 3 := by omega
        · have e1 : (26 * x.1 + x.2.1) / 26 = x.1 := by omega
          rw [if_pos rfl]
          simp (disch := omega) only [ps_letE, ps_b2E, nI_add, pk_mul, nI_clamp, ev_inB, nI_leI, nI_ltI, nI_eq, if_pos, if_neg, ev_eqm, ev_eqm2, ev_ltm, ev_lem, ev_mlt, ev_mle, ev_mm, ev_subm, pk_sub, ev_true, if_true, if_false, ite_true, ite_false, Option.map, ev_rs, ev_ra, ev_rj, ev_cpO, ps_isB1, ps_isB0, p_spec, l_spec, n_spec, r1, pk_div, e1]
          rfl
        · have e1 : (26 * x.1 + x.2.1) / 26 = x.1 := by omega
          have e2 : 26 * x.1 + x.2.1 - x.1 * 26 = x.2.1 := by omega
          rw [if_neg (by rw [nI_eq (by omega) (by omega)]; omega), if_pos rfl]
          simp (disch := omega) only [ps_letE, ps_b2E, nI_add, pk_mul, nI_clamp, ev_inB, nI_leI, nI_ltI, nI_eq, if_pos, if_neg, ev_eqm, ev_eqm2, ev_ltm, ev_lem, ev_mlt, ev_mle, ev_mm, ev_subm, pk_sub, ev_true, if_true, if_false, ite_true, ite_false, Option.map, ev_rs, ev_ra, ev_rj, ev_cpO, ps_isB1, ps_isB0, p_spec, l_spec, n_spec, r1, pk_div, e1, e2]
          rfl
        · have e3 : ps_rd M (q + 1) (T + 2 - 1) = nI x.2.2.1 := r2
          rw [if_neg (by rw [nI_eq (by omega) (by omega)]; omega), if_neg (by rw [nI_eq (by omega) (by omega)]; omega), if_pos rfl]
          simp (disch := omega) only [ps_letE, ps_b2E, nI_add, pk_mul, nI_clamp, ev_inB, nI_leI, nI_ltI, nI_eq, if_pos, if_neg, ev_eqm, ev_eqm2, ev_ltm, ev_lem, ev_mlt, ev_mle, ev_mm, ev_subm, pk_sub, ev_true, if_true, if_false, ite_true, ite_false, Option.map, ev_rs, ev_ra, ev_rj, ev_cpO, ps_isB1, ps_isB0, p_spec, l_spec, n_spec, e3]
          rfl
        · have e3 : ps_rd M (q + 1) (T + 3 - 1) = nI x.2.2.2 := r3
          rw [if_neg (by rw [nI_eq (by omega) (by omega)]; omega), if_neg (by rw [nI_eq (by omega) (by omega)]; omega), if_neg (by rw [nI_eq (by omega) (by omega)]; omega), if_pos rfl]
          simp (disch := omega) only [ps_letE, ps_b2E, nI_add, pk_mul, nI_clamp, ev_inB, nI_leI, nI_ltI, nI_eq, if_pos, if_neg, ev_eqm, ev_eqm2, ev_ltm, ev_lem, ev_mlt, ev_mle, ev_mm, ev_subm, pk_sub, ev_true, if_true, if_false, ite_true, ite_false, Option.map, ev_rs, ev_ra, ev_rj, ev_cpO, ps_isB1, ps_isB0, p_spec, l_spec, n_spec, e3]
          rfl
      · rw [if_neg (ps_inBN hw (by omega)), if_neg (no_ne hw (by omega) (by omega)), if_neg (no_ne hw (by omega) (by omega)), if_neg (no_ne hw (by omega) (by omega)), if_neg (no_ne hw (by omega) (by omega))]
    · rw [in_no hk (by omega), ps_b2E, if_pos rfl, if_neg (fun (z : ps_inB (nI j) v.2.2.2.1 = true ∧ ps_inB k (v.2.2.2.2.1 j).1.length = true) => ps_inBN hk (by omega) z.2)]
  · rw [mo_isPN hR hok hp, ps_b2E, if_pos rfl, if_neg (fun z => ps_inBN hp (by omega) z.1)]
theorem mq_sings {M : ps_M} {q : Nat} {v : ps_H} (hR : ps_RM M (q + 1) v) (hok : ps_okH v) (p b t : Int32) : ff_X7_sings q p b t M = some (qa_sings p b t v, M) := by
  have np := hok.2.2.1
  unfold ff_X7_sings qa_sings
  rcases ps_cas p v.2.2.2.1 (by omega) with ⟨j, hj, rfl⟩ | hp
  · have hP := hR.2.2.2.2.2.2.2 j hj
    have hPo := hok.2.2.2.1 j
    rw [mo_isP hR hok hj, ps_b2E, if_neg (by rw [nI_eq (by omega) (by omega)]; omega), if_pos (ev_inB hj (by omega)), nI_clamp (by omega), in_c b 25 (by omega), ps_b2E, in_c t 99 (by omega)]
    rcases ps_cas b 26 (by omega) with ⟨a, ha, rfl⟩ | hb
    · rw [if_pos (ev_inB ha (by omega)), if_neg (by rw [nI_eq (by omega) (by omega)]; omega), ps_b2E]
      rcases ps_cas t 100 (by omega) with ⟨k, hk, rfl⟩ | ht
      · rw [if_pos (ev_inB hk (by omega)), if_neg (by rw [nI_eq (by omega) (by omega)]; omega), if_pos ⟨ev_inB ha (by omega), ev_inB hk (by omega)⟩, nI_clamp (by omega), nI_clamp (by omega)]
        have hit : ∀ o : Option Nat, (∀ c, o = some c → c < 26) → ∀ c, o.bind (ps_nx (v.2.2.2.2.1 j).1) = some c → c < 26 := fun o ho c e => by
          cases o with
          | none => cases e
          | some d => exact ps_nx_lt hPo.2.1 e
        refine Eq.trans (ps_whP (F := fun n i (o : Option Nat) => fk_X7_sings_39 q n (nI j) (nI a) (nI k) (ps_ml o) (nI i) M) (I := fun _ o => ∀ c, o = some c → c < 26) k (fun _ o => o.isSome) (fun _ o => o.bind (ps_nx (v.2.2.2.2.1 j).1)) (fun i o => some (ps_cl o, M)) (fun n i o h1 h2 h3 => ?_) (fun n i o h1 h2 h3 => ?_) k ps_fu 0 (some a) (by omega) (by unfold ps_fu; omega) (fun c e => by cases e; exact ha)).1 ?_
        · rw [fk_X7_sings_39]
          by_cases c : i < k
          · have h4 := h3 c
            cases o with
            | none =>
              rw [if_neg (nI_ge c (by omega)), if_pos (show ps_ml none < nI 0 by unfold ps_ml; rw [ev_mlt (by omega) (by omega) (by omega)]; trivial)]
              exact ml_cl h2
            | some d => simp at h4
          · rw [if_pos (nI_le (by omega) (by omega))]
            exact ml_cl h2
        · cases o with
          | none => simp at h3
          | some d =>
            have hd := h2 d rfl
            refine ⟨?_, hit _ h2⟩
            rw [fk_X7_sings_39, if_neg (nI_ge h1 (by omega))]
            show (if nI d < nI 0 then _ else ps_b2 (ff_X7_goesOn q (nI j) (nI d) M) _) = _
            rw [if_neg (nI_nlt (by omega) (by omega)), mo_next hP.1 (by omega) (Nat.le_trans hPo.1 (by omega)) hPo.2.1 hd, ps_b2E, ps_letE, nI_add]
            rfl
        · rw [pa_it_wh]
      · rw [if_neg (ps_inBN ht (by omega)), if_pos rfl, if_neg (fun (z : ps_inB (nI a) 26 = true ∧ ps_inB t 100 = true) => ps_inBN ht (by omega) z.2)]
    · rw [if_neg (ps_inBN hb (by omega)), if_pos rfl, if_neg (fun (z : ps_inB b 26 = true ∧ ps_inB t 100 = true) => ps_inBN hb (by omega) z.1)]
  · rw [mo_isPN hR hok hp, ps_b2E, if_pos rfl, if_neg (ps_inBN hp (by omega))]
theorem mq_knows {M : ps_M} {q : Nat} {v : ps_H} (hR : ps_RM M (q + 1) v) (hok : ps_okH v) (p s : Int32) : ff_X7_knows q p s M = some (qa_knows p s v, M) := by
  have np := hok.2.2.1
  have ns := hok.2.1.1
  unfold ff_X7_knows qa_knows
  rcases ps_cas p v.2.2.2.1 (by omega) with ⟨j, hj, rfl⟩ | hp
  · have hP := hR.2.2.2.2.2.2.2 j hj
    have hPo := hok.2.2.2.1 j
    rw [mo_isP hR hok hj, ps_b2E, if_neg (by rw [nI_eq (by omega) (by omega)]; omega)]
    rcases ps_cas s v.2.1 (by omega) with ⟨i, hi, rfl⟩ | hs
    · rw [mo_isS hR hok hi, ps_b2E, if_neg (by rw [nI_eq (by omega) (by omega)]; omega), if_pos ⟨ev_inB hj (by omega), ev_inB hi (by omega)⟩, nI_clamp (by omega), nI_clamp (by omega), mo_hu hR.2.2.2.2.2.2.1 hok.2.1 hP.1 (by omega) (Nat.le_trans hPo.1 (by omega)) hPo.2.1 hi]
      rfl
    · rw [mo_isSN hR hok hs, ps_b2E, if_pos rfl, if_neg (fun z => ps_inBN hs (by omega) z.2)]
  · rw [mo_isPN hR hok hp, ps_b2E, if_pos rfl, if_neg (fun z => ps_inBN hp (by omega) z.1)]
theorem mq_mist {M : ps_M} {q : Nat} {v : ps_H} (hR : ps_RM M (q + 1) v) (hok : ps_okH v) (p s w : Int32) : ff_X7_mistake q p s w M = some (qa_mist p s w v, M) := by
  have np := hok.2.2.1
  have ns := hok.2.1.1
  unfold ff_X7_mistake qa_mist
  rcases ps_cas p v.2.2.2.1 (by omega) with ⟨j, hj, rfl⟩ | hp
  · have hP := hR.2.2.2.2.2.2.2 j hj
    have hPo := hok.2.2.2.1 j
    rw [mo_isP hR hok hj, ps_b2E, if_neg (by rw [nI_eq (by omega) (by omega)]; omega)]
    rcases ps_cas s v.2.1 (by omega) with ⟨i, hi, rfl⟩ | hs
    · obtain ⟨s1, s2, s3⟩ := hok.2.1.2 i hi
      obtain ⟨r1, r2, r3⟩ := hR.2.2.2.2.2.2.1 i hi
      have hrt := pa_rt_le (v.2.2.2.2.1 j).1 (v.2.2.1 i)
      rw [mo_isS hR hok hi, ps_b2E, if_neg (by rw [nI_eq (by omega) (by omega)]; omega), if_pos ⟨ev_inB hj (by omega), ev_inB hi (by omega)⟩, nI_clamp (by omega : j < 2 ^ 31), nI_clamp (by omega : i < 2 ^ 31), in_c w 2 (by omega), ps_b2E]
      rcases ps_cas w 3 (by omega) with ⟨c, hc, rfl⟩ | hw
      · rw [if_pos (ev_inB hc (by omega)), if_pos (ev_inB hc (by omega)), if_neg (by rw [nI_eq (by omega) (by omega)]; omega), mo_right hR.2.2.2.2.2.2.1 hok.2.1 hP.1 (by omega) (Nat.le_trans hPo.1 (by omega)) hPo.2.1 hi, ps_b2E, n_spec, ps_b2E, if_pos (ev_inB (by omega) (by omega)), nI_clamp (by omega), r1, nI_add]
        by_cases c1 : (v.2.2.1 i).1 ≤ pa_rt (v.2.2.2.2.1 j).1 (v.2.2.1 i) + 1
        · rw [if_pos c1, if_neg (nI_nlt c1 (by omega))]
        · have hb := s3 (pa_rt (v.2.2.2.2.1 j).1 (v.2.2.1 i)) (by omega)
          have ho := fun c e => ps_nx_lt hPo.2.1 (a := (v.2.2.1 i).2.1 (pa_rt (v.2.2.2.2.1 j).1 (v.2.2.1 i))) (c := c) e
          rw [if_neg c1, if_pos (nI_lt (by omega) (by omega)), n_spec, ps_b2E, nI_add, nI_add, if_pos (ev_inB (by omega) (by omega)), nI_clamp (by omega), r3 _ (by omega), ps_letE, mo_next hP.1 (by omega) (Nat.le_trans hPo.1 (by omega)) hPo.2.1 hb, ps_b2E]
          refine ps_it (fun _ => rfl) (fun _ => ps_it (fun _ => ml_cl ho) (fun _ => ?_))
          cases e : ps_nx (v.2.2.2.2.1 j).1 ((v.2.2.1 i).2.1 (pa_rt (v.2.2.2.2.1 j).1 (v.2.2.1 i))) with
          | none =>
            simp (disch := omega) only [ps_letE, ps_b2E, nI_add, pk_mul, nI_clamp, ev_inB, nI_leI, nI_ltI, nI_eq, if_pos, if_neg, ev_eqm, ev_eqm2, ev_ltm, ev_lem, ev_mlt, ev_mle, ev_mm, ev_subm, pk_sub, ev_true, if_true, if_false, ite_true, ite_false, Option.map, ev_rs, ev_ra, ev_rj, ev_cpO, ps_isB1, ps_isB0, ps_ml]
          | some d =>
            have hd := ho d e
            show (if nI 0 ≤ nI d then ps_b2 (ff_X7_songsWith q _ (nI d) M) _ else _) = _
            rw [if_pos (nI_le (by omega) (by omega)), mo_with hR.2.2.1 hR.2.2.2.2.2.2.1 hok.2.1 hb hd]
            rfl
      · rw [if_neg (ps_inBN hw (by omega)), if_pos rfl, if_neg (ps_inBN hw (by omega))]
    · rw [mo_isSN hR hok hs, ps_b2E, if_pos rfl, if_neg (fun z => ps_inBN hs (by omega) z.2)]
  · rw [mo_isPN hR hok hp, ps_b2E, if_pos rfl, if_neg (fun z => ps_inBN hp (by omega) z.1)]
theorem mq_rh {M : ps_M} {q : Nat} {v : ps_H} (hR : ps_RM M (q + 1) v) (hok : ps_okH v) (s u : Int32) : ff_X7_rhymes q s u M = some (qa_rh s u v, M) := by
  have ns := hok.2.1.1
  unfold ff_X7_rhymes qa_rh
  rcases ps_cas s v.2.1 (by omega) with ⟨i, hi, rfl⟩ | hs
  · rw [mo_isS hR hok hi, ps_b2E, if_neg (by rw [nI_eq (by omega) (by omega)]; omega)]
    rcases ps_cas u v.2.1 (by omega) with ⟨k, hk, rfl⟩ | hu
    · obtain ⟨r1, r2, r3⟩ := hR.2.2.2.2.2.2.1 i hi
      obtain ⟨t1, t2, t3⟩ := hR.2.2.2.2.2.2.1 k hk
      rw [mo_isS hR hok hk, ps_b2E, if_neg (by rw [nI_eq (by omega) (by omega)]; omega), if_pos ⟨ev_inB hi (by omega), ev_inB hk (by omega)⟩, nI_clamp (by omega : i < 2 ^ 31), nI_clamp (by omega : k < 2 ^ 31), n_spec, ps_b2E, n_spec, ps_b2E, if_pos (ev_inB (by omega) (by omega)), nI_clamp (by omega), r1, nI_add, nI_add, ps_letE, n_spec, ps_b2E, n_spec, ps_b2E, if_pos (ev_inB (by omega) (by omega)), nI_clamp (by omega), t1, nI_add, nI_add, ps_letE]
      exact mo_rhy hR.2.2.2.2.2.2.1 hok.2.1 hi hk
    · rw [mo_isSN hR hok hu, ps_b2E, if_pos rfl, if_neg (fun z => ps_inBN hu (by omega) z.2)]
  · rw [mo_isSN hR hok hs, ps_b2E, if_pos rfl, if_neg (fun z => ps_inBN hs (by omega) z.1)]
theorem mq_fol {M : ps_M} {q : Nat} {v : ps_H} (hR : ps_RM M (q + 1) v) (hok : ps_okH v) (p s : Int32) : ff_X7_follows q p s M = some (qa_fol p s v, M) := by
  have np := hok.2.2.1
  have ns := hok.2.1.1
  unfold ff_X7_follows qa_fol
  rcases ps_cas p v.2.2.2.1 (by omega) with ⟨j, hj, rfl⟩ | hp
  · have hP := hR.2.2.2.2.2.2.2 j hj
    have hPo := hok.2.2.2.1 j
    rw [mo_isP hR hok hj, ps_b2E, if_neg (by rw [nI_eq (by omega) (by omega)]; omega)]
    rcases ps_cas s v.2.1 (by omega) with ⟨i, hi, rfl⟩ | hs
    · obtain ⟨s1, s2, s3⟩ := hok.2.1.2 i hi
      obtain ⟨r1, r2, r3⟩ := hR.2.2.2.2.2.2.1 i hi
      have e1 : ps_rd M (q + 1) (9 + 22 * i + 1 + (v.2.2.1 i).1) = nI ((v.2.2.1 i).2.1 ((v.2.2.1 i).1 - 1)) := by rw [show 9 + 22 * i + 1 + (v.2.2.1 i).1 = 9 + 22 * i + 2 + ((v.2.2.1 i).1 - 1) by omega]; exact r3 _ (by omega)
      rw [mo_isS hR hok hi, ps_b2E, if_neg (by rw [nI_eq (by omega) (by omega)]; omega), if_pos ⟨ev_inB hj (by omega), ev_inB hi (by omega)⟩, nI_clamp (by omega), nI_clamp (by omega), n_spec, ps_b2E, n_spec, ps_b2E, if_pos (ev_inB (by omega) (by omega)), nI_clamp (by omega), r1, nI_add, nI_add, if_pos (ev_inB (by omega) (by omega)), nI_clamp (by omega), e1, mo_next hP.1 (by omega) (Nat.le_trans hPo.1 (by omega)) hPo.2.1 (s3 _ (by omega)), ps_b2E]
      exact mo_from hR.2.2.1 hR.2.2.2.2.2.2.1 hok.2.1 (fun c e => ps_nx_lt hPo.2.1 e) _ _
    · rw [mo_isSN hR hok hs, ps_b2E, if_pos rfl, if_neg (fun z => ps_inBN hs (by omega) z.2)]
  · rw [mo_isPN hR hok hp, ps_b2E, if_pos rfl, if_neg (fun z => ps_inBN hp (by omega) z.1)]
theorem mq_count {M : ps_M} {q : Nat} {A : ps_U} (hR : ps_RM M (q + 1) A.1) (hok : ps_okU A) (h9 : ps_rd M q 9 = nI A.2.2.2.1) (h10 : ps_rd M q 10 = nI A.2.1.1) (w : Int32) : ff_X7_count q w M = some (qa_count w A, M) := by
  unfold ff_X7_count qa_count
  refine ps_it (fun e => ?_) (fun _ => ps_it (fun e => ?_) (fun _ => ps_it (fun e => ?_) (fun _ => ps_it (fun e => ?_) (fun _ => ps_it (fun e => ?_) (fun _ => ps_it (fun e => ?_) (fun _ => ps_it (fun e => ?_) (fun _ => ps_it (fun e => ?_) (fun _ => ps_it (fun e => ?_) (fun _ => ps_it (fun e => ?_) (fun _ => ps_it (fun e => ?_) (fun _ => ps_it (fun e => ?_) (fun _ => ps_it (fun e => ?_) (fun _ => ps_it (fun e => ?_) (fun _ => rfl))))))))))))))
  · subst e
    simp (disch := omega) only [ps_letE, ps_b2E, nI_add, pk_mul, nI_clamp, ev_inB, nI_leI, nI_ltI, nI_eq, if_pos, if_neg, ev_eqm, ev_eqm2, ev_ltm, ev_lem, ev_mlt, ev_mle, ev_mm, ev_subm, pk_sub, ev_true, if_true, if_false, ite_true, ite_false, Option.map, ev_rs, ev_ra, ev_rj, ev_cpO, ps_isB1, ps_isB0, p_spec, l_spec, n_spec, Nat.reduceAdd, hR.2.1]
  · subst e
    simp (disch := omega) only [ps_letE, ps_b2E, nI_add, pk_mul, nI_clamp, ev_inB, nI_leI, nI_ltI, nI_eq, if_pos, if_neg, ev_eqm, ev_eqm2, ev_ltm, ev_lem, ev_mlt, ev_mle, ev_mm, ev_subm, pk_sub, ev_true, if_true, if_false, ite_true, ite_false, Option.map, ev_rs, ev_ra, ev_rj, ev_cpO, ps_isB1, ps_isB0, p_spec, l_spec, n_spec, Nat.reduceAdd, hR.2.2.1]
  · subst e
    simp (disch := omega) only [ps_letE, ps_b2E, nI_add, pk_mul, nI_clamp, ev_inB, nI_leI, nI_ltI, nI_eq, if_pos, if_neg, ev_eqm, ev_eqm2, ev_ltm, ev_lem, ev_mlt, ev_mle, ev_mm, ev_subm, pk_sub, ev_true, if_true, if_false, ite_true, ite_false, Option.map, ev_rs, ev_ra, ev_rj, ev_cpO, ps_isB1, ps_isB0, p_spec, l_spec, n_spec, Nat.reduceAdd, hR.2.2.2.1]
  · subst e
    simp (disch := omega) only [ps_letE, ps_b2E, nI_add, pk_mul, nI_clamp, ev_inB, nI_leI, nI_ltI, nI_eq, if_pos, if_neg, ev_eqm, ev_eqm2, ev_ltm, ev_lem, ev_mlt, ev_mle, ev_mm, ev_subm, pk_sub, ev_true, if_true, if_false, ite_true, ite_false, Option.map, ev_rs, ev_ra, ev_rj, ev_cpO, ps_isB1, ps_isB0, p_spec, l_spec, n_spec, Nat.reduceAdd, hR.2.2.2.2.1]
  · subst e
    simp (disch := omega) only [ps_letE, ps_b2E, nI_add, pk_mul, nI_clamp, ev_inB, nI_leI, nI_ltI, nI_eq, if_pos, if_neg, ev_eqm, ev_eqm2, ev_ltm, ev_lem, ev_mlt, ev_mle, ev_mm, ev_subm, pk_sub, ev_true, if_true, if_false, ite_true, ite_false, Option.map, ev_rs, ev_ra, ev_rj, ev_cpO, ps_isB1, ps_isB0, p_spec, l_spec, n_spec, Nat.reduceAdd, hR.2.2.2.2.2.1]
  · subst e
    rw [mo_ofP hR hok.1 (by omega)]
    rfl
  · subst e
    rw [mo_ofP hR hok.1 (by omega)]
    rfl
  · subst e
    rw [mo_ofP hR hok.1 (by omega)]
    rfl
  · subst e
    simp (disch := omega) only [ps_letE, ps_b2E, nI_add, pk_mul, nI_clamp, ev_inB, nI_leI, nI_ltI, nI_eq, if_pos, if_neg, ev_eqm, ev_eqm2, ev_ltm, ev_lem, ev_mlt, ev_mle, ev_mm, ev_subm, pk_sub, ev_true, if_true, if_false, ite_true, ite_false, Option.map, ev_rs, ev_ra, ev_rj, ev_cpO, ps_isB1, ps_isB0, p_spec, l_spec, n_spec, Nat.reduceSub, hR.1 0 (by omega)]
  · subst e
    simp (disch := omega) only [ps_letE, ps_b2E, nI_add, pk_mul, nI_clamp, ev_inB, nI_leI, nI_ltI, nI_eq, if_pos, if_neg, ev_eqm, ev_eqm2, ev_ltm, ev_lem, ev_mlt, ev_mle, ev_mm, ev_subm, pk_sub, ev_true, if_true, if_false, ite_true, ite_false, Option.map, ev_rs, ev_ra, ev_rj, ev_cpO, ps_isB1, ps_isB0, p_spec, l_spec, n_spec, Nat.reduceSub, hR.1 1 (by omega)]
  · subst e
    simp (disch := omega) only [ps_letE, ps_b2E, nI_add, pk_mul, nI_clamp, ev_inB, nI_leI, nI_ltI, nI_eq, if_pos, if_neg, ev_eqm, ev_eqm2, ev_ltm, ev_lem, ev_mlt, ev_mle, ev_mm, ev_subm, pk_sub, ev_true, if_true, if_false, ite_true, ite_false, Option.map, ev_rs, ev_ra, ev_rj, ev_cpO, ps_isB1, ps_isB0, p_spec, l_spec, n_spec, Nat.reduceSub, hR.1 2 (by omega)]
  · subst e
    simp (disch := omega) only [ps_letE, ps_b2E, nI_add, pk_mul, nI_clamp, ev_inB, nI_leI, nI_ltI, nI_eq, if_pos, if_neg, ev_eqm, ev_eqm2, ev_ltm, ev_lem, ev_mlt, ev_mle, ev_mm, ev_subm, pk_sub, ev_true, if_true, if_false, ite_true, ite_false, Option.map, ev_rs, ev_ra, ev_rj, ev_cpO, ps_isB1, ps_isB0, p_spec, l_spec, n_spec, Nat.reduceSub, hR.1 3 (by omega)]
  · rw [h9]
  · rw [h10]
