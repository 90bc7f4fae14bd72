/-! lessons and practice of the model -/
theorem RM_wS {M : ps_M} {s i : Nat} {v : ps_H} (hok : ps_okH v) (hR : ps_RM M s v) (hi : i < v.2.1) : ps_RM (ps_st (ps_st M s (9 + 22 * i + 1) ((v.2.2.1 i).2.2 + nI 1)) s 7 (pa_lessons v.2.1 v.2.2.1 + nI 1)) s (pa_wS v i) := by
  obtain ⟨r1, r2, r3, r4, r5, r6, r7, r8⟩ := hR
  have np := hok.2.2.1
  have ns := hok.2.1.1
  refine ⟨fun j hj => by rw [ev_rj (by omega), ev_rj (by omega)]; exact r1 j hj, by rw [ev_rj (by omega), ev_rj (by omega)]; exact r2, by rw [ev_rj (by omega), ev_rj (by omega)]; exact r3, by rw [ev_rj (by omega), ev_rj (by omega)]; exact r4, ?_, by rw [ev_rj (by omega), ev_rj (by omega)]; exact r6, fun k hk => ?_, fun j hj => ?_⟩
  · rw [ev_rs]
    refine (sm_up (f := fun k => (v.2.2.1 k).2.2) (g := fun k => (if k = i then ((v.2.2.1 i).1, (v.2.2.1 i).2.1, (v.2.2.1 i).2.2 + nI 1) else v.2.2.1 k).2.2) (j := i) ?_ (fun k e => ?_) v.2.1 hi).symm
    · rw [if_pos rfl]
    · rw [if_neg e]
  · have hk2 : k < v.2.1 := hk
    obtain ⟨t1, t2, t3⟩ := r7 k hk2
    obtain ⟨s1, s2, s3⟩ := hok.2.1.2 k hk2
    show _ = nI (if k = i then ((v.2.2.1 i).1, (v.2.2.1 i).2.1, (v.2.2.1 i).2.2 + nI 1) else v.2.2.1 k).1 ∧ _ = (if k = i then ((v.2.2.1 i).1, (v.2.2.1 i).2.1, (v.2.2.1 i).2.2 + nI 1) else v.2.2.1 k).2.2 ∧ ∀ j, j < (if k = i then ((v.2.2.1 i).1, (v.2.2.1 i).2.1, (v.2.2.1 i).2.2 + nI 1) else v.2.2.1 k).1 → _ = nI ((if k = i then ((v.2.2.1 i).1, (v.2.2.1 i).2.1, (v.2.2.1 i).2.2 + nI 1) else v.2.2.1 k).2.1 j)
    by_cases e : k = i
    · subst e
      rw [if_pos rfl]
      exact ⟨by simp (disch := omega) only [ps_letE, ps_b2E, nI_add, pk_mul, nI_clamp, ev_inB, nI_leI, nI_ltI, nI_eq, if_pos, if_neg, ev_eqm, ev_eqm2, ev_ltm, ev_lem, ev_mlt, ev_mle, ev_mm, ev_subm, pk_sub, ev_true, if_true, if_false, ite_true, ite_false, Option.map, ev_rs, ev_ra, ev_rj, ev_cpO, ps_isB1, ps_isB0, t1], by simp (disch := omega) only [ps_letE, ps_b2E, nI_add, pk_mul, nI_clamp, ev_inB, nI_leI, nI_ltI, nI_eq, if_pos, if_neg, ev_eqm, ev_eqm2, ev_ltm, ev_lem, ev_mlt, ev_mle, ev_mm, ev_subm, pk_sub, ev_true, if_true, if_false, ite_true, ite_false, Option.map, ev_rs, ev_ra, ev_rj, ev_cpO, ps_isB1, ps_isB0], fun j hj => by rw [ev_rj (by omega), ev_rj (by omega)]; exact t3 j hj⟩
    · rw [if_neg e]
      exact ⟨by simp (disch := omega) only [ps_letE, ps_b2E, nI_add, pk_mul, nI_clamp, ev_inB, nI_leI, nI_ltI, nI_eq, if_pos, if_neg, ev_eqm, ev_eqm2, ev_ltm, ev_lem, ev_mlt, ev_mle, ev_mm, ev_subm, pk_sub, ev_true, if_true, if_false, ite_true, ite_false, Option.map, ev_rs, ev_ra, ev_rj, ev_cpO, ps_isB1, ps_isB0, t1], by simp (disch := omega) only [ps_letE, ps_b2E, nI_add, pk_mul, nI_clamp, ev_inB, nI_leI, nI_ltI, nI_eq, if_pos, if_neg, ev_eqm, ev_eqm2, ev_ltm, ev_lem, ev_mlt, ev_mle, ev_mm, ev_subm, pk_sub, ev_true, if_true, if_false, ite_true, ite_false, Option.map, ev_rs, ev_ra, ev_rj, ev_cpO, ps_isB1, ps_isB0, t2], fun j hj => by rw [ev_rj (by omega), ev_rj (by omega)]; exact t3 j hj⟩
  · have hj2 : j < v.2.2.2.1 := hj
    obtain ⟨t1, t2, t3, t4, t5⟩ := r8 j hj2
    show ps_MP _ s j (v.2.2.2.2.1 j)
    exact ⟨ML_fs (Nat.le_trans (hok.2.2.2.1 j).1 (by omega)) (fun k hk => by rw [ev_rj (by omega), ev_rj (by omega)]) t1, by simp (disch := omega) only [ps_letE, ps_b2E, nI_add, pk_mul, nI_clamp, ev_inB, nI_leI, nI_ltI, nI_eq, if_pos, if_neg, ev_eqm, ev_eqm2, ev_ltm, ev_lem, ev_mlt, ev_mle, ev_mm, ev_subm, pk_sub, ev_true, if_true, if_false, ite_true, ite_false, Option.map, ev_rs, ev_ra, ev_rj, ev_cpO, ps_isB1, ps_isB0, t2], by simp (disch := omega) only [ps_letE, ps_b2E, nI_add, pk_mul, nI_clamp, ev_inB, nI_leI, nI_ltI, nI_eq, if_pos, if_neg, ev_eqm, ev_eqm2, ev_ltm, ev_lem, ev_mlt, ev_mle, ev_mm, ev_subm, pk_sub, ev_true, if_true, if_false, ite_true, ite_false, Option.map, ev_rs, ev_ra, ev_rj, ev_cpO, ps_isB1, ps_isB0, t3], by simp (disch := omega) only [ps_letE, ps_b2E, nI_add, pk_mul, nI_clamp, ev_inB, nI_leI, nI_ltI, nI_eq, if_pos, if_neg, ev_eqm, ev_eqm2, ev_ltm, ev_lem, ev_mlt, ev_mle, ev_mm, ev_subm, pk_sub, ev_true, if_true, if_false, ite_true, ite_false, Option.map, ev_rs, ev_ra, ev_rj, ev_cpO, ps_isB1, ps_isB0, t4], by simp (disch := omega) only [ps_letE, ps_b2E, nI_add, pk_mul, nI_clamp, ev_inB, nI_leI, nI_ltI, nI_eq, if_pos, if_neg, ev_eqm, ev_eqm2, ev_ltm, ev_lem, ev_mlt, ev_mle, ev_mm, ev_subm, pk_sub, ev_true, if_true, if_false, ite_true, ite_false, Option.map, ev_rs, ev_ra, ev_rj, ev_cpO, ps_isB1, ps_isB0, t5]⟩
theorem RM_song {M0 M1 : ps_M} {q j : Nat} {v : ps_H} (hok : ps_okH v) (hR : ps_RM M0 (q + 1) v) (hF : ps_Fs (q + 1) j M0 M1) {i : Nat} (hi : i < v.2.1) : ps_rd M1 (q + 1) (9 + 22 * i) = nI (v.2.2.1 i).1 ∧ ∀ t, t < (v.2.2.1 i).1 → ps_rd M1 (q + 1) (9 + 22 * i + 2 + t) = nI ((v.2.2.1 i).2.1 t) := by
  have ns := hok.2.1.1
  obtain ⟨s1, s2, s3⟩ := hok.2.1.2 i hi
  obtain ⟨t1, t2, t3⟩ := hR.2.2.2.2.2.2.1 i hi
  exact ⟨by rw [hF.2.2 _ (by omega) (by omega) (by omega)]; exact t1, fun t ht => by rw [hF.2.2 _ (by omega) (by omega) (by omega)]; exact t3 t ht⟩
theorem mo_les {M : ps_M} {q : Nat} {v : ps_H} (hR : ps_RM M (q + 1) v) (hok : ps_okH v) (p s f : Int32) : ∃ M1, ff_X7_teaches q p s f M = some ((op_les p s f v).1, M1) ∧ ps_RM M1 (q + 1) (op_les p s f v).2 ∧ ps_Fo q M M1 := by
  have np := hok.2.2.1
  have ns := hok.2.1.1
  unfold ff_X7_teaches op_les
  rcases ps_cas p v.2.2.2.1 (by omega) with ⟨j, hj, rfl⟩ | hp
  · rw [mo_isP hR hok hj, ps_b2E, if_neg (by rw [nI_eq (by omega) (by omega)]; omega)]
    rcases ps_cas s v.2.1 (by omega) with ⟨i, hi, rfl⟩ | hs
    · rw [mo_isS hR hok hi, ps_b2E, if_neg (by rw [nI_eq (by omega) (by omega)]; omega), if_pos ⟨ev_inB hj (by omega), ev_inB hi (by omega)⟩]
      obtain ⟨s1, s2, s3⟩ := hok.2.1.2 i hi
      obtain ⟨t1, t3⟩ := RM_song (j := 0) hok hR ps_Fs_rf hi
      rw [nI_clamp (by omega : i < 2 ^ 31), nI_clamp (by omega : j < 2 ^ 31), n_spec, ps_b2E, if_pos (ev_inB (by omega) (by omega)), nI_clamp (by omega), t1]
      have h0 : ps_HR (q + 1) j (v.2.2.2.2.1 j) M (v.2.2.2.2.1 j) M := HR_rf (hR.2.2.2.2.2.2.2 j hj) (hok.2.2.2.1 j)
      rcases ps_cas f (v.2.2.1 i).1 (by omega) with ⟨a, ha, rfl⟩ | hf
      · rw [in_yes ha (by omega), ps_b2E, if_neg (by rw [nI_eq (by omega) (by omega)]; omega), if_pos (ev_inB ha (by omega)), HR_tired hR.1 (by omega) h0, ps_b2E, nI_clamp (by omega : a < 2 ^ 31)]
        unfold pa_bi
        by_cases ht : pa_ti v (v.2.2.2.2.1 j) = true
        · rw [if_pos ht, if_pos ht, if_neg (by rw [nI_eq (by omega) (by omega)]; omega)]
          exact ⟨M, rfl, hR, ps_Fo_rf⟩
        · rw [if_neg ht, if_neg ht, if_pos rfl]
          refine Exists.elim (ps_whR (F := fun n t (P : ps_P) M1 => fk_X7_teaches_54 q n (nI j) (nI i) (nI a) (nI t) M1) (Rel := fun t P M1 => ps_HR (q + 1) j (v.2.2.2.2.1 j) M P M1 ∧ a ≤ t) (v.2.2.1 i).1 (fun _ P => !(pa_ti v P)) (fun t P => pa_hear v ((v.2.2.1 i).2.1 t) P) (fun t P M1 => fk_X7_teaches_101 q (nI j) (nI i) (nI a) (nI t) M1) (fun n t P M1 h1 h2 h3 => ?_) (fun n t P M1 h1 h2 h3 => ?_) ((v.2.2.1 i).1 - a) ps_fu a (v.2.2.2.2.1 j) M (by omega) (by unfold ps_fu; omega) ⟨h0, Nat.le_refl _⟩) (fun M1 z => ?_)
          rotate_left 2
          · obtain ⟨e, z1, z4⟩ := z
            have hle := (ps_wh_le (fun _ P => !(pa_ti v P)) (fun t P => pa_hear v ((v.2.2.1 i).2.1 t) P) ((v.2.2.1 i).1 - a) a (v.2.2.2.2.1 j)).2
            have hR1 := RM_HR hok hR hj z1
            have hok1 := ps_okH_wP hok hj z1.2.1
            refine ⟨_, e.trans ?_, RM_wS hok1 hR1 hi, ps_Fo_tr (ps_Fo_s z1.2.2.1) (ps_Fo_tr ps_Fo_st ps_Fo_st)⟩
            obtain ⟨u1, u2, u3⟩ := hR1.2.2.2.2.2.2.1 i hi
            have u4 := hR1.2.2.2.2.1
            unfold fk_X7_teaches_101
            simp (disch := omega) only [ps_letE, ps_b2E, nI_add, pk_mul, nI_clamp, ev_inB, nI_leI, nI_ltI, nI_eq, if_pos, if_neg, ev_eqm, ev_eqm2, ev_ltm, ev_lem, ev_mlt, ev_mle, ev_mm, ev_subm, pk_sub, ev_true, if_true, if_false, ite_true, ite_false, Option.map, ev_rs, ev_ra, ev_rj, ev_cpO, ps_isB1, ps_isB0, p_spec, l_spec, n_spec, u2, u4]
            rfl
          · obtain ⟨z1, z4⟩ := h2
            obtain ⟨u1, u3⟩ := RM_song hok hR z1.2.2.1 hi
            rw [fk_X7_teaches_54, n_spec, ps_b2E, if_pos (ev_inB (by omega) (by omega)), nI_clamp (by omega), u1]
            by_cases c : t < (v.2.2.1 i).1
            · have c2 : pa_ti v P = true := by simpa using h3 c
              rw [if_neg (nI_ge c (by omega)), HR_tired hR.1 (by omega) z1, ps_b2E]
              unfold pa_bi
              rw [if_pos c2, if_neg (by rw [nI_eq (by omega) (by omega)]; omega)]
            · rw [if_pos (nI_le (by omega) (by omega))]
          · obtain ⟨z1, z4⟩ := h2
            obtain ⟨u1, u3⟩ := RM_song hok hR z1.2.2.1 hi
            have c2 : ¬ pa_ti v P = true := by simpa using h3
            obtain ⟨M2, e2, R2⟩ := HR_step hR.1 hok (by omega) (s3 t h1) z1
            refine ⟨M2, ?_, R2, by omega⟩
            rw [fk_X7_teaches_54, n_spec, ps_b2E, if_pos (ev_inB (by omega) (by omega)), nI_clamp (by omega), u1, if_neg (nI_ge h1 (by omega)), HR_tired hR.1 (by omega) z1, ps_b2E]
            unfold pa_bi
            rw [if_neg c2, if_pos rfl]
            simp (disch := omega) only [ps_letE, ps_b2E, nI_add, pk_mul, nI_clamp, ev_inB, nI_leI, nI_ltI, nI_eq, if_pos, if_neg, ev_eqm, ev_eqm2, ev_ltm, ev_lem, ev_mlt, ev_mle, ev_mm, ev_subm, pk_sub, ev_true, if_true, if_false, ite_true, ite_false, Option.map, ev_rs, ev_ra, ev_rj, ev_cpO, ps_isB1, ps_isB0, p_spec, l_spec, n_spec, u3 t h1, e2]
      · rw [in_no hf (by omega), ps_b2E, if_pos rfl, if_neg (ps_inBN hf (by omega))]
        exact ⟨M, rfl, hR, ps_Fo_rf⟩
    · rw [mo_isSN hR hok hs, ps_b2E, if_pos rfl, if_neg (fun z => ps_inBN hs (by omega) z.2)]
      exact ⟨M, rfl, hR, ps_Fo_rf⟩
  · rw [mo_isPN hR hok hp, ps_b2E, if_pos rfl, if_neg (fun z => ps_inBN hp (by omega) z.1)]
    exact ⟨M, rfl, hR, ps_Fo_rf⟩
/-- bars of the row sung until a parrot is tired -/
theorem mo_sing {M0 : ps_M} {q j n : Nat} {v : ps_H} {P : ps_P} {g : Nat → Nat} (hS : ∀ k, k < 4 → ps_rd M0 (q + 1) k = nI (v.1 k)) (hok : ps_okH v) (hj : j < 4) (hn : n ≤ 40) (hg : ∀ i, i < n → ps_rd M0 (q + 7) i = nI (g i)) (hg2 : ∀ i, i < n → g i < 26) (hP : ps_MP M0 (q + 1) j P) (hPo : ps_ok P) (K : Int32 → Int32 → Int32 → Int32 → Int32 → ps_M → Option (Int32 × ps_M)) (a1 a2 a4 : Int32) (k : Nat) : ∃ M1, fk_X7_practises_145 q K ps_fu a1 a2 (nI n) a4 (nI k) (nI j) (nI 0) M0 = K a1 a2 (nI n) a4 (nI (k + 1)) M1 ∧ ps_HR (q + 1) j P M0 (pa_ss v g n P) M1 := by
  refine Exists.elim (ps_whR (F := fun f t (P : ps_P) M1 => fk_X7_practises_145 q K f a1 a2 (nI n) a4 (nI k) (nI j) (nI t) M1) (Rel := fun t P1 M1 => ps_HR (q + 1) j P M0 P1 M1) n (fun _ P => !(pa_ti v P)) (fun t P => pa_hear v (g t) P) (fun t P M1 => K a1 a2 (nI n) a4 (nI (k + 1)) M1) (fun f t P1 M1 h1 h2 h3 => ?_) (fun f t P1 M1 h1 h2 h3 => ?_) n ps_fu 0 P M0 (by omega) (by unfold ps_fu; omega) (HR_rf hP hPo)) (fun M1 z => ⟨M1, z⟩)
  · rw [fk_X7_practises_145]
    by_cases c : t < n
    · have c2 : pa_ti v P1 = true := by simpa using h3 c
      rw [if_neg (nI_ge c (by omega)), HR_tired hS hj h2, ps_b2E]
      unfold pa_bi
      rw [if_pos c2, if_neg (by rw [nI_eq (by omega) (by omega)]; omega), ps_letE, nI_add]
    · rw [if_pos (nI_le (by omega) (by omega)), ps_letE, nI_add]
  · have c2 : ¬ pa_ti v P1 = true := by simpa using h3
    obtain ⟨M2, e2, R2⟩ := HR_step hS hok hj (hg2 t h1) h2
    refine ⟨M2, ?_, R2⟩
    have hgt : ps_rd M1 (q + 7) t = nI (g t) := by rw [h2.2.2.1.1 _ (by omega)]; exact hg t h1
    rw [fk_X7_practises_145, if_neg (nI_ge h1 (by omega)), HR_tired hS hj h2, ps_b2E]
    unfold pa_bi
    rw [if_neg c2, if_pos rfl]
    simp (disch := omega) only [ps_letE, ps_b2E, nI_add, pk_mul, nI_clamp, ev_inB, nI_leI, nI_ltI, nI_eq, if_pos, if_neg, ev_eqm, ev_eqm2, ev_ltm, ev_lem, ev_mlt, ev_mle, ev_mm, ev_subm, pk_sub, ev_true, if_true, if_false, ite_true, ite_false, Option.map, ev_rs, ev_ra, ev_rj, ev_cpO, ps_isB1, ps_isB0, p_spec, l_spec, n_spec, hgt, e2]
/-- who has practised or heard it so far -/
def pa_who (p k x : Nat) : Bool := decide (0 < k ∧ (x = p ∨ (x + 1 < k ∧ x < p) ∨ (p < x ∧ x < k)))
def pa_oth (p k : Nat) : Nat := if k = 0 then p else if p < k then k else k - 1
theorem pa_who_s (p k x : Nat) : pa_who p (k + 1) x = (pa_who p k x || decide (x = pa_oth p k)) := by
  unfold pa_who pa_oth
  rw [Bool.eq_iff_iff]
  by_cases c : k = 0
  · subst c
    simp
    omega
  · rw [if_neg c]
    by_cases c2 : p < k
    · rw [if_pos c2]
      simp
      omega
    · rw [if_neg c2]
      simp
      omega
theorem pa_who_o (p k : Nat) : pa_who p k (pa_oth p k) = false := by
  unfold pa_who pa_oth
  by_cases c : k = 0
  · subst c
    simp
  · rw [if_neg c]
    by_cases c2 : p < k
    · rw [if_pos c2]
      simp
      omega
    · rw [if_neg c2]
      simp
      omega
theorem mo_prac {M : ps_M} {q : Nat} {v : ps_H} (hR : ps_RM M (q + 1) v) (hok : ps_okH v) (p b : Int32) : ∃ M1, ff_X7_practises q p b M = some ((op_prac p b v).1, M1) ∧ ps_RM M1 (q + 1) (op_prac p b v).2 ∧ ps_Fo q M M1 := by
  have np := hok.2.2.1
  unfold ff_X7_practises
  rcases ps_cas p v.2.2.2.1 (by omega) with ⟨j, hj, rfl⟩ | hp
  · rw [mo_isP hR hok hj, ps_b2E, if_neg (by rw [nI_eq (by omega) (by omega)]; omega)]
    by_cases hb : nI 1 ≤ b ∧ b ≤ nI 40
    · rw [in_spec, if_pos hb, ps_b2E, if_neg (by rw [nI_eq (by omega) (by omega)]; omega)]
      have hP := hR.2.2.2.2.2.2.2 j hj
      have hPo := hok.2.2.2.1 j
      have h0 : ps_HR (q + 1) j (v.2.2.2.2.1 j) M (v.2.2.2.2.1 j) M := HR_rf hP hPo
      have hti := HR_tired hR.1 (by omega : j < 4) h0
      by_cases hl : (v.2.2.2.2.1 j).2.1 = none ∨ pa_ti v (v.2.2.2.2.1 j) = true
      · have e : op_prac (nI j) b v = (ps_m 5, v) := by
          unfold op_prac
          rw [if_pos (ev_inB hj (by omega)), if_pos hb, nI_clamp (by omega), if_pos hl]
        rw [e]
        refine ⟨M, ?_, hR, ps_Fo_rf⟩
        cases e2 : (v.2.2.2.2.1 j).2.1 with
        | none =>
          have h2 : ps_rd M (q + 1) (185 + 5 * j + 1) = ps_m 1 := by rw [hP.2.1, e2]; rfl
          simp (disch := omega) only [ps_letE, ps_b2E, nI_add, pk_mul, nI_clamp, ev_inB, nI_leI, nI_ltI, nI_eq, if_pos, if_neg, ev_eqm, ev_eqm2, ev_ltm, ev_lem, ev_mlt, ev_mle, ev_mm, ev_subm, pk_sub, ev_true, if_true, if_false, ite_true, ite_false, Option.map, ev_rs, ev_ra, ev_rj, ev_cpO, ps_isB1, ps_isB0, p_spec, l_spec, n_spec, h2]
        | some c =>
          have h2 : ps_rd M (q + 1) (185 + 5 * j + 1) = nI c := by rw [hP.2.1, e2]; rfl
          have hc := hPo.2.2 c e2
          have c2 := hl.resolve_left (fun z => by rw [e2] at z; cases z)
          simp (disch := omega) only [ps_letE, ps_b2E, nI_add, pk_mul, nI_clamp, ev_inB, nI_leI, nI_ltI, nI_eq, if_pos, if_neg, ev_eqm, ev_eqm2, ev_ltm, ev_lem, ev_mlt, ev_mle, ev_mm, ev_subm, pk_sub, ev_true, if_true, if_false, ite_true, ite_false, Option.map, ev_rs, ev_ra, ev_rj, ev_cpO, ps_isB1, ps_isB0, p_spec, l_spec, n_spec, h2, hti, pa_bi, c2]
      · have hn1 : ¬ (v.2.2.2.2.1 j).2.1 = none := fun z => hl (Or.inl z)
        have hn2 : ¬ pa_ti v (v.2.2.2.2.1 j) = true := fun z => hl (Or.inr z)
        obtain ⟨w, w1, w2, rfl⟩ := ps_btw (by omega) hb.1 hb.2 (by omega)
        have e : op_prac (nI j) (nI w) v = (nI (pa_ct (v.2.2.2.2.1 j).1 (v.2.2.2.2.1 j).2.1 w), pa_mq v (fun k => decide (k < v.2.2.2.1)) (pa_ss v (pa_sb (v.2.2.2.2.1 j).1 (v.2.2.2.2.1 j).2.1) (pa_ct (v.2.2.2.2.1 j).1 (v.2.2.2.2.1 j).2.1 w))) := by
          unfold op_prac
          rw [if_pos (ev_inB hj (by omega)), if_pos hb, nI_clamp (by omega), nI_clamp (by omega), if_neg hl]
        rw [e]
        obtain ⟨a, ha⟩ : ∃ a, (v.2.2.2.2.1 j).2.1 = some a := by
          cases e : (v.2.2.2.2.1 j).2.1 with
          | none => exact absurd e hn1
          | some c => exact ⟨c, rfl⟩
        have ha2 := hPo.2.2 a ha
        have h2 : ps_rd M (q + 1) (185 + 5 * j + 1) = nI a := by rw [hP.2.1, ha]; rfl
        have hct := pa_ct_le (v.2.2.2.2.1 j).1 (v.2.2.2.2.1 j).2.1 w
        have e0 : (ps_b2 (ff_X7_p (nI j) M) fun r3 M3 => if ps_inB (r3 + (nI 1)) 937 = true then (if (ps_rd M3 (q + 1) (r3 + (nI 1)).toNatClampNeg) < (nI 0) then (some ((ps_m 5), M3)) else (ps_b2 (ff_X7_isTired q (nI j) M3) fun r5 M5 => if r5 = (nI 0) then (ps_b2 (ff_X7_p (nI j) M5) fun r6 M6 => if ps_inB (r6 + (nI 1)) 937 = true then (ps_b2 (ff_X7_goesOn q (nI j) (ps_rd M6 (q + 1) (r6 + (nI 1)).toNatClampNeg) M6) fun r8 M8 => fk_X7_practises_68 q ps_fu (nI j) (nI w) (nI 0) r8 M8) else none) else (some ((ps_m 5), M5)))) else none) = fk_X7_practises_68 q ps_fu (nI j) (nI w) (nI 0) (ps_ml (pa_it (v.2.2.2.2.1 j).1 (some a) (0 + 1))) M := by
          rw [p_spec, ps_b2E, nI_add, if_pos (ev_inB (by omega) (by omega)), nI_clamp (by omega), h2, if_neg (nI_nlt (by omega) (by omega)), hti, ps_b2E]
          unfold pa_bi
          rw [if_neg hn2, if_pos rfl, p_spec, ps_b2E, nI_add, if_pos (ev_inB (by omega) (by omega)), nI_clamp (by omega), h2, mo_next hP.1 (by omega) (Nat.le_trans hPo.1 (by omega)) hPo.2.1 ha2, ps_b2E]
          rfl
        rw [e0]
        have hit : ∀ k c, pa_it (v.2.2.2.2.1 j).1 (some a) k = some c → c < 26 := pa_it_lt hPo.2.1 (fun b e => by cases e; exact ha2)
        refine Exists.elim (ps_whR (F := fun f k (_ : Unit) M1 => fk_X7_practises_68 q f (nI j) (nI w) (nI k) (ps_ml (pa_it (v.2.2.2.2.1 j).1 (some a) (k + 1))) M1) (Rel := fun k _ M1 => (∀ i, i < k → ps_rd M1 (q + 7) i = nI (pa_sb (v.2.2.2.2.1 j).1 (some a) i)) ∧ (∀ c, c ≠ q + 7 → ∀ i, ps_rd M1 c i = ps_rd M c i) ∧ M1.2 = M.2) w (fun k _ => (pa_it (v.2.2.2.2.1 j).1 (some a) (k + 1)).isSome) (fun _ u => u) (fun k _ M1 => fk_X7_practises_104 q ps_fu (nI j) (nI w) (nI k) (ps_ml (pa_it (v.2.2.2.2.1 j).1 (some a) (k + 1))) (nI 0) M1) (fun n k u M1 h1 h2 h3 => ?_) (fun n k u M1 h1 h2 h3 => ?_) w ps_fu 0 () M (by omega) (by unfold ps_fu; omega) ⟨fun i h => absurd h (Nat.not_lt_zero i), fun _ _ _ => rfl, rfl⟩) (fun M2 z => ?_)
        · rw [fk_X7_practises_68]
          by_cases c : k < w
          · have c2 : pa_it (v.2.2.2.2.1 j).1 (some a) (k + 1) = none := by
              have := h3 c
              cases e : pa_it (v.2.2.2.2.1 j).1 (some a) (k + 1) with
              | none => rfl
              | some d => rw [e] at this; cases this
            rw [c2, if_neg (nI_ge c (by omega))]
            simp (disch := omega) only [ps_letE, ps_b2E, nI_add, pk_mul, nI_clamp, ev_inB, nI_leI, nI_ltI, nI_eq, if_pos, if_neg, ev_eqm, ev_eqm2, ev_ltm, ev_lem, ev_mlt, ev_mle, ev_mm, ev_subm, pk_sub, ev_true, if_true, if_false, ite_true, ite_false, Option.map, ev_rs, ev_ra, ev_rj, ev_cpO, ps_isB1, ps_isB0, ps_ml]
          · rw [if_pos (nI_le (by omega) (by omega))]
        · obtain ⟨d, hd⟩ : ∃ d, pa_it (v.2.2.2.2.1 j).1 (some a) (k + 1) = some d := Option.isSome_iff_exists.mp h3
          have hd2 := hit _ _ hd
          refine ⟨ps_st M1 (q + 7) k (nI d), ?_, fun i hi => ?_, fun c hc i => (ev_ra hc).trans (h2.2.1 c hc i), h2.2.2⟩
          · have e2 : pa_it (v.2.2.2.2.1 j).1 (some a) (k + 1 + 1) = ps_nx (v.2.2.2.2.1 j).1 d := by
              show (pa_it (v.2.2.2.2.1 j).1 (some a) (k + 1)).bind (ps_nx (v.2.2.2.2.1 j).1) = _
              rw [hd]
              rfl
            have hL2 : ps_ML (ps_st M1 (q + 7) k (nI d)) (q + 1) j (v.2.2.2.2.1 j).1 := ML_fs (Nat.le_trans hPo.1 (by omega)) (fun i _ => (ev_ra (by omega)).trans (h2.2.1 _ (by omega) i)) hP.1
            rw [fk_X7_practises_68, hd, e2, if_neg (nI_ge h1 (by omega))]
            show (if nI d < nI 0 then _ else _) = _
            rw [if_neg (nI_nlt (by omega) (by omega)), if_pos (ev_inB (by omega) (by omega)), nI_clamp (by omega), ps_letE, ps_letE]
            show ps_b2 (ff_X7_goesOn q (nI j) (nI d) (ps_st M1 (q + 7) k (nI d))) (fun r25 M25 => fk_X7_practises_68 q n (nI j) (nI w) (nI k + nI 1) r25 M25) = _
            rw [mo_next hL2 (by omega) (Nat.le_trans hPo.1 (by omega)) hPo.2.1 hd2, ps_b2E, nI_add]
          · by_cases e : i = k
            · subst e
              rw [ev_rs]
              unfold pa_sb
              rw [hd]
              rfl
            · rw [ev_rj e]
              exact h2.1 i (by omega)
        · obtain ⟨e2, z1, z2, z3⟩ := z
          rw [e2]
          have hC : (ps_wh (fun k (_ : Unit) => (pa_it (v.2.2.2.2.1 j).1 (some a) (k + 1)).isSome) (fun _ u => u) w 0 ()).1 = pa_ct (v.2.2.2.2.1 j).1 (some a) w := rfl
          rw [ha] at hct ⊢
          rw [hC] at z1 ⊢
          generalize pa_ct (v.2.2.2.2.1 j).1 (some a) w = C at z1 hct ⊢
          generalize ps_ml (pa_it (v.2.2.2.2.1 j).1 (some a) (C + 1)) = A4
          have hG2 : ∀ i, i < C → pa_sb (v.2.2.2.2.1 j).1 (some a) i < 26 := fun i _ => pa_sb_lt hPo.2.1 (fun b e => by cases e; exact ha2) i
          generalize pa_sb (v.2.2.2.2.1 j).1 (some a) = G at z1 hG2 ⊢
          have hR2 : ps_RM M2 (q + 1) v := RM_eq hok (fun k _ => z2 _ (by omega) k) hR
          refine Exists.elim (ps_whR (F := fun f t (_ : Unit) M1 => fk_X7_practises_104 q f (nI j) (nI w) (nI C) A4 (nI t) M1) (Rel := fun t _ M1 => ps_RM M1 (q + 1) (pa_mq v (pa_who j t) (pa_ss v G C)) ∧ (∀ i, i < C → ps_rd M1 (q + 7) i = nI (G i)) ∧ ps_Fo q M M1) v.2.2.2.1 (fun _ _ => true) (fun _ u => u) (fun t _ M1 => some (nI C, M1)) (fun f t u M1 h1 h2 h3 => ?_) (fun f t u M1 h1 h2 h3 => ?_) v.2.2.2.1 ps_fu 0 () M2 (by omega) (by unfold ps_fu; omega) ⟨by rw [pa_mq_no (fun k => by simp [pa_who])]; exact hR2, z1, fun c _ hc i => z2 c hc i, z3⟩) (fun M1 z => ?_)
          · have c : ¬ t < v.2.2.2.1 := fun c => absurd (h3 c) (by simp)
            have hc : ps_rd M1 (q + 1) 6 = nI v.2.2.2.1 := h2.1.2.2.2.1
            rw [fk_X7_practises_104]
            simp (disch := omega) only [ps_letE, ps_b2E, nI_add, pk_mul, nI_clamp, ev_inB, nI_leI, nI_ltI, nI_eq, if_pos, if_neg, ev_eqm, ev_eqm2, ev_ltm, ev_lem, ev_mlt, ev_mle, ev_mm, ev_subm, pk_sub, ev_true, if_true, if_false, ite_true, ite_false, Option.map, ev_rs, ev_ra, ev_rj, ev_cpO, ps_isB1, ps_isB0, p_spec, l_spec, n_spec, hc]
          · have hc : ps_rd M1 (q + 1) 6 = nI v.2.2.2.1 := h2.1.2.2.2.1
            have ho : pa_oth j t < v.2.2.2.1 := by unfold pa_oth; by_cases c : t = 0; · rw [if_pos c]; exact hj
                                                   · rw [if_neg c]; by_cases c2 : j < t; · rw [if_pos c2]; exact h1
                                                     · rw [if_neg c2]; omega
            have hpt : ps_MP M1 (q + 1) (pa_oth j t) (v.2.2.2.2.1 (pa_oth j t)) := by
              have := h2.1.2.2.2.2.2.2.2 (pa_oth j t) ho
              dsimp only [pa_mq] at this
              rw [if_neg (by rw [pa_who_o]; simp)] at this
              exact this
            have hokq : ps_okH (pa_mq v (pa_who j t) (pa_ss v G C)) := ok_mq hok (fun k ek => by unfold pa_who at ek; simp at ek; omega) (fun P hP => ok_ss hok hG2 hP)
            obtain ⟨M4, e4, H4⟩ := mo_sing (v := v) h2.1.1 hok (by omega : pa_oth j t < 4) (by omega) h2.2.1 hG2 hpt (hok.2.2.2.1 _) (fun a1' a2' a3' a4' a5' M' => fk_X7_practises_104 q f a1' a2' a3' a4' a5' M') (nI j) (nI w) A4 t
            refine ⟨M4, ?_, ?_, fun i hi => by rw [H4.2.2.1.1 _ (by omega)]; exact h2.2.1 i hi, ps_Fo_tr h2.2.2 (ps_Fo_s H4.2.2.1)⟩
            · rw [fk_X7_practises_104, if_pos (ev_inB (by omega) (by omega)), nI_clamp (by omega), hc, if_neg (nI_ge h1 (by omega))]
              unfold pa_oth at e4
              by_cases c : t = 0
              · subst c
                rw [if_pos rfl] at e4
                rw [if_pos rfl]
                exact e4
              · rw [if_neg c] at e4
                rw [if_neg (by rw [nI_eq (by omega) (by omega)]; exact c)]
                by_cases c2 : j < t
                · rw [if_pos c2] at e4
                  rw [if_pos (nI_lt c2 (by omega))]
                  exact e4
                · rw [if_neg c2] at e4
                  rw [if_neg (nI_nlt (by omega) (by omega)), ps_letE, pk_sub (by omega)]
                  exact e4
            · have h5 : ps_HR (q + 1) (pa_oth j t) ((pa_mq v (pa_who j t) (pa_ss v G C)).2.2.2.2.1 (pa_oth j t)) M1 (pa_ss v G C (v.2.2.2.2.1 (pa_oth j t))) M4 := by
                show ps_HR (q + 1) (pa_oth j t) (if pa_who j t (pa_oth j t) = true then _ else v.2.2.2.2.1 (pa_oth j t)) M1 _ M4
                rw [if_neg (by rw [pa_who_o]; simp)]
                exact H4
              have := RM_HR hokq h2.1 ho h5
              rw [pa_mq_st (d := pa_who j (t + 1)) (fun k => pa_who_s j t k)] at this
              exact this
          · obtain ⟨e6, y1, y2, y3⟩ := z
            rw [ps_wh_all, Nat.zero_add] at y1
            refine ⟨M1, e6, ?_, y3⟩
            have : pa_who j v.2.2.2.1 = (fun k => decide (k < v.2.2.2.1)) := by
              funext k
              unfold pa_who
              rw [Bool.eq_iff_iff]
              simp
              omega
            rw [this] at y1
            exact y1
    · have e : op_prac (nI j) b v = (ps_m 2, v) := by
        unfold op_prac
        rw [if_pos (ev_inB hj (by omega)), if_neg hb]
      rw [e, in_spec, if_neg hb, ps_b2E, if_pos rfl]
      exact ⟨M, rfl, hR, ps_Fo_rf⟩
  · have e : op_prac p b v = (ps_m 1, v) := if_neg (ps_inBN hp (by omega))
    rw [e, mo_isPN hR hok hp, ps_b2E, if_pos rfl]
    exact ⟨M, rfl, hR, ps_Fo_rf⟩
