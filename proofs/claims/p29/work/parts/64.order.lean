/-! the class reads an order -/
def ps_OR (M : ps_M) (q : Nat) (T : ps_Tx) (o : Nat × Nat × Nat × Nat) : Prop := ps_rd M q 3 = nI o.1 ∧ (o.1 = 83 → ps_rd M q 8 = nI o.2.2.1 ∧ ∀ t, t < o.2.2.1 → ps_rd M (q + 3) t = nI (pa_sg T (o.2.1 + t) - 97)) ∧ (o.1 = 76 → ps_rd M q 4 = nI o.2.1 ∧ ps_rd M q 5 = nI o.2.2.1 ∧ ps_rd M q 6 = nI o.2.2.2) ∧ (o.1 = 72 → ps_rd M q 4 = nI o.2.1) ∧ (o.1 = 80 → ps_rd M q 4 = nI o.2.1 ∧ ps_rd M q 6 = nI o.2.2.1)
theorem OR83 {M : ps_M} {q : Nat} {T : ps_Tx} {a b c : Nat} (h3 : ps_rd M q 3 = nI 83) (h8 : ps_rd M q 8 = nI b) (hb : ∀ t, t < b → ps_rd M (q + 3) t = nI (pa_sg T (a + t) - 97)) : ps_OR M q T (83, a, b, c) := ⟨h3, fun _ => ⟨h8, hb⟩, fun z => absurd z (by simp), fun z => absurd z (by simp), fun z => absurd z (by simp)⟩
theorem OR76 {M : ps_M} {q : Nat} {T : ps_Tx} {a b c : Nat} (h3 : ps_rd M q 3 = nI 76) (h4 : ps_rd M q 4 = nI a) (h5 : ps_rd M q 5 = nI b) (h6 : ps_rd M q 6 = nI c) : ps_OR M q T (76, a, b, c) := ⟨h3, fun z => absurd z (by simp), fun _ => ⟨h4, h5, h6⟩, fun z => absurd z (by simp), fun z => absurd z (by simp)⟩
theorem OR72 {M : ps_M} {q : Nat} {T : ps_Tx} {a b c : Nat} (h3 : ps_rd M q 3 = nI 72) (h4 : ps_rd M q 4 = nI a) : ps_OR M q T (72, a, b, c) := ⟨h3, fun z => absurd z (by simp), fun z => absurd z (by simp), fun _ => h4, fun z => absurd z (by simp)⟩
theorem OR80 {M : ps_M} {q : Nat} {T : ps_Tx} {a b c : Nat} (h3 : ps_rd M q 3 = nI 80) (h4 : ps_rd M q 4 = nI a) (h6 : ps_rd M q 6 = nI b) : ps_OR M q T (80, a, b, c) := ⟨h3, fun z => absurd z (by simp), fun z => absurd z (by simp), fun z => absurd z (by simp), fun _ => ⟨h4, h6⟩⟩
theorem OR66 {M : ps_M} {q : Nat} {T : ps_Tx} {a b c : Nat} (h3 : ps_rd M q 3 = nI 66) : ps_OR M q T (66, a, b, c) := ⟨h3, fun z => absurd z (by simp), fun z => absurd z (by simp), fun z => absurd z (by simp), fun z => absurd z (by simp)⟩
theorem OR78 {M : ps_M} {q : Nat} {T : ps_Tx} {a b c : Nat} (h3 : ps_rd M q 3 = nI 78) : ps_OR M q T (78, a, b, c) := ⟨h3, fun z => absurd z (by simp), fun z => absurd z (by simp), fun z => absurd z (by simp), fun z => absurd z (by simp)⟩
theorem ord_end {T : ps_Tx} (hT : ps_okT T) {i : Nat} (hi : i ≤ T.1) : (pa_ord T i).2.1 ≤ T.1 ∧ i ≤ (pa_ord T i).2.1 ∧ ((pa_ord T i).1 = true → i < (pa_ord T i).2.1) := by
  have hs : ∀ k c, pa_sg T k = c → 0 < c → k < T.1 := fun k c h1 h2 => sg_lt (by omega)
  have hd : ∀ k, pa_dg T k = true → k < T.1 := fun k h => sg_lt (by have := dg_t h; omega)
  have hn : ∀ k, pa_dg T k = true → (pa_num T k).2 ≤ T.1 ∧ k < (pa_num T k).2 := by
    intro k h
    have := hd k h
    unfold pa_num
    by_cases c : 48 < pa_sg T k ∧ pa_dg T (k + 1) = true
    · rw [if_pos c]
      have := hd _ c.2
      exact ⟨by show k + 2 ≤ _; omega, by show k < k + 2; omega⟩
    · rw [if_neg c]
      exact ⟨by show k + 1 ≤ _; omega, by show k < k + 1; omega⟩
  unfold pa_ord
  by_cases c1 : pa_sg T i = 83
  · rw [if_pos c1]
    have h1 := hs _ _ c1 (by omega)
    have h2 : i + 1 + pa_lt T (i + 1) ≤ T.1 := by
      by_cases z : pa_lt T (i + 1) = 0
      · omega
      · have := lt_is (T := T) (i := i + 1) (t := pa_lt T (i + 1) - 1) (by omega)
        have := sg_lt (T := T) (i := i + 1 + (pa_lt T (i + 1) - 1)) (by omega)
        omega
    exact ⟨h2, by show i ≤ i + 1 + _; omega, fun _ => by show i < i + 1 + _; omega⟩
  rw [if_neg c1]
  by_cases c2 : pa_sg T i = 76
  · rw [if_pos c2]
    have h1 := hs _ _ c2 (by omega)
    by_cases d1 : pa_dg T (i + 1) = true
    · rw [if_pos d1]
      have := hd _ d1
      by_cases d2 : pa_sg T (i + 2) = 46
      · rw [if_pos d2]
        have := hs _ _ d2 (by omega)
        by_cases d3 : pa_dg T (i + 3) = true
        · rw [if_pos d3]
          have := hd _ d3
          by_cases d4 : pa_sg T (i + 4) = 47
          · rw [if_pos d4]
            have := hs _ _ d4 (by omega)
            by_cases d5 : pa_dg T (i + 5) = true
            · rw [if_pos d5]
              obtain ⟨n1, n2⟩ := hn _ d5
              exact ⟨n1, by show i ≤ (pa_num T (i + 5)).2; omega, fun _ => by show i < (pa_num T (i + 5)).2; omega⟩
            · rw [if_neg d5]
              exact ⟨by show i + 5 ≤ _; omega, by show i ≤ i + 5; omega, fun z => by cases z⟩
          · rw [if_neg d4]
            exact ⟨by show i + 4 ≤ _; omega, by show i ≤ i + 4; omega, fun _ => by show i < i + 4; omega⟩
        · rw [if_neg d3]
          exact ⟨by show i + 3 ≤ _; omega, by show i ≤ i + 3; omega, fun z => by cases z⟩
      · rw [if_neg d2]
        exact ⟨by show i + 2 ≤ _; omega, by show i ≤ i + 2; omega, fun z => by cases z⟩
    · rw [if_neg d1]
      exact ⟨by show i + 1 ≤ _; omega, by show i ≤ i + 1; omega, fun z => by cases z⟩
  rw [if_neg c2]
  by_cases c3 : pa_sg T i = 72
  · rw [if_pos c3]
    have h1 := hs _ _ c3 (by omega)
    by_cases d1 : pa_dg T (i + 1) = true
    · rw [if_pos d1]
      have := hd _ d1
      exact ⟨by show i + 2 ≤ _; omega, by show i ≤ i + 2; omega, fun _ => by show i < i + 2; omega⟩
    · rw [if_neg d1]
      exact ⟨by show i + 1 ≤ _; omega, by show i ≤ i + 1; omega, fun z => by cases z⟩
  rw [if_neg c3]
  by_cases c4 : pa_sg T i = 80
  · rw [if_pos c4]
    have h1 := hs _ _ c4 (by omega)
    by_cases d1 : pa_dg T (i + 1) = true
    · rw [if_pos d1]
      have := hd _ d1
      by_cases d2 : pa_sg T (i + 2) = 42
      · rw [if_pos d2]
        have := hs _ _ d2 (by omega)
        by_cases d5 : pa_dg T (i + 3) = true
        · rw [if_pos d5]
          obtain ⟨n1, n2⟩ := hn _ d5
          exact ⟨n1, by show i ≤ (pa_num T (i + 3)).2; omega, fun _ => by show i < (pa_num T (i + 3)).2; omega⟩
        · rw [if_neg d5]
          exact ⟨by show i + 3 ≤ _; omega, by show i ≤ i + 3; omega, fun z => by cases z⟩
      · rw [if_neg d2]
        exact ⟨by show i + 2 ≤ _; omega, by show i ≤ i + 2; omega, fun z => by cases z⟩
    · rw [if_neg d1]
      exact ⟨by show i + 1 ≤ _; omega, by show i ≤ i + 1; omega, fun z => by cases z⟩
  rw [if_neg c4]
  by_cases c5 : pa_sg T i = 66
  · rw [if_pos c5]
    have h1 := hs _ _ c5 (by omega)
    exact ⟨by show i + 1 ≤ _; omega, by show i ≤ i + 1; omega, fun _ => by show i < i + 1; omega⟩
  rw [if_neg c5]
  by_cases c6 : pa_sg T i = 78
  · rw [if_pos c6]
    have h1 := hs _ _ c6 (by omega)
    exact ⟨by show i + 1 ≤ _; omega, by show i ≤ i + 1; omega, fun _ => by show i < i + 1; omega⟩
  rw [if_neg c6]
  exact ⟨hi, Nat.le_refl _, fun z => by cases z⟩
theorem bi_b {b : Bool} {M : ps_M} : (if ps_isB (pa_bi b) = true then some (pa_bi b, M) else none) = some (pa_bi b, M) := if_pos (isB_bi b)
theorem cl_ord {M : ps_M} {q i : Nat} {T : ps_Tx} (hT : ps_TX M (q + 1) T) (hok : ps_okT T) (hi : i ≤ 80) (h1 : ps_rd M q 1 = nI i) : ∃ M1, ff_X4_readOrder q M = some (pa_bi (pa_ord T i).1, M1) ∧ ps_Fq q M M1 ∧ ps_rd M1 q 1 = nI (pa_ord T i).2.1 ∧ ((pa_ord T i).1 = true → ps_OR M1 q T (pa_ord T i).2.2) := by
  have hs := sg_le hok i
  unfold ff_X4_readOrder
  rw [h1, cl_sign hT hok (by omega), ps_b2E, if_pos (isC_n (by omega)), ps_letE, ps_letE, ev_rs]
  have hi1 : ps_rd (ps_st M q 3 (nI (pa_sg T i))) q 1 = nI i := by rw [ev_rj (by omega)]; exact h1
  obtain ⟨M2, hM2⟩ : ∃ M2, M2 = ps_st (ps_st M q 3 (nI (pa_sg T i))) q 1 (nI (i + 1)) := ⟨_, rfl⟩
  have h21 : ps_rd M2 q 1 = nI (i + 1) := by rw [hM2, ev_rs]
  have h23 : ps_rd M2 q 3 = nI (pa_sg T i) := by rw [hM2, ev_rj (by omega), ev_rs]
  have F2 : ps_Fq q M M2 := by rw [hM2]; exact ps_Fq_tr (ps_Fq_st (by omega)) (ps_Fq_st (by omega))
  have F1 : ps_Fq q M (ps_st M q 3 (nI (pa_sg T i))) := ps_Fq_st (by omega)
  have hT2 := TX_fq F2 hT
  simp only [hi1, nI_add, ← hM2, ps_letE]
  unfold pa_ord
  have ne : ∀ a b : Nat, a < 1000 → b < 1000 → a ≠ b → ¬ nI a = nI b := fun a b ha hb h => by rw [nI_eq (by omega) (by omega)]; exact h
  by_cases c1 : pa_sg T i = 83
  · rw [if_pos c1]
    rw [c1] at h23 ⊢
    rw [if_neg (ne _ _ (by omega) (by omega) (by omega)), if_neg (ne _ _ (by omega) (by omega) (by omega)), if_neg (ne _ _ (by omega) (by omega) (by omega)), if_neg (ne _ _ (by omega) (by omega) (by omega)), if_neg (ne _ _ (by omega) (by omega) (by omega)), if_pos rfl]
    obtain ⟨M3, e3, F3, g1, g2, g3, g4⟩ := cl_rbars hT2 hok (by omega) h21
    rw [e3, ps_b2E, bi_b]
    exact ⟨M3, rfl, ps_Fq_tr F2 F3, g4, fun _ => OR83 (g1.trans h23) g2 g3⟩
  rw [if_neg c1]
  by_cases c2 : pa_sg T i = 76
  · rw [if_pos c2]
    rw [c2] at h23 ⊢
    rw [if_neg (ne _ _ (by omega) (by omega) (by omega)), if_neg (ne _ _ (by omega) (by omega) (by omega)), if_pos rfl]
    unfold ff_X4_readLesson
    rw [cl_rpar hT2 hok (by omega) h21]
    by_cases d1 : pa_dg T (i + 1) = true
    · rw [if_pos d1, if_pos d1, ps_b2E, if_neg (ne _ _ (by omega) (by omega) (by omega))]
      have F3 : ps_Fq q M2 (ps_st (ps_st M2 q 1 (nI (i + 1 + 1))) q 4 (nI (pa_sg T (i + 1) - 48))) := ps_Fq_tr (ps_Fq_st (by omega)) (ps_Fq_st (by omega))
      rw [cl_take (TX_fq F3 hT2) hok (i := i + 2) (by omega) (by omega) (by simp (disch := omega) only [ps_letE, ps_b2E, nI_add, pk_mul, nI_clamp, ev_inB, nI_leI, nI_ltI, nI_eq, if_pos, if_neg, ev_eqm, ev_eqm2, ev_ltm, ev_lem, ev_mlt, ev_mle, ev_mm, ev_subm, pk_sub, ev_true, if_true, if_false, ite_true, ite_false, Option.map, ev_rs, ev_ra, ev_rj, ev_cpO, ps_isB1, ps_isB0])]
      by_cases d2 : pa_sg T (i + 2) = 46
      · rw [if_pos d2, if_pos d2, ps_b2E, if_neg (ne _ _ (by omega) (by omega) (by omega))]
        have F4 := ps_Fq_tr F3 (ps_Fq_st (M := ps_st (ps_st M2 q 1 (nI (i + 1 + 1))) q 4 (nI (pa_sg T (i + 1) - 48))) (k := 1) (x := nI (i + 2 + 1)) (by omega))
        rw [cl_dig (TX_fq F4 hT2) hok (i := i + 3) (by omega) (by simp (disch := omega) only [ps_letE, ps_b2E, nI_add, pk_mul, nI_clamp, ev_inB, nI_leI, nI_ltI, nI_eq, if_pos, if_neg, ev_eqm, ev_eqm2, ev_ltm, ev_lem, ev_mlt, ev_mle, ev_mm, ev_subm, pk_sub, ev_true, if_true, if_false, ite_true, ite_false, Option.map, ev_rs, ev_ra, ev_rj, ev_cpO, ps_isB1, ps_isB0]), ps_b2E]
        by_cases d3 : pa_dg T (i + 3) = true
        · rw [d3, show pa_bi true = nI 1 from rfl, if_pos rfl, if_neg (ne _ _ (by omega) (by omega) (by omega)), cl_tkd (TX_fq F4 hT2) hok (i := i + 3) (by omega) (by simp (disch := omega) only [ps_letE, ps_b2E, nI_add, pk_mul, nI_clamp, ev_inB, nI_leI, nI_ltI, nI_eq, if_pos, if_neg, ev_eqm, ev_eqm2, ev_ltm, ev_lem, ev_mlt, ev_mle, ev_mm, ev_subm, pk_sub, ev_true, if_true, if_false, ite_true, ite_false, Option.map, ev_rs, ev_ra, ev_rj, ev_cpO, ps_isB1, ps_isB0]) d3, ps_b2E, ps_letE, ps_letE]
          have F5 := ps_Fq_tr (ps_Fq_tr (ps_Fq_tr F4 (ps_Fq_st (k := 1) (x := nI (i + 3 + 1)) (by omega))) (ps_Fq_st (k := 5) (x := nI (pa_sg T (i + 3) - 48)) (by omega))) (ps_Fq_st (k := 6) (x := nI 0) (by omega))
          rw [cl_take (TX_fq F5 hT2) hok (i := i + 4) (by omega) (by omega) (by simp (disch := omega) only [ps_letE, ps_b2E, nI_add, pk_mul, nI_clamp, ev_inB, nI_leI, nI_ltI, nI_eq, if_pos, if_neg, ev_eqm, ev_eqm2, ev_ltm, ev_lem, ev_mlt, ev_mle, ev_mm, ev_subm, pk_sub, ev_true, if_true, if_false, ite_true, ite_false, Option.map, ev_rs, ev_ra, ev_rj, ev_cpO, ps_isB1, ps_isB0])]
          by_cases d4 : pa_sg T (i + 4) = 47
          · rw [if_pos d4, if_pos d4, ps_b2E, if_neg (ne _ _ (by omega) (by omega) (by omega))]
            have F6 := ps_Fq_tr F5 (ps_Fq_st (k := 1) (x := nI (i + 4 + 1)) (by omega))
            obtain ⟨M7, e7, F7, g1, g2, g3⟩ := cl_rnum (TX_fq F6 hT2) hok (i := i + 5) (by omega) (by simp (disch := omega) only [ps_letE, ps_b2E, nI_add, pk_mul, nI_clamp, ev_inB, nI_leI, nI_ltI, nI_eq, if_pos, if_neg, ev_eqm, ev_eqm2, ev_ltm, ev_lem, ev_mlt, ev_mle, ev_mm, ev_subm, pk_sub, ev_true, if_true, if_false, ite_true, ite_false, Option.map, ev_rs, ev_ra, ev_rj, ev_cpO, ps_isB1, ps_isB0])
            rw [e7, ps_b2E]
            by_cases d5 : pa_dg T (i + 5) = true
            · rw [if_pos d5] at g3
              rw [d5, show pa_bi true = nI 1 from rfl, if_neg (ne _ _ (by omega) (by omega) (by omega)), if_pos rfl, ps_b2E]
              refine ⟨M7, bi_b (b := true), ps_Fq_tr F2 (ps_Fq_tr F6 F7), g3, fun _ => OR76 ?_ ?_ ?_ (g2 d5)⟩
              · rw [g1 _ (by omega) (by omega)]; simp (disch := omega) only [ps_letE, ps_b2E, nI_add, pk_mul, nI_clamp, ev_inB, nI_leI, nI_ltI, nI_eq, if_pos, if_neg, ev_eqm, ev_eqm2, ev_ltm, ev_lem, ev_mlt, ev_mle, ev_mm, ev_subm, pk_sub, ev_true, if_true, if_false, ite_true, ite_false, Option.map, ev_rs, ev_ra, ev_rj, ev_cpO, ps_isB1, ps_isB0, h23]
              · rw [g1 _ (by omega) (by omega)]; simp (disch := omega) only [ps_letE, ps_b2E, nI_add, pk_mul, nI_clamp, ev_inB, nI_leI, nI_ltI, nI_eq, if_pos, if_neg, ev_eqm, ev_eqm2, ev_ltm, ev_lem, ev_mlt, ev_mle, ev_mm, ev_subm, pk_sub, ev_true, if_true, if_false, ite_true, ite_false, Option.map, ev_rs, ev_ra, ev_rj, ev_cpO, ps_isB1, ps_isB0]
              · rw [g1 _ (by omega) (by omega)]; simp (disch := omega) only [ps_letE, ps_b2E, nI_add, pk_mul, nI_clamp, ev_inB, nI_leI, nI_ltI, nI_eq, if_pos, if_neg, ev_eqm, ev_eqm2, ev_ltm, ev_lem, ev_mlt, ev_mle, ev_mm, ev_subm, pk_sub, ev_true, if_true, if_false, ite_true, ite_false, Option.map, ev_rs, ev_ra, ev_rj, ev_cpO, ps_isB1, ps_isB0]
            · rw [if_neg d5] at g3
              have d5' := d5
              rw [Bool.not_eq_true] at d5
              rw [d5, show pa_bi false = nI 0 from rfl, if_pos rfl, if_neg (by simp), ps_b2E]
              exact ⟨M7, bi_b (b := false), ps_Fq_tr F2 (ps_Fq_tr F6 F7), g3, fun z => by cases z⟩
          · rw [if_neg d4, if_neg d4, ps_b2E, if_pos rfl, ps_b2E]
            refine ⟨_, bi_b (b := true), ps_Fq_tr F2 F5, by simp (disch := omega) only [ps_letE, ps_b2E, nI_add, pk_mul, nI_clamp, ev_inB, nI_leI, nI_ltI, nI_eq, if_pos, if_neg, ev_eqm, ev_eqm2, ev_ltm, ev_lem, ev_mlt, ev_mle, ev_mm, ev_subm, pk_sub, ev_true, if_true, if_false, ite_true, ite_false, Option.map, ev_rs, ev_ra, ev_rj, ev_cpO, ps_isB1, ps_isB0], fun _ => OR76 ?_ ?_ ?_ ?_⟩
            · simp (disch := omega) only [ps_letE, ps_b2E, nI_add, pk_mul, nI_clamp, ev_inB, nI_leI, nI_ltI, nI_eq, if_pos, if_neg, ev_eqm, ev_eqm2, ev_ltm, ev_lem, ev_mlt, ev_mle, ev_mm, ev_subm, pk_sub, ev_true, if_true, if_false, ite_true, ite_false, Option.map, ev_rs, ev_ra, ev_rj, ev_cpO, ps_isB1, ps_isB0, h23]
            · simp (disch := omega) only [ps_letE, ps_b2E, nI_add, pk_mul, nI_clamp, ev_inB, nI_leI, nI_ltI, nI_eq, if_pos, if_neg, ev_eqm, ev_eqm2, ev_ltm, ev_lem, ev_mlt, ev_mle, ev_mm, ev_subm, pk_sub, ev_true, if_true, if_false, ite_true, ite_false, Option.map, ev_rs, ev_ra, ev_rj, ev_cpO, ps_isB1, ps_isB0]
            · simp (disch := omega) only [ps_letE, ps_b2E, nI_add, pk_mul, nI_clamp, ev_inB, nI_leI, nI_ltI, nI_eq, if_pos, if_neg, ev_eqm, ev_eqm2, ev_ltm, ev_lem, ev_mlt, ev_mle, ev_mm, ev_subm, pk_sub, ev_true, if_true, if_false, ite_true, ite_false, Option.map, ev_rs, ev_ra, ev_rj, ev_cpO, ps_isB1, ps_isB0]
            · simp (disch := omega) only [ps_letE, ps_b2E, nI_add, pk_mul, nI_clamp, ev_inB, nI_leI, nI_ltI, nI_eq, if_pos, if_neg, ev_eqm, ev_eqm2, ev_ltm, ev_lem, ev_mlt, ev_mle, ev_mm, ev_subm, pk_sub, ev_true, if_true, if_false, ite_true, ite_false, Option.map, ev_rs, ev_ra, ev_rj, ev_cpO, ps_isB1, ps_isB0]
        · have d3' := d3
          rw [Bool.not_eq_true] at d3
          rw [d3, show pa_bi false = nI 0 from rfl, if_pos rfl, if_neg (by simp), ps_b2E]
          exact ⟨_, bi_b (b := false), ps_Fq_tr F2 F4, by simp (disch := omega) only [ps_letE, ps_b2E, nI_add, pk_mul, nI_clamp, ev_inB, nI_leI, nI_ltI, nI_eq, if_pos, if_neg, ev_eqm, ev_eqm2, ev_ltm, ev_lem, ev_mlt, ev_mle, ev_mm, ev_subm, pk_sub, ev_true, if_true, if_false, ite_true, ite_false, Option.map, ev_rs, ev_ra, ev_rj, ev_cpO, ps_isB1, ps_isB0], fun z => by cases z⟩
      · rw [if_neg d2, if_neg d2, ps_b2E, if_pos rfl, ps_b2E]
        exact ⟨_, bi_b (b := false), ps_Fq_tr F2 F3, by simp (disch := omega) only [ps_letE, ps_b2E, nI_add, pk_mul, nI_clamp, ev_inB, nI_leI, nI_ltI, nI_eq, if_pos, if_neg, ev_eqm, ev_eqm2, ev_ltm, ev_lem, ev_mlt, ev_mle, ev_mm, ev_subm, pk_sub, ev_true, if_true, if_false, ite_true, ite_false, Option.map, ev_rs, ev_ra, ev_rj, ev_cpO, ps_isB1, ps_isB0], fun z => by cases z⟩
    · rw [if_neg d1, if_neg d1, ps_b2E, if_pos rfl, ps_b2E]
      exact ⟨_, bi_b (b := false), F2, h21, fun z => by cases z⟩
  rw [if_neg c2]
  by_cases c3 : pa_sg T i = 72
  · rw [if_pos c3]
    rw [c3] at h23 ⊢
    rw [if_neg (ne _ _ (by omega) (by omega) (by omega)), if_pos rfl, cl_rpar hT2 hok (by omega) h21]
    by_cases d1 : pa_dg T (i + 1) = true
    · rw [if_pos d1, if_pos d1, ps_b2E]
      refine ⟨_, bi_b (b := true), ps_Fq_tr F2 (ps_Fq_tr (ps_Fq_st (by omega)) (ps_Fq_st (by omega))), by simp (disch := omega) only [ps_letE, ps_b2E, nI_add, pk_mul, nI_clamp, ev_inB, nI_leI, nI_ltI, nI_eq, if_pos, if_neg, ev_eqm, ev_eqm2, ev_ltm, ev_lem, ev_mlt, ev_mle, ev_mm, ev_subm, pk_sub, ev_true, if_true, if_false, ite_true, ite_false, Option.map, ev_rs, ev_ra, ev_rj, ev_cpO, ps_isB1, ps_isB0], fun _ => OR72 (by simp (disch := omega) only [ps_letE, ps_b2E, nI_add, pk_mul, nI_clamp, ev_inB, nI_leI, nI_ltI, nI_eq, if_pos, if_neg, ev_eqm, ev_eqm2, ev_ltm, ev_lem, ev_mlt, ev_mle, ev_mm, ev_subm, pk_sub, ev_true, if_true, if_false, ite_true, ite_false, Option.map, ev_rs, ev_ra, ev_rj, ev_cpO, ps_isB1, ps_isB0, h23]) (by simp (disch := omega) only [ps_letE, ps_b2E, nI_add, pk_mul, nI_clamp, ev_inB, nI_leI, nI_ltI, nI_eq, if_pos, if_neg, ev_eqm, ev_eqm2, ev_ltm, ev_lem, ev_mlt, ev_mle, ev_mm, ev_subm, pk_sub, ev_true, if_true, if_false, ite_true, ite_false, Option.map, ev_rs, ev_ra, ev_rj, ev_cpO, ps_isB1, ps_isB0])⟩
    · rw [if_neg d1, if_neg d1, ps_b2E]
      exact ⟨_, bi_b (b := false), F2, h21, fun z => by cases z⟩
  rw [if_neg c3]
  by_cases c4 : pa_sg T i = 80
  · rw [if_pos c4]
    rw [c4] at h23 ⊢
    rw [if_neg (ne _ _ (by omega) (by omega) (by omega)), if_neg (ne _ _ (by omega) (by omega) (by omega)), if_neg (ne _ _ (by omega) (by omega) (by omega)), if_neg (ne _ _ (by omega) (by omega) (by omega)), if_pos rfl, cl_rpar hT2 hok (by omega) h21]
    by_cases d1 : pa_dg T (i + 1) = true
    · rw [if_pos d1, if_pos d1, ps_b2E, if_neg (ne _ _ (by omega) (by omega) (by omega))]
      have F3 : ps_Fq q M2 (ps_st (ps_st M2 q 1 (nI (i + 1 + 1))) q 4 (nI (pa_sg T (i + 1) - 48))) := ps_Fq_tr (ps_Fq_st (by omega)) (ps_Fq_st (by omega))
      rw [cl_take (TX_fq F3 hT2) hok (i := i + 2) (by omega) (by omega) (by simp (disch := omega) only [ps_letE, ps_b2E, nI_add, pk_mul, nI_clamp, ev_inB, nI_leI, nI_ltI, nI_eq, if_pos, if_neg, ev_eqm, ev_eqm2, ev_ltm, ev_lem, ev_mlt, ev_mle, ev_mm, ev_subm, pk_sub, ev_true, if_true, if_false, ite_true, ite_false, Option.map, ev_rs, ev_ra, ev_rj, ev_cpO, ps_isB1, ps_isB0])]
      by_cases d2 : pa_sg T (i + 2) = 42
      · rw [if_pos d2, if_pos d2, ps_b2E, if_neg (ne _ _ (by omega) (by omega) (by omega))]
        have F4 := ps_Fq_tr F3 (ps_Fq_st (M := ps_st (ps_st M2 q 1 (nI (i + 1 + 1))) q 4 (nI (pa_sg T (i + 1) - 48))) (k := 1) (x := nI (i + 2 + 1)) (by omega))
        obtain ⟨M7, e7, F7, g1, g2, g3⟩ := cl_rnum (TX_fq F4 hT2) hok (i := i + 3) (by omega) (by simp (disch := omega) only [ps_letE, ps_b2E, nI_add, pk_mul, nI_clamp, ev_inB, nI_leI, nI_ltI, nI_eq, if_pos, if_neg, ev_eqm, ev_eqm2, ev_ltm, ev_lem, ev_mlt, ev_mle, ev_mm, ev_subm, pk_sub, ev_true, if_true, if_false, ite_true, ite_false, Option.map, ev_rs, ev_ra, ev_rj, ev_cpO, ps_isB1, ps_isB0])
        rw [e7, ps_b2E]
        by_cases d5 : pa_dg T (i + 3) = true
        · rw [if_pos d5] at g3
          rw [d5, show pa_bi true = nI 1 from rfl, if_neg (ne _ _ (by omega) (by omega) (by omega)), if_pos rfl]
          refine ⟨M7, rfl, ps_Fq_tr F2 (ps_Fq_tr F4 F7), g3, fun _ => OR80 ?_ ?_ (g2 d5)⟩
          · rw [g1 _ (by omega) (by omega)]; simp (disch := omega) only [ps_letE, ps_b2E, nI_add, pk_mul, nI_clamp, ev_inB, nI_leI, nI_ltI, nI_eq, if_pos, if_neg, ev_eqm, ev_eqm2, ev_ltm, ev_lem, ev_mlt, ev_mle, ev_mm, ev_subm, pk_sub, ev_true, if_true, if_false, ite_true, ite_false, Option.map, ev_rs, ev_ra, ev_rj, ev_cpO, ps_isB1, ps_isB0, h23]
          · rw [g1 _ (by omega) (by omega)]; simp (disch := omega) only [ps_letE, ps_b2E, nI_add, pk_mul, nI_clamp, ev_inB, nI_leI, nI_ltI, nI_eq, if_pos, if_neg, ev_eqm, ev_eqm2, ev_ltm, ev_lem, ev_mlt, ev_mle, ev_mm, ev_subm, pk_sub, ev_true, if_true, if_false, ite_true, ite_false, Option.map, ev_rs, ev_ra, ev_rj, ev_cpO, ps_isB1, ps_isB0]
        · rw [if_neg d5] at g3
          have d5' := d5
          rw [Bool.not_eq_true] at d5
          rw [d5, show pa_bi false = nI 0 from rfl, if_pos rfl, if_neg (by simp)]
          exact ⟨M7, rfl, ps_Fq_tr F2 (ps_Fq_tr F4 F7), g3, fun z => by cases z⟩
      · rw [if_neg d2, if_neg d2, ps_b2E, if_pos rfl]
        exact ⟨_, rfl, ps_Fq_tr F2 F3, by simp (disch := omega) only [ps_letE, ps_b2E, nI_add, pk_mul, nI_clamp, ev_inB, nI_leI, nI_ltI, nI_eq, if_pos, if_neg, ev_eqm, ev_eqm2, ev_ltm, ev_lem, ev_mlt, ev_mle, ev_mm, ev_subm, pk_sub, ev_true, if_true, if_false, ite_true, ite_false, Option.map, ev_rs, ev_ra, ev_rj, ev_cpO, ps_isB1, ps_isB0], fun z => by cases z⟩
    · rw [if_neg d1, if_neg d1, ps_b2E, if_pos rfl]
      exact ⟨_, rfl, F2, h21, fun z => by cases z⟩
  rw [if_neg c4]
  by_cases c5 : pa_sg T i = 66
  · rw [if_pos c5]
    rw [c5] at h23 ⊢
    rw [if_pos rfl]
    exact ⟨M2, rfl, F2, h21, fun _ => OR66 h23⟩
  rw [if_neg c5]
  by_cases c6 : pa_sg T i = 78
  · rw [if_pos c6]
    rw [c6] at h23 ⊢
    rw [if_neg (ne _ _ (by omega) (by omega) (by omega)), if_neg (ne _ _ (by omega) (by omega) (by omega)), if_neg (ne _ _ (by omega) (by omega) (by omega)), if_pos rfl]
    exact ⟨M2, rfl, F2, h21, fun _ => OR78 h23⟩
  rw [if_neg c6, if_neg (ne _ _ (by omega) (by omega) c5), if_neg (ne _ _ (by omega) (by omega) c3), if_neg (ne _ _ (by omega) (by omega) c2), if_neg (ne _ _ (by omega) (by omega) c6), if_neg (ne _ _ (by omega) (by omega) c4), if_neg (ne _ _ (by omega) (by omega) c1)]
  exact ⟨_, rfl, F1, hi1, fun z => by cases z⟩
