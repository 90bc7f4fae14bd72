/-! the model reads an order -/
theorem st_self {M : ps_M} {a j : Nat} : ps_st M a j (ps_rd M a j) = M := by
  refine Prod.ext (funext fun b => funext fun k => ?_) rfl
  show (if b = a ∧ k = j then M.1 a j else M.1 b k) = M.1 b k
  by_cases c : b = a ∧ k = j
  · rw [if_pos c, c.1, c.2]
  · rw [if_neg c]
theorem st_add0 {M : ps_M} {a j : Nat} : ps_st M a j (ps_rd M a j + nI 0) = M := by rw [I_add0, st_self]
def ps_TM (M : ps_M) (q : Nat) (T : ps_Tx) : Prop := ps_rd M q 9 = nI T.1 ∧ ∀ j, j < T.1 → ps_rd M (q + 9) j = nI (T.2 j)
def ps_Fd (q : Nat) (M M1 : ps_M) : Prop := (∀ a, a ≠ q → a ≠ q + 8 → ∀ k, ps_rd M1 a k = ps_rd M a k) ∧ M1.2 = M.2 ∧ ps_rd M1 q 9 = ps_rd M q 9 ∧ ps_rd M1 q 10 = ps_rd M q 10
theorem ps_Fd_rf {q : Nat} {M : ps_M} : ps_Fd q M M := ⟨fun _ _ _ _ => rfl, rfl, rfl, rfl⟩
theorem ps_Fd_tr {q : Nat} {M M1 M2 : ps_M} (h1 : ps_Fd q M M1) (h2 : ps_Fd q M1 M2) : ps_Fd q M M2 := ⟨fun a ha hb k => (h2.1 a ha hb k).trans (h1.1 a ha hb k), h2.2.1.trans h1.2.1, h2.2.2.1.trans h1.2.2.1, h2.2.2.2.trans h1.2.2.2⟩
theorem ps_Fd_st {q k : Nat} {M : ps_M} {x : Int32} (h : 11 ≤ k) : ps_Fd q M (ps_st M q k x) := ⟨fun a ha _ i => ev_ra ha, rfl, ev_rj (by omega), ev_rj (by omega)⟩
theorem ps_Fd_sb {q k : Nat} {M : ps_M} {x : Int32} : ps_Fd q M (ps_st M (q + 8) k x) := ⟨fun a _ hb i => ev_ra hb, rfl, ev_ra (by omega), ev_ra (by omega)⟩
theorem TM_fd {q : Nat} {M M1 : ps_M} {T : ps_Tx} (h : ps_Fd q M M1) (hT : ps_TM M q T) : ps_TM M1 q T := ⟨by rw [h.2.2.1]; exact hT.1, fun j hj => by rw [h.1 _ (by omega) (by omega)]; exact hT.2 j hj⟩
theorem mt_sign {M : ps_M} {q i a b : Nat} {T : ps_Tx} (hT : ps_TM M q T) (hok : ps_okT T) (hi : i < 1000) (ha : 0 < a) (ha2 : a < 1000) (hb : b < 1000) (h1 : ps_rd M q 12 = nI i) : ff_X7_isSign q (nI a) (nI b) M = some (pa_bi (decide (a ≤ pa_sg T i ∧ pa_sg T i ≤ b)), M) := by
  have h8 := hok.1
  unfold ff_X7_isSign pa_bi
  rw [hT.1, h1]
  by_cases c : i < T.1
  · have h2 := hok.2 i c
    have e : pa_sg T i = T.2 i := if_pos c
    rw [if_neg (nI_ge c (by omega)), if_pos (ev_inB (by omega) (by omega)), nI_clamp (by omega), hT.2 i c, e]
    by_cases c1 : T.2 i < a
    · rw [if_pos (nI_lt c1 (by omega)), if_neg (by simp; omega)]
    · rw [if_neg (nI_nlt (by omega) (by omega)), if_pos (ev_inB (by omega) (by omega))]
      by_cases c2 : b < T.2 i
      · rw [if_pos (nI_lt c2 (by omega)), if_neg (by simp; omega)]
      · rw [if_neg (nI_nlt (by omega) (by omega)), if_pos (decide_eq_true (by omega))]
  · have e : pa_sg T i = 0 := if_neg c
    rw [if_pos (nI_le (by omega) (by omega)), e, if_neg (by simp; omega)]
theorem mt_acc {M : ps_M} {q i c : Nat} {T : ps_Tx} (hT : ps_TM M q T) (hok : ps_okT T) (hi : i < 1000) (hc : 0 < c) (hc2 : c < 1000) (h1 : ps_rd M q 12 = nI i) : ff_X7_accepts q (nI c) M = if pa_sg T i = c then some (nI 1, ps_st M q 12 (nI (i + 1))) else some (nI 0, M) := by
  unfold ff_X7_accepts
  rw [mt_sign hT hok hi hc hc2 hc2 h1, ps_b2E]
  unfold pa_bi
  by_cases e : pa_sg T i = c
  · rw [if_pos (show decide (c ≤ pa_sg T i ∧ pa_sg T i ≤ c) = true from decide_eq_true (by omega)), if_neg (by rw [nI_eq (by omega) (by omega)]; omega), if_pos e, ps_letE, if_pos ps_isB1, h1, nI_add]
  · rw [if_neg (show ¬ decide (c ≤ pa_sg T i ∧ pa_sg T i ≤ c) = true by simp; omega), if_pos rfl, if_neg e, ps_letE, if_pos ps_isB0, st_add0]
theorem mt_dig {M : ps_M} {q i k p : Nat} {T : ps_Tx} (hT : ps_TM M q T) (hok : ps_okT T) (hi : i < 1000) (h1 : ps_rd M q 12 = nI i) (h2 : ps_rd M q 11 = nI k) (hk : k ≤ 40) (hp : p < 4) : ff_X7_digit q (nI p) M = if pa_dg T i = true then some (nI 1, ps_st (ps_st M (q + 8) (4 * k + p) (nI (pa_sg T i - 48))) q 12 (nI (i + 1))) else some (nI 0, ps_st M (q + 8) (4 * k + p) (nI 0)) := by
  unfold ff_X7_digit
  rw [mt_sign hT hok hi (by omega) (by omega) (by omega) h1, ps_b2E]
  have e : decide (48 ≤ pa_sg T i ∧ pa_sg T i ≤ 57) = pa_dg T i := rfl
  rw [e]
  unfold fk_X7_digit_41
  by_cases c : pa_dg T i = true
  · have hd := dg_t c
    have hl := sg_lt (T := T) (i := i) (by omega)
    have h8 := hok.1
    have es : ps_rd M (q + 9) i = nI (pa_sg T i) := by rw [hT.2 i hl]; unfold pa_sg; rw [if_pos hl]
    rw [c, show pa_bi true = nI 1 from rfl, if_neg (by rw [nI_eq (by omega) (by omega)]; omega), h1, if_pos (ev_inB (by omega) (by omega)), h2, pk_mul, nI_add, if_pos (ev_inB (by omega) (by omega)), nI_clamp (by omega), nI_clamp (by omega), es, pk_sub (by omega), ps_letE, if_neg (by rw [nI_eq (by omega) (by omega)]; omega), ev_ra (by omega), h1, nI_add, ps_letE, if_pos ps_isB1, if_pos rfl]
  · have c' := c
    rw [Bool.not_eq_true] at c
    rw [c, show pa_bi false = nI 0 from rfl, if_pos rfl, h2, pk_mul, nI_add, if_pos (ev_inB (by omega) (by omega)), nI_clamp (by omega), ps_letE, if_pos rfl, st_add0, ps_letE, if_pos ps_isB0, if_neg (by simp)]
theorem mt_num {M : ps_M} {q i k p : Nat} {T : ps_Tx} (hT : ps_TM M q T) (hok : ps_okT T) (hi : i < 900) (h1 : ps_rd M q 12 = nI i) (h2 : ps_rd M q 11 = nI k) (hk : k ≤ 40) (hp : p < 4) : ∃ M1, ff_X7_number q (nI p) M = some (pa_bi (pa_dg T i), M1) ∧ ps_Fd q M M1 ∧ ps_rd M1 q 11 = nI k ∧ (∀ j, j ≠ 4 * k + p → ps_rd M1 (q + 8) j = ps_rd M (q + 8) j) ∧ (pa_dg T i = true → ps_rd M1 (q + 8) (4 * k + p) = nI (pa_num T i).1) ∧ ps_rd M1 q 12 = nI (if pa_dg T i = true then (pa_num T i).2 else i) := by
  unfold ff_X7_number
  rw [mt_dig hT hok (by omega) h1 h2 hk hp]
  by_cases c : pa_dg T i = true
  · have hd := dg_t c
    rw [if_pos c, if_pos c, c, ps_b2E, show pa_bi true = nI 1 from rfl]
    obtain ⟨M1, hM1⟩ : ∃ M1, M1 = ps_st (ps_st M (q + 8) (4 * k + p) (nI (pa_sg T i - 48))) q 12 (nI (i + 1)) := ⟨_, rfl⟩
    rw [← hM1]
    have F1 : ps_Fd q M M1 := by rw [hM1]; exact ps_Fd_tr ps_Fd_sb (ps_Fd_st (by omega))
    have a11 : ps_rd M1 q 11 = nI k := by rw [hM1]; simp (disch := omega) only [ps_letE, ps_b2E, nI_add, pk_mul, nI_clamp, ev_inB, nI_leI, nI_ltI, nI_eq, if_pos, if_neg, ev_eqm, ev_eqm2, ev_ltm, ev_lem, ev_mlt, ev_mle, ev_mm, ev_subm, pk_sub, ev_true, if_true, if_false, ite_true, ite_false, Option.map, ev_rs, ev_ra, ev_rj, ev_cpO, ps_isB1, ps_isB0, h2]
    have a12 : ps_rd M1 q 12 = nI (i + 1) := by rw [hM1]; simp (disch := omega) only [ps_letE, ps_b2E, nI_add, pk_mul, nI_clamp, ev_inB, nI_leI, nI_ltI, nI_eq, if_pos, if_neg, ev_eqm, ev_eqm2, ev_ltm, ev_lem, ev_mlt, ev_mle, ev_mm, ev_subm, pk_sub, ev_true, if_true, if_false, ite_true, ite_false, Option.map, ev_rs, ev_ra, ev_rj, ev_cpO, ps_isB1, ps_isB0]
    have a8 : ps_rd M1 (q + 8) (4 * k + p) = nI (pa_sg T i - 48) := by rw [hM1]; simp (disch := omega) only [ps_letE, ps_b2E, nI_add, pk_mul, nI_clamp, ev_inB, nI_leI, nI_ltI, nI_eq, if_pos, if_neg, ev_eqm, ev_eqm2, ev_ltm, ev_lem, ev_mlt, ev_mle, ev_mm, ev_subm, pk_sub, ev_true, if_true, if_false, ite_true, ite_false, Option.map, ev_rs, ev_ra, ev_rj, ev_cpO, ps_isB1, ps_isB0]
    have ao : ∀ j, j ≠ 4 * k + p → ps_rd M1 (q + 8) j = ps_rd M (q + 8) j := fun j hj => by rw [hM1, ev_ra (by omega), ev_rj hj]
    rw [a11, pk_mul, nI_add, ps_letE, if_neg (by rw [nI_eq (by omega) (by omega)]; omega), if_pos (ev_inB (by omega) (by omega)), nI_clamp (by omega), a8]
    by_cases c0 : pa_sg T i = 48
    · have en : pa_num T i = (pa_sg T i - 48, i + 1) := if_neg (fun z => by omega)
      rw [en, if_pos (nI_le (by omega) (by omega)), if_pos ps_isB1]
      exact ⟨M1, rfl, F1, a11, ao, fun _ => a8, a12⟩
    · rw [if_neg (nI_ge (by omega) (by omega)), mt_sign (TM_fd F1 hT) hok (by omega) (by omega) (by omega) (by omega) a12, ps_b2E]
      have e : decide (48 ≤ pa_sg T (i + 1) ∧ pa_sg T (i + 1) ≤ 57) = pa_dg T (i + 1) := rfl
      rw [e]
      by_cases c1 : pa_dg T (i + 1) = true
      · have hd1 := dg_t c1
        have hl := sg_lt (T := T) (i := i + 1) (by omega)
        have h8 := hok.1
        have es : ps_rd M1 (q + 9) (i + 1) = nI (pa_sg T (i + 1)) := by rw [(TM_fd F1 hT).2 _ hl]; unfold pa_sg; rw [if_pos hl]
        have en : pa_num T i = (10 * (pa_sg T i - 48) + (pa_sg T (i + 1) - 48), i + 2) := if_pos ⟨by omega, c1⟩
        have ev : nI 10 * nI (pa_sg T i - 48) + nI (pa_sg T (i + 1)) - nI 48 = nI (10 * (pa_sg T i - 48) + (pa_sg T (i + 1) - 48)) := by
          rw [pk_mul, nI_add, pk_sub (by omega)]
          congr 1
          omega
        rw [c1, show pa_bi true = nI 1 from rfl, if_neg (by rw [nI_eq (by omega) (by omega)]; omega), if_pos (ev_inB (by omega) (by omega)), a12, if_pos (ev_inB (by omega) (by omega)), if_pos (ev_inB (by omega) (by omega)), nI_clamp (by omega), a8, es, ev, ps_letE, ev_ra (by omega), a12, nI_add, ps_letE, if_pos ps_isB1, en]
        exact ⟨_, rfl, ps_Fd_tr F1 (ps_Fd_tr ps_Fd_sb (ps_Fd_st (by omega))), by simp (disch := omega) only [ps_letE, ps_b2E, nI_add, pk_mul, nI_clamp, ev_inB, nI_leI, nI_ltI, nI_eq, if_pos, if_neg, ev_eqm, ev_eqm2, ev_ltm, ev_lem, ev_mlt, ev_mle, ev_mm, ev_subm, pk_sub, ev_true, if_true, if_false, ite_true, ite_false, Option.map, ev_rs, ev_ra, ev_rj, ev_cpO, ps_isB1, ps_isB0, a11], fun j hj => by rw [ev_ra (by omega), ev_rj hj]; exact ao j hj, fun _ => by simp (disch := omega) only [ps_letE, ps_b2E, nI_add, pk_mul, nI_clamp, ev_inB, nI_leI, nI_ltI, nI_eq, if_pos, if_neg, ev_eqm, ev_eqm2, ev_ltm, ev_lem, ev_mlt, ev_mle, ev_mm, ev_subm, pk_sub, ev_true, if_true, if_false, ite_true, ite_false, Option.map, ev_rs, ev_ra, ev_rj, ev_cpO, ps_isB1, ps_isB0], by simp (disch := omega) only [ps_letE, ps_b2E, nI_add, pk_mul, nI_clamp, ev_inB, nI_leI, nI_ltI, nI_eq, if_pos, if_neg, ev_eqm, ev_eqm2, ev_ltm, ev_lem, ev_mlt, ev_mle, ev_mm, ev_subm, pk_sub, ev_true, if_true, if_false, ite_true, ite_false, Option.map, ev_rs, ev_ra, ev_rj, ev_cpO, ps_isB1, ps_isB0]⟩
      · have en : pa_num T i = (pa_sg T i - 48, i + 1) := if_neg (fun z => c1 z.2)
        rw [Bool.not_eq_true] at c1
        rw [c1, show pa_bi false = nI 0 from rfl, if_pos rfl, if_pos ps_isB1, en]
        exact ⟨M1, rfl, F1, a11, ao, fun _ => a8, a12⟩
  · rw [if_neg c, if_neg c, ps_b2E, ps_letE, if_pos rfl, if_pos ps_isB0]
    have c' := c
    rw [Bool.not_eq_true] at c
    rw [c]
    exact ⟨_, rfl, ps_Fd_sb, by simp (disch := omega) only [ps_letE, ps_b2E, nI_add, pk_mul, nI_clamp, ev_inB, nI_leI, nI_ltI, nI_eq, if_pos, if_neg, ev_eqm, ev_eqm2, ev_ltm, ev_lem, ev_mlt, ev_mle, ev_mm, ev_subm, pk_sub, ev_true, if_true, if_false, ite_true, ite_false, Option.map, ev_rs, ev_ra, ev_rj, ev_cpO, ps_isB1, ps_isB0, h2], fun j hj => ev_rj hj, fun z => absurd z (by simp), by simp (disch := omega) only [ps_letE, ps_b2E, nI_add, pk_mul, nI_clamp, ev_inB, nI_leI, nI_ltI, nI_eq, if_pos, if_neg, ev_eqm, ev_eqm2, ev_ltm, ev_lem, ev_mlt, ev_mle, ev_mm, ev_subm, pk_sub, ev_true, if_true, if_false, ite_true, ite_false, Option.map, ev_rs, ev_ra, ev_rj, ev_cpO, ps_isB1, ps_isB0, h1]⟩
theorem mt_let {M : ps_M} {q i k : Nat} {T : ps_Tx} (hT : ps_TM M q T) (hok : ps_okT T) (hi : i < 900) (h1 : ps_rd M q 12 = nI i) (h2 : ps_rd M q 11 = nI k) (hk : k ≤ 40) : ∃ M1, ff_X7_letters q M = some (pa_bi (decide (0 < pa_lt T i)), M1) ∧ ps_Fd q M M1 ∧ ps_rd M1 q 11 = nI k ∧ (∀ j, j ≠ 4 * k + 1 → j ≠ 4 * k + 2 → ps_rd M1 (q + 8) j = ps_rd M (q + 8) j) ∧ ps_rd M1 (q + 8) (4 * k + 1) = nI i ∧ ps_rd M1 (q + 8) (4 * k + 2) = nI (pa_lt T i) ∧ ps_rd M1 q 12 = nI (i + pa_lt T i) := by
  unfold ff_X7_letters
  rw [h2, pk_mul, ps_letE, nI_add, if_pos (ev_inB (by omega) (by omega)), nI_clamp (by omega), h1, ps_letE]
  have fin : ∀ (c : Nat) (M1 : ps_M), c ≤ 20 → ps_rd M1 q 12 = nI (i + c) → ps_rd M1 (q + 8) (4 * k + 1) = nI i → fk_X7_letters_61 q (nI (4 * k)) M1 = some (pa_bi (decide (0 < c)), ps_st M1 (q + 8) (4 * k + 2) (nI c)) := by
    intro c M1 hc a12 a8
    unfold fk_X7_letters_61 pa_bi
    rw [nI_add, nI_add, if_pos (ev_inB (by omega) (by omega)), if_pos (ev_inB (by omega) (by omega)), nI_clamp (by omega), nI_clamp (by omega), a12, a8, pk_sub (by omega), Nat.add_sub_cancel_left, ps_letE, if_pos (ev_inB (by omega) (by omega)), ev_rs]
    by_cases h : 0 < c
    · rw [if_neg (nI_ge h (by omega)), if_pos (decide_eq_true h)]
    · rw [if_pos (nI_le (by omega) (by omega)), if_neg (by simpa using h)]
  refine Exists.elim (ps_whR (F := fun n t (_ : Unit) M1 => fk_X7_letters_19 q n (nI (4 * k)) M1) (Rel := fun t _ M1 => ps_Fd q M M1 ∧ ps_rd M1 q 11 = nI k ∧ (∀ j, j ≠ 4 * k + 1 → ps_rd M1 (q + 8) j = ps_rd M (q + 8) j) ∧ ps_rd M1 (q + 8) (4 * k + 1) = nI i ∧ ps_rd M1 q 12 = nI (i + t)) 20 (fun t _ => decide (97 ≤ pa_sg T (i + t) ∧ pa_sg T (i + t) ≤ 122)) (fun _ u => u) (fun t _ M1 => some (pa_bi (decide (0 < t)), ps_st M1 (q + 8) (4 * k + 2) (nI t))) (fun n t u M1 g1 g2 g3 => ?_) (fun n t u M1 g1 g2 g3 => ?_) 20 ps_fu 0 () (ps_st M (q + 8) (4 * k + 1) (nI i)) (by omega) (by unfold ps_fu; omega) ⟨ps_Fd_sb, by simp (disch := omega) only [ps_letE, ps_b2E, nI_add, pk_mul, nI_clamp, ev_inB, nI_leI, nI_ltI, nI_eq, if_pos, if_neg, ev_eqm, ev_eqm2, ev_ltm, ev_lem, ev_mlt, ev_mle, ev_mm, ev_subm, pk_sub, ev_true, if_true, if_false, ite_true, ite_false, Option.map, ev_rs, ev_ra, ev_rj, ev_cpO, ps_isB1, ps_isB0, h2], fun j hj => ev_rj hj, ev_rs, by simp (disch := omega) only [ps_letE, ps_b2E, nI_add, pk_mul, nI_clamp, ev_inB, nI_leI, nI_ltI, nI_eq, if_pos, if_neg, ev_eqm, ev_eqm2, ev_ltm, ev_lem, ev_mlt, ev_mle, ev_mm, ev_subm, pk_sub, ev_true, if_true, if_false, ite_true, ite_false, Option.map, ev_rs, ev_ra, ev_rj, ev_cpO, ps_isB1, ps_isB0, h1]; rfl⟩) (fun M1 z => ?_)
  · obtain ⟨z1, z2, z3, z4, z5⟩ := g2
    rw [fk_X7_letters_19, nI_add, if_pos (ev_inB (by omega) (by omega)), nI_clamp (by omega), z5, z4, pk_sub (by omega), Nat.add_sub_cancel_left]
    by_cases c : t < 20
    · have c2 := g3 c
      rw [if_neg (nI_ge c (by omega)), mt_sign (TM_fd z1 hT) hok (by omega) (by omega) (by omega) (by omega) z5, c2, ps_b2E, show pa_bi false = nI 0 from rfl, if_pos rfl]
      exact fin t M1 (by omega) z5 z4
    · rw [if_pos (nI_le (by omega) (by omega))]
      exact fin t M1 (by omega) z5 z4
  · obtain ⟨z1, z2, z3, z4, z5⟩ := g2
    refine ⟨ps_st M1 q 12 (nI (i + (t + 1))), ?_, ps_Fd_tr z1 (ps_Fd_st (by omega)), by simp (disch := omega) only [ps_letE, ps_b2E, nI_add, pk_mul, nI_clamp, ev_inB, nI_leI, nI_ltI, nI_eq, if_pos, if_neg, ev_eqm, ev_eqm2, ev_ltm, ev_lem, ev_mlt, ev_mle, ev_mm, ev_subm, pk_sub, ev_true, if_true, if_false, ite_true, ite_false, Option.map, ev_rs, ev_ra, ev_rj, ev_cpO, ps_isB1, ps_isB0, z2], fun j hj => by rw [ev_ra (by omega)]; exact z3 j hj, by simp (disch := omega) only [ps_letE, ps_b2E, nI_add, pk_mul, nI_clamp, ev_inB, nI_leI, nI_ltI, nI_eq, if_pos, if_neg, ev_eqm, ev_eqm2, ev_ltm, ev_lem, ev_mlt, ev_mle, ev_mm, ev_subm, pk_sub, ev_true, if_true, if_false, ite_true, ite_false, Option.map, ev_rs, ev_ra, ev_rj, ev_cpO, ps_isB1, ps_isB0, z4], ev_rs⟩
    rw [fk_X7_letters_19, nI_add, if_pos (ev_inB (by omega) (by omega)), nI_clamp (by omega), z5, z4, pk_sub (by omega), Nat.add_sub_cancel_left, if_neg (nI_ge g1 (by omega)), mt_sign (TM_fd z1 hT) hok (by omega) (by omega) (by omega) (by omega) z5, g3, ps_b2E, show pa_bi true = nI 1 from rfl, if_neg (by rw [nI_eq (by omega) (by omega)]; omega), z5, nI_add, ps_letE]
    rfl
  · obtain ⟨e, z1, z2, z3, z4, z5⟩ := z
    exact ⟨_, e, ps_Fd_tr z1 ps_Fd_sb, by simp (disch := omega) only [ps_letE, ps_b2E, nI_add, pk_mul, nI_clamp, ev_inB, nI_leI, nI_ltI, nI_eq, if_pos, if_neg, ev_eqm, ev_eqm2, ev_ltm, ev_lem, ev_mlt, ev_mle, ev_mm, ev_subm, pk_sub, ev_true, if_true, if_false, ite_true, ite_false, Option.map, ev_rs, ev_ra, ev_rj, ev_cpO, ps_isB1, ps_isB0, z2], fun j h1 h2 => by rw [ev_rj h2]; exact z3 j h1, by simp (disch := omega) only [ps_letE, ps_b2E, nI_add, pk_mul, nI_clamp, ev_inB, nI_leI, nI_ltI, nI_eq, if_pos, if_neg, ev_eqm, ev_eqm2, ev_ltm, ev_lem, ev_mlt, ev_mle, ev_mm, ev_subm, pk_sub, ev_true, if_true, if_false, ite_true, ite_false, Option.map, ev_rs, ev_ra, ev_rj, ev_cpO, ps_isB1, ps_isB0, z4], ev_rs, by rw [ev_ra (by omega)]; exact z5⟩
