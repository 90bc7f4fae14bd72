/-! the text of the pad, and how an order is read -/
abbrev ps_Tx : Type := Nat × (Nat → Nat)
def pa_sg (T : ps_Tx) (i : Nat) : Nat := if i < T.1 then T.2 i else 0
def ps_okT (T : ps_Tx) : Prop := T.1 ≤ 80 ∧ ∀ j, j < T.1 → 33 ≤ T.2 j ∧ T.2 j ≤ 126
theorem sg_le {T : ps_Tx} (hT : ps_okT T) (i : Nat) : pa_sg T i ≤ 126 := by
  unfold pa_sg
  by_cases h : i < T.1
  · rw [if_pos h]; exact (hT.2 i h).2
  · rw [if_neg h]; omega
theorem sg_lt {T : ps_Tx} {i : Nat} (h : 0 < pa_sg T i) : i < T.1 := by
  unfold pa_sg at h
  by_cases c : i < T.1
  · exact c
  · rw [if_neg c] at h; omega
def pa_dg (T : ps_Tx) (i : Nat) : Bool := decide (48 ≤ pa_sg T i ∧ pa_sg T i ≤ 57)
theorem dg_t {T : ps_Tx} {i : Nat} (h : pa_dg T i = true) : 48 ≤ pa_sg T i ∧ pa_sg T i ≤ 57 := of_decide_eq_true h
theorem dg_f {T : ps_Tx} {i : Nat} (h : ¬ pa_dg T i = true) : ¬ (48 ≤ pa_sg T i ∧ pa_sg T i ≤ 57) := fun z => h (decide_eq_true z)
def pa_lt (T : ps_Tx) (i : Nat) : Nat := ps_sc (fun t => decide (97 ≤ pa_sg T (i + t) ∧ pa_sg T (i + t) ≤ 122)) 20 0
theorem lt_le (T : ps_Tx) (i : Nat) : pa_lt T i ≤ 20 := by
  have := (ps_sc_spec (fun t => decide (97 ≤ pa_sg T (i + t) ∧ pa_sg T (i + t) ≤ 122)) 20 0).2.1
  unfold pa_lt
  omega
theorem lt_is {T : ps_Tx} {i t : Nat} (h : t < pa_lt T i) : 97 ≤ pa_sg T (i + t) ∧ pa_sg T (i + t) ≤ 122 := of_decide_eq_true ((ps_sc_spec (fun t => decide (97 ≤ pa_sg T (i + t) ∧ pa_sg T (i + t) ≤ 122)) 20 0).2.2.1 t (Nat.zero_le _) h)
def pa_num (T : ps_Tx) (i : Nat) : Nat × Nat := if 48 < pa_sg T i ∧ pa_dg T (i + 1) = true then (10 * (pa_sg T i - 48) + (pa_sg T (i + 1) - 48), i + 2) else (pa_sg T i - 48, i + 1)
/-- an order: whether it is one, where it ends, or the fault is; its letter, and what is behind it -/
def pa_ord (T : ps_Tx) (i : Nat) : Bool × Nat × Nat × Nat × Nat × Nat :=
  if pa_sg T i = 83 then (decide (0 < pa_lt T (i + 1)), i + 1 + pa_lt T (i + 1), 83, i + 1, pa_lt T (i + 1), 0)
  else if pa_sg T i = 76 then (if pa_dg T (i + 1) = true then (if pa_sg T (i + 2) = 46 then (if pa_dg T (i + 3) = true then (if pa_sg T (i + 4) = 47 then (if pa_dg T (i + 5) = true then (true, (pa_num T (i + 5)).2, 76, pa_sg T (i + 1) - 48, pa_sg T (i + 3) - 48, (pa_num T (i + 5)).1) else (false, i + 5, 0, 0, 0, 0)) else (true, i + 4, 76, pa_sg T (i + 1) - 48, pa_sg T (i + 3) - 48, 0)) else (false, i + 3, 0, 0, 0, 0)) else (false, i + 2, 0, 0, 0, 0)) else (false, i + 1, 0, 0, 0, 0))
  else if pa_sg T i = 72 then (if pa_dg T (i + 1) = true then (true, i + 2, 72, pa_sg T (i + 1) - 48, 0, 0) else (false, i + 1, 0, 0, 0, 0))
  else if pa_sg T i = 80 then (if pa_dg T (i + 1) = true then (if pa_sg T (i + 2) = 42 then (if pa_dg T (i + 3) = true then (true, (pa_num T (i + 3)).2, 80, pa_sg T (i + 1) - 48, (pa_num T (i + 3)).1, 0) else (false, i + 3, 0, 0, 0, 0)) else (false, i + 2, 0, 0, 0, 0)) else (false, i + 1, 0, 0, 0, 0))
  else if pa_sg T i = 66 then (true, i + 1, 66, 0, 0, 0)
  else if pa_sg T i = 78 then (true, i + 1, 78, 0, 0, 0)
  else (false, i, 0, 0, 0, 0)
/-! the class's reader at the cell q -/
def ps_TX (M : ps_M) (p : Nat) (T : ps_Tx) : Prop := ps_rd M p 1 = nI T.1 ∧ ∀ j, j < T.1 → ps_rd M (p + 1) j = nI (T.2 j)
def ps_Fq (q : Nat) (M M1 : ps_M) : Prop := (∀ a, a ≠ q → a ≠ q + 3 → ∀ k, ps_rd M1 a k = ps_rd M a k) ∧ M1.2 = M.2 ∧ ps_rd M1 q 2 = ps_rd M q 2
theorem ps_Fq_rf {q : Nat} {M : ps_M} : ps_Fq q M M := ⟨fun _ _ _ _ => rfl, rfl, rfl⟩
theorem ps_Fq_tr {q : Nat} {M M1 M2 : ps_M} (h1 : ps_Fq q M M1) (h2 : ps_Fq q M1 M2) : ps_Fq q M M2 := ⟨fun a ha hb k => (h2.1 a ha hb k).trans (h1.1 a ha hb k), h2.2.1.trans h1.2.1, h2.2.2.trans h1.2.2⟩
theorem ps_Fq_st {q k : Nat} {M : ps_M} {x : Int32} (h : k ≠ 2) : ps_Fq q M (ps_st M q k x) := ⟨fun a ha _ i => ev_ra ha, rfl, ev_rj (fun e => h e.symm)⟩
theorem ps_Fq_sb {q k : Nat} {M : ps_M} {x : Int32} : ps_Fq q M (ps_st M (q + 3) k x) := ⟨fun a _ hb i => ev_ra hb, rfl, ev_ra (by omega)⟩
theorem TX_fq {q : Nat} {M M1 : ps_M} {T : ps_Tx} (h : ps_Fq q M M1) (hT : ps_TX M (q + 1) T) : ps_TX M1 (q + 1) T := ⟨by rw [h.1 _ (by omega) (by omega)]; exact hT.1, fun j hj => by rw [h.1 _ (by omega) (by omega)]; exact hT.2 j hj⟩
theorem isC_n {n : Nat} (h : n < 65536) : ps_isC (nI n) = true := by
  unfold ps_isC
  rw [nI_toInt (by omega)]
  simp
  omega
theorem isB_bi (b : Bool) : ps_isB (pa_bi b) = true := by
  cases b
  · exact ps_isB0
  · exact ps_isB1
theorem cl_sign {M : ps_M} {p i : Nat} {T : ps_Tx} (hT : ps_TX M p T) (hok : ps_okT T) (hi : i < 1000) : ff_X2_signAt p (nI i) M = some (nI (pa_sg T i), M) := by
  have h8 := hok.1
  unfold ff_X2_signAt pa_sg
  rw [if_neg (nI_nlt (by omega) (by omega)), hT.1]
  by_cases c : i < T.1
  · have := hok.2 i c
    rw [if_neg (nI_ge c (by omega)), if_pos (ev_inB (by omega) (by omega)), nI_clamp (by omega), hT.2 i c, if_pos (isC_n (by omega)), if_pos c]
  · rw [if_pos (nI_le (by omega) (by omega)), if_neg c]
theorem cl_dig {M : ps_M} {q i : Nat} {T : ps_Tx} (hT : ps_TX M (q + 1) T) (hok : ps_okT T) (hi : i < 1000) (h1 : ps_rd M q 1 = nI i) : ff_X4_isDigit q M = some (pa_bi (pa_dg T i), M) := by
  have hs := sg_le hok i
  unfold ff_X4_isDigit
  rw [h1, cl_sign hT hok hi, ps_b2E, h1, cl_sign hT hok hi, ps_b2E]
  unfold pa_bi
  by_cases c : pa_dg T i = true
  · have := dg_t c
    rw [if_pos c, if_neg (nI_nlt (by omega) (by omega)), if_neg (nI_nlt (by omega) (by omega))]
  · have := dg_f c
    rw [if_neg c]
    by_cases c1 : pa_sg T i < 48
    · rw [if_pos (nI_lt c1 (by omega))]
    · rw [if_neg (nI_nlt (by omega) (by omega)), if_pos (nI_lt (by omega) (by omega))]
theorem cl_tkd {M : ps_M} {q i : Nat} {T : ps_Tx} (hT : ps_TX M (q + 1) T) (hok : ps_okT T) (hi : i < 1000) (h1 : ps_rd M q 1 = nI i) (hd : pa_dg T i = true) : ff_X4_takeDigit q M = some (nI (pa_sg T i - 48), ps_st M q 1 (nI (i + 1))) := by
  have := dg_t hd
  unfold ff_X4_takeDigit
  rw [h1, cl_sign hT hok hi, ps_b2E, pk_sub (by omega), ps_letE, ps_letE, h1, nI_add]
theorem cl_take {M : ps_M} {q i c : Nat} {T : ps_Tx} (hT : ps_TX M (q + 1) T) (hok : ps_okT T) (hi : i < 1000) (hc : c < 1000) (h1 : ps_rd M q 1 = nI i) : ff_X4_take q (nI c) M = if pa_sg T i = c then some (nI 1, ps_st M q 1 (nI (i + 1))) else some (nI 0, M) := by
  have hs := sg_le hok i
  unfold ff_X4_take
  rw [h1, cl_sign hT hok hi, ps_b2E, h1]
  by_cases e : pa_sg T i = c
  · rw [if_pos (by rw [e]), if_pos e, ps_letE, nI_add]
  · rw [if_neg (by rw [nI_eq (by omega) (by omega)]; exact e), if_neg e]
theorem cl_rpar {M : ps_M} {q i : Nat} {T : ps_Tx} (hT : ps_TX M (q + 1) T) (hok : ps_okT T) (hi : i < 1000) (h1 : ps_rd M q 1 = nI i) : ff_X4_readParrot q M = if pa_dg T i = true then some (nI 1, ps_st (ps_st M q 1 (nI (i + 1))) q 4 (nI (pa_sg T i - 48))) else some (nI 0, M) := by
  unfold ff_X4_readParrot
  rw [cl_dig hT hok hi h1, ps_b2E]
  unfold pa_bi
  by_cases c : pa_dg T i = true
  · rw [if_pos c, if_pos c, if_neg (by rw [nI_eq (by omega) (by omega)]; omega), cl_tkd hT hok hi h1 c, ps_b2E, ps_letE]
  · rw [if_neg c, if_neg c, if_pos rfl]
theorem cl_rnum {M : ps_M} {q i : Nat} {T : ps_Tx} (hT : ps_TX M (q + 1) T) (hok : ps_okT T) (hi : i < 900) (h1 : ps_rd M q 1 = nI i) : ∃ M1, ff_X4_readNumber q M = some (pa_bi (pa_dg T i), M1) ∧ ps_Fq q M M1 ∧ (∀ k, k ≠ 1 → k ≠ 6 → ps_rd M1 q k = ps_rd M q k) ∧ (pa_dg T i = true → ps_rd M1 q 6 = nI (pa_num T i).1) ∧ ps_rd M1 q 1 = nI (if pa_dg T i = true then (pa_num T i).2 else i) := by
  unfold ff_X4_readNumber
  rw [cl_dig hT hok (by omega) h1, ps_b2E]
  by_cases c : pa_dg T i = true
  · have hd := dg_t c
    have hT2 : ps_TX (ps_st (ps_st M q 1 (nI (i + 1))) q 6 (nI (pa_sg T i - 48))) (q + 1) T := TX_fq (ps_Fq_tr (ps_Fq_st (by omega)) (ps_Fq_st (by omega))) hT
    have h2 : ps_rd (ps_st (ps_st M q 1 (nI (i + 1))) q 6 (nI (pa_sg T i - 48))) q 1 = nI (i + 1) := by simp (disch := omega) only [ps_letE, ps_b2E, nI_add, pk_mul, nI_clamp, ev_inB, nI_leI, nI_ltI, nI_eq, if_pos, if_neg, ev_eqm, ev_eqm2, ev_ltm, ev_lem, ev_mlt, ev_mle, ev_mm, ev_subm, pk_sub, ev_true, if_true, if_false, ite_true, ite_false, Option.map, ev_rs, ev_ra, ev_rj, ev_cpO, ps_isB1, ps_isB0]
    rw [c]
    rw [show pa_bi true = nI 1 from rfl, if_neg (by rw [nI_eq (by omega) (by omega)]; omega), cl_tkd hT hok (by omega) h1 c, ps_b2E, ps_letE, ev_rs, if_pos rfl]
    by_cases c0 : pa_sg T i = 48
    · have en : pa_num T i = (pa_sg T i - 48, i + 1) := if_neg (fun z => by omega)
      rw [en, if_pos (nI_le (by omega) (by omega))]
      exact ⟨_, rfl, ps_Fq_tr (ps_Fq_st (by omega)) (ps_Fq_st (by omega)), fun k h1 h2 => by rw [ev_rj h2, ev_rj h1], fun _ => ev_rs, h2⟩
    · rw [if_neg (nI_ge (by omega) (by omega)), cl_dig hT2 hok (by omega) h2, ps_b2E]
      by_cases c1 : pa_dg T (i + 1) = true
      · have hd1 := dg_t c1
        have en : pa_num T i = (10 * (pa_sg T i - 48) + (pa_sg T (i + 1) - 48), i + 2) := if_pos ⟨by omega, c1⟩
        rw [c1, show pa_bi true = nI 1 from rfl, if_neg (by rw [nI_eq (by omega) (by omega)]; omega), cl_tkd hT2 hok (by omega) h2 c1, ps_b2E, ps_letE, ev_rs, pk_mul, nI_add, en]
        exact ⟨_, rfl, ps_Fq_tr (ps_Fq_tr (ps_Fq_tr (ps_Fq_st (by omega)) (ps_Fq_st (by omega))) (ps_Fq_st (by omega))) (ps_Fq_st (by omega)), fun k h1 h2 => by rw [ev_rj h2, ev_rj h1, ev_rj h2, ev_rj h1], fun _ => ev_rs, by simp (disch := omega) only [ps_letE, ps_b2E, nI_add, pk_mul, nI_clamp, ev_inB, nI_leI, nI_ltI, nI_eq, if_pos, if_neg, ev_eqm, ev_eqm2, ev_ltm, ev_lem, ev_mlt, ev_mle, ev_mm, ev_subm, pk_sub, ev_true, if_true, if_false, ite_true, ite_false, Option.map, ev_rs, ev_ra, ev_rj, ev_cpO, ps_isB1, ps_isB0]⟩
      · have en : pa_num T i = (pa_sg T i - 48, i + 1) := if_neg (fun z => c1 z.2)
        rw [Bool.not_eq_true] at c1
        rw [c1, show pa_bi false = nI 0 from rfl, if_pos rfl, en]
        exact ⟨_, rfl, ps_Fq_tr (ps_Fq_st (by omega)) (ps_Fq_st (by omega)), fun k h1 h2 => by rw [ev_rj h2, ev_rj h1], fun _ => ev_rs, h2⟩
  · rw [if_neg c]
    have c' := c
    rw [Bool.not_eq_true] at c
    rw [c, show pa_bi false = nI 0 from rfl, if_pos rfl]
    exact ⟨M, rfl, ps_Fq_rf, fun _ _ _ => rfl, fun z => absurd z (by simp), h1⟩
theorem cl_rbars {M : ps_M} {q i : Nat} {T : ps_Tx} (hT : ps_TX M (q + 1) T) (hok : ps_okT T) (hi : i < 900) (h1 : ps_rd M q 1 = nI i) : ∃ M1, ff_X4_readBars q M = some (pa_bi (decide (0 < pa_lt T i)), M1) ∧ ps_Fq q M M1 ∧ ps_rd M1 q 3 = ps_rd M q 3 ∧ ps_rd M1 q 8 = nI (pa_lt T i) ∧ (∀ t, t < pa_lt T i → ps_rd M1 (q + 3) t = nI (pa_sg T (i + t) - 97)) ∧ ps_rd M1 q 1 = nI (i + pa_lt T i) := by
  unfold ff_X4_readBars
  rw [ps_letE]
  have hfin : ∀ (c : Nat) (M : ps_M), c < 1000 → (if nI c ≤ nI 0 then some (nI 0, M) else some (nI 1, M)) = some (pa_bi (decide (0 < c)), M) := by
    intro c M hc
    unfold pa_bi
    by_cases h : 0 < c
    · rw [if_neg (nI_ge h (by omega)), if_pos (decide_eq_true h)]
    · rw [if_pos (nI_le (by omega) (by omega)), if_neg (by simpa using h)]
  refine Exists.elim (ps_whR (F := fun n k (_ : Unit) M1 => fk_X4_readBars_5 q n M1) (Rel := fun k _ M1 => ps_Fq q M M1 ∧ ps_rd M1 q 3 = ps_rd M q 3 ∧ ps_rd M1 q 8 = nI k ∧ (∀ t, t < k → ps_rd M1 (q + 3) t = nI (pa_sg T (i + t) - 97)) ∧ ps_rd M1 q 1 = nI (i + k)) 20 (fun t _ => decide (97 ≤ pa_sg T (i + t) ∧ pa_sg T (i + t) ≤ 122)) (fun _ u => u) (fun k _ M1 => some (pa_bi (decide (0 < k)), M1)) (fun n k u M1 g1 g2 g3 => ?_) (fun n k u M1 g1 g2 g3 => ?_) 20 ps_fu 0 () (ps_st M q 8 (nI 0)) (by omega) (by unfold ps_fu; omega) ⟨ps_Fq_st (by omega), ev_rj (by omega), ev_rs, fun t h => absurd h (Nat.not_lt_zero t), by rw [ev_rj (by omega)]; exact h1⟩) (fun M1 z => ⟨M1, z⟩)
  · obtain ⟨z1, z2, z3, z4, z5⟩ := g2
    have hT1 := TX_fq z1 hT
    have hs := sg_le hok (i + k)
    rw [fk_X4_readBars_5, z3]
    by_cases c : k < 20
    · have c2 := of_decide_eq_false (g3 c)
      rw [if_neg (nI_ge c (by omega)), z5, cl_sign hT1 hok (by omega), ps_b2E, z5, cl_sign hT1 hok (by omega), ps_b2E, z3]
      by_cases c3 : pa_sg T (i + k) < 97
      · rw [if_pos (nI_lt c3 (by omega))]
        exact hfin k M1 (by omega)
      · rw [if_neg (nI_nlt (by omega) (by omega)), if_pos (nI_lt (by omega) (by omega))]
        exact hfin k M1 (by omega)
    · rw [if_pos (nI_le (by omega) (by omega))]
      exact hfin k M1 (by omega)
  · obtain ⟨z1, z2, z3, z4, z5⟩ := g2
    have hT1 := TX_fq z1 hT
    have c2 := of_decide_eq_true g3
    refine ⟨ps_st (ps_st (ps_st M1 (q + 3) k (nI (pa_sg T (i + k) - 97))) q 8 (nI (k + 1))) q 1 (nI (i + (k + 1))), ?_, ps_Fq_tr (ps_Fq_tr (ps_Fq_tr z1 ps_Fq_sb) (ps_Fq_st (by omega))) (ps_Fq_st (by omega)), by simp (disch := omega) only [ps_letE, ps_b2E, nI_add, pk_mul, nI_clamp, ev_inB, nI_leI, nI_ltI, nI_eq, if_pos, if_neg, ev_eqm, ev_eqm2, ev_ltm, ev_lem, ev_mlt, ev_mle, ev_mm, ev_subm, pk_sub, ev_true, if_true, if_false, ite_true, ite_false, Option.map, ev_rs, ev_ra, ev_rj, ev_cpO, ps_isB1, ps_isB0]; exact z2, by simp (disch := omega) only [ps_letE, ps_b2E, nI_add, pk_mul, nI_clamp, ev_inB, nI_leI, nI_ltI, nI_eq, if_pos, if_neg, ev_eqm, ev_eqm2, ev_ltm, ev_lem, ev_mlt, ev_mle, ev_mm, ev_subm, pk_sub, ev_true, if_true, if_false, ite_true, ite_false, Option.map, ev_rs, ev_ra, ev_rj, ev_cpO, ps_isB1, ps_isB0], fun t ht => ?_, ev_rs⟩
    · rw [fk_X4_readBars_5, z3, if_neg (nI_ge g1 (by omega)), z5, cl_sign hT1 hok (by omega), ps_b2E, z5, cl_sign hT1 hok (by omega), ps_b2E, z3, if_neg (nI_nlt (by omega) (by omega)), if_neg (nI_nlt (by omega) (by omega)), z5, cl_sign hT1 hok (by omega), ps_b2E]
      simp (disch := omega) only [ps_letE, ps_b2E, nI_add, pk_mul, nI_clamp, ev_inB, nI_leI, nI_ltI, nI_eq, if_pos, if_neg, ev_eqm, ev_eqm2, ev_ltm, ev_lem, ev_mlt, ev_mle, ev_mm, ev_subm, pk_sub, ev_true, if_true, if_false, ite_true, ite_false, Option.map, ev_rs, ev_ra, ev_rj, ev_cpO, ps_isB1, ps_isB0, z3, z5]
      rfl
    · by_cases e : t = k
      · subst e
        simp (disch := omega) only [ps_letE, ps_b2E, nI_add, pk_mul, nI_clamp, ev_inB, nI_leI, nI_ltI, nI_eq, if_pos, if_neg, ev_eqm, ev_eqm2, ev_ltm, ev_lem, ev_mlt, ev_mle, ev_mm, ev_subm, pk_sub, ev_true, if_true, if_false, ite_true, ite_false, Option.map, ev_rs, ev_ra, ev_rj, ev_cpO, ps_isB1, ps_isB0]
      · simp (disch := omega) only [ps_letE, ps_b2E, nI_add, pk_mul, nI_clamp, ev_inB, nI_leI, nI_ltI, nI_eq, if_pos, if_neg, ev_eqm, ev_eqm2, ev_ltm, ev_lem, ev_mlt, ev_mle, ev_mm, ev_subm, pk_sub, ev_true, if_true, if_false, ite_true, ite_false, Option.map, ev_rs, ev_ra, ev_rj, ev_cpO, ps_isB1, ps_isB0]
        exact z4 t (by omega)
