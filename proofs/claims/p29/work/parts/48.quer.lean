/-! questions -/
theorem ps_it {c : Prop} {d : Decidable c} {x y : Option (Int32 × ps_M)} {a b : Int32} {M : ps_M} (h1 : c → x = some (a, M)) (h2 : ¬ c → y = some (b, M)) : (if c then x else y) = some (if c then a else b, M) := by
  by_cases h : c
  · rw [if_pos h, if_pos h]; exact h1 h
  · rw [if_neg h, if_neg h]; exact h2 h
/-! undo, save, restore -/
def op_undo (A : ps_U) : Int32 × ps_U := if A.2.1.1 = 0 then (ps_m 5, A) else (nI (A.2.1.1 - 1), (A.2.1.2 (A.2.1.1 - 1), (A.2.1.1 - 1, A.2.1.2), A.2.2))
theorem ok_undo {A : ps_U} (hok : ps_okU A) : ps_okU (op_undo A).2 := by
  unfold op_undo
  by_cases c : A.2.1.1 = 0
  · rw [if_pos c]; exact hok
  · rw [if_neg c]
    have := hok.2.1.1
    exact ⟨hok.2.1.2 _ (by omega), ⟨by show A.2.1.1 - 1 ≤ 6; omega, fun i hi => hok.2.1.2 i (by have : i < A.2.1.1 - 1 := hi; omega)⟩, hok.2.2⟩
theorem cl_undo {M : ps_M} {A : ps_U} (hC : ps_CL M A) (hok : ps_okU A) : ∃ M3, ff_X6_undo 0 M = some ((op_undo A).1, M3) ∧ ps_CL M3 (op_undo A).2 ∧ ps_Fc M M3 := by
  have h6 := hok.2.1.1
  unfold ff_X6_undo op_undo
  rw [Nat.zero_add, hC.2.2.1.1]
  by_cases c : A.2.1.1 = 0
  · rw [if_pos c, if_pos (by rw [c])]
    exact ⟨M, rfl, hC, fun _ _ _ => rfl⟩
  · rw [if_neg c, if_neg (by rw [nI_eq (by omega) (by omega)]; exact c)]
    unfold ff_X0_takeBack
    rw [hC.2.2.1.1]
    have hrd : ∀ k, k ≠ 41 → ∀ j, ps_rd (ps_st M 41 2 (nI (A.2.1.1 - 1))) k j = ps_rd M k j := fun k hk j => ev_ra hk
    have C1 : ps_CL (ps_st M 41 2 (nI (A.2.1.1 - 1))) (A.1, (A.2.1.1 - 1, A.2.1.2), A.2.2) := hi_mid (v := A.1) hC hok hrd hC.2.1 (by rw [ev_rs]) (fun i hi => ⟨i, by omega, rfl, hC.2.2.1.2 i (by omega), hok.2.1.2 i (by omega)⟩)
    have hb := ps_hs_bd hC.2.1 (i := A.2.1.1 - 1) (by omega)
    have hh := hok.2.1.2 (A.2.1.1 - 1) (by omega)
    have R1 : ps_RH (ps_st M 41 2 (nI (A.2.1.1 - 1))) (ps_rr M (A.2.1.1 - 1)) (A.2.1.2 (A.2.1.1 - 1)) := ps_RH_eq (fun k h1 h2 j => hrd k (by omega) j) hh (hC.2.2.1.2 _ (by omega))
    obtain ⟨M2, e2, R2, F2⟩ := ho_copy (h := 1) R1 hh (by omega)
    have hok1 : ps_okU (A.1, (A.2.1.1 - 1, A.2.1.2), A.2.2) := ⟨hok.1, ⟨by show A.2.1.1 - 1 ≤ 6; omega, fun i hi => hok.2.1.2 i (by have : i < A.2.1.1 - 1 := hi; omega)⟩, hok.2.2⟩
    refine ⟨M2, ?_, ps_CL_cur C1 hok1 F2 R2, ps_Fc_tr (fun k hk j => hrd k (by omega) j) (ps_Fc_of F2 (by omega))⟩
    have e41 : ps_rd M2 41 2 = nI (A.2.1.1 - 1) := by rw [F2.1 _ (by omega), ev_rs]
    simp (disch := omega) only [ps_letE, ps_b2E, nI_add, pk_mul, nI_clamp, ev_inB, nI_leI, nI_ltI, nI_eq, if_pos, if_neg, ev_eqm, ev_eqm2, ev_ltm, ev_lem, ev_mlt, ev_mle, ev_mm, ev_subm, pk_sub, ev_true, if_true, if_false, ite_true, ite_false, Option.map, ev_rs, ev_ra, ev_rj, ev_cpO, ps_isB1, ps_isB0, ps_rr_st, e2, e41, Nat.zero_add]
def op_save (s : Int32) (A : ps_U) : Int32 × ps_U := if ps_inB s 2 = true then (nI A.1.2.1, (A.1, A.2.1, (fun k => if k = s.toNatClampNeg then some A.1 else A.2.2.1 k), A.2.2.2)) else (ps_m 2, A)
theorem ok_save {A : ps_U} (hok : ps_okU A) (s : Int32) : ps_okU (op_save s A).2 := by
  unfold op_save
  by_cases c : ps_inB s 2 = true
  · rw [if_pos c]
    refine ⟨hok.1, hok.2.1, fun k v hk e => ?_, hok.2.2.2⟩
    have e' : (if k = s.toNatClampNeg then some A.1 else A.2.2.1 k) = some v := e
    by_cases q : k = s.toNatClampNeg
    · rw [if_pos q] at e'; cases e'; exact hok.1
    · rw [if_neg q] at e'; exact hok.2.2.1 k v hk e'
  · rw [if_neg c]; exact hok
theorem cl_save {M : ps_M} {A : ps_U} (hC : ps_CL M A) (hok : ps_okU A) (s : Int32) : ∃ M3, ff_X6_save 0 s M = some ((op_save s A).1, M3) ∧ ps_CL M3 (op_save s A).2 ∧ ps_Fc M M3 := by
  unfold ff_X6_save
  rcases ps_cas s 2 (by omega) with ⟨j, hj, rfl⟩ | hs
  · have e : op_save (nI j) A = (nI A.1.2.1, (A.1, A.2.1, (fun k => if k = j then some A.1 else A.2.2.1 k), A.2.2.2)) := by
      unfold op_save
      rw [if_pos (ev_inB hj (by omega)), nI_clamp (by omega)]
    rw [e]
    obtain ⟨c1, c2, ⟨c3, c4⟩, c5, c6, c7⟩ := hC
    have h6 := hok.2.1.1
    obtain ⟨M2, e2, R2, F2⟩ := ho_copy (h := 327 + 8 + 40 * j) c1 hok.1 (by omega)
    have F3 : ps_Fr 328 (327 + 8 + 40 * j + 40) M (ps_st M2 328 j (nI 1)) := ps_Fr_tr (ps_Fr_wd F2 (by omega) (by omega)) (ps_Fr_st (by omega) (by omega))
    refine ⟨ps_st M2 328 j (nI 1), ?_, ⟨ps_RH_fr hok.1 F3 (by omega) c1, ps_hs_fr F3 c2, ⟨by rw [F3.1 _ (by omega)]; exact c3, fun i hi => ?_⟩, fun k hk => ?_, by rw [F3.1 _ (by omega)]; exact c6, fun i hi => by rw [F3.1 _ (by omega)]; exact c7 i hi⟩, ps_Fc_of F3 (by omega)⟩
    · rw [if_neg (nI_nlt (by omega) (by omega)), if_pos (nI_lt hj (by omega)), if_pos (ev_inB hj (by omega)), nI_clamp (by omega), Nat.zero_add, Nat.zero_add, e2, ps_b2E, if_pos (ev_inB hj (by omega)), ps_letE, Nat.zero_add, ev_ra (by omega), F2.1 _ (by omega), c1.2.1.1]
    · rw [ps_rr_fr F3]
      have hb := ps_hs_bd c2 (i := i) (by have : i < A.2.1.1 := hi; omega)
      exact ps_RH_fr (hok.2.1.2 i hi) F3 (by omega) (c4 i hi)
    · show match (if k = j then some A.1 else A.2.2.1 k) with | none => ps_rd (ps_st M2 328 j (nI 1)) 328 k = nI 0 | some v => ps_rd (ps_st M2 328 j (nI 1)) 328 k = nI 1 ∧ ps_RH (ps_st M2 328 j (nI 1)) (327 + 8 + 40 * k) v
      by_cases q : k = j
      · rw [if_pos q, q]
        exact ⟨by rw [ev_rs], ps_RH_fr hok.1 (ps_Fr_st (lo := 328) (hi := 329) (by omega) (by omega)) (by omega) R2⟩
      · rw [if_neg q]
        have := c5 k hk
        cases e3 : A.2.2.1 k with
        | none =>
          rw [e3] at this
          show ps_rd (ps_st M2 328 j (nI 1)) 328 k = nI 0
          rw [ev_rj q, F2.1 _ (by omega)]
          exact this
        | some v =>
          rw [e3] at this
          have ov := hok.2.2.1 k v hk e3
          exact ⟨by rw [ev_rj q, F2.1 _ (by omega)]; exact this.1, ps_RH_fr ov (ps_Fr_st (lo := 328) (hi := 329) (by omega) (by omega)) (by omega) (ps_RH_fr ov F2 (by omega) this.2)⟩
  · have e : op_save s A = (ps_m 2, A) := if_neg (ps_inBN hs (by omega))
    rw [e]
    refine ⟨M, ?_, hC, fun _ _ _ => rfl⟩
    by_cases c : s < nI 0
    · rw [if_pos c]
    · rw [if_neg c, if_neg (Int32.not_lt.mpr (hs.resolve_left c))]
def op_rest (s : Int32) (A : ps_U) : Int32 × ps_U := if ps_inB s 2 = true then (match A.2.2.1 s.toNatClampNeg with
    | none => (ps_m 5, A)
    | some v => (nI v.2.1, pa_ch A (nI v.2.1, v))) else (ps_m 2, A)
theorem ok_rest {A : ps_U} (hok : ps_okU A) (s : Int32) : ps_okU (op_rest s A).2 := by
  unfold op_rest
  by_cases c : ps_inB s 2 = true
  · rw [if_pos c]
    cases e : A.2.2.1 s.toNatClampNeg with
    | none => exact hok
    | some v => exact ok_ch hok (hok.2.2.1 _ v (ps_inB_lt c) e)
  · rw [if_neg c]; exact hok
theorem cl_rest {M : ps_M} {A : ps_U} (hC : ps_CL M A) (hok : ps_okU A) (s : Int32) : ∃ M3, ff_X6_restore 0 s M = some ((op_rest s A).1, M3) ∧ ps_CL M3 (op_rest s A).2 ∧ ps_Fc M M3 := by
  unfold ff_X6_restore
  rcases ps_cas s 2 (by omega) with ⟨j, hj, rfl⟩ | hs
  · have e : op_rest (nI j) A = (match A.2.2.1 j with
        | none => (ps_m 5, A)
        | some v => (nI v.2.1, pa_ch A (nI v.2.1, v))) := by
      unfold op_rest
      rw [if_pos (ev_inB hj (by omega)), nI_clamp (by omega)]
    rw [e]
    rw [if_neg (nI_nlt (by omega) (by omega)), if_pos (nI_lt hj (by omega)), if_pos (ev_inB hj (by omega)), nI_clamp (by omega)]
    have h5 := hC.2.2.2.1 j hj
    cases e3 : A.2.2.1 j with
    | none =>
      rw [e3] at h5
      have h5' : ps_rd M 328 j = nI 0 := h5
      rw [Nat.zero_add, Nat.zero_add, Nat.zero_add, Nat.zero_add, h5', if_pos rfl]
      exact ⟨M, rfl, hC, fun _ _ _ => rfl⟩
    | some v =>
      rw [e3] at h5
      have ov := hok.2.2.1 j v hj e3
      have hns := ov.2.1.1
      rw [if_neg (by rw [Nat.zero_add, h5.1, nI_eq (by omega) (by omega)]; omega)]
      obtain ⟨M1, e1, C1, b1, F1⟩ := hi_note hC hok
      have hb := ps_hs_bd C1.2.1 (i := 6) (by omega)
      have hb0 := ps_hs_bd hC.2.1 (i := 6) (by omega)
      have h51 := C1.2.2.2.1 j hj
      rw [e3] at h51
      obtain ⟨M2, e2, R2, F2⟩ := ho_copy (h := 1) h51.2 ov (by omega)
      have C2 := ps_CL_cur C1 hok F2 R2
      have hok2 : ps_okU (v, A.2) := ⟨ov, hok.2⟩
      obtain ⟨M3, e4, C3, k3⟩ := hi_keep C2 hok2 hok.1 (by rw [ps_rr_fr F2]; exact ps_RH_fr hok.1 F2 (by omega) b1) (nI v.2.1)
      refine ⟨M3, ?_, C3, ps_Fc_tr (ps_Fc_of F1 (by omega)) (ps_Fc_tr (ps_Fc_of F2 (by omega)) (fun k hk j => k3 k (by omega) j))⟩
      rw [e1, ps_b2E, if_pos (ev_inB hj (by omega)), Nat.zero_add, Nat.zero_add, Nat.zero_add, e2, ps_b2E, R2.2.1.1]
      rw [Nat.zero_add] at e4
      rw [e4]
      rfl
  · have e : op_rest s A = (ps_m 2, A) := if_neg (ps_inBN hs (by omega))
    rw [e]
    refine ⟨M, ?_, hC, fun _ _ _ => rfl⟩
    by_cases c : s < nI 0
    · rw [if_pos c]
    · rw [if_neg c, if_neg (Int32.not_lt.mpr (hs.resolve_left c))]
