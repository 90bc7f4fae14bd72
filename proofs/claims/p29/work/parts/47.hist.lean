/-! the whole of the class: the house, the history, the slots, the pad -/
abbrev ps_U : Type := ps_H × (Nat × (Nat → ps_H)) × (Nat → Option ps_H) × (Nat × (Nat → Nat))
def pa_er (r : Int32) : Bool := decide (r ≤ ps_m 1 ∧ ps_m 5 ≤ r)
def ps_hs (M : ps_M) : Prop := (∀ i, i < 7 → ∃ k, k < 7 ∧ ps_rr M i = 43 + 40 * k) ∧ ∀ i j, i < 7 → j < 7 → ps_rr M i = ps_rr M j → i = j
def ps_CL (M : ps_M) (A : ps_U) : Prop := ps_RH M 1 A.1 ∧ ps_hs M ∧ (ps_rd M 41 2 = nI A.2.1.1 ∧ ∀ i, i < A.2.1.1 → ps_RH M (ps_rr M i) (A.2.1.2 i)) ∧ (∀ s, s < 2 → match A.2.2.1 s with
    | none => ps_rd M 328 s = nI 0
    | some v => ps_rd M 328 s = nI 1 ∧ ps_RH M (327 + 8 + 40 * s) v) ∧ (ps_rd M 324 1 = nI A.2.2.2.1 ∧ ∀ j, j < A.2.2.2.1 → ps_rd M 325 j = nI (A.2.2.2.2 j))
def ps_okU (A : ps_U) : Prop := ps_okH A.1 ∧ (A.2.1.1 ≤ 6 ∧ ∀ i, i < A.2.1.1 → ps_okH (A.2.1.2 i)) ∧ (∀ s v, s < 2 → A.2.2.1 s = some v → ps_okH v) ∧ (A.2.2.2.1 ≤ 80 ∧ ∀ j, j < A.2.2.2.1 → 33 ≤ A.2.2.2.2 j ∧ A.2.2.2.2 j ≤ 126)
/-- nothing of the model's cells changes -/
def ps_Fc (M M1 : ps_M) : Prop := ∀ k, 415 ≤ k → ∀ j, ps_rd M1 k j = ps_rd M k j
theorem ps_Fc_of {lo hi : Nat} {M M1 : ps_M} (h : ps_Fr lo hi M M1) (hh : hi ≤ 415) : ps_Fc M M1 := fun k hk j => h.1 k (by omega) j
theorem ps_Fc_tr {M M1 M2 : ps_M} (h1 : ps_Fc M M1) (h2 : ps_Fc M1 M2) : ps_Fc M M2 := fun k hk j => (h2 k hk j).trans (h1 k hk j)
theorem ps_hs_fr {lo hi : Nat} {M M1 : ps_M} (h : ps_Fr lo hi M M1) (hs : ps_hs M) : ps_hs M1 := by
  unfold ps_hs ps_rr
  rw [h.2]
  exact hs
theorem ps_rr_fr {lo hi : Nat} {M M1 : ps_M} (h : ps_Fr lo hi M M1) (i : Nat) : ps_rr M1 i = ps_rr M i := by
  unfold ps_rr
  rw [h.2]
/-- two houses of the history are apart -/
theorem ps_hs_ap {M : ps_M} (hs : ps_hs M) {i j : Nat} (hi : i < 7) (hj : j < 7) (hij : i ≠ j) : ps_rr M i + 40 ≤ ps_rr M j ∨ ps_rr M j + 40 ≤ ps_rr M i := by
  obtain ⟨a, ha, ea⟩ := hs.1 i hi
  obtain ⟨b, hb, eb⟩ := hs.1 j hj
  have : a ≠ b := fun e => hij (hs.2 i j hi hj (by rw [ea, eb, e]))
  omega
theorem ps_hs_bd {M : ps_M} (hs : ps_hs M) {i : Nat} (hi : i < 7) : 43 ≤ ps_rr M i ∧ ps_rr M i + 40 ≤ 323 := by
  obtain ⟨a, ha, ea⟩ := hs.1 i hi
  omega
/-- all but one house of the history (or the house itself) stays -/
theorem ps_CL_slots {lo hi : Nat} {M M1 : ps_M} {A : ps_U} (hok : ps_okU A) (hF : ps_Fr lo hi M M1) (hh : hi ≤ 327) (h : ∀ s, s < 2 → match A.2.2.1 s with
    | none => ps_rd M 328 s = nI 0
    | some v => ps_rd M 328 s = nI 1 ∧ ps_RH M (327 + 8 + 40 * s) v) : ∀ s, s < 2 → match A.2.2.1 s with
    | none => ps_rd M1 328 s = nI 0
    | some v => ps_rd M1 328 s = nI 1 ∧ ps_RH M1 (327 + 8 + 40 * s) v := by
  intro s hs
  have := h s hs
  cases e : A.2.2.1 s with
  | none =>
    rw [e] at this
    show ps_rd M1 328 s = nI 0
    rw [hF.1 _ (by omega)]
    exact this
  | some v =>
    rw [e] at this
    refine ⟨?_, ps_RH_fr (hok.2.2.1 s v hs e) hF (by omega) this.2⟩
    rw [hF.1 _ (by omega)]
    exact this.1
/-- what is noted before a change -/
theorem hi_note {M : ps_M} {A : ps_U} (hC : ps_CL M A) (hok : ps_okU A) : ∃ M1, ff_X0_noteBefore (0 + 41) (0 + 1) M = some (nI 0, M1) ∧ ps_CL M1 A ∧ ps_RH M1 (ps_rr M1 6) A.1 ∧ ps_Fr (ps_rr M 6) (ps_rr M 6 + 40) M M1 := by
  obtain ⟨c1, c2, ⟨c3, c4⟩, c5, c6, c7⟩ := hC
  have hb := ps_hs_bd c2 (i := 6) (by omega)
  obtain ⟨M1, e1, R1, F1⟩ := ho_copy (h := ps_rr M 6) c1 hok.1 (by omega)
  refine ⟨M1, by unfold ff_X0_noteBefore; rw [Nat.zero_add, e1]; rfl, ⟨ps_RH_fr hok.1 F1 (by omega) c1, ps_hs_fr F1 c2, ⟨by rw [F1.1 _ (by omega)]; exact c3, fun i hi => ?_⟩, ps_CL_slots hok F1 (by omega) c5, by rw [F1.1 _ (by omega)]; exact c6, fun j hj => by rw [F1.1 _ (by omega)]; exact c7 j hj⟩, by rw [ps_rr_fr F1]; exact R1, F1⟩
  rw [ps_rr_fr F1]
  have h6 := hok.2.1.1
  have hap := ps_hs_ap c2 (i := i) (j := 6) (by omega) (by omega) (by omega)
  exact ps_RH_fr (hok.2.1.2 i hi) F1 (by omega) (c4 i hi)
def pa_ph (H : Nat × (Nat → ps_H)) (v : ps_H) : Nat × (Nat → ps_H) := if H.1 < 6 then (H.1 + 1, fun i => if i = H.1 then v else H.2 i) else (6, fun i => if i < 5 then H.2 (i + 1) else v)
theorem ps_rd_sr {M : ps_M} {j h a k : Nat} : ps_rd (ps_sr M j h) a k = ps_rd M a k := rfl
theorem ps_rr_sr {M : ps_M} {j h i : Nat} : ps_rr (ps_sr M j h) i = if i = j then h else ps_rr M i := rfl
theorem ps_rr_st {M : ps_M} {a j i : Nat} {v : Int32} : ps_rr (ps_st M a j v) i = ps_rr M i := rfl
/-- a house is told by its whole numbers alone -/
theorem ps_RH_eq {M M1 : ps_M} {h : Nat} {v : ps_H} (e : ∀ k, h ≤ k → k < h + 40 → ∀ j, ps_rd M1 k j = ps_rd M k j) (hok : ps_okH v) (hR : ps_RH M h v) : ps_RH M1 h v := by
  obtain ⟨r1, ⟨r2, r3⟩, r4, r5, r6⟩ := hR
  refine ⟨fun j hj => by rw [e _ (by omega) (by omega)]; exact r1 j hj, ⟨by rw [e _ (by omega) (by omega)]; exact r2, fun i hi => ?_⟩, by rw [e _ (by omega) (by omega)]; exact r4, fun j hj => ?_, by rw [e _ (by omega) (by omega)]; exact r6⟩
  · have := hok.2.1.1
    rw [e _ (by omega) (by omega), e _ (by omega) (by omega)]
    exact ⟨(r3 i hi).1, (r3 i hi).2.1, fun j hj => by rw [e _ (by omega) (by omega)]; exact (r3 i hi).2.2 j hj⟩
  · obtain ⟨⟨p1, p2⟩, p3, p4, p5, p6⟩ := r5 j hj
    refine ⟨⟨by rw [e _ (by omega) (by omega)]; exact p1, fun i hi => ?_⟩, by rw [e _ (by omega) (by omega)]; exact p3, by rw [e _ (by omega) (by omega)]; exact p4, by rw [e _ (by omega) (by omega)]; exact p5, by rw [e _ (by omega) (by omega)]; exact p6⟩
    rw [e _ (by omega) (by omega), e _ (by omega) (by omega), e _ (by omega) (by omega), e _ (by omega) (by omega)]
    exact p2 i hi
/-- the history's references and count change -/
theorem hi_mid {M M1 : ps_M} {A : ps_U} {v : ps_H} {n : Nat} {H : Nat → ps_H} (hC : ps_CL M A) (hok : ps_okU A) (hrd : ∀ k, k ≠ 41 → ∀ j, ps_rd M1 k j = ps_rd M k j) (hs : ps_hs M1) (h2 : ps_rd M1 41 2 = nI n) (hH : ∀ i, i < n → ∃ k, k < 7 ∧ ps_rr M1 i = ps_rr M k ∧ ps_RH M (ps_rr M k) (H i) ∧ ps_okH (H i)) : ps_CL M1 (A.1, (n, H), A.2.2) := by
  obtain ⟨c1, c2, c3, c5, c6, c7⟩ := hC
  refine ⟨ps_RH_eq (fun k h1 h2 j => hrd k (by omega) j) hok.1 c1, hs, ⟨h2, fun i hi => ?_⟩, fun s hs2 => ?_, by rw [hrd _ (by omega)]; exact c6, fun j hj => by rw [hrd _ (by omega)]; exact c7 j hj⟩
  · obtain ⟨k, k7, e, R, o⟩ := hH i hi
    have hb := ps_hs_bd c2 k7
    rw [e]
    exact ps_RH_eq (fun x h1 h2 j => hrd x (by omega) j) o R
  · have := c5 s hs2
    show match A.2.2.1 s with | none => ps_rd M1 328 s = nI 0 | some v => ps_rd M1 328 s = nI 1 ∧ ps_RH M1 (327 + 8 + 40 * s) v
    cases e : A.2.2.1 s with
    | none =>
      rw [e] at this
      show ps_rd M1 328 s = nI 0
      rw [hrd _ (by omega)]
      exact this
    | some v =>
      rw [e] at this
      refine ⟨by rw [hrd _ (by omega)]; exact this.1, ps_RH_eq (fun k h1 h2 j => hrd k (by omega) j) (hok.2.2.1 s v hs2 e) this.2⟩
theorem ps_CL_hist {M : ps_M} {A : ps_U} (hC : ps_CL M A) {n : Nat} {H : Nat → ps_H} (hn : n = A.2.1.1) (hH : ∀ i, i < n → H i = A.2.1.2 i) : ps_CL M (A.1, (n, H), A.2.2) := by
  obtain ⟨c1, c2, ⟨c3, c4⟩, c5⟩ := hC
  subst hn
  exact ⟨c1, c2, ⟨c3, fun i hi => by show ps_RH M (ps_rr M i) (H i); rw [hH i hi]; exact c4 i hi⟩, c5⟩
/-- a state is recorded: there is room -/
theorem hi_rec1 {M : ps_M} {A : ps_U} {v : ps_H} (hC : ps_CL M A) (hok : ps_okU A) (hv : ps_okH v) (hb : ps_RH M (ps_rr M 6) v) (h6 : A.2.1.1 < 6) : ∃ M1, fk_X0_record_13 41 M = some (nI 0, M1) ∧ ps_CL M1 (A.1, (A.2.1.1 + 1, fun i => if i = A.2.1.1 then v else A.2.1.2 i), A.2.2) ∧ (∀ k, k ≠ 41 → ∀ j, ps_rd M1 k j = ps_rd M k j) := by
  obtain ⟨c1, c2, ⟨c3, c4⟩, c5, c6, c7⟩ := hC
  unfold fk_X0_record_13
  rw [c3]
  simp (disch := omega) only [ps_letE, ps_b2E, nI_add, pk_mul, nI_clamp, ev_inB, nI_leI, nI_ltI, nI_eq, if_pos, if_neg, ev_eqm, ev_eqm2, ev_ltm, ev_lem, ev_mlt, ev_mle, ev_mm, ev_subm, pk_sub, ev_true, if_true, if_false, ite_true, ite_false, Option.map, ev_rs, ev_ra, ev_rj, ev_cpO, ps_isB1, ps_isB0, ps_rd_sr, c3]
  refine ⟨_, rfl, hi_mid (v := v) ⟨c1, c2, ⟨c3, c4⟩, c5, c6, c7⟩ hok (fun k hk j => by rw [ev_ra hk]; rfl) ⟨fun i hi => ?_, fun i j hi hj e => ?_⟩ ?_ (fun i hi => ?_), fun k hk j => by rw [ev_ra hk]; rfl⟩
  · rw [ps_rr_st, ps_rr_sr, ps_rr_sr]
    by_cases e1 : i = 6
    · rw [if_pos e1]; exact c2.1 _ (by omega)
    · rw [if_neg e1]
      by_cases e2 : i = A.2.1.1
      · rw [if_pos e2]; exact c2.1 6 (by omega)
      · rw [if_neg e2]; exact c2.1 i hi
  · have hp : ∀ i, ps_rr (ps_st (ps_sr (ps_sr M A.2.1.1 (ps_rr M 6)) 6 (ps_rr M A.2.1.1)) 41 2 (nI (A.2.1.1 + 1))) i = ps_rr M (if i = 6 then A.2.1.1 else if i = A.2.1.1 then 6 else i) := fun i => by
      rw [ps_rr_st, ps_rr_sr, ps_rr_sr]
      by_cases e1 : i = 6
      · rw [if_pos e1, if_pos e1]
      · rw [if_neg e1, if_neg e1]
        by_cases e2 : i = A.2.1.1
        · rw [if_pos e2, if_pos e2]
        · rw [if_neg e2, if_neg e2]
    rw [hp i, hp j] at e
    have h8 : ∀ i, i < 7 → (if i = 6 then A.2.1.1 else if i = A.2.1.1 then 6 else i) < 7 := fun i hi => by
      by_cases e1 : i = 6
      · rw [if_pos e1]; omega
      · rw [if_neg e1]
        by_cases e2 : i = A.2.1.1
        · rw [if_pos e2]; omega
        · rw [if_neg e2]; exact hi
    have h7 := c2.2 _ _ (h8 i hi) (h8 j hj) e
    by_cases e1 : i = 6 <;> by_cases e2 : j = 6
    · omega
    · rw [if_pos e1, if_neg e2] at h7
      by_cases e3 : j = A.2.1.1
      · rw [if_pos e3] at h7; omega
      · rw [if_neg e3] at h7; omega
    · rw [if_neg e1, if_pos e2] at h7
      by_cases e3 : i = A.2.1.1
      · rw [if_pos e3] at h7; omega
      · rw [if_neg e3] at h7; omega
    · rw [if_neg e1, if_neg e2] at h7
      by_cases e3 : i = A.2.1.1 <;> by_cases e4 : j = A.2.1.1
      · omega
      · rw [if_pos e3, if_neg e4] at h7; omega
      · rw [if_neg e3, if_pos e4] at h7; omega
      · rw [if_neg e3, if_neg e4] at h7; exact h7
  · rw [ev_rs]
  · rw [ps_rr_st, ps_rr_sr, ps_rr_sr, if_neg (by have : i < A.2.1.1 + 1 := hi; omega)]
    by_cases e2 : i = A.2.1.1
    · refine ⟨6, by omega, by rw [if_pos e2], ?_, ?_⟩
      · show ps_RH M (ps_rr M 6) (if i = A.2.1.1 then v else A.2.1.2 i)
        rw [if_pos e2]; exact hb
      · show ps_okH (if i = A.2.1.1 then v else A.2.1.2 i)
        rw [if_pos e2]; exact hv
    · have hi2 : i < A.2.1.1 := by have : i < A.2.1.1 + 1 := hi; omega
      refine ⟨i, by omega, by rw [if_neg e2], ?_, ?_⟩
      · show ps_RH M (ps_rr M i) (if i = A.2.1.1 then v else A.2.1.2 i)
        rw [if_neg e2]; exact c4 i hi2
      · show ps_okH (if i = A.2.1.1 then v else A.2.1.2 i)
        rw [if_neg e2]; exact hok.2.1.2 i hi2
theorem hi_drop1 {M : ps_M} {b a : Nat} (n : Nat) (h0 : 1 ≤ a) (h : a < 6) : fk_X0_dropOldest_9 41 (n + 1) b (nI a) M = fk_X0_dropOldest_9 41 n b (nI (a + 1)) (ps_sr M (a - 1) (ps_rr M a)) := by
  rw [fk_X0_dropOldest_9]
  simp (disch := omega) only [ps_letE, ps_b2E, nI_add, pk_mul, nI_clamp, ev_inB, nI_leI, nI_ltI, nI_eq, if_pos, if_neg, ev_eqm, ev_eqm2, ev_ltm, ev_lem, ev_mlt, ev_mle, ev_mm, ev_subm, pk_sub, ev_true, if_true, if_false, ite_true, ite_false, Option.map, ev_rs, ev_ra, ev_rj, ev_cpO, ps_isB1, ps_isB0]
theorem hi_drop {M : ps_M} {A : ps_U} {v : ps_H} (hC : ps_CL M A) (hok : ps_okU A) (hv : ps_okH v) (hb : ps_RH M (ps_rr M 6) v) (h6 : A.2.1.1 = 6) : ∃ M1, ff_X0_dropOldest 41 M = some (nI 0, M1) ∧ ps_CL M1 (A.1, (5, fun i => A.2.1.2 (i + 1)), A.2.2) ∧ ps_RH M1 (ps_rr M1 6) v ∧ (∀ k, k ≠ 41 → ∀ j, ps_rd M1 k j = ps_rd M k j) := by
  unfold ff_X0_dropOldest
  obtain ⟨n, hn⟩ : ∃ n, ps_fu = n + 1 + 1 + 1 + 1 + 1 + 1 := ⟨9994, rfl⟩
  rw [hn, if_pos (ev_inB (by omega) (by omega)), nI_clamp (by omega), hi_drop1 _ (by omega) (by omega : 1 < 6), hi_drop1 _ (by omega) (by omega : 2 < 6), hi_drop1 _ (by omega) (by omega : 3 < 6), hi_drop1 _ (by omega) (by omega : 4 < 6), hi_drop1 _ (by omega) (by omega : 5 < 6), fk_X0_dropOldest_9]
  simp (disch := omega) only [ps_letE, ps_b2E, nI_add, pk_mul, nI_clamp, ev_inB, nI_leI, nI_ltI, nI_eq, if_pos, if_neg, ev_eqm, ev_eqm2, ev_ltm, ev_lem, ev_mlt, ev_mle, ev_mm, ev_subm, pk_sub, ev_true, if_true, if_false, ite_true, ite_false, Option.map, ev_rs, ev_ra, ev_rj, ev_cpO, ps_isB1, ps_isB0, Nat.reduceSub]
  have hrr : ∀ i, ps_rr (ps_st (ps_sr (ps_sr (ps_sr (ps_sr (ps_sr (ps_sr M 0 (ps_rr M 1)) 1 (ps_rr (ps_sr M 0 (ps_rr M 1)) 2)) 2 (ps_rr (ps_sr (ps_sr M 0 (ps_rr M 1)) 1 (ps_rr (ps_sr M 0 (ps_rr M 1)) 2)) 3)) 3 (ps_rr (ps_sr (ps_sr (ps_sr M 0 (ps_rr M 1)) 1 (ps_rr (ps_sr M 0 (ps_rr M 1)) 2)) 2 (ps_rr (ps_sr (ps_sr M 0 (ps_rr M 1)) 1 (ps_rr (ps_sr M 0 (ps_rr M 1)) 2)) 3)) 4)) 4 (ps_rr (ps_sr (ps_sr (ps_sr (ps_sr M 0 (ps_rr M 1)) 1 (ps_rr (ps_sr M 0 (ps_rr M 1)) 2)) 2 (ps_rr (ps_sr (ps_sr M 0 (ps_rr M 1)) 1 (ps_rr (ps_sr M 0 (ps_rr M 1)) 2)) 3)) 3 (ps_rr (ps_sr (ps_sr (ps_sr M 0 (ps_rr M 1)) 1 (ps_rr (ps_sr M 0 (ps_rr M 1)) 2)) 2 (ps_rr (ps_sr (ps_sr M 0 (ps_rr M 1)) 1 (ps_rr (ps_sr M 0 (ps_rr M 1)) 2)) 3)) 4)) 5)) 5 (ps_rr M 0)) 41 2 (nI 5)) i = if i < 5 then ps_rr M (i + 1) else if i = 5 then ps_rr M 0 else ps_rr M i := by
    intro i
    simp only [ps_rr_st, ps_rr_sr]
    rcases (by omega : i = 0 ∨ i = 1 ∨ i = 2 ∨ i = 3 ∨ i = 4 ∨ i = 5 ∨ 6 ≤ i) with rfl | rfl | rfl | rfl | rfl | rfl | h
    · rfl
    · rfl
    · rfl
    · rfl
    · rfl
    · rfl
    · rw [if_neg (by omega), if_neg (by omega), if_neg (by omega), if_neg (by omega), if_neg (by omega), if_neg (by omega), if_neg (by omega), if_neg (by omega)]
  obtain ⟨c1, c2, ⟨c3, c4⟩, c5, c6, c7⟩ := hC
  have hrd := fun (k : Nat) (hk : k ≠ 41) (j : Nat) => (ev_ra (M := ps_sr (ps_sr (ps_sr (ps_sr (ps_sr (ps_sr M 0 (ps_rr M 1)) 1 (ps_rr (ps_sr M 0 (ps_rr M 1)) 2)) 2 (ps_rr (ps_sr (ps_sr M 0 (ps_rr M 1)) 1 (ps_rr (ps_sr M 0 (ps_rr M 1)) 2)) 3)) 3 (ps_rr (ps_sr (ps_sr (ps_sr M 0 (ps_rr M 1)) 1 (ps_rr (ps_sr M 0 (ps_rr M 1)) 2)) 2 (ps_rr (ps_sr (ps_sr M 0 (ps_rr M 1)) 1 (ps_rr (ps_sr M 0 (ps_rr M 1)) 2)) 3)) 4)) 4 (ps_rr (ps_sr (ps_sr (ps_sr (ps_sr M 0 (ps_rr M 1)) 1 (ps_rr (ps_sr M 0 (ps_rr M 1)) 2)) 2 (ps_rr (ps_sr (ps_sr M 0 (ps_rr M 1)) 1 (ps_rr (ps_sr M 0 (ps_rr M 1)) 2)) 3)) 3 (ps_rr (ps_sr (ps_sr (ps_sr M 0 (ps_rr M 1)) 1 (ps_rr (ps_sr M 0 (ps_rr M 1)) 2)) 2 (ps_rr (ps_sr (ps_sr M 0 (ps_rr M 1)) 1 (ps_rr (ps_sr M 0 (ps_rr M 1)) 2)) 3)) 4)) 5)) 5 (ps_rr M 0)) (a := 41) (j := 2) (b := k) (k := j) (v := nI 5) hk)
  refine ⟨_, rfl, hi_mid (v := v) ⟨c1, c2, ⟨c3, c4⟩, c5, c6, c7⟩ hok (fun k hk j => hrd k hk j) ⟨fun i hi => ?_, fun i j hi hj e => ?_⟩ (by rw [ev_rs]) (fun i hi => ?_), ?_, fun k hk j => hrd k hk j⟩
  · rw [hrr]
    by_cases e1 : i < 5
    · rw [if_pos e1]; exact c2.1 _ (by omega)
    · rw [if_neg e1]
      by_cases e2 : i = 5
      · rw [if_pos e2]; exact c2.1 0 (by omega)
      · rw [if_neg e2]; exact c2.1 i hi
  · rw [hrr, hrr] at e
    by_cases e1 : i < 5 <;> by_cases e2 : j < 5 <;> by_cases e3 : i = 5 <;> by_cases e4 : j = 5 <;> simp only [e1, e2, e3, e4, if_true, if_false] at e <;> first | omega | (have h7 := c2.2 _ _ (by omega) (by omega) e; omega)
  · have hi5 : i < 5 := hi
    exact ⟨i + 1, by omega, by rw [hrr, if_pos hi5], c4 (i + 1) (by omega), hok.2.1.2 (i + 1) (by omega)⟩
  · rw [hrr, if_neg (by omega), if_neg (by omega)]
    have hb6 := ps_hs_bd c2 (i := 6) (by omega)
    exact ps_RH_eq (fun k h1 h2 j => hrd k (by omega) j) hv hb
theorem hi_keep {M : ps_M} {A : ps_U} {v : ps_H} (hC : ps_CL M A) (hok : ps_okU A) (hv : ps_okH v) (hb : ps_RH M (ps_rr M 6) v) (r : Int32) : ∃ M1, ff_X0_keepUnlessError (0 + 41) r M = some (r, M1) ∧ ps_CL M1 (A.1, (if pa_er r = true then A.2.1 else pa_ph A.2.1 v), A.2.2) ∧ (∀ k, k ≠ 41 → ∀ j, ps_rd M1 k j = ps_rd M k j) := by
  have he : ff_X6_isError r M = some (pa_bi (pa_er r), M) := by
    unfold ff_X6_isError pa_bi pa_er
    by_cases c1 : ps_m 1 < r
    · rw [if_pos c1, if_neg (by simp; intro q; exact absurd q (Int32.not_le.mpr c1))]
    · rw [if_neg c1]
      by_cases c2 : r < ps_m 5
      · rw [if_pos c2, if_neg (by simp; intro _; exact c2)]
      · rw [if_neg c2, if_pos (by simp; exact ⟨Int32.not_lt.mp c1, Int32.not_lt.mp c2⟩)]
  unfold ff_X0_keepUnlessError
  rw [he, ps_b2E]
  unfold pa_bi
  by_cases c : pa_er r = true
  · rw [if_pos c, if_neg (by rw [nI_eq (by omega) (by omega)]; omega)]
    refine ⟨M, rfl, ?_, fun _ _ _ => rfl⟩
    rw [if_pos c]
    exact hC
  · rw [if_neg c, if_pos rfl]
    have h6 := hok.2.1.1
    by_cases c6 : A.2.1.1 < 6
    · obtain ⟨M1, e1, C1, k1⟩ := hi_rec1 hC hok hv hb c6
      refine ⟨M1, ?_, ?_, k1⟩
      · unfold ff_X0_record
        rw [Nat.zero_add, hC.2.2.1.1, if_neg (by rw [nI_eq (by omega) (by omega)]; omega), e1]
        rfl
      · rw [if_neg c]
        unfold pa_ph
        rw [if_pos c6]
        exact C1
    · have e6 : A.2.1.1 = 6 := by omega
      obtain ⟨M1, e1, C1, b1, k1⟩ := hi_drop hC hok hv hb e6
      have hok1 : ps_okU (A.1, (5, fun i => A.2.1.2 (i + 1)), A.2.2) := ⟨hok.1, ⟨by show 5 ≤ 6; omega, fun i hi => hok.2.1.2 (i + 1) (by have : i < 5 := hi; omega)⟩, hok.2.2⟩
      obtain ⟨M2, e2, C2, k2⟩ := hi_rec1 C1 hok1 hv b1 (by show 5 < 6; omega)
      refine ⟨M2, ?_, ?_, fun k hk j => (k2 k hk j).trans (k1 k hk j)⟩
      · unfold ff_X0_record
        rw [Nat.zero_add, hC.2.2.1.1, if_pos (by rw [e6]), e1, ps_b2E, e2]
        rfl
      · rw [if_neg c]
        unfold pa_ph
        rw [if_neg c6]
        refine ps_CL_hist C2 rfl (fun i hi => ?_)
        show (if i < 5 then A.2.1.2 (i + 1) else v) = (if i = 5 then v else A.2.1.2 (i + 1))
        have hi6 : i < 6 := hi
        by_cases q : i < 5
        · rw [if_pos q, if_neg (by omega)]
        · rw [if_neg q, if_pos (by omega)]
/-- a change: answer, and what is left -/
def pa_ch (A : ps_U) (op : Int32 × ps_H) : ps_U := (op.2, (if pa_er op.1 = true then A.2.1 else pa_ph A.2.1 A.1), A.2.2)
theorem ok_ph {A : ps_U} (hok : ps_okU A) {v : ps_H} (hv : ps_okH v) : (pa_ph A.2.1 v).1 ≤ 6 ∧ ∀ i, i < (pa_ph A.2.1 v).1 → ps_okH ((pa_ph A.2.1 v).2 i) := by
  unfold pa_ph
  have h6 := hok.2.1.1
  by_cases c : A.2.1.1 < 6
  · rw [if_pos c]
    refine ⟨c, fun i hi => ?_⟩
    show ps_okH (if i = A.2.1.1 then v else A.2.1.2 i)
    by_cases e : i = A.2.1.1
    · rw [if_pos e]; exact hv
    · rw [if_neg e]; exact hok.2.1.2 i (by have : i < A.2.1.1 + 1 := hi; omega)
  · rw [if_neg c]
    refine ⟨Nat.le_refl _, fun i hi => ?_⟩
    show ps_okH (if i < 5 then A.2.1.2 (i + 1) else v)
    by_cases e : i < 5
    · rw [if_pos e]; exact hok.2.1.2 (i + 1) (by omega)
    · rw [if_neg e]; exact hv
theorem ok_ch {A : ps_U} (hok : ps_okU A) {op : Int32 × ps_H} (hv : ps_okH op.2) : ps_okU (pa_ch A op) := by
  unfold pa_ch
  refine ⟨hv, ?_, hok.2.2⟩
  show (if pa_er op.1 = true then A.2.1 else pa_ph A.2.1 A.1).1 ≤ 6 ∧ ∀ i, i < (if pa_er op.1 = true then A.2.1 else pa_ph A.2.1 A.1).1 → ps_okH ((if pa_er op.1 = true then A.2.1 else pa_ph A.2.1 A.1).2 i)
  by_cases c : pa_er op.1 = true
  · rw [if_pos c]; exact hok.2.1
  · rw [if_neg c]; exact ok_ph hok hok.1
/-- the house's own cells change, nothing else -/
theorem ps_CL_cur {M M1 : ps_M} {A : ps_U} {v : ps_H} (hC : ps_CL M A) (hok : ps_okU A) (hF : ps_Fr 1 41 M M1) (hR : ps_RH M1 1 v) : ps_CL M1 (v, A.2) := by
  obtain ⟨c1, c2, ⟨c3, c4⟩, c5, c6, c7⟩ := hC
  have h6 := hok.2.1.1
  refine ⟨hR, ps_hs_fr hF c2, ⟨by rw [hF.1 _ (by omega)]; exact c3, fun i hi => ?_⟩, ps_CL_slots (A := A) hok hF (by omega) c5, by rw [hF.1 _ (by omega)]; exact c6, fun j hj => by rw [hF.1 _ (by omega)]; exact c7 j hj⟩
  rw [ps_rr_fr hF]
  have hb := ps_hs_bd c2 (i := i) (by have : i < A.2.1.1 := hi; omega)
  exact ps_RH_fr (hok.2.1.2 i hi) hF (by omega) (c4 i hi)
theorem cl_change {M : ps_M} {A : ps_U} {op : Int32 × ps_H} {Fm : ps_M → Option (Int32 × ps_M)} (hC : ps_CL M A) (hok : ps_okU A) (hv : ps_okH op.2) (hF : ∀ M1, ps_RH M1 1 A.1 → ∃ M2, Fm M1 = some (op.1, M2) ∧ ps_RH M2 1 op.2 ∧ ps_Fr 1 41 M1 M2) : ∃ M3, (ps_b2 (ff_X0_noteBefore (0 + 41) (0 + 1) M) fun r1 M1 => ps_b2 (Fm M1) fun r2 M2 => ps_b2 (ff_X0_keepUnlessError (0 + 41) r2 M2) fun r3 M3 => some (r3, M3)) = some (op.1, M3) ∧ ps_CL M3 (pa_ch A op) ∧ ps_Fc M M3 := by
  obtain ⟨M1, e1, C1, b1, F1⟩ := hi_note hC hok
  obtain ⟨M2, e2, R2, F2⟩ := hF M1 C1.1
  have hb := ps_hs_bd C1.2.1 (i := 6) (by omega)
  have hb0 := ps_hs_bd hC.2.1 (i := 6) (by omega)
  have C2 := ps_CL_cur C1 hok F2 R2
  have hok2 : ps_okU (op.2, A.2) := ⟨hv, hok.2⟩
  obtain ⟨M3, e3, C3, k3⟩ := hi_keep C2 hok2 hok.1 (by rw [ps_rr_fr F2]; exact ps_RH_fr hok.1 F2 (by omega) b1) op.1
  refine ⟨M3, ?_, C3, ps_Fc_tr (ps_Fc_of F1 (by omega)) (ps_Fc_tr (ps_Fc_of F2 (by omega)) (fun k hk j => k3 k (by omega) j))⟩
  rw [e1, ps_b2E, e2, ps_b2E, e3, ps_b2E]
