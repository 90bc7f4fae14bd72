/-! the row of the model holds a house -/
def ps_MS (M : ps_M) (s ns : Nat) (sf : Nat → ps_S) : Prop := ∀ i, i < ns → ps_rd M s (9 + 22 * i) = nI (sf i).1 ∧ ps_rd M s (9 + 22 * i + 1) = (sf i).2.2 ∧ ∀ j, j < (sf i).1 → ps_rd M s (9 + 22 * i + 2 + j) = nI ((sf i).2.1 j)
def ps_RM (M : ps_M) (s : Nat) (v : ps_H) : Prop := (∀ j, j < 4 → ps_rd M s j = nI (v.1 j)) ∧ ps_rd M s 4 = nI v.2.2.2.2.2 ∧ ps_rd M s 5 = nI v.2.1 ∧ ps_rd M s 6 = nI v.2.2.2.1 ∧ ps_rd M s 7 = pa_lessons v.2.1 v.2.2.1 ∧ ps_rd M s 8 = pa_sm (fun j => (v.2.2.2.2.1 j).2.2.2.1) v.2.2.2.1 ∧ ps_MS M s v.2.1 v.2.2.1 ∧ ∀ j, j < v.2.2.2.1 → ps_MP M s j (v.2.2.2.2.1 j)
theorem MS_eq {M M1 : ps_M} {s ns : Nat} {sf : Nat → ps_S} (hok : ps_okS ns sf) (h : ∀ k, 9 ≤ k → k < 185 → ps_rd M1 s k = ps_rd M s k) (hR : ps_MS M s ns sf) : ps_MS M1 s ns sf := by
  intro i hi
  have := hok.1
  obtain ⟨s1, s2, s3⟩ := hok.2 i hi
  obtain ⟨r1, r2, r3⟩ := hR i hi
  exact ⟨by rw [h _ (by omega) (by omega)]; exact r1, by rw [h _ (by omega) (by omega)]; exact r2, fun j hj => by rw [h _ (by omega) (by omega)]; exact r3 j hj⟩
/-- all in the row is as it was -/
theorem RM_eq {M M1 : ps_M} {s s1 : Nat} {v : ps_H} (hok : ps_okH v) (h : ∀ k, k < 937 → ps_rd M1 s1 k = ps_rd M s k) (hR : ps_RM M s v) : ps_RM M1 s1 v := by
  obtain ⟨r1, r2, r3, r4, r5, r6, r7, r8⟩ := hR
  have np := hok.2.2.1
  have ns := hok.2.1.1
  refine ⟨fun j hj => by rw [h _ (by omega)]; exact r1 j hj, by rw [h _ (by omega)]; exact r2, by rw [h _ (by omega)]; exact r3, by rw [h _ (by omega)]; exact r4, by rw [h _ (by omega)]; exact r5, by rw [h _ (by omega)]; exact r6, fun i hi => ?_, fun j hj => ?_⟩
  · obtain ⟨s1, s2, s3⟩ := hok.2.1.2 i hi
    obtain ⟨t1, t2, t3⟩ := r7 i hi
    exact ⟨by rw [h _ (by omega)]; exact t1, by rw [h _ (by omega)]; exact t2, fun j hj => by rw [h _ (by omega)]; exact t3 j hj⟩
  · obtain ⟨⟨t0, t1⟩, t2, t3, t4, t5⟩ := r8 j hj
    have hl := (hok.2.2.2.1 j).1
    refine ⟨⟨by rw [h _ (by omega)]; exact t0, fun i hi => ?_⟩, by rw [h _ (by omega)]; exact t2, by rw [h _ (by omega)]; exact t3, by rw [h _ (by omega)]; exact t4, by rw [h _ (by omega)]; exact t5⟩
    rw [h _ (by omega), h _ (by omega), h _ (by omega)]
    exact t1 i hi
theorem sm_eq {f g : Nat → Int32} : ∀ n, (∀ k, k < n → f k = g k) → pa_sm f n = pa_sm g n
  | 0, _ => rfl
  | n + 1, h => by
    unfold pa_sm
    rw [ps_fo_s, ps_fo_s]
    have := sm_eq n (fun k hk => h k (by omega))
    unfold pa_sm at this
    rw [this, h n (by omega)]
theorem sm_up {f g : Nat → Int32} {j : Nat} {d : Int32} (hj : g j = f j + d) (h : ∀ k, k ≠ j → g k = f k) : ∀ n, j < n → pa_sm g n = pa_sm f n + d
  | 0, q => absurd q (Nat.not_lt_zero j)
  | n + 1, q => by
    have e1 : pa_sm g (n + 1) = pa_sm g n + g n := by unfold pa_sm; rw [ps_fo_s]
    have e2 : pa_sm f (n + 1) = pa_sm f n + f n := by unfold pa_sm; rw [ps_fo_s]
    rw [e1, e2]
    by_cases e : n = j
    · subst e
      rw [sm_eq n (fun k hk => h k (by omega)), hj, Int32.add_assoc]
    · rw [sm_up hj h n (by omega), h n e, Int32.add_assoc, Int32.add_assoc, Int32.add_comm d]
/-- a parrot of the row that has heard -/
def ps_HR (s j : Nat) (P0 : ps_P) (M0 : ps_M) (P : ps_P) (M1 : ps_M) : Prop := ps_MP M1 s j P ∧ ps_ok P ∧ ps_Fs s j M0 M1 ∧ ∃ d, P.2.2.2.1 = P0.2.2.2.1 + d ∧ ps_rd M1 s 8 = ps_rd M0 s 8 + d
theorem I_add0 (x : Int32) : x + nI 0 = x := by
  show x + 0 = x
  simp
theorem HR_rf {s j : Nat} {P : ps_P} {M : ps_M} (h : ps_MP M s j P) (hok : ps_ok P) : ps_HR s j P M P M := ⟨h, hok, ps_Fs_rf, nI 0, (I_add0 _).symm, (I_add0 _).symm⟩
theorem hr_ia (span gain bar : Nat) (P : ps_P) : (ps_hr span gain bar P).2.2.2.1 = P.2.2.2.1 + nI 1 := by
  unfold ps_hr
  cases P.2.1 with
  | none => rfl
  | some a =>
    dsimp only
    by_cases c : span < (ps_gr gain a bar P.1).length
    · rw [if_pos c]
    · rw [if_neg c]
theorem HR_step {M0 M1 : ps_M} {q j bar : Nat} {v : ps_H} {P0 P : ps_P} (hS : ∀ k, k < 4 → ps_rd M0 (q + 1) k = nI (v.1 k)) (hok : ps_okH v) (hj : j < 4) (hb : bar < 26) (h : ps_HR (q + 1) j P0 M0 P M1) : ∃ M2, ff_X7_hears q (nI j) (nI bar) M1 = some (nI 0, M2) ∧ ps_HR (q + 1) j P0 M0 (pa_hear v bar P) M2 := by
  obtain ⟨h1, h2, h3, d, h4, h5⟩ := h
  have hS1 : ∀ k, k < 4 → ps_rd M1 (q + 1) k = nI (v.1 k) := fun k hk => by rw [h3.2.2 _ (by omega) (by omega) (by omega)]; exact hS k hk
  obtain ⟨M2, e2, R2, F2, g2⟩ := mo_hears h1 hj h2 (hS1 0 (by omega)) hok.1.1.2 (hS1 2 (by omega)) hok.1.2.2.1.1 hok.1.2.2.1.2 hb
  refine ⟨M2, e2, R2, ok_hear hok h2 hb, ps_Fs_tr h3 F2, d + nI 1, ?_, ?_⟩
  · unfold pa_hear
    rw [hr_ia, h4, Int32.add_assoc]
  · rw [g2, h5, Int32.add_assoc]
theorem HR_tired {M0 M1 : ps_M} {q j : Nat} {v : ps_H} {P0 P : ps_P} (hS : ∀ k, k < 4 → ps_rd M0 (q + 1) k = nI (v.1 k)) (hj : j < 4) (h : ps_HR (q + 1) j P0 M0 P M1) : ff_X7_isTired q (nI j) M1 = some (pa_bi (pa_ti v P), M1) := mo_tired h.1 hj (by rw [h.2.2.1.2.2 _ (by omega) (by omega) (by omega)]; exact hS 3 (by omega))
/-- the house, its nights left out -/
def pa_z (v : ps_H) : ps_H := (v.1, v.2.1, v.2.2.1, v.2.2.2.1, v.2.2.2.2.1, 0)
theorem ok_z {v : ps_H} (hok : ps_okH v) : ps_okH (pa_z v) := ⟨hok.1, hok.2.1, hok.2.2.1, hok.2.2.2.1, hok.2.2.2.2.1, Nat.zero_le _⟩
theorem RM_wP {M0 M1 : ps_M} {s j : Nat} {v : ps_H} {P : ps_P} {d : Int32} (hok : ps_okH (pa_z v)) (hR : ps_RM M0 s v) (hj : j < v.2.2.2.1) (hF : ps_Fs s j M0 M1) (hP : ps_MP M1 s j P) (hd : P.2.2.2.1 = (v.2.2.2.2.1 j).2.2.2.1 + d) (h8 : ps_rd M1 s 8 = ps_rd M0 s 8 + d) : ps_RM M1 s (pa_wP v j P) := by
  obtain ⟨r1, r2, r3, r4, r5, r6, r7, r8⟩ := hR
  have np : v.2.2.2.1 ≤ 4 := hok.2.2.1
  have hk : ∀ k, k < 185 → k ≠ 8 → ps_rd M1 s k = ps_rd M0 s k := fun k a b => hF.2.2 k (by omega) (by omega) b
  refine ⟨fun i hi => by rw [hk _ (by omega) (by omega)]; exact r1 i hi, by rw [hk _ (by omega) (by omega)]; exact r2, by rw [hk _ (by omega) (by omega)]; exact r3, by rw [hk _ (by omega) (by omega)]; exact r4, by rw [hk _ (by omega) (by omega)]; exact r5, ?_, MS_eq (sf := v.2.2.1) hok.2.1 (fun k a b => hk k b (by omega)) r7, fun i hi => ?_⟩
  · rw [h8, r6]
    refine (sm_up (j := j) ?_ (fun k e => ?_) v.2.2.2.1 hj).symm
    · show (if j = j then P else _).2.2.2.1 = _
      rw [if_pos rfl, hd]
    · show (if k = j then P else v.2.2.2.2.1 k).2.2.2.1 = _
      rw [if_neg e]
  · show ps_MP M1 s i (if i = j then P else v.2.2.2.2.1 i)
    by_cases e : i = j
    · rw [if_pos e, e]; exact hP
    · have hi2 : i < v.2.2.2.1 := hi
      rw [if_neg e]
      exact ps_MP_fs hF e (by omega) (by omega) (Nat.le_trans (show (v.2.2.2.2.1 i).1.length ≤ 60 from (hok.2.2.2.1 i).1) (by omega)) (r8 i hi2)
theorem RM_HR {M0 M1 : ps_M} {s j : Nat} {v : ps_H} {P : ps_P} (hok : ps_okH v) (hR : ps_RM M0 s v) (hj : j < v.2.2.2.1) (h : ps_HR s j (v.2.2.2.2.1 j) M0 P M1) : ps_RM M1 s (pa_wP v j P) := by
  obtain ⟨h1, h2, h3, d, h4, h5⟩ := h
  exact RM_wP (ok_z hok) hR hj h3 h1 h4 h5
/-! bounds -/
theorem in_yes {j n : Nat} (h : j < n) (hn : n < 1000000) (M : ps_M) : ff_X7_in (nI j) (nI 0) (nI n - nI 1) M = some (nI 1, M) := by
  rw [in_spec, pk_sub (by omega), if_pos ⟨nI_le (by omega) (by omega), nI_le (by omega) (by omega)⟩]
theorem in_no {x : Int32} {n : Nat} (h : ps_no x n) (hn : n < 1000000) (M : ps_M) : ff_X7_in x (nI 0) (nI n - nI 1) M = some (nI 0, M) := by
  rw [in_spec, if_neg]
  intro z
  rcases h with h | h
  · exact absurd z.1 (Int32.not_le.mpr h)
  · have z2 := z.2
    rw [Int32.le_iff_toInt_le, pk_sub_toInt (by omega) (by omega)] at z2
    rw [Int32.le_iff_toInt_le, nI_toInt (by omega)] at h
    omega
theorem mo_isP {M : ps_M} {q : Nat} {v : ps_H} (hR : ps_RM M (q + 1) v) (hok : ps_okH v) {j : Nat} (hj : j < v.2.2.2.1) : ff_X7_isParrot q (nI j) M = some (nI 1, M) := by
  have np := hok.2.2.1
  unfold ff_X7_isParrot
  rw [if_pos (ev_inB (by omega) (by omega)), nI_clamp (by omega), hR.2.2.2.1, in_yes hj (by omega)]
  rfl
theorem mo_isPN {M : ps_M} {q : Nat} {v : ps_H} (hR : ps_RM M (q + 1) v) (hok : ps_okH v) {x : Int32} (hx : ps_no x v.2.2.2.1) : ff_X7_isParrot q x M = some (nI 0, M) := by
  have np := hok.2.2.1
  unfold ff_X7_isParrot
  rw [if_pos (ev_inB (by omega) (by omega)), nI_clamp (by omega), hR.2.2.2.1, in_no hx (by omega)]
  rfl
theorem mo_isS {M : ps_M} {q : Nat} {v : ps_H} (hR : ps_RM M (q + 1) v) (hok : ps_okH v) {j : Nat} (hj : j < v.2.1) : ff_X7_isSong q (nI j) M = some (nI 1, M) := by
  have ns := hok.2.1.1
  unfold ff_X7_isSong
  rw [if_pos (ev_inB (by omega) (by omega)), nI_clamp (by omega), hR.2.2.1, in_yes hj (by omega)]
  rfl
theorem mo_isSN {M : ps_M} {q : Nat} {v : ps_H} (hR : ps_RM M (q + 1) v) (hok : ps_okH v) {x : Int32} (hx : ps_no x v.2.1) : ff_X7_isSong q x M = some (nI 0, M) := by
  have ns := hok.2.1.1
  unfold ff_X7_isSong
  rw [if_pos (ev_inB (by omega) (by omega)), nI_clamp (by omega), hR.2.2.1, in_no hx (by omega)]
  rfl
/-- only the row and what is sung change -/
def ps_Fo (q : Nat) (M M1 : ps_M) : Prop := (∀ a, a ≠ q + 1 → a ≠ q + 7 → ∀ k, ps_rd M1 a k = ps_rd M a k) ∧ M1.2 = M.2
theorem ps_Fo_rf {q : Nat} {M : ps_M} : ps_Fo q M M := ⟨fun _ _ _ _ => rfl, rfl⟩
theorem ps_Fo_tr {q : Nat} {M M1 M2 : ps_M} (h1 : ps_Fo q M M1) (h2 : ps_Fo q M1 M2) : ps_Fo q M M2 := ⟨fun a ha hb k => (h2.1 a ha hb k).trans (h1.1 a ha hb k), h2.2.trans h1.2⟩
theorem ps_Fo_s {q j : Nat} {M M1 : ps_M} (h : ps_Fs (q + 1) j M M1) : ps_Fo q M M1 := ⟨fun a ha _ k => h.1 a ha k, h.2.1⟩
theorem ps_Fo_st {q k : Nat} {M : ps_M} {x : Int32} : ps_Fo q M (ps_st M (q + 1) k x) := ⟨fun a ha _ i => ev_ra ha, rfl⟩
/-! hush, and nights -/
theorem mo_hush {M : ps_M} {q : Nat} {v : ps_H} (hR : ps_RM M (q + 1) v) (hok : ps_okH v) (p : Int32) : ∃ M1, ff_X7_hushes q p M = some ((op_hush p v).1, M1) ∧ ps_RM M1 (q + 1) (op_hush p v).2 ∧ ps_Fo q M M1 := by
  have np := hok.2.2.1
  unfold ff_X7_hushes op_hush
  rcases ps_cas p v.2.2.2.1 (by omega) with ⟨j, hj, rfl⟩ | hp
  · rw [mo_isP hR hok hj, ps_b2E, if_neg (by rw [nI_eq (by omega) (by omega)]; omega), if_pos (ev_inB hj (by omega)), nI_clamp (by omega)]
    have hP := hR.2.2.2.2.2.2.2 j hj
    have hPo := hok.2.2.2.1 j
    have hF : ps_Fs (q + 1) j M (ps_st M (q + 1) (185 + 5 * j + 1) (ps_m 1)) := ps_Fs_st (by omega)
    have hP2 : ps_MP (ps_st M (q + 1) (185 + 5 * j + 1) (ps_m 1)) (q + 1) j ((v.2.2.2.2.1 j).1, none, (v.2.2.2.2.1 j).2.2) := ⟨ML_fs (Nat.le_trans hPo.1 (by omega)) (fun k hk => ev_rj (by omega)) hP.1, ev_rs, by rw [ev_rj (by omega)]; exact hP.2.2.1, by rw [ev_rj (by omega)]; exact hP.2.2.2.1, by rw [ev_rj (by omega)]; exact hP.2.2.2.2⟩
    refine ⟨_, ?_, RM_wP (d := nI 0) (ok_z hok) hR hj hF hP2 (I_add0 _).symm (by rw [I_add0, ev_rj (by omega)]), ps_Fo_s hF⟩
    simp (disch := omega) only [ps_letE, ps_b2E, nI_add, pk_mul, nI_clamp, ev_inB, nI_leI, nI_ltI, nI_eq, if_pos, if_neg, ev_eqm, ev_eqm2, ev_ltm, ev_lem, ev_mlt, ev_mle, ev_mm, ev_subm, pk_sub, ev_true, if_true, if_false, ite_true, ite_false, Option.map, ev_rs, ev_ra, ev_rj, ev_cpO, ps_isB1, ps_isB0, p_spec, l_spec, n_spec, hP.2.1]
    cases e : (v.2.2.2.2.1 j).2.1 with
    | none =>
      simp (disch := omega) only [ps_letE, ps_b2E, nI_add, pk_mul, nI_clamp, ev_inB, nI_leI, nI_ltI, nI_eq, if_pos, if_neg, ev_eqm, ev_eqm2, ev_ltm, ev_lem, ev_mlt, ev_mle, ev_mm, ev_subm, pk_sub, ev_true, if_true, if_false, ite_true, ite_false, Option.map, ev_rs, ev_ra, ev_rj, ev_cpO, ps_isB1, ps_isB0, ps_ml, ps_cl]
    | some b =>
      have := hPo.2.2 b e
      simp (disch := omega) only [ps_letE, ps_b2E, nI_add, pk_mul, nI_clamp, ev_inB, nI_leI, nI_ltI, nI_eq, if_pos, if_neg, ev_eqm, ev_eqm2, ev_ltm, ev_lem, ev_mlt, ev_mle, ev_mm, ev_subm, pk_sub, ev_true, if_true, if_false, ite_true, ite_false, Option.map, ev_rs, ev_ra, ev_rj, ev_cpO, ps_isB1, ps_isB0, ps_ml, ps_cl]
  · rw [mo_isPN hR hok hp, ps_b2E, if_pos rfl, if_neg (ps_inBN hp (by omega))]
    exact ⟨M, rfl, hR, ps_Fo_rf⟩
theorem mo_nights {M : ps_M} {q : Nat} {v : ps_H} (hR : ps_RM M (q + 1) v) (hok : ps_okH (pa_z v)) (hn : v.2.2.2.2.2 < 1000000) : ∃ M1, ff_X7_nights q M = some (pa_gone v, M1) ∧ ps_RM M1 (q + 1) (v.1, v.2.1, v.2.2.1, v.2.2.2.1, (pa_nt v).2.2.2.2.1, v.2.2.2.2.2 + 1) ∧ ps_Fo q M M1 := by
  have np : v.2.2.2.1 ≤ 4 := hok.2.2.1
  unfold ff_X7_nights
  refine Exists.elim (ps_whR (F := fun f t (s : Int32) M1 => fk_X7_nights_4 q f s (nI t) M1) (Rel := fun t _ M1 => ps_RM M1 (q + 1) (pa_mq v (fun k => decide (k < t)) (ps_sl (v.1 1))) ∧ ps_Fo q M M1) v.2.2.2.1 (fun _ _ => true) (fun j s => s + nI ((v.2.2.2.2.1 j).1.length - ((v.2.2.2.2.1 j).1.filterMap (ps_fa (v.1 1))).length)) (fun t s M1 => some (s, ps_st M1 (q + 1) 4 (nI (v.2.2.2.2.2 + 1)))) (fun f t s M1 h1 h2 h3 => ?_) (fun f t s M1 h1 h2 h3 => ?_) v.2.2.2.1 ps_fu 0 (nI 0) M (by omega) (by unfold ps_fu; omega) ⟨by rw [pa_mq_no (fun k => by simp)]; exact hR, ps_Fo_rf⟩) (fun M1 z => ?_)
  · have c2 : ¬ t < v.2.2.2.1 := fun c => absurd (h3 c) (by simp)
    have hc : ps_rd M1 (q + 1) 6 = nI v.2.2.2.1 := h2.1.2.2.2.1
    have hg : ps_rd M1 (q + 1) 4 = nI v.2.2.2.2.2 := h2.1.2.1
    rw [fk_X7_nights_4]
    simp (disch := omega) only [ps_letE, ps_b2E, nI_add, pk_mul, nI_clamp, ev_inB, nI_leI, nI_ltI, nI_eq, if_pos, if_neg, ev_eqm, ev_eqm2, ev_ltm, ev_lem, ev_mlt, ev_mle, ev_mm, ev_subm, pk_sub, ev_true, if_true, if_false, ite_true, ite_false, Option.map, ev_rs, ev_ra, ev_rj, ev_cpO, ps_isB1, ps_isB0, p_spec, l_spec, n_spec, hc, hg]
  · have hc : ps_rd M1 (q + 1) 6 = nI v.2.2.2.1 := h2.1.2.2.2.1
    have hs1 : ps_rd M1 (q + 1) 1 = nI (v.1 1) := h2.1.1 1 (by omega)
    have hpt : ps_MP M1 (q + 1) t (v.2.2.2.2.1 t) := by
      have := h2.1.2.2.2.2.2.2.2 t h1
      dsimp only [pa_mq] at this
      rw [if_neg (by simp)] at this
      exact this
    obtain ⟨M4, e4, P4, F4, g4⟩ := mo_fades (fade := v.1 1) hpt (by omega) (hok.2.2.2.1 t) hok.1.2.1 hs1
    have hokq : ps_okH (pa_z (pa_mq v (fun k => decide (k < t)) (ps_sl (v.1 1)))) := ok_mq (v := pa_z v) hok (fun k ek => by simp at ek; exact Nat.lt_of_lt_of_le ek (Nat.le_of_lt h1)) (fun P hP => ok_sl hP _)
    refine ⟨M4, ?_, ?_, ps_Fo_tr h2.2 (ps_Fo_s F4)⟩
    · rw [fk_X7_nights_4]
      simp (disch := omega) only [ps_letE, ps_b2E, nI_add, pk_mul, nI_clamp, ev_inB, nI_leI, nI_ltI, nI_eq, if_pos, if_neg, ev_eqm, ev_eqm2, ev_ltm, ev_lem, ev_mlt, ev_mle, ev_mm, ev_subm, pk_sub, ev_true, if_true, if_false, ite_true, ite_false, Option.map, ev_rs, ev_ra, ev_rj, ev_cpO, ps_isB1, ps_isB0, p_spec, l_spec, n_spec, hc]
      rw [e4]
      simp (disch := omega) only [ps_letE, ps_b2E, nI_add, pk_mul, nI_clamp, ev_inB, nI_leI, nI_ltI, nI_eq, if_pos, if_neg, ev_eqm, ev_eqm2, ev_ltm, ev_lem, ev_mlt, ev_mle, ev_mm, ev_subm, pk_sub, ev_true, if_true, if_false, ite_true, ite_false, Option.map, ev_rs, ev_ra, ev_rj, ev_cpO, ps_isB1, ps_isB0, p_spec, l_spec, n_spec]
    · have := RM_wP (j := t) (P := ps_sl (v.1 1) (v.2.2.2.2.1 t)) (d := nI 0) hokq h2.1 h1 F4 P4 (by
        rw [I_add0]
        show _ = (if decide (t < t) = true then _ else v.2.2.2.2.1 t).2.2.2.1
        rw [if_neg (by simp)]
        rfl) (by rw [I_add0]; exact g4)
      rw [pa_mq_st (d := fun k => decide (k < t + 1)) (fun k => ps_dlt k t)] at this
      exact this
  · obtain ⟨e, z1, z2⟩ := z
    rw [ps_wh_all, Nat.zero_add] at z1
    obtain ⟨r1, r2, r3, r4, r5, r6, r7, r8⟩ := z1
    exact ⟨_, e, ⟨fun k hk => by rw [ev_rj (by omega)]; exact r1 k hk, ev_rs, by rw [ev_rj (by omega)]; exact r3, by rw [ev_rj (by omega)]; exact r4, by rw [ev_rj (by omega)]; exact r5, by rw [ev_rj (by omega)]; exact r6, MS_eq (sf := v.2.2.1) hok.2.1 (fun k a b => ev_rj (by omega)) r7, fun k hk => ⟨ML_fs (Nat.le_trans (show ((pa_nt v).2.2.2.2.1 k).1.length ≤ 60 from ((ok_nt0 (v := pa_z v) hok).2.2.2.1 k).1) (by omega)) (fun i hi => ev_rj (by omega)) (r8 k hk).1, by rw [ev_rj (by omega)]; exact (r8 k hk).2.1, by rw [ev_rj (by omega)]; exact (r8 k hk).2.2.1, by rw [ev_rj (by omega)]; exact (r8 k hk).2.2.2.1, by rw [ev_rj (by omega)]; exact (r8 k hk).2.2.2.2⟩⟩, ps_Fo_tr z2 ps_Fo_st⟩
theorem mo_ends {M : ps_M} {q : Nat} {v : ps_H} (hR : ps_RM M (q + 1) v) (hok : ps_okH v) : ∃ M1, ff_X7_ends q M = some ((op_nt v).1, M1) ∧ ps_RM M1 (q + 1) (op_nt v).2 ∧ ps_Fo q M M1 := by
  have ng := hok.2.2.2.2.2
  unfold ff_X7_ends op_nt
  have h4 := hR.2.1
  by_cases c : v.2.2.2.2.2 < 999
  · obtain ⟨M1, e1, R1, F1⟩ := mo_nights hR (ok_z hok) (by omega)
    rw [if_pos c]
    refine ⟨M1, ?_, R1, F1⟩
    simp (disch := omega) only [ps_letE, ps_b2E, nI_add, pk_mul, nI_clamp, ev_inB, nI_leI, nI_ltI, nI_eq, if_pos, if_neg, ev_eqm, ev_eqm2, ev_ltm, ev_lem, ev_mlt, ev_mle, ev_mm, ev_subm, pk_sub, ev_true, if_true, if_false, ite_true, ite_false, Option.map, ev_rs, ev_ra, ev_rj, ev_cpO, ps_isB1, ps_isB0, p_spec, l_spec, n_spec, h4, e1]
  · have e : v.2.2.2.2.2 = 999 := by omega
    rw [e] at h4
    rw [if_neg c]
    refine ⟨M, ?_, hR, ps_Fo_rf⟩
    simp (disch := omega) only [ps_letE, ps_b2E, nI_add, pk_mul, nI_clamp, ev_inB, nI_leI, nI_ltI, nI_eq, if_pos, if_neg, ev_eqm, ev_eqm2, ev_ltm, ev_lem, ev_mlt, ev_mle, ev_mm, ev_subm, pk_sub, ev_true, if_true, if_false, ite_true, ite_false, Option.map, ev_rs, ev_ra, ev_rj, ev_cpO, ps_isB1, ps_isB0, p_spec, l_spec, n_spec, h4]
