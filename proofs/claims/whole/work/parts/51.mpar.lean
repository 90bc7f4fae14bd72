/-! the model's parrots, in the row s of the model -/
def ps_ML (M : ps_M) (s j : Nat) (L : List ps_L) : Prop := ps_rd M s (185 + 5 * j) = nI L.length ∧ ∀ i, i < L.length → ps_rd M s (205 + 183 * j + 3 * i) = nI (26 * (ps_lk L i).1 + (ps_lk L i).2.1) ∧ ps_rd M s (205 + 183 * j + 3 * i + 1) = nI (ps_lk L i).2.2.1 ∧ ps_rd M s (205 + 183 * j + 3 * i + 2) = nI (ps_lk L i).2.2.2
def ps_MP (M : ps_M) (s j : Nat) (P : ps_P) : Prop := ps_ML M s j P.1 ∧ ps_rd M s (185 + 5 * j + 1) = ps_ml P.2.1 ∧ ps_rd M s (185 + 5 * j + 2) = P.2.2.1 ∧ ps_rd M s (185 + 5 * j + 3) = P.2.2.2.1 ∧ ps_rd M s (185 + 5 * j + 4) = P.2.2.2.2
/-- only the row s changes, and in it only what belongs to the parrot j -/
def ps_Fs (s j : Nat) (M M1 : ps_M) : Prop := (∀ a, a ≠ s → ∀ k, ps_rd M1 a k = ps_rd M a k) ∧ M1.2 = M.2 ∧ ∀ k, (k < 185 + 5 * j ∨ 190 + 5 * j ≤ k) → (k < 205 + 183 * j ∨ 388 + 183 * j ≤ k) → k ≠ 8 → ps_rd M1 s k = ps_rd M s k
theorem ps_Fs_rf {s j : Nat} {M : ps_M} : ps_Fs s j M M := ⟨fun _ _ _ => rfl, rfl, fun _ _ _ _ => rfl⟩
theorem ps_Fs_tr {s j : Nat} {M M1 M2 : ps_M} (h1 : ps_Fs s j M M1) (h2 : ps_Fs s j M1 M2) : ps_Fs s j M M2 := ⟨fun a ha k => (h2.1 a ha k).trans (h1.1 a ha k), h2.2.1.trans h1.2.1, fun k a b c => (h2.2.2 k a b c).trans (h1.2.2 k a b c)⟩
theorem ps_Fs_st {s j k : Nat} {M : ps_M} {v : Int32} (h : (185 + 5 * j ≤ k ∧ k < 190 + 5 * j) ∨ (205 + 183 * j ≤ k ∧ k < 388 + 183 * j) ∨ k = 8) : ps_Fs s j M (ps_st M s k v) := ⟨fun a ha i => ev_ra ha, rfl, fun i a b c => ev_rj (by omega)⟩
theorem ps_MP_fs {s j i : Nat} {M M1 : ps_M} {P : ps_P} (h : ps_Fs s j M M1) (hij : i ≠ j) (hj : j < 4) (hi : i < 4) (hL : P.1.length ≤ 61) (hP : ps_MP M s i P) : ps_MP M1 s i P := by
  obtain ⟨⟨p1, p2⟩, p3, p4, p5, p6⟩ := hP
  refine ⟨⟨by rw [h.2.2 _ (by omega) (by omega) (by omega)]; exact p1, fun t ht => ?_⟩, by rw [h.2.2 _ (by omega) (by omega) (by omega)]; exact p3, by rw [h.2.2 _ (by omega) (by omega) (by omega)]; exact p4, by rw [h.2.2 _ (by omega) (by omega) (by omega)]; exact p5, by rw [h.2.2 _ (by omega) (by omega) (by omega)]; exact p6⟩
  rw [h.2.2 _ (by omega) (by omega) (by omega), h.2.2 _ (by omega) (by omega) (by omega), h.2.2 _ (by omega) (by omega) (by omega)]
  exact p2 t ht
/-- the last one that is so -/
theorem fd_last {L : List ps_L} (hok : ps_okL L) {a b : Nat} : ∀ n, n ≤ L.length → ps_fo (fun i f => if (ps_lk L i).1 = a ∧ (ps_lk L i).2.1 = b then nI i else f) n (ps_m 1) = if ps_fd L a b < n then nI (ps_fd L a b) else ps_m 1
  | 0, _ => rfl
  | n + 1, hn => by
    rw [ps_fo_s, fd_last hok n (by omega)]
    by_cases m : (ps_lk L n).1 = a ∧ (ps_lk L n).2.1 = b
    · rw [if_pos m]
      have h1 : ps_fd L a b ≤ n := by
        by_cases q : ps_fd L a b ≤ n
        · exact q
        · exact absurd m (ps_fd_no (by omega))
      have h2 := ps_fd_at (L := L) (a := a) (b := b) (by omega)
      have h3 := okL_one hok (show ps_fd L a b < L.length by omega) (show n < L.length by omega) (h2.1.trans m.1.symm) (h2.2.trans m.2.symm)
      rw [h3, if_pos (by omega)]
    · rw [if_neg m]
      by_cases q : ps_fd L a b < n
      · rw [if_pos q, if_pos (by omega)]
      · rw [if_neg q]
        by_cases q2 : ps_fd L a b = n
        · exact absurd (by rw [← q2]; exact ps_fd_at (by omega)) m
        · rw [if_neg (by omega)]
theorem mo_link {M : ps_M} {q j : Nat} {L : List ps_L} (hR : ps_ML M (q + 1) j L) (hj : j < 4) (hL : L.length ≤ 61) (hok : ps_okL L) {a b : Nat} (ha : a < 26) (hb : b < 26) : ff_X7_linkOf q (nI j) (nI (26 * a + b)) M = some (if ps_fd L a b < L.length then nI (ps_fd L a b) else ps_m 1, M) := by
  unfold ff_X7_linkOf
  rw [← fd_last hok L.length (Nat.le_refl _)]
  refine (ps_whP (F := fun n i (f : Int32) => fk_X7_linkOf_5 q n (nI j) (nI (26 * a + b)) f (nI i) M) (I := fun _ _ => True) L.length (fun _ _ => true) (fun i f => if (ps_lk L i).1 = a ∧ (ps_lk L i).2.1 = b then nI i else f) (fun i f => some (f, M)) (fun n i f h1 h2 h3 => ?_) (fun n i f h1 h2 h3 => ⟨?_, trivial⟩) L.length ps_fu 0 (ps_m 1) (by omega) (by unfold ps_fu; omega) trivial).1
  · have c : ¬ i < L.length := fun c => absurd (h3 c) (by simp)
    rw [fk_X7_linkOf_5]
    simp (disch := omega) only [ps_letE, ps_b2E, nI_add, pk_mul, nI_clamp, ev_inB, nI_leI, nI_ltI, nI_eq, if_pos, if_neg, ev_eqm, ev_eqm2, ev_ltm, ev_lem, ev_mlt, ev_mle, ev_mm, ev_subm, pk_sub, ev_true, if_true, if_false, ite_true, ite_false, Option.map, ev_rs, ev_ra, ev_rj, ev_cpO, ps_isB1, ps_isB0, p_spec, l_spec, n_spec, hR.1]
  · obtain ⟨r1, r2, r3⟩ := hR.2 i h1
    obtain ⟨o1, o2, -⟩ := okL_at hok h1
    rw [fk_X7_linkOf_5]
    by_cases m : (ps_lk L i).1 = a ∧ (ps_lk L i).2.1 = b
    · rw [if_pos m]
      simp (disch := omega) only [ps_letE, ps_b2E, nI_add, pk_mul, nI_clamp, ev_inB, nI_leI, nI_ltI, nI_eq, if_pos, if_neg, ev_eqm, ev_eqm2, ev_ltm, ev_lem, ev_mlt, ev_mle, ev_mm, ev_subm, pk_sub, ev_true, if_true, if_false, ite_true, ite_false, Option.map, ev_rs, ev_ra, ev_rj, ev_cpO, ps_isB1, ps_isB0, p_spec, l_spec, n_spec, hR.1, r1, m.1, m.2]
    · rw [if_neg m]
      have m2 : ¬ 26 * (ps_lk L i).1 + (ps_lk L i).2.1 = 26 * a + b := fun e => m (by omega)
      simp (disch := omega) only [ps_letE, ps_b2E, nI_add, pk_mul, nI_clamp, ev_inB, nI_leI, nI_ltI, nI_eq, if_pos, if_neg, ev_eqm, ev_eqm2, ev_ltm, ev_lem, ev_mlt, ev_mle, ev_mm, ev_subm, pk_sub, ev_true, if_true, if_false, ite_true, ite_false, Option.map, ev_rs, ev_ra, ev_rj, ev_cpO, ps_isB1, ps_isB0, p_spec, l_spec, n_spec, hR.1, r1]
theorem mo_weak {M : ps_M} {q j : Nat} {L : List ps_L} (hR : ps_ML M (q + 1) j L) (hj : j < 4) (hL : L.length ≤ 61) (h0 : 0 < L.length) (hok : ps_okL L) : ff_X7_weakest q (nI j) M = some (nI (pa_wk L), M) := by
  unfold ff_X7_weakest
  refine (ps_whP (F := fun n i (w : Nat) => fk_X7_weakest_4 q n (nI j) (nI w) (nI i) M) (I := fun i w => w < L.length) L.length (fun _ _ => true) (fun i w => if (ps_lk L i).2.2.1 < (ps_lk L w).2.2.1 then i else w) (fun i w => some (nI w, M)) (fun n i w h1 h2 h3 => ?_) (fun n i w h1 h2 h3 => ?_) (L.length - 1) ps_fu 1 0 (by omega) (by unfold ps_fu; omega) h0).1
  · have c : ¬ i < L.length := fun c => absurd (h3 c) (by simp)
    rw [fk_X7_weakest_4]
    simp (disch := omega) only [ps_letE, ps_b2E, nI_add, pk_mul, nI_clamp, ev_inB, nI_leI, nI_ltI, nI_eq, if_pos, if_neg, ev_eqm, ev_eqm2, ev_ltm, ev_lem, ev_mlt, ev_mle, ev_mm, ev_subm, pk_sub, ev_true, if_true, if_false, ite_true, ite_false, Option.map, ev_rs, ev_ra, ev_rj, ev_cpO, ps_isB1, ps_isB0, p_spec, l_spec, n_spec, hR.1]
  · obtain ⟨-, r3, -⟩ := hR.2 i h1
    obtain ⟨-, t3, -⟩ := hR.2 w h2
    obtain ⟨-, -, -, o1, -⟩ := okL_at hok h1
    obtain ⟨-, -, -, o2, -⟩ := okL_at hok h2
    rw [fk_X7_weakest_4]
    by_cases m : (ps_lk L i).2.2.1 < (ps_lk L w).2.2.1
    · refine ⟨?_, by rw [if_pos m]; exact h1⟩
      rw [if_pos m]
      simp (disch := omega) only [ps_letE, ps_b2E, nI_add, pk_mul, nI_clamp, ev_inB, nI_leI, nI_ltI, nI_eq, if_pos, if_neg, ev_eqm, ev_eqm2, ev_ltm, ev_lem, ev_mlt, ev_mle, ev_mm, ev_subm, pk_sub, ev_true, if_true, if_false, ite_true, ite_false, Option.map, ev_rs, ev_ra, ev_rj, ev_cpO, ps_isB1, ps_isB0, p_spec, l_spec, n_spec, hR.1, r3, t3]
    · refine ⟨?_, by rw [if_neg m]; exact h2⟩
      rw [if_neg m]
      simp (disch := omega) only [ps_letE, ps_b2E, nI_add, pk_mul, nI_clamp, ev_inB, nI_leI, nI_ltI, nI_eq, if_pos, if_neg, ev_eqm, ev_eqm2, ev_ltm, ev_lem, ev_mlt, ev_mle, ev_mm, ev_subm, pk_sub, ev_true, if_true, if_false, ite_true, ite_false, Option.map, ev_rs, ev_ra, ev_rj, ev_cpO, ps_isB1, ps_isB0, p_spec, l_spec, n_spec, hR.1, r3, t3]
/-- one link less: what the loop leaves -/
theorem mo_tk {M M1 : ps_M} {s j i : Nat} {L : List ps_L} (hR : ps_ML M s j L) (hj : j < 4) (hL : L.length ≤ 61) (hi : i < L.length) (z2 : ∀ a, a ≠ s → ∀ t, ps_rd M1 a t = ps_rd M a t) (z3 : M1.2 = M.2) {w : Nat} (hw : w = 205 + 183 * j + 3 * (L.length - 1)) (z4 : ∀ t, ps_rd M1 s t = if 205 + 183 * j + 3 * i ≤ t ∧ t < w then ps_rd M s (t + 3) else ps_rd M s t) : ps_ML (ps_st M1 s (185 + 5 * j) (nI (L.length - 1))) s j (L.eraseIdx i) ∧ ps_Fs s j M (ps_st M1 s (185 + 5 * j) (nI (L.length - 1))) ∧ ps_rd (ps_st M1 s (185 + 5 * j) (nI (L.length - 1))) s 8 = ps_rd M s 8 ∧ ∀ k, 185 + 5 * j < k → k < 190 + 5 * j → ps_rd (ps_st M1 s (185 + 5 * j) (nI (L.length - 1))) s k = ps_rd M s k := by
  have hT : ∀ t, t ≠ 185 + 5 * j → ps_rd (ps_st M1 s (185 + 5 * j) (nI (L.length - 1))) s t = if 205 + 183 * j + 3 * i ≤ t ∧ t < 205 + 183 * j + 3 * (L.length - 1) then ps_rd M s (t + 3) else ps_rd M s t := fun t ht => by rw [ev_rj ht, z4 t, hw]
  refine ⟨⟨by rw [ev_rs, len_erase hi], fun t ht => ?_⟩, ⟨fun a ha k => (ev_ra ha).trans (z2 a ha k), z3, fun k a b c => ?_⟩, ?_, fun k a b => ?_⟩
  · rw [len_erase hi] at ht
    rw [hT _ (by omega), hT _ (by omega), hT _ (by omega)]
    by_cases c : t < i
    · rw [if_neg (by omega), if_neg (by omega), if_neg (by omega), lk_erase, if_pos c]
      exact hR.2 t (by omega)
    · rw [if_pos (by omega), if_pos (by omega), if_pos (by omega), lk_erase, if_neg c]
      have h := hR.2 (t + 1) (by omega)
      rw [show 205 + 183 * j + 3 * t + 3 = 205 + 183 * j + 3 * (t + 1) by omega, show 205 + 183 * j + 3 * t + 1 + 3 = 205 + 183 * j + 3 * (t + 1) + 1 by omega, show 205 + 183 * j + 3 * t + 2 + 3 = 205 + 183 * j + 3 * (t + 1) + 2 by omega]
      exact h
  · rw [hT _ (by omega), if_neg (by omega)]
  · rw [hT _ (by omega), if_neg (by omega)]
  · rw [hT _ (by omega), if_neg (by omega)]
theorem mo_takes {M : ps_M} {q j i : Nat} {L : List ps_L} (hR : ps_ML M (q + 1) j L) (hj : j < 4) (hL : L.length ≤ 61) (hi : i < L.length) : ∃ M1, ff_X7_takes q (nI j) (nI i) M = some (nI 0, M1) ∧ ps_ML M1 (q + 1) j (L.eraseIdx i) ∧ ps_Fs (q + 1) j M M1 ∧ ps_rd M1 (q + 1) 8 = ps_rd M (q + 1) 8 ∧ ∀ k, 185 + 5 * j < k → k < 190 + 5 * j → ps_rd M1 (q + 1) k = ps_rd M (q + 1) k := by
  have e0 : ff_X7_takes q (nI j) (nI i) M = fk_X7_takes_19 q ps_fu (nI j) (nI i) (nI (L.length - 1)) (nI (205 + 183 * j + 3 * i)) M := by
    unfold ff_X7_takes
    rw [p_spec, ps_b2E, if_pos (ev_inB (by omega) (by omega)), nI_clamp (by omega), hR.1, pk_sub (by omega), ps_letE, l_spec, ps_b2E]
  rw [e0]
  refine Exists.elim (ps_whR (F := fun n k (_ : Unit) M1 => fk_X7_takes_19 q n (nI j) (nI i) (nI (L.length - 1)) (nI k) M1) (Rel := fun k _ M1 => 205 + 183 * j + 3 * i ≤ k ∧ (∀ a, a ≠ q + 1 → ∀ t, ps_rd M1 a t = ps_rd M a t) ∧ M1.2 = M.2 ∧ ∀ t, ps_rd M1 (q + 1) t = if 205 + 183 * j + 3 * i ≤ t ∧ t < k then ps_rd M (q + 1) (t + 3) else ps_rd M (q + 1) t) (205 + 183 * j + 3 * (L.length - 1)) (fun _ _ => true) (fun _ u => u) (fun k _ M1 => some (nI 0, ps_st M1 (q + 1) (185 + 5 * j) (nI (L.length - 1)))) (fun n k u M1 h1 h2 h3 => ?_) (fun n k u M1 h1 h2 h3 => ?_) (3 * (L.length - 1 - i)) ps_fu (205 + 183 * j + 3 * i) () M (by omega) (by unfold ps_fu; omega) ⟨Nat.le_refl _, fun _ _ _ => rfl, rfl, fun t => by rw [if_neg (by omega)]⟩) (fun M1 z => ?_)
  · have c : ¬ k < 205 + 183 * j + 3 * (L.length - 1) := fun c => absurd (h3 c) (by simp)
    have hp : ps_rd M1 (q + 1) (185 + 5 * j) = nI L.length := by rw [h2.2.2.2, if_neg (by omega)]; exact hR.1
    rw [fk_X7_takes_19]
    simp (disch := omega) only [ps_letE, ps_b2E, nI_add, pk_mul, nI_clamp, ev_inB, nI_leI, nI_ltI, nI_eq, if_pos, if_neg, ev_eqm, ev_eqm2, ev_ltm, ev_lem, ev_mlt, ev_mle, ev_mm, ev_subm, pk_sub, ev_true, if_true, if_false, ite_true, ite_false, Option.map, ev_rs, ev_ra, ev_rj, ev_cpO, ps_isB1, ps_isB0, p_spec, l_spec, n_spec, hp]
  · refine ⟨ps_st M1 (q + 1) k (ps_rd M1 (q + 1) (k + 3)), ?_, by omega, fun a ha t => (ev_ra ha).trans (h2.2.1 a ha t), h2.2.2.1, fun t => ?_⟩
    · rw [fk_X7_takes_19]
      simp (disch := omega) only [ps_letE, ps_b2E, nI_add, pk_mul, nI_clamp, ev_inB, nI_leI, nI_ltI, nI_eq, if_pos, if_neg, ev_eqm, ev_eqm2, ev_ltm, ev_lem, ev_mlt, ev_mle, ev_mm, ev_subm, pk_sub, ev_true, if_true, if_false, ite_true, ite_false, Option.map, ev_rs, ev_ra, ev_rj, ev_cpO, ps_isB1, ps_isB0, p_spec, l_spec, n_spec]
    · by_cases e : t = k
      · subst e
        rw [ev_rs, if_pos (by omega), h2.2.2.2, if_neg (by omega)]
      · rw [ev_rj e, h2.2.2.2]
        by_cases c : 205 + 183 * j + 3 * i ≤ t ∧ t < k
        · rw [if_pos c, if_pos (by omega)]
        · rw [if_neg c, if_neg (by omega)]
  · obtain ⟨e, z1, z2, z3, z4⟩ := z
    exact ⟨_, e, mo_tk hR hj hL hi z2 z3 ((ps_wh_all (fun _ (u : Unit) => u) (3 * (L.length - 1 - i)) (205 + 183 * j + 3 * i) ()).trans (by omega)) z4⟩
theorem mo_next {M : ps_M} {q j : Nat} {L : List ps_L} (hR : ps_ML M (q + 1) j L) (hj : j < 4) (hL : L.length ≤ 61) (hok : ps_okL L) {a : Nat} (ha : a < 26) : ff_X7_goesOn q (nI j) (nI a) M = some (ps_ml (ps_nx L a), M) := by
  unfold ff_X7_goesOn
  have key := (ps_whP (F := fun n i (b : Option Nat) => fk_X7_goesOn_5 q n (nI j) (nI a) (ps_ml b) (nI i) M) (I := fun i b => pa_best L a 0 i b) L.length (fun _ _ => true) (fun i b => if (ps_lk L i).1 = a ∧ (∀ j, b = some j → (ps_lk L j).2.2.1 ≤ (ps_lk L i).2.2.1) then some i else b) (fun i b => some (ps_ml (b.map (fun j => (ps_lk L j).2.1)), M)) (fun n i b h1 h2 h3 => ?_) (fun n i b h1 h2 h3 => ⟨?_, pa_best_up h2⟩) L.length ps_fu 0 none (by omega) (by unfold ps_fu; omega) (fun t _ h => absurd h (Nat.not_lt_zero t))).1
  · exact key
  · have c : ¬ i < L.length := fun c => absurd (h3 c) (by simp)
    rw [fk_X7_goesOn_5]
    cases b with
    | none =>
      simp (disch := omega) only [ps_letE, ps_b2E, nI_add, pk_mul, nI_clamp, ev_inB, nI_leI, nI_ltI, nI_eq, if_pos, if_neg, ev_eqm, ev_eqm2, ev_ltm, ev_lem, ev_mlt, ev_mle, ev_mm, ev_subm, pk_sub, ev_true, if_true, if_false, ite_true, ite_false, Option.map, ev_rs, ev_ra, ev_rj, ev_cpO, ps_isB1, ps_isB0, p_spec, l_spec, n_spec, hR.1, ps_ml]
    | some d =>
      have hd := h2.1.2.1
      obtain ⟨r1, r2, r3⟩ := hR.2 d (by omega)
      obtain ⟨o1, o2, -⟩ := okL_at hok (show d < L.length by omega)
      have e1 : (26 * (ps_lk L d).1 + (ps_lk L d).2.1) / 26 = (ps_lk L d).1 := by omega
      have e2 : 26 * (ps_lk L d).1 + (ps_lk L d).2.1 - (ps_lk L d).1 * 26 = (ps_lk L d).2.1 := by omega
      simp (disch := omega) only [ps_letE, ps_b2E, nI_add, pk_mul, nI_clamp, ev_inB, nI_leI, nI_ltI, nI_eq, if_pos, if_neg, ev_eqm, ev_eqm2, ev_ltm, ev_lem, ev_mlt, ev_mle, ev_mm, ev_subm, pk_sub, ev_true, if_true, if_false, ite_true, ite_false, Option.map, ev_rs, ev_ra, ev_rj, ev_cpO, ps_isB1, ps_isB0, p_spec, l_spec, n_spec, hR.1, ps_ml, r1, pk_div, e1, e2]
  · obtain ⟨r1, r2, r3⟩ := hR.2 i h1
    obtain ⟨o1, o2, o3, o4, -⟩ := okL_at hok h1
    have e1 : (26 * (ps_lk L i).1 + (ps_lk L i).2.1) / 26 = (ps_lk L i).1 := by omega
    rw [fk_X7_goesOn_5]
    by_cases m1 : (ps_lk L i).1 = a
    · cases b with
      | none =>
        rw [if_pos ⟨m1, fun j q => by cases q⟩]
        simp (disch := omega) only [ps_letE, ps_b2E, nI_add, pk_mul, nI_clamp, ev_inB, nI_leI, nI_ltI, nI_eq, if_pos, if_neg, ev_eqm, ev_eqm2, ev_ltm, ev_lem, ev_mlt, ev_mle, ev_mm, ev_subm, pk_sub, ev_true, if_true, if_false, ite_true, ite_false, Option.map, ev_rs, ev_ra, ev_rj, ev_cpO, ps_isB1, ps_isB0, p_spec, l_spec, n_spec, hR.1, ps_ml, r1, pk_div, e1, m1]
      | some d =>
        have hd := h2.1.2.1
        obtain ⟨t1, t2, t3⟩ := hR.2 d (by omega)
        obtain ⟨-, -, -, u4, -⟩ := okL_at hok (show d < L.length by omega)
        by_cases m2 : (ps_lk L d).2.2.1 ≤ (ps_lk L i).2.2.1
        · rw [if_pos ⟨m1, fun j q => by cases q; exact m2⟩]
          simp (disch := omega) only [ps_letE, ps_b2E, nI_add, pk_mul, nI_clamp, ev_inB, nI_leI, nI_ltI, nI_eq, if_pos, if_neg, ev_eqm, ev_eqm2, ev_ltm, ev_lem, ev_mlt, ev_mle, ev_mm, ev_subm, pk_sub, ev_true, if_true, if_false, ite_true, ite_false, Option.map, ev_rs, ev_ra, ev_rj, ev_cpO, ps_isB1, ps_isB0, p_spec, l_spec, n_spec, hR.1, ps_ml, r1, pk_div, e1, m1, r2, t2]
        · rw [if_neg (fun z => m2 (z.2 d rfl))]
          simp (disch := omega) only [ps_letE, ps_b2E, nI_add, pk_mul, nI_clamp, ev_inB, nI_leI, nI_ltI, nI_eq, if_pos, if_neg, ev_eqm, ev_eqm2, ev_ltm, ev_lem, ev_mlt, ev_mle, ev_mm, ev_subm, pk_sub, ev_true, if_true, if_false, ite_true, ite_false, Option.map, ev_rs, ev_ra, ev_rj, ev_cpO, ps_isB1, ps_isB0, p_spec, l_spec, n_spec, hR.1, ps_ml, r1, pk_div, e1, m1, r2, t2]
    · rw [if_neg (fun z => m1 z.1)]
      simp (disch := omega) only [ps_letE, ps_b2E, nI_add, pk_mul, nI_clamp, ev_inB, nI_leI, nI_ltI, nI_eq, if_pos, if_neg, ev_eqm, ev_eqm2, ev_ltm, ev_lem, ev_mlt, ev_mle, ev_mm, ev_subm, pk_sub, ev_true, if_true, if_false, ite_true, ite_false, Option.map, ev_rs, ev_ra, ev_rj, ev_cpO, ps_isB1, ps_isB0, p_spec, l_spec, n_spec, hR.1, r1, pk_div, e1, m1]
