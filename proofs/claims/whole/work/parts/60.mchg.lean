/-! the model's changes: what was goes into the history -/
theorem MU_fo {M M1 : ps_M} {q : Nat} {A : ps_U} {v : ps_H} (hC : ps_MU M q A) (hok : ps_okU A) (hF : ps_Fo q M M1) (hR : ps_RM M1 (q + 1) v) : ps_MU M1 q (v, A.2) := by
  obtain ⟨c1, ⟨c2, c3⟩, c4, c5, c6⟩ := hC
  exact ⟨hR, ⟨by rw [hF.1 _ (by omega) (by omega)]; exact c2, fun i hi => RO_eq (hok.2.1.2 i hi) (fun k _ => hF.1 _ (by omega) (by omega) _) (c3 i hi)⟩, MU_slots hok.2.2.1 (fun k => hF.1 _ (by omega) (by omega) _) (fun k => hF.1 _ (by omega) (by omega) _) c4, by rw [hF.1 _ (by omega) (by omega)]; exact c5, fun j hj => by rw [hF.1 _ (by omega) (by omega)]; exact c6 j hj⟩
/-- the row is as it was, and so is all that counts -/
theorem MU_eq {M M1 : ps_M} {q : Nat} {A : ps_U} (hC : ps_MU M q A) (hok : ps_okU A) (h1 : ∀ k, k < 937 → ps_rd M1 (q + 1) k = ps_rd M (q + 1) k) (h9 : ps_rd M1 q 9 = ps_rd M q 9) (h10 : ps_rd M1 q 10 = ps_rd M q 10) (h : ∀ a, (a = q + 4 ∨ a = q + 5 ∨ a = q + 6 ∨ a = q + 9) → ∀ k, ps_rd M1 a k = ps_rd M a k) : ps_MU M1 q A := by
  obtain ⟨c1, ⟨c2, c3⟩, c4, c5, c6⟩ := hC
  exact ⟨RM_eq hok.1 h1 c1, ⟨by rw [h10]; exact c2, fun i hi => RO_eq (hok.2.1.2 i hi) (fun k _ => h _ (by omega) _) (c3 i hi)⟩, MU_slots hok.2.2.1 (fun k => h _ (by omega) _) (fun k => h _ (by omega) _) c4, by rw [h9]; exact c5, fun j hj => by rw [h _ (by omega)]; exact c6 j hj⟩
theorem mu_hold {M : ps_M} {q : Nat} {A : ps_U} (hC : ps_MU M q A) (hok : ps_okU A) : ∃ M1, ff_X7_hold q M = some (nI 0, M1) ∧ ps_MU M1 q A ∧ ps_RM M1 (q + 2) A.1 ∧ ps_Fm q M M1 := by
  refine ⟨_, mo_hold, MU_eq hC hok (fun k _ => ev_ca (by omega)) (ev_ca (by omega)) (ev_ca (by omega)) (fun a ha k => ev_ca (by omega)), RM_eq hok.1 (fun k hk => ?_) hC.1, ps_Fm_cp (by omega) (by omega)⟩
  rw [ev_ci (by omega) (by omega)]
  exact congrArg (ps_rd M (q + 1)) (by omega)
theorem mu_change {M : ps_M} {q : Nat} {A : ps_U} {op : Int32 × ps_H} {Fm : ps_M → Option (Int32 × ps_M)} (hq : q + 9 < 1000000) (hC : ps_MU M q A) (hok : ps_okU A) (hv : ps_okH op.2) (hr : ps_rs op.1) (hF : ∀ M1, ps_RM M1 (q + 1) A.1 → ∃ M2, Fm M1 = some (op.1, M2) ∧ ps_RM M2 (q + 1) op.2 ∧ ps_Fo q M1 M2) : ∃ M3, (ps_b2 (ff_X7_hold q M) fun r1 M1 => ps_b2 (Fm M1) fun r2 M2 => ps_b2 (ff_X7_recorded q r2 M2) fun r3 M3 => some (r3, M3)) = some (op.1, M3) ∧ ps_MU M3 q (pa_ch A op) ∧ ps_Fm q M M3 := by
  obtain ⟨M1, e1, C1, b1, F1⟩ := mu_hold hC hok
  obtain ⟨M2, e2, R2, F2⟩ := hF M1 C1.1
  have C2 := MU_fo C1 hok F2 R2
  have hok2 : ps_okU (op.2, A.2) := ⟨hv, hok.2⟩
  obtain ⟨M3, e3, C3, F3⟩ := mo_rec hq C2 hok2 hok.1 (RM_eq hok.1 (fun k _ => F2.1 _ (by omega) (by omega) k) b1) hr
  refine ⟨M3, ?_, C3, ps_Fm_tr F1 (ps_Fm_tr (ps_Fm_o F2) F3)⟩
  rw [e1, ps_b2E, e2, ps_b2E, e3, ps_b2E]
/-! one parrot more -/
theorem mo_comes {M : ps_M} {q : Nat} {v : ps_H} (hR : ps_RM M (q + 1) v) (hok : ps_okH v) : ∃ M1, ff_X7_comes q M = some ((op_par v).1, M1) ∧ ps_RM M1 (q + 1) (op_par v).2 ∧ ps_Fo q M M1 := by
  have np := hok.2.2.1
  have ns := hok.2.1.1
  unfold ff_X7_comes op_par
  obtain ⟨r1, r2, r3, r4, r5, r6, r7, r8⟩ := hR
  by_cases c : v.2.2.2.1 < 4
  · rw [if_pos c, if_pos (ev_inB (by omega) (by omega)), nI_clamp (by omega), r4, if_neg (by rw [nI_eq (by omega) (by omega)]; omega), if_pos (ev_inB (by omega) (by omega)), p_spec, ps_b2E]
    refine Exists.elim (ps_whR (F := fun n k (_ : Unit) M1 => fk_X7_comes_27 q n (nI (185 + 5 * v.2.2.2.1)) (nI k) M1) (Rel := fun k _ M1 => (∀ a, a ≠ q + 1 → ∀ t, ps_rd M1 a t = ps_rd M a t) ∧ M1.2 = M.2 ∧ ∀ t, ps_rd M1 (q + 1) t = if 185 + 5 * v.2.2.2.1 ≤ t ∧ t < 185 + 5 * v.2.2.2.1 + k then nI 0 else ps_rd M (q + 1) t) 5 (fun _ _ => true) (fun _ u => u) (fun k _ M1 => some (nI v.2.2.2.1, ps_st (ps_st M1 (q + 1) (185 + 5 * v.2.2.2.1 + 1) (ps_m 1)) (q + 1) 6 (nI (v.2.2.2.1 + 1)))) (fun n k u M1 h1 h2 h3 => ?_) (fun n k u M1 h1 h2 h3 => ?_) 5 ps_fu 0 () M (by omega) (by unfold ps_fu; omega) ⟨fun _ _ _ => rfl, rfl, fun t => by rw [if_neg (by omega)]⟩) (fun M1 z => ?_)
    · have c2 : ¬ k < 5 := fun c => absurd (h3 c) (by simp)
      have h6 : ps_rd M1 (q + 1) 6 = nI v.2.2.2.1 := by rw [h2.2.2, if_neg (by omega)]; exact r4
      rw [fk_X7_comes_27]
      simp (disch := omega) only [ps_letE, ps_b2E, nI_add, pk_mul, nI_clamp, ev_inB, nI_leI, nI_ltI, nI_eq, if_pos, if_neg, ev_eqm, ev_eqm2, ev_ltm, ev_lem, ev_mlt, ev_mle, ev_mm, ev_subm, pk_sub, ev_true, if_true, if_false, ite_true, ite_false, Option.map, ev_rs, ev_ra, ev_rj, ev_cpO, ps_isB1, ps_isB0, h6, Nat.add_sub_cancel]
    · refine ⟨ps_st M1 (q + 1) (185 + 5 * v.2.2.2.1 + k) (nI 0), ?_, fun a ha t => (ev_ra ha).trans (h2.1 a ha t), h2.2.1, fun t => ?_⟩
      · rw [fk_X7_comes_27, if_neg (nI_ge h1 (by omega)), nI_add, if_pos (ev_inB (by omega) (by omega)), ps_letE, ps_letE, nI_add, nI_clamp (by omega)]
      · by_cases e : t = 185 + 5 * v.2.2.2.1 + k
        · rw [e, ev_rs, if_pos (by omega)]
        · rw [ev_rj e, h2.2.2]
          by_cases c2 : 185 + 5 * v.2.2.2.1 ≤ t ∧ t < 185 + 5 * v.2.2.2.1 + k
          · rw [if_pos c2, if_pos (by omega)]
          · rw [if_neg c2, if_neg (by omega)]
    · obtain ⟨e, z1, z2, z3⟩ := z
      have hw := ps_wh_all (fun _ (u : Unit) => u) 5 0 ()
      rw [Nat.zero_add] at hw
      have hT : ∀ t, t ≠ 6 → t ≠ 185 + 5 * v.2.2.2.1 + 1 → ps_rd (ps_st (ps_st M1 (q + 1) (185 + 5 * v.2.2.2.1 + 1) (ps_m 1)) (q + 1) 6 (nI (v.2.2.2.1 + 1))) (q + 1) t = if 185 + 5 * v.2.2.2.1 ≤ t ∧ t < 185 + 5 * v.2.2.2.1 + 5 then nI 0 else ps_rd M (q + 1) t := fun t h1 h2 => by rw [ev_rj h1, ev_rj h2, z3 t, hw]
      have hU : ∀ t, t ≠ 6 → (t < 185 + 5 * v.2.2.2.1 ∨ 190 + 5 * v.2.2.2.1 ≤ t) → ps_rd (ps_st (ps_st M1 (q + 1) (185 + 5 * v.2.2.2.1 + 1) (ps_m 1)) (q + 1) 6 (nI (v.2.2.2.1 + 1))) (q + 1) t = ps_rd M (q + 1) t := fun t h1 h2 => by rw [hT t h1 (by omega), if_neg (by omega)]
      have hnew := hok.2.2.2.2.1 v.2.2.2.1 (Nat.le_refl _)
      refine ⟨_, e, ⟨fun j hj => by rw [hU _ (by omega) (by omega)]; exact r1 j hj, by rw [hU _ (by omega) (by omega)]; exact r2, by rw [hU _ (by omega) (by omega)]; exact r3, ev_rs, by rw [hU _ (by omega) (by omega)]; exact r5, ?_, MS_eq hok.2.1 (fun k h1 h2 => hU k (by omega) (by omega)) r7, fun j hj => ?_⟩, ⟨fun a ha _ k => by rw [ev_ra ha, ev_ra ha]; exact z1 a ha k, z2⟩⟩
      · rw [hU _ (by omega) (by omega), r6]
        show _ = pa_sm _ (v.2.2.2.1 + 1)
        unfold pa_sm
        rw [ps_fo_s]
        dsimp only
        rw [hnew]
        exact (I_add0 _).symm
      · have hj2 : j < v.2.2.2.1 + 1 := hj
        show ps_MP _ (q + 1) j (v.2.2.2.2.1 j)
        by_cases c2 : j = v.2.2.2.1
        · rw [c2, hnew]
          refine ⟨⟨?_, fun i hi => absurd hi (Nat.not_lt_zero i)⟩, ?_, ?_, ?_, ?_⟩
          · rw [hT _ (by omega) (by omega), if_pos (by omega)]
            rfl
          · rw [ev_rj (by omega), ev_rs]
            rfl
          · rw [hT _ (by omega) (by omega), if_pos (by omega)]
            rfl
          · rw [hT _ (by omega) (by omega), if_pos (by omega)]
            rfl
          · rw [hT _ (by omega) (by omega), if_pos (by omega)]
            rfl
        · have hj3 : j < v.2.2.2.1 := by omega
          obtain ⟨t1, t2, t3, t4, t5⟩ := r8 j hj3
          exact ⟨ML_fs (Nat.le_trans (hok.2.2.2.1 j).1 (by omega)) (fun k hk => hU k (by omega) (by omega)) t1, by rw [hU _ (by omega) (by omega)]; exact t2, by rw [hU _ (by omega) (by omega)]; exact t3, by rw [hU _ (by omega) (by omega)]; exact t4, by rw [hU _ (by omega) (by omega)]; exact t5⟩
  · have e4 : v.2.2.2.1 = 4 := by omega
    rw [if_neg c, if_pos (ev_inB (by omega) (by omega)), nI_clamp (by omega), r4, if_pos (by rw [e4])]
    exact ⟨M, rfl, ⟨r1, r2, r3, r4, r5, r6, r7, r8⟩, ps_Fo_rf⟩
/-! the answers are as they are -/
theorem rs_n {n : Nat} (h : n < 2147483648) : ps_rs (nI n) := Or.inl ⟨n, h, rfl⟩
theorem rs_m {k : Nat} (h1 : 1 ≤ k) (h2 : k ≤ 6) : ps_rs (ps_m k) := Or.inr ⟨k, h1, h2, rfl⟩
theorem rs_if {c : Prop} {d : Decidable c} {x y : Int32 × ps_H} (h1 : c → ps_rs x.1) (h2 : ¬ c → ps_rs y.1) : ps_rs (if c then x else y).1 := by
  by_cases h : c
  · rw [if_pos h]; exact h1 h
  · rw [if_neg h]; exact h2 h
theorem rs_par {v : ps_H} : ps_rs (op_par v).1 := rs_if (fun h => rs_n (by omega)) (fun _ => rs_m (by omega) (by omega))
theorem rs_les {v : ps_H} (hok : ps_okH v) (p s f : Int32) : ps_rs (op_les p s f v).1 := by
  refine rs_if (fun h1 => rs_if (fun h2 => rs_if (fun _ => rs_m (by omega) (by omega)) (fun _ => rs_n ?_)) (fun _ => rs_m (by omega) (by omega))) (fun _ => rs_m (by omega) (by omega))
  obtain ⟨s1, s2, s3⟩ := hok.2.1.2 _ (ps_inB_lt h1.2)
  have := (ps_wh_le (fun _ P => !(pa_ti v P)) (fun i P => pa_hear v ((v.2.2.1 s.toNatClampNeg).2.1 i) P) ((v.2.2.1 s.toNatClampNeg).1 - f.toNatClampNeg) f.toNatClampNeg (v.2.2.2.2.1 p.toNatClampNeg)).2
  have hf := ps_inB_lt h2
  unfold pa_les
  omega
theorem rs_hush {v : ps_H} (hok : ps_okH v) (p : Int32) : ps_rs (op_hush p v).1 := by
  refine rs_if (fun h1 => ?_) (fun _ => rs_m (by omega) (by omega))
  cases e : (v.2.2.2.2.1 p.toNatClampNeg).2.1 with
  | none => exact rs_m (by omega) (by omega)
  | some b =>
    have := (hok.2.2.2.1 _).2.2 b e
    exact rs_n (by omega)
theorem rs_prac {v : ps_H} (hok : ps_okH v) (p b : Int32) : ps_rs (op_prac p b v).1 := by
  refine rs_if (fun h1 => rs_if (fun h2 => rs_if (fun _ => rs_m (by omega) (by omega)) (fun _ => rs_n ?_)) (fun _ => rs_m (by omega) (by omega))) (fun _ => rs_m (by omega) (by omega))
  obtain ⟨w, w1, w2, rfl⟩ := ps_btw (by omega) h2.1 h2.2 (by omega)
  rw [nI_clamp (by omega)]
  have := pa_ct_le (v.2.2.2.2.1 p.toNatClampNeg).1 (v.2.2.2.2.1 p.toNatClampNeg).2.1 w
  omega
theorem rs_nt {v : ps_H} (hok : ps_okH v) : ps_rs (op_nt v).1 := by
  refine rs_if (fun h1 => ?_) (fun _ => rs_m (by omega) (by omega))
  have np := hok.2.2.1
  have key : ∀ n, n ≤ 4 → ∃ m, m ≤ 60 * n ∧ ps_fo (fun j s => s + nI ((v.2.2.2.2.1 j).1.length - ((v.2.2.2.2.1 j).1.filterMap (ps_fa (v.1 1))).length)) n (nI 0) = nI m := by
    intro n
    induction n with
    | zero => intro _; exact ⟨0, Nat.zero_le _, rfl⟩
    | succ n ih =>
      intro hn
      obtain ⟨m, hm, e⟩ := ih (by omega)
      have := (hok.2.2.2.1 n).1
      refine ⟨m + ((v.2.2.2.2.1 n).1.length - ((v.2.2.2.2.1 n).1.filterMap (ps_fa (v.1 1))).length), by omega, ?_⟩
      rw [ps_fo_s, e, nI_add]
  obtain ⟨m, hm, e⟩ := key v.2.2.2.1 np
  show ps_rs (ps_fo _ _ _)
  rw [e]
  exact rs_n (by omega)
theorem rs_set {v : ps_H} (hok : ps_okH v) (a b : Int32) : ps_rs (op_set a b v).1 := by
  obtain ⟨⟨o1, o2⟩, o3, ⟨o4, o5⟩, o6, o7⟩ := hok.1
  refine rs_if (fun h1 => rs_if (fun _ => rs_n ?_) (fun _ => rs_m (by omega) (by omega))) (fun _ => rs_m (by omega) (by omega))
  have hj := ps_inB_lt h1
  generalize a.toNatClampNeg = j at hj
  obtain rfl | rfl | rfl | rfl : j = 0 ∨ j = 1 ∨ j = 2 ∨ j = 3 := by omega
  · omega
  · omega
  · omega
  · omega
/-! the model's changing methods -/
theorem mu_par {M : ps_M} {q : Nat} {A : ps_U} (hq : q + 9 < 1000000) (hC : ps_MU M q A) (hok : ps_okU A) : ∃ M3, ff_X7_parrot q M = some ((op_par A.1).1, M3) ∧ ps_MU M3 q (pa_ch A (op_par A.1)) ∧ ps_Fm q M M3 := mu_change hq hC hok (ok_par hok.1) rs_par (fun M1 h => mo_comes h hok.1)
theorem mu_les {M : ps_M} {q : Nat} {A : ps_U} (hq : q + 9 < 1000000) (hC : ps_MU M q A) (hok : ps_okU A) (p s f : Int32) : ∃ M3, ff_X7_lesson q p s f M = some ((op_les p s f A.1).1, M3) ∧ ps_MU M3 q (pa_ch A (op_les p s f A.1)) ∧ ps_Fm q M M3 := mu_change hq hC hok (ok_les hok.1 p s f) (rs_les hok.1 p s f) (fun M1 h => mo_les h hok.1 p s f)
theorem mu_hush {M : ps_M} {q : Nat} {A : ps_U} (hq : q + 9 < 1000000) (hC : ps_MU M q A) (hok : ps_okU A) (p : Int32) : ∃ M3, ff_X7_hush q p M = some ((op_hush p A.1).1, M3) ∧ ps_MU M3 q (pa_ch A (op_hush p A.1)) ∧ ps_Fm q M M3 := mu_change hq hC hok (ok_hush hok.1 p) (rs_hush hok.1 p) (fun M1 h => mo_hush h hok.1 p)
theorem mu_prac {M : ps_M} {q : Nat} {A : ps_U} (hq : q + 9 < 1000000) (hC : ps_MU M q A) (hok : ps_okU A) (p b : Int32) : ∃ M3, ff_X7_practise q p b M = some ((op_prac p b A.1).1, M3) ∧ ps_MU M3 q (pa_ch A (op_prac p b A.1)) ∧ ps_Fm q M M3 := mu_change hq hC hok (ok_prac hok.1 p b) (rs_prac hok.1 p b) (fun M1 h => mo_prac h hok.1 p b)
theorem mu_nt {M : ps_M} {q : Nat} {A : ps_U} (hq : q + 9 < 1000000) (hC : ps_MU M q A) (hok : ps_okU A) : ∃ M3, ff_X7_night q M = some ((op_nt A.1).1, M3) ∧ ps_MU M3 q (pa_ch A (op_nt A.1)) ∧ ps_Fm q M M3 := mu_change hq hC hok (ok_nt hok.1) (rs_nt hok.1) (fun M1 h => mo_ends h hok.1)
theorem ch_er {A : ps_U} {r : Int32} (h : pa_er r = true) : pa_ch A (r, A.1) = A := by
  unfold pa_ch
  rw [if_pos h]
theorem ps_lm : ps_least 0 = nI 4 ∧ ps_least 1 = nI 0 ∧ ps_least 2 = nI 1 ∧ ps_least 3 = nI 1 ∧ ps_most 0 = nI 60 ∧ ps_most 1 = nI 3 ∧ ps_most 2 = nI 3 ∧ ps_most 3 = nI 60 := ⟨rfl, rfl, rfl, rfl, rfl, rfl, rfl, rfl⟩
theorem mu_set1 {M : ps_M} {q j : Nat} {A : ps_U} (hq : q + 9 < 1000000) (hC : ps_MU M q A) (hok : ps_okU A) (hj : j < 4) (b : Int32) {c : Prop} {d : Decidable c} (hc : c ↔ ps_least j ≤ b ∧ b ≤ ps_most j) : ∃ M3, fk_X7_set_62 q (nI j) b (if c then nI 1 else nI 0) M = some ((op_set (nI j) b A.1).1, M3) ∧ ps_MU M3 q (pa_ch A (op_set (nI j) b A.1)) ∧ ps_Fm q M M3 := by
  unfold fk_X7_set_62
  by_cases h : c
  · have h2 := hc.mp h
    have e : op_set (nI j) b A.1 = (nI (A.1.1 j), ((fun k => if k = j then b.toNatClampNeg else A.1.1 k), A.1.2)) := by
      unfold op_set
      rw [if_pos (ev_inB hj (by omega)), nI_clamp (by omega), if_pos h2]
    obtain ⟨la, mo, e1, e2, e3, e4, -⟩ := lm_nat j hj
    rw [e1, e2] at h2
    obtain ⟨w, w1, w2, hw⟩ := ps_btw (by omega) h2.1 h2.2 e3
    have hb : b.toNatClampNeg = w := by rw [hw, nI_clamp (by omega)]
    have ok2 := ok_set hok.1 (nI j) b
    have rs2 := rs_set hok.1 (nI j) b
    rw [e, hb] at ok2
    rw [e] at rs2
    rw [e, hb, if_pos h, if_neg (by rw [nI_eq (by omega) (by omega)]; omega)]
    simp only [if_pos (show ps_inB (nI j) 937 = true from ev_inB (by omega) (by omega)), nI_clamp (show j < 2 ^ 31 by omega), ps_letE]
    have := mu_change (op := (nI (A.1.1 j), ((fun k => if k = j then w else A.1.1 k), A.1.2))) (Fm := fun M1 => some (ps_rd M1 (q + 1) j, ps_st M1 (q + 1) j b)) hq hC hok ok2 rs2 (fun M1 h => ?_)
    · exact this
    · refine ⟨_, by rw [h.1 j hj], ?_, ps_Fo_st⟩
      obtain ⟨r1, r2, r3, r4, r5, r6, r7, r8⟩ := h
      refine ⟨fun k hk => ?_, by rw [ev_rj (by omega)]; exact r2, by rw [ev_rj (by omega)]; exact r3, by rw [ev_rj (by omega)]; exact r4, by rw [ev_rj (by omega)]; exact r5, by rw [ev_rj (by omega)]; exact r6, MS_eq hok.1.2.1 (fun k a b => ev_rj (by omega)) r7, fun k hk => ⟨ML_fs (Nat.le_trans (hok.1.2.2.2.1 k).1 (by omega)) (fun i hi => ev_rj (by omega)) (r8 k hk).1, by rw [ev_rj (by omega)]; exact (r8 k hk).2.1, by rw [ev_rj (by omega)]; exact (r8 k hk).2.2.1, by rw [ev_rj (by omega)]; exact (r8 k hk).2.2.2.1, by rw [ev_rj (by omega)]; exact (r8 k hk).2.2.2.2⟩⟩
      show _ = nI (if k = j then w else A.1.1 k)
      by_cases z : k = j
      · rw [if_pos z, z, ev_rs, hw]
      · rw [if_neg z, ev_rj z]
        exact r1 k hk
  · have e : op_set (nI j) b A.1 = (ps_m 2, A.1) := by
      unfold op_set
      rw [if_pos (ev_inB hj (by omega)), nI_clamp (by omega), if_neg (fun z => h (hc.mpr z))]
    rw [e, if_neg h, if_pos rfl, ch_er (by decide)]
    exact ⟨M, rfl, hC, ps_Fm_rf⟩
theorem mu_set {M : ps_M} {q : Nat} {A : ps_U} (hq : q + 9 < 1000000) (hC : ps_MU M q A) (hok : ps_okU A) (a b : Int32) : ∃ M3, ff_X7_set q a b M = some ((op_set a b A.1).1, M3) ∧ ps_MU M3 q (pa_ch A (op_set a b A.1)) ∧ ps_Fm q M M3 := by
  obtain ⟨l0, l1, l2, l3, m0, m1, m2, m3⟩ := ps_lm
  unfold ff_X7_set
  rcases ps_cas a 4 (by omega) with ⟨j, hj, rfl⟩ | ha
  · obtain rfl | rfl | rfl | rfl : j = 0 ∨ j = 1 ∨ j = 2 ∨ j = 3 := by omega
    · rw [if_pos rfl, in_spec, ps_b2E]
      exact mu_set1 hq hC hok hj b (by rw [l0, m0])
    · rw [if_neg (by rw [nI_eq (by omega) (by omega)]; omega), if_pos rfl, in_spec, ps_b2E]
      exact mu_set1 hq hC hok hj b (by rw [l1, m1])
    · rw [if_neg (by rw [nI_eq (by omega) (by omega)]; omega), if_neg (by rw [nI_eq (by omega) (by omega)]; omega), if_pos rfl, in_spec, ps_b2E]
      exact mu_set1 hq hC hok hj b (by rw [l2, m2])
    · rw [if_neg (by rw [nI_eq (by omega) (by omega)]; omega), if_neg (by rw [nI_eq (by omega) (by omega)]; omega), if_neg (by rw [nI_eq (by omega) (by omega)]; omega), if_pos rfl, in_spec, ps_b2E]
      have := mu_set1 (c := nI 1 ≤ b ∧ b ≤ nI 60) (d := inferInstance) hq hC hok hj b (by rw [l3, m3])
      unfold fk_X7_set_61
      by_cases c : nI 1 ≤ b ∧ b ≤ nI 60
      · rw [if_pos c] at this
        rw [if_pos c, if_neg (by rw [nI_eq (by omega) (by omega)]; omega)]
        exact this
      · rw [if_neg c] at this
        rw [if_neg c, if_pos rfl]
        exact this
  · have e : op_set a b A.1 = (ps_m 2, A.1) := if_neg (ps_inBN ha (by omega))
    rw [e, if_neg (no_ne ha (by omega) (by omega)), if_neg (no_ne ha (by omega) (by omega)), if_neg (no_ne ha (by omega) (by omega)), if_neg (no_ne ha (by omega) (by omega)), ch_er (by decide)]
    unfold fk_X7_set_61 fk_X7_set_62
    rw [if_pos rfl]
    exact ⟨M, rfl, hC, ps_Fm_rf⟩
