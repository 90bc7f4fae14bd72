/-! what if: on the pupil, at the cell 329 -/
theorem ps_CL_junk {M M1 : ps_M} {A : ps_U} (hC : ps_CL M A) (hok : ps_okU A) (h : ∀ k, (k < 323 ∨ k = 324 ∨ k = 325 ∨ k = 327 ∨ k = 328 ∨ (335 ≤ k ∧ k < 415)) → ∀ j, ps_rd M1 k j = ps_rd M k j) (hr : M1.2 = M.2) : ps_CL M1 A := by
  obtain ⟨c1, c2, ⟨c3, c4⟩, c5, c6, c7⟩ := hC
  have h6 := hok.2.1.1
  have e : ∀ i, ps_rr M1 i = ps_rr M i := fun i => by unfold ps_rr; rw [hr]
  refine ⟨ps_RH_eq (fun k h1 h2 j => h k (by omega) j) hok.1 c1, by unfold ps_hs; simp only [e]; exact c2, ⟨by rw [h _ (by omega)]; exact c3, fun i hi => ?_⟩, fun s hs => ?_, by rw [h _ (by omega)]; exact c6, fun j hj => by rw [h _ (by omega)]; exact c7 j hj⟩
  · rw [e]
    have hb := ps_hs_bd c2 (i := i) (by omega)
    exact ps_RH_eq (fun k h1 h2 j => h k (by omega) j) (hok.2.1.2 i hi) (c4 i hi)
  · have := c5 s hs
    cases e1 : A.2.2.1 s with
    | none =>
      rw [e1] at this
      show ps_rd M1 328 s = nI 0
      rw [h _ (by omega)]
      exact this
    | some v =>
      rw [e1] at this
      exact ⟨by rw [h _ (by omega)]; exact this.1, ps_RH_eq (fun k h1 h2 j => h k (by omega) j) (hok.2.2.1 s v hs e1) this.2⟩
theorem ps_CL_pup {M M1 : ps_M} {A : ps_U} (hC : ps_CL M A) (hok : ps_okU A) (hF : ps_Fr 329 335 M M1) : ps_CL M1 A := ps_CL_junk hC hok (fun k hk j => hF.1 k (by omega) j) hF.2
def pa_lf (v : ps_H) (s : ps_S) (P : ps_P) : Nat × ps_P := ps_wh (fun _ P => !(pa_kn P.1 s)) (fun _ P => pa_whl v s (P.1, none, P.2.2)) 31 0 P
def qa_lf (p s : Int32) (v : ps_H) : Int32 := if ps_inB p v.2.2.2.1 = true ∧ ps_inB s v.2.1 = true then (if (pa_lf v (v.2.2.1 s.toNatClampNeg) (v.2.2.2.2.1 p.toNatClampNeg)).1 < 31 then nI (pa_lf v (v.2.2.1 s.toNatClampNeg) (v.2.2.2.2.1 p.toNatClampNeg)).1 else ps_m 6) else ps_m 1
theorem cq_lf {M : ps_M} {v : ps_H} (hR : ps_RH M 1 v) (hok : ps_okH v) (p s : Int32) : ∃ M1, ff_X6_lessonsFor 0 p s M = some (qa_lf p s v, M1) ∧ ps_Fr 329 335 M M1 := by
  have np := hok.2.2.1
  have ns := hok.2.1.1
  unfold ff_X6_lessonsFor qa_lf
  rw [Nat.zero_add]
  rcases ps_cas p v.2.2.2.1 (by omega) with ⟨j, hj, rfl⟩ | hp
  · have hP := hR.2.2.2.1 j (by omega)
    have hPo := hok.2.2.2.1 j
    rw [ho_has hR hok hj, ps_b2E, if_neg (by rw [nI_eq (by omega) (by omega)]; omega)]
    rcases ps_cas s v.2.1 (by omega) with ⟨i, hi, rfl⟩ | hs
    · have a3 : ps_inB (nI j) 4 = true := ev_inB (by omega) (by omega)
      have a4 : ps_inB (nI j) v.2.2.2.1 = true ∧ ps_inB (nI i) v.2.1 = true := ⟨ev_inB hj (by omega), ev_inB hi (by omega)⟩
      obtain ⟨M0, e0, P0, F0⟩ := pr_copy (q := 329) hP (Nat.le_trans hPo.1 (by omega)) (by omega)
      rw [bk_has hR.2.1 hok.2.1 hi, ps_b2E, if_neg (by rw [nI_eq (by omega) (by omega)]; omega), if_pos a3, if_pos a4, nI_clamp (by omega), nI_clamp (by omega), Nat.zero_add, e0, ps_b2E]
      refine Exists.elim (ps_whR (F := fun n k (_ : ps_P) M1 => fk_X6_lessonsFor_45 0 n (nI j) (nI i) (nI k) M1) (Rel := fun k P M1 => ps_RP M1 329 P ∧ ps_ok P ∧ ps_Fr 329 335 M M1) 31 (fun _ P => !(pa_kn P.1 (v.2.2.1 i))) (fun _ P => pa_whl v (v.2.2.1 i) (P.1, none, P.2.2)) (fun k P M1 => some (if k < 31 then nI k else ps_m 6, M1)) (fun n k P M1 h1 h2 h3 => ?_) (fun n k P M1 h1 h2 h3 => ?_) 31 ps_fu 0 (v.2.2.2.2.1 j) M0 (by omega) (by unfold ps_fu; omega) ⟨P0, hPo, F0⟩) (fun M1 z => ⟨M1, z.1, z.2.2.2⟩)
      · obtain ⟨z1, z2, z3⟩ := h2
        have hB := ps_RB_fr z3 ns (by omega) hR.2.1
        rw [fk_X6_lessonsFor_45]
        by_cases c : k < 31
        · have c2 : pa_kn P.1 (v.2.2.1 i) = true := by simpa using h3 c
          rw [if_neg (nI_nlt (by omega) (by omega)), if_pos c, Nat.zero_add, Nat.zero_add, bk_known hB hok.2.1 z1.1 (Nat.le_trans z2.1 (by omega)) z2.2.1 hi, ps_b2E]
          unfold pa_bi
          rw [if_pos c2, if_neg (by rw [nI_eq (by omega) (by omega)]; omega)]
        · rw [if_neg c, if_pos (nI_lt (by omega) (by omega))]
      · obtain ⟨z1, z2, z3⟩ := h2
        have hB := ps_RB_fr z3 ns (by omega) hR.2.1
        have c2 : ¬ pa_kn P.1 (v.2.2.1 i) = true := by simpa using h3
        have z2' : ps_ok (P.1, none, P.2.2) := ⟨z2.1, z2.2.1, fun b e => by cases e⟩
        have F1 : ps_Fr 329 335 M (ps_st M1 329 2 (ps_m 6)) := ps_Fr_tr z3 (ps_Fr_st (by omega) (by omega))
        obtain ⟨M2, e2, R2, F2⟩ := ho_whole (h := 1) (M := ps_st M1 329 2 (ps_m 6)) (fun k hk => by rw [F1.1 _ (by omega)]; exact hR.1 k hk) (ps_RB_fr F1 ns (by omega) hR.2.1) hok (by omega) hi (pr_none z1) z2'
        refine ⟨M2, ?_, R2, ok_whl hok hi z2', ps_Fr_tr F1 F2⟩
        rw [fk_X6_lessonsFor_45, if_neg (nI_nlt (by omega) (by omega)), Nat.zero_add, Nat.zero_add, bk_known hB hok.2.1 z1.1 (Nat.le_trans z2.1 (by omega)) z2.2.1 hi, ps_b2E]
        unfold pa_bi
        rw [if_neg c2, if_pos rfl, ps_letE, e2, ps_b2E, ps_letE, nI_add]
    · rw [bk_hasN hR.2.1 hs, ps_b2E, if_pos rfl, if_neg (fun (z : ps_inB (nI j) v.2.2.2.1 = true ∧ ps_inB s v.2.1 = true) => ps_inBN hs (by omega) z.2)]
      exact ⟨M, rfl, ps_Fr_rf⟩
  · rw [ho_hasN hR hp, ps_b2E, if_pos rfl, if_neg (fun (z : ps_inB p v.2.2.2.1 = true ∧ ps_inB s v.2.1 = true) => ps_inBN hp (by omega) z.1)]
    exact ⟨M, rfl, ps_Fr_rf⟩
def pa_kp (v : ps_H) (s : ps_S) (P : ps_P) : Nat × ps_P := ps_wh (fun _ P => pa_kn P.1 s) (fun _ P => ps_sl (v.1 1) P) 31 0 P
def qa_kp (p s : Int32) (v : ps_H) : Int32 := if ps_inB p v.2.2.2.1 = true ∧ ps_inB s v.2.1 = true then (if (pa_kp v (v.2.2.1 s.toNatClampNeg) (v.2.2.2.2.1 p.toNatClampNeg)).1 < 31 then nI (pa_kp v (v.2.2.1 s.toNatClampNeg) (v.2.2.2.2.1 p.toNatClampNeg)).1 else ps_m 6) else ps_m 1
theorem cq_kp {M : ps_M} {v : ps_H} (hR : ps_RH M 1 v) (hok : ps_okH v) (p s : Int32) : ∃ M1, ff_X6_keeps 0 p s M = some (qa_kp p s v, M1) ∧ ps_Fr 329 335 M M1 := by
  have np := hok.2.2.1
  have ns := hok.2.1.1
  unfold ff_X6_keeps qa_kp
  rw [Nat.zero_add]
  rcases ps_cas p v.2.2.2.1 (by omega) with ⟨j, hj, rfl⟩ | hp
  · have hP := hR.2.2.2.1 j (by omega)
    have hPo := hok.2.2.2.1 j
    rw [ho_has hR hok hj, ps_b2E, if_neg (by rw [nI_eq (by omega) (by omega)]; omega)]
    rcases ps_cas s v.2.1 (by omega) with ⟨i, hi, rfl⟩ | hs
    · have a3 : ps_inB (nI j) 4 = true := ev_inB (by omega) (by omega)
      have a4 : ps_inB (nI j) v.2.2.2.1 = true ∧ ps_inB (nI i) v.2.1 = true := ⟨ev_inB hj (by omega), ev_inB hi (by omega)⟩
      obtain ⟨M0, e0, P0, F0⟩ := pr_copy (q := 329) hP (Nat.le_trans hPo.1 (by omega)) (by omega)
      rw [bk_has hR.2.1 hok.2.1 hi, ps_b2E, if_neg (by rw [nI_eq (by omega) (by omega)]; omega), if_pos a3, if_pos a4, nI_clamp (by omega), nI_clamp (by omega), Nat.zero_add, e0, ps_b2E]
      refine Exists.elim (ps_whR (F := fun n k (_ : ps_P) M1 => fk_X6_keeps_45 0 n (nI j) (nI i) (nI k) M1) (Rel := fun k P M1 => ps_RP M1 329 P ∧ ps_ok P ∧ ps_Fr 329 335 M M1) 31 (fun _ P => pa_kn P.1 (v.2.2.1 i)) (fun _ P => ps_sl (v.1 1) P) (fun k P M1 => some (if k < 31 then nI k else ps_m 6, M1)) (fun n k P M1 h1 h2 h3 => ?_) (fun n k P M1 h1 h2 h3 => ?_) 31 ps_fu 0 (v.2.2.2.2.1 j) M0 (by omega) (by unfold ps_fu; omega) ⟨P0, hPo, F0⟩) (fun M1 z => ⟨M1, z.1, z.2.2.2⟩)
      · obtain ⟨z1, z2, z3⟩ := h2
        have hB := ps_RB_fr z3 ns (by omega) hR.2.1
        rw [fk_X6_keeps_45]
        by_cases c : k < 31
        · have c2 : ¬ pa_kn P.1 (v.2.2.1 i) = true := by rw [h3 c]; simp
          rw [if_neg (nI_nlt (by omega) (by omega)), if_pos c, Nat.zero_add, Nat.zero_add, bk_known hB hok.2.1 z1.1 (Nat.le_trans z2.1 (by omega)) z2.2.1 hi, ps_b2E]
          unfold pa_bi
          rw [if_neg c2, if_pos rfl]
        · rw [if_neg c, if_pos (nI_lt (by omega) (by omega))]
      · obtain ⟨z1, z2, z3⟩ := h2
        have hB := ps_RB_fr z3 ns (by omega) hR.2.1
        have hs1 : ps_rd M1 (1 + 1) 1 = nI (v.1 1) := by rw [z3.1 _ (by omega)]; exact hR.1 1 (by omega)
        obtain ⟨M2, e2, R2, F2⟩ := pr_sleep z1 z2 hok.1.2.1
        refine ⟨M2, ?_, R2, ok_sl z2 _, ps_Fr_tr z3 F2⟩
        rw [fk_X6_keeps_45, if_neg (nI_nlt (by omega) (by omega)), Nat.zero_add, Nat.zero_add, bk_known hB hok.2.1 z1.1 (Nat.le_trans z2.1 (by omega)) z2.2.1 hi, ps_b2E]
        unfold pa_bi
        rw [if_pos h3, if_neg (by rw [nI_eq (by omega) (by omega)]; omega), if_pos (ev_inB (by omega) (by omega)), nI_clamp (by omega), hs1, e2, ps_b2E, ps_letE, nI_add]
    · rw [bk_hasN hR.2.1 hs, ps_b2E, if_pos rfl, if_neg (fun (z : ps_inB (nI j) v.2.2.2.1 = true ∧ ps_inB s v.2.1 = true) => ps_inBN hs (by omega) z.2)]
      exact ⟨M, rfl, ps_Fr_rf⟩
  · rw [ho_hasN hR hp, ps_b2E, if_pos rfl, if_neg (fun (z : ps_inB p v.2.2.2.1 = true ∧ ps_inB s v.2.1 = true) => ps_inBN hp (by omega) z.1)]
    exact ⟨M, rfl, ps_Fr_rf⟩
def pa_bl (v : ps_H) (P : ps_P) : Int32 × Int32 := ps_fo (fun i s => if pa_all (pa_whl v (v.2.2.1 i) P).1 v.2.1 v.2.2.1 ≤ s.2 then s else (nI i, pa_all (pa_whl v (v.2.2.1 i) P).1 v.2.1 v.2.2.1)) v.2.1 (ps_m 6, pa_all P.1 v.2.1 v.2.2.1)
def qa_bl (p w : Int32) (v : ps_H) : Int32 := if ps_inB p v.2.2.2.1 = true then (if w = nI 0 ∨ w = nI 1 then (if (pa_bl v (v.2.2.2.2.1 p.toNatClampNeg)).1 = ps_m 6 then ps_m 6 else if w = nI 0 then (pa_bl v (v.2.2.2.2.1 p.toNatClampNeg)).1 else (pa_bl v (v.2.2.2.2.1 p.toNatClampNeg)).2) else ps_m 2) else ps_m 1
theorem cq_bl {M : ps_M} {v : ps_H} (hR : ps_RH M 1 v) (hok : ps_okH v) (p w : Int32) : ∃ M1, ff_X6_bestLesson 0 p w M = some (qa_bl p w v, M1) ∧ ps_Fr 329 335 M M1 := by
  have np := hok.2.2.1
  have ns := hok.2.1.1
  unfold ff_X6_bestLesson qa_bl
  rw [Nat.zero_add]
  rcases ps_cas p v.2.2.2.1 (by omega) with ⟨j, hj, rfl⟩ | hp
  · have hP := hR.2.2.2.1 j (by omega)
    have hPo := hok.2.2.2.1 j
    have a3 : ps_inB (nI j) 4 = true := ev_inB (by omega) (by omega)
    have a4 : ps_inB (nI j) v.2.2.2.1 = true := ev_inB hj (by omega)
    rw [ho_has hR hok hj, ps_b2E, if_neg (by rw [nI_eq (by omega) (by omega)]; omega), if_pos a4, nI_clamp (by omega)]
    have key : w = nI 0 ∨ w = nI 1 → ∃ M1, fk_X6_bestLesson_25 0 (nI j) w M = some (if (pa_bl v (v.2.2.2.2.1 j)).1 = ps_m 6 then ps_m 6 else if w = nI 0 then (pa_bl v (v.2.2.2.2.1 j)).1 else (pa_bl v (v.2.2.2.2.1 j)).2, M1) ∧ ps_Fr 329 335 M M1 := by
      intro hw
      unfold fk_X6_bestLesson_25
      rw [if_pos a3, nI_clamp (by omega), Nat.zero_add, bk_all hR.2.1 hok.2.1 hP.1 (Nat.le_trans hPo.1 (by omega)) hPo.2.1, ps_b2E]
      refine Exists.elim (ps_whR (F := fun n i (s : Int32 × Int32) M1 => fk_X6_bestLesson_55 0 n (nI j) w (1 + 14 + 2 + 6 * j) s.1 s.2 (nI i) M1) (Rel := fun i s M1 => ps_Fr 329 335 M M1) v.2.1 (fun _ _ => true) (fun i s => if pa_all (pa_whl v (v.2.2.1 i) (v.2.2.2.2.1 j)).1 v.2.1 v.2.2.1 ≤ s.2 then s else (nI i, pa_all (pa_whl v (v.2.2.1 i) (v.2.2.2.2.1 j)).1 v.2.1 v.2.2.1)) (fun i s M1 => some (if s.1 = ps_m 6 then ps_m 6 else if w = nI 0 then s.1 else s.2, M1)) (fun n i s M1 h1 h2 h3 => ?_) (fun n i s M1 h1 h2 h3 => ?_) v.2.1 ps_fu 0 (ps_m 6, pa_all (v.2.2.2.2.1 j).1 v.2.1 v.2.2.1) M (by omega) (by unfold ps_fu; omega) ps_Fr_rf) (fun M1 z => ⟨M1, z.1, z.2⟩)
      · have c : ¬ i < v.2.1 := fun c => absurd (h3 c) (by simp)
        have hB := ps_RB_fr h2 ns (by omega) hR.2.1
        rw [fk_X6_bestLesson_55, Nat.zero_add, hB.1, if_pos (nI_le (by omega) (by omega))]
        exact ps_it (fun _ => rfl) (fun _ => ps_it (fun _ => rfl) (fun _ => rfl))
      · have hB := ps_RB_fr h2 ns (by omega) hR.2.1
        have hP1 := ps_RP_fr h2 (by omega) hP
        obtain ⟨M2, e2, P2, F2⟩ := pr_copy (q := 329) hP1 (Nat.le_trans hPo.1 (by omega)) (by omega)
        have F3 := ps_Fr_tr h2 F2
        obtain ⟨M4, e4, P4, F4⟩ := ho_whole (h := 1) (M := M2) (fun k hk => by rw [F3.1 _ (by omega)]; exact hR.1 k hk) (ps_RB_fr F3 ns (by omega) hR.2.1) hok (by omega) h1 P2 hPo
        have ow := ok_whl hok h1 hPo
        refine ⟨M4, ?_, ps_Fr_tr F3 F4⟩
        rw [fk_X6_bestLesson_55, Nat.zero_add, hB.1, if_neg (nI_ge h1 (by omega)), Nat.zero_add, e2, ps_b2E, e4, ps_b2E, bk_all (ps_RB_fr (ps_Fr_tr F3 F4) ns (by omega) hR.2.1) hok.2.1 P4.1 (Nat.le_trans ow.1 (by omega)) ow.2.1, ps_b2E]
        by_cases c : pa_all (pa_whl v (v.2.2.1 i) (v.2.2.2.2.1 j)).1 v.2.1 v.2.2.1 ≤ s.2
        · rw [if_pos c, if_pos c, ps_letE, nI_add]
        · rw [if_neg c, if_neg c, ps_letE, nI_add]
    by_cases w0 : w = nI 0
    · rw [if_pos w0, if_pos (Or.inl w0)]
      exact key (Or.inl w0)
    · rw [if_neg w0]
      by_cases w1 : w = nI 1
      · rw [if_pos w1, if_pos (Or.inr w1)]
        exact key (Or.inr w1)
      · rw [if_neg w1, if_neg (fun z => z.elim w0 w1)]
        exact ⟨M, rfl, ps_Fr_rf⟩
  · rw [ho_hasN hR hp, ps_b2E, if_pos rfl, if_neg (ps_inBN hp (by omega))]
    exact ⟨M, rfl, ps_Fr_rf⟩
