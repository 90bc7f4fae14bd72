/-! the model: undo, save, restore -/
theorem mu_undo {M : ps_M} {q : Nat} {A : ps_U} (hC : ps_MU M q A) (hok : ps_okU A) : ∃ M3, ff_X7_undo q M = some ((op_undo A).1, M3) ∧ ps_MU M3 q (op_undo A).2 ∧ ps_Fm q M M3 := by
  obtain ⟨c1, ⟨c2, c3⟩, c4, c5, c6⟩ := hC
  have h6 := hok.2.1.1
  unfold ff_X7_undo op_undo
  rw [c2]
  by_cases c : A.2.1.1 = 0
  · rw [if_pos c, if_pos (by rw [c])]
    exact ⟨M, rfl, ⟨c1, ⟨c2, c3⟩, c4, c5, c6⟩, ps_Fm_rf⟩
  · rw [if_neg c, if_neg (by rw [nI_eq (by omega) (by omega)]; exact c), pk_sub (by omega), ps_letE]
    have key : fk_X7_undo_22 q ps_fu (nI 0) (ps_st M q 10 (nI (A.2.1.1 - 1))) = some (nI (A.2.1.1 - 1), ps_cp (ps_st M q 10 (nI (A.2.1.1 - 1))) (q + 4) (937 * (A.2.1.1 - 1)) (q + 1) 0 937) := by
      refine cp_all (F := fun n k M => fk_X7_undo_22 q n (nI k) M) (M := ps_st M q 10 (nI (A.2.1.1 - 1))) (sa := q + 4) (sp := 937 * (A.2.1.1 - 1)) (da := q + 1) (dp := 0) (cnt := 937) (Or.inl (by omega)) (by omega) (fun n => ?_) (fun n i hi => ?_)
      · rw [fk_X7_undo_22, if_pos (nI_le (by omega) (by omega)), cp_rd (by omega), ev_rs]
      · rw [fk_X7_undo_22, if_neg (nI_ge hi (by omega)), cp_rd (by omega), ev_rs, pk_mul, nI_add, if_pos (ev_inB (by omega) (by omega)), if_pos (ev_inB hi (by omega)), ps_letE, ps_letE, nI_add, nI_clamp (by omega), nI_clamp (by omega), Nat.zero_add]
    refine ⟨_, key, ⟨?_, ⟨?_, fun i hi => ?_⟩, ?_, ?_, fun j hj => ?_⟩, ps_Fm_tr (ps_Fm_st (by omega) (by omega)) (ps_Fm_cp (by omega) (by omega))⟩
    · refine RO_M (hok.2.1.2 _ (by omega)) (fun k hk => ?_) (c3 (A.2.1.1 - 1) (by omega))
      rw [ev_ci (by omega) (by omega), ev_ra (by omega)]
      exact congrArg (ps_rd M (q + 4)) (by omega)
    · rw [ev_ca (by omega), ev_rs]
    · have hi2 : i < A.2.1.1 - 1 := hi
      exact RO_eq (hok.2.1.2 i (by omega)) (fun k _ => by rw [ev_ca (by omega), ev_ra (by omega)]) (c3 i (by omega))
    · exact MU_slots hok.2.2.1 (fun k => by rw [ev_ca (by omega), ev_ra (by omega)]) (fun k => by rw [ev_ca (by omega), ev_ra (by omega)]) c4
    · rw [ev_ca (by omega), ev_rj (by omega)]; exact c5
    · rw [ev_ca (by omega), ev_ra (by omega)]; exact c6 j hj
theorem mu_save {M : ps_M} {q : Nat} {A : ps_U} (hC : ps_MU M q A) (hok : ps_okU A) (s : Int32) : ∃ M3, ff_X7_save q s M = some ((op_save s A).1, M3) ∧ ps_MU M3 q (op_save s A).2 ∧ ps_Fm q M M3 := by
  unfold ff_X7_save
  rw [in_c s 1 (by omega), ps_b2E]
  rcases ps_cas s 2 (by omega) with ⟨j, hj, rfl⟩ | hs
  · have e : op_save (nI j) A = (nI A.1.2.1, (A.1, A.2.1, (fun k => if k = j then some A.1 else A.2.2.1 k), A.2.2.2)) := by
      unfold op_save
      rw [if_pos (ev_inB hj (by omega)), nI_clamp (by omega)]
    rw [e, if_pos (ev_inB hj (by omega)), if_neg (by rw [nI_eq (by omega) (by omega)]; omega)]
    obtain ⟨c1, ⟨c2, c3⟩, c4, c5, c6⟩ := hC
    have h6 := hok.2.1.1
    have key : fk_X7_save_14 q ps_fu (nI j) (nI 0) M = some (nI A.1.2.1, ps_st (ps_cp M (q + 1) 0 (q + 5) (937 * j) 937) (q + 6) j (nI 1)) := by
      refine cp_all (F := fun n k M => fk_X7_save_14 q n (nI j) (nI k) M) (M := M) (sa := q + 1) (sp := 0) (da := q + 5) (dp := 937 * j) (cnt := 937) (Or.inl (by omega)) (by omega) (fun n => ?_) (fun n i hi => ?_)
      · rw [fk_X7_save_14, if_pos (nI_le (by omega) (by omega)), if_pos (ev_inB hj (by omega)), nI_clamp (by omega), ps_letE, if_pos (ev_inB (by omega) (by omega)), nI_clamp (by omega), ev_ra (by omega), ev_ca (by omega), c1.2.2.1]
      · rw [fk_X7_save_14, if_neg (nI_ge hi (by omega)), if_pos (ev_inB hi (by omega)), pk_mul, nI_add, if_pos (ev_inB (by omega) (by omega)), ps_letE, ps_letE, nI_add, nI_clamp (by omega), nI_clamp (by omega), Nat.zero_add]
    refine ⟨_, key, ⟨?_, ⟨?_, fun i hi => ?_⟩, fun k hk => ?_, ?_, fun i hi => ?_⟩, ps_Fm_tr (ps_Fm_cp (by omega) (by omega)) (ps_Fm_st (by omega) (by omega))⟩
    · exact RM_eq hok.1 (fun k _ => by rw [ev_ra (by omega), ev_ca (by omega)]) c1
    · rw [ev_ra (by omega), ev_ca (by omega)]; exact c2
    · exact RO_eq (hok.2.1.2 i hi) (fun k _ => by rw [ev_ra (by omega), ev_ca (by omega)]) (c3 i hi)
    · show match (if k = j then some A.1 else A.2.2.1 k) with | none => ps_rd (ps_st (ps_cp M (q + 1) 0 (q + 5) (937 * j) 937) (q + 6) j (nI 1)) (q + 6) k = nI 0 | some v => ps_rd (ps_st (ps_cp M (q + 1) 0 (q + 5) (937 * j) 937) (q + 6) j (nI 1)) (q + 6) k = nI 1 ∧ ps_RO (ps_st (ps_cp M (q + 1) 0 (q + 5) (937 * j) 937) (q + 6) j (nI 1)) (q + 5) (937 * k) v
      by_cases z : k = j
      · rw [if_pos z, z]
        refine ⟨ev_rs, M_RO hok.1 (fun i hi => ?_) c1⟩
        rw [ev_ra (by omega), ev_ci (by omega) (by omega)]
        exact congrArg (ps_rd M (q + 1)) (by omega)
      · rw [if_neg z]
        have := c4 k hk
        cases e3 : A.2.2.1 k with
        | none =>
          rw [e3] at this
          show ps_rd (ps_st (ps_cp M (q + 1) 0 (q + 5) (937 * j) 937) (q + 6) j (nI 1)) (q + 6) k = nI 0
          rw [ev_rj z, ev_ca (by omega)]
          exact this
        | some v =>
          rw [e3] at this
          refine ⟨by rw [ev_rj z, ev_ca (by omega)]; exact this.1, RO_eq (hok.2.2.1 k v hk e3) (fun i hi => ?_) this.2⟩
          rw [ev_ra (by omega), ev_co (by omega)]
    · rw [ev_ra (by omega), ev_ca (by omega)]; exact c5
    · rw [ev_ra (by omega), ev_ca (by omega)]; exact c6 i hi
  · have e : op_save s A = (ps_m 2, A) := if_neg (ps_inBN hs (by omega))
    rw [e, if_neg (ps_inBN hs (by omega)), if_pos rfl]
    exact ⟨M, rfl, hC, ps_Fm_rf⟩
theorem mu_rest {M : ps_M} {q : Nat} {A : ps_U} (hq : q + 9 < 1000000) (hC : ps_MU M q A) (hok : ps_okU A) (s : Int32) : ∃ M3, ff_X7_restore q s M = some ((op_rest s A).1, M3) ∧ ps_MU M3 q (op_rest s A).2 ∧ ps_Fm q M M3 := by
  unfold ff_X7_restore
  rw [in_c s 1 (by omega), ps_b2E]
  rcases ps_cas s 2 (by omega) with ⟨j, hj, rfl⟩ | hs
  · have e : op_rest (nI j) A = (match A.2.2.1 j with
        | none => (ps_m 5, A)
        | some v => (nI v.2.1, pa_ch A (nI v.2.1, v))) := by
      unfold op_rest
      rw [if_pos (ev_inB hj (by omega)), nI_clamp (by omega)]
      cases A.2.2.1 j <;> rfl
    rw [e, if_pos (ev_inB hj (by omega)), if_neg (by rw [nI_eq (by omega) (by omega)]; omega), if_pos (ev_inB hj (by omega)), nI_clamp (by omega)]
    have h5 := hC.2.2.1 j hj
    cases e3 : A.2.2.1 j with
    | none =>
      rw [e3] at h5
      have h5' : ps_rd M (q + 6) j = nI 0 := h5
      rw [h5', if_pos rfl]
      exact ⟨M, rfl, hC, ps_Fm_rf⟩
    | some v =>
      rw [e3] at h5
      have ov := hok.2.2.1 j v hj e3
      have hns := ov.2.1.1
      rw [h5.1, if_neg (by rw [nI_eq (by omega) (by omega)]; omega)]
      obtain ⟨M1, e1, C1, b1, F1⟩ := mu_hold hC hok
      have h51 := C1.2.2.1 j hj
      rw [e3] at h51
      have Fo : ps_Fo q M1 (ps_cp M1 (q + 5) (937 * j) (q + 1) 0 937) := ⟨fun a h1 h2 k => ev_ca h1, rfl⟩
      have R2 : ps_RM (ps_cp M1 (q + 5) (937 * j) (q + 1) 0 937) (q + 1) v := by
        refine RO_M ov (fun k hk => ?_) h51.2
        rw [ev_ci (by omega) (by omega)]
        exact congrArg (ps_rd M1 (q + 5)) (by omega)
      have C2 := MU_fo C1 hok Fo R2
      obtain ⟨M3, e4, C3, F3⟩ := mo_rec hq C2 (show ps_okU (v, A.2) from ⟨ov, hok.2⟩) hok.1 (RM_eq hok.1 (fun k _ => ev_ca (by omega)) b1) (rs_n (n := v.2.1) (by omega))
      have key : fk_X7_restore_30 q ps_fu (nI j) (nI 0) M1 = some (nI v.2.1, M3) := by
        refine cp_all (F := fun n k M => fk_X7_restore_30 q n (nI j) (nI k) M) (M := M1) (sa := q + 5) (sp := 937 * j) (da := q + 1) (dp := 0) (cnt := 937) (Or.inl (by omega)) (by omega) (fun n => ?_) (fun n i hi => ?_)
        · rw [fk_X7_restore_30, if_pos (nI_le (by omega) (by omega)), if_pos (ev_inB (by omega) (by omega)), nI_clamp (by omega), R2.2.2.1, e4, ps_b2E]
        · rw [fk_X7_restore_30, if_neg (nI_ge hi (by omega)), pk_mul, nI_add, if_pos (ev_inB (by omega) (by omega)), if_pos (ev_inB hi (by omega)), ps_letE, ps_letE, nI_add, nI_clamp (by omega), nI_clamp (by omega), Nat.zero_add]
      refine ⟨M3, ?_, C3, ps_Fm_tr F1 (ps_Fm_tr (ps_Fm_o Fo) F3)⟩
      rw [e1, ps_b2E]
      exact key
  · have e : op_rest s A = (ps_m 2, A) := if_neg (ps_inBN hs (by omega))
    rw [e, if_neg (ps_inBN hs (by omega)), if_pos rfl]
    exact ⟨M, rfl, hC, ps_Fm_rf⟩
/-! the model: what if -/
/-- a whole song to a parrot of the row -/
theorem mo_all {M0 M1 : ps_M} {q i j : Nat} {v : ps_H} {P0 P : ps_P} (hR : ps_RM M0 (q + 1) v) (hok : ps_okH v) (hj : j < v.2.2.2.1) (hi : i < v.2.1) (h : ps_HR (q + 1) j P0 M0 P M1) : ∃ M2, ff_X7_hearsAll q (nI j) (nI i) M1 = some (nI 0, M2) ∧ ps_HR (q + 1) j P0 M0 (pa_whl v (v.2.2.1 i) P) M2 := by
  have np := hok.2.2.1
  have ns := hok.2.1.1
  obtain ⟨s1, s2, s3⟩ := hok.2.1.2 i hi
  unfold ff_X7_hearsAll
  refine Exists.elim (ps_whR (F := fun n t (P : ps_P) M1 => fk_X7_hearsAll_2 q n (nI j) (nI i) (nI t) M1) (Rel := fun t P M1 => ps_HR (q + 1) j P0 M0 P M1) (v.2.2.1 i).1 (fun _ _ => true) (fun t P => pa_hear v ((v.2.2.1 i).2.1 t) P) (fun t P M1 => some (nI 0, M1)) (fun n t P M1 h1 h2 h3 => ?_) (fun n t P M1 h1 h2 h3 => ?_) (v.2.2.1 i).1 ps_fu 0 P M1 (by omega) (by unfold ps_fu; omega) h) (fun M2 z => ⟨M2, z.1, z.2⟩)
  · have c : ¬ t < (v.2.2.1 i).1 := fun c => absurd (h3 c) (by simp)
    obtain ⟨u1, u3⟩ := RM_song hok hR h2.2.2.1 hi
    rw [fk_X7_hearsAll_2, n_spec, ps_b2E, if_pos (ev_inB (by omega) (by omega)), nI_clamp (by omega), u1, if_pos (nI_le (by omega) (by omega))]
  · obtain ⟨u1, u3⟩ := RM_song hok hR h2.2.2.1 hi
    obtain ⟨M2, e2, R2⟩ := HR_step hR.1 hok (by omega) (s3 t h1) h2
    refine ⟨M2, ?_, R2⟩
    rw [fk_X7_hearsAll_2, n_spec, ps_b2E, if_pos (ev_inB (by omega) (by omega)), nI_clamp (by omega), u1, if_neg (nI_ge h1 (by omega)), n_spec, ps_b2E, nI_add, nI_add, if_pos (ev_inB (by omega) (by omega)), nI_clamp (by omega), u3 t h1, e2, ps_b2E, ps_letE, nI_add]
/-- the trial is over: all is as it was -/
theorem mu_back {M M1 M2 : ps_M} {q : Nat} {A : ps_U} (hC : ps_MU M q A) (hok : ps_okU A) (h1 : M1 = ps_cp M (q + 1) 0 (q + 3) 0 937) (hF : ps_Fo q M1 M2) : ∃ M3, ff_X7_putBack q M2 = some (nI 0, M3) ∧ ps_MU M3 q A ∧ ps_Fm q M M3 := by
  refine ⟨_, mo_putB, MU_eq hC hok (fun k hk => ?_) ?_ ?_ (fun a ha k => ?_), ?_⟩
  · rw [ev_ci (by omega) (by omega), hF.1 _ (by omega) (by omega), h1, ev_ci (by omega) (by omega)]
    exact congrArg (ps_rd M (q + 1)) (by omega)
  · rw [ev_ca (by omega), hF.1 _ (by omega) (by omega), h1, ev_ca (by omega)]
  · rw [ev_ca (by omega), hF.1 _ (by omega) (by omega), h1, ev_ca (by omega)]
  · rw [ev_ca (by omega), hF.1 _ (by omega) (by omega), h1, ev_ca (by omega)]
  · subst h1
    exact ps_Fm_tr (ps_Fm_cp (by omega) (by omega)) (ps_Fm_tr (ps_Fm_o hF) (ps_Fm_cp (by omega) (by omega)))
theorem HR_last {M0 M1 : ps_M} {s j : Nat} {P0 P : ps_P} (hj : j < 4) (h : ps_HR s j P0 M0 P M1) : ps_HR s j P0 M0 (P.1, none, P.2.2) (ps_st M1 s (185 + 5 * j + 1) (ps_m 1)) := by
  obtain ⟨⟨p1, p2, p3, p4, p5⟩, h2, h3, d, h4, h5⟩ := h
  exact ⟨⟨ML_fs (Nat.le_trans h2.1 (by omega)) (fun k hk => ev_rj (by omega)) p1, ev_rs, by rw [ev_rj (by omega)]; exact p3, by rw [ev_rj (by omega)]; exact p4, by rw [ev_rj (by omega)]; exact p5⟩, ⟨h2.1, h2.2.1, fun b e => by cases e⟩, ps_Fs_tr h3 (ps_Fs_st (by omega)), d, h4, by rw [ev_rj (by omega)]; exact h5⟩
theorem HR_hu {M0 M1 : ps_M} {q i j : Nat} {v : ps_H} {P0 P : ps_P} (hR : ps_RM M0 (q + 1) v) (hok : ps_okH v) (hj : j < 4) (hi : i < v.2.1) (h : ps_HR (q + 1) j P0 M0 P M1) : ff_X7_hundredths q (nI j) (nI i) M1 = some (nI (pa_hu P.1 (v.2.2.1 i)), M1) := mo_hu (MS_eq hok.2.1 (fun k a b => h.2.2.1.2.2 k (by omega) (by omega) (by omega)) hR.2.2.2.2.2.2.1) hok.2.1 h.1.1 hj (Nat.le_trans h.2.1.1 (by omega)) h.2.1.2.1 hi
theorem wh_mono {σ : Type} {go : Nat → σ → Bool} {step : Nat → σ → σ} : ∀ (k i : Nat) (s : σ), ((ps_wh go step (k + 1) i s).1 < i + (k + 1) ↔ go (ps_wh go step k i s).1 (ps_wh go step k i s).2 = false) ∧ ((ps_wh go step (k + 1) i s).1 < i + (k + 1) → (ps_wh go step (k + 1) i s).1 = (ps_wh go step k i s).1)
  | 0, i, s => by
    simp only [ps_wh]
    by_cases h : go i s = true
    · rw [if_pos h, h]
      simp
    · rw [if_neg h]
      simp at h
      simp [h]
  | k + 1, i, s => by
    have ih := wh_mono (go := go) (step := step) k (i + 1) (step i s)
    unfold ps_wh
    by_cases h : go i s = true
    · rw [if_pos h, if_pos h]
      rw [show i + (k + 1 + 1) = i + 1 + (k + 1) by omega]
      exact ih
    · rw [if_neg h, if_neg h]
      simp at h
      simp [h]
theorem mu_lf {M : ps_M} {q : Nat} {A : ps_U} (hC : ps_MU M q A) (hok : ps_okU A) (p s : Int32) : ∃ M3, ff_X7_lessonsFor q p s M = some (qa_lf p s A.1, M3) ∧ ps_MU M3 q A ∧ ps_Fm q M M3 := by
  have np := hok.1.2.2.1
  have ns := hok.1.2.1.1
  unfold ff_X7_lessonsFor qa_lf
  rcases ps_cas p A.1.2.2.2.1 (by omega) with ⟨j, hj, rfl⟩ | hp
  · rw [mo_isP hC.1 hok.1 hj, ps_b2E, if_neg (by rw [nI_eq (by omega) (by omega)]; omega)]
    rcases ps_cas s A.1.2.1 (by omega) with ⟨i, hi, rfl⟩ | hs
    · rw [mo_isS hC.1 hok.1 hi, ps_b2E, if_neg (by rw [nI_eq (by omega) (by omega)]; omega), if_pos ⟨ev_inB hj (by omega), ev_inB hi (by omega)⟩, nI_clamp (by omega), nI_clamp (by omega), mo_keepT, ps_b2E]
      obtain ⟨M1, hM1⟩ : ∃ M1, M1 = ps_cp M (q + 1) 0 (q + 3) 0 937 := ⟨_, rfl⟩
      rw [← hM1]
      have R1 : ps_RM M1 (q + 1) A.1 := RM_eq hok.1 (fun k _ => by rw [hM1, ev_ca (by omega)]) hC.1
      obtain ⟨s1, s2, s3⟩ := hok.1.2.1.2 i hi
      have h0 : ps_HR (q + 1) j (A.1.2.2.2.2.1 j) M1 (A.1.2.2.2.2.1 j) M1 := HR_rf (R1.2.2.2.2.2.2.2 j hj) (hok.1.2.2.2.1 j)
      have fin : ∀ k P M2, ps_HR (q + 1) j (A.1.2.2.2.2.1 j) M1 P M2 → ∃ M3, fk_X7_lessonsFor_65 q (nI j) (nI i) (nI k) M2 = some (if pa_kn P.1 (A.1.2.2.1 i) = true then nI k else ps_m 6, M3) ∧ ps_MU M3 q A ∧ ps_Fm q M M3 := by
        intro k P M2 hP
        obtain ⟨M3, e3, C3, F3⟩ := mu_back hC hok hM1 (ps_Fo_s hP.2.2.1)
        obtain ⟨k1, k2⟩ := hu_kn (L := P.1) s1
        refine ⟨M3, ?_, C3, F3⟩
        unfold fk_X7_lessonsFor_65
        rw [HR_hu R1 hok.1 (by omega) hi hP, ps_b2E, e3, ps_b2E, ps_b2E]
        by_cases c : pa_kn P.1 (A.1.2.2.1 i) = true
        · rw [k1.mpr c, if_pos rfl, if_pos c]
        · rw [if_neg (fun z => c (k1.mp ((nI_eq (by omega) (by omega)).mp z))), if_neg c]
      refine Exists.elim (ps_whR (F := fun n k (P : ps_P) M1 => fk_X7_lessonsFor_24 q n (nI j) (nI i) (nI k) M1) (Rel := fun k P M2 => ps_HR (q + 1) j (A.1.2.2.2.2.1 j) M1 P M2) 30 (fun _ P => !(pa_kn P.1 (A.1.2.2.1 i))) (fun _ P => pa_whl A.1 (A.1.2.2.1 i) (P.1, none, P.2.2)) (fun k P M1 => fk_X7_lessonsFor_65 q (nI j) (nI i) (nI k) M1) (fun n k P M2 h1 h2 h3 => ?_) (fun n k P M2 h1 h2 h3 => ?_) 30 ps_fu 0 (A.1.2.2.2.2.1 j) M1 (by omega) (by unfold ps_fu; omega) h0) (fun M2 z => ?_)
      · rw [fk_X7_lessonsFor_24]
        by_cases c : k < 30
        · have c2 : pa_kn P.1 (A.1.2.2.1 i) = true := by simpa using h3 c
          rw [if_neg (nI_ge c (by omega)), HR_hu R1 hok.1 (by omega) hi h2, ps_b2E, (hu_kn s1).1.mpr c2, if_pos (nI_le (by omega) (by omega))]
        · rw [if_pos (nI_le (by omega) (by omega))]
      · have c2 : ¬ pa_kn P.1 (A.1.2.2.1 i) = true := by simpa using h3
        obtain ⟨k1, k2⟩ := hu_kn (L := P.1) s1
        have c3 : ¬ pa_hu P.1 (A.1.2.2.1 i) = 100 := fun z => c2 (k1.mp z)
        obtain ⟨M4, e4, H4⟩ := mo_all R1 hok.1 hj hi (HR_last (by omega) h2)
        refine ⟨M4, ?_, H4⟩
        rw [fk_X7_lessonsFor_24, if_neg (nI_ge h1 (by omega)), HR_hu R1 hok.1 (by omega) hi h2, ps_b2E, if_neg (nI_ge (by omega) (by omega)), p_spec, ps_b2E, nI_add, if_pos (ev_inB (by omega) (by omega)), nI_clamp (by omega), ps_letE, e4, ps_b2E, ps_letE, nI_add]
      · obtain ⟨e, z1⟩ := z
        obtain ⟨M3, e3, C3, F3⟩ := fin _ _ _ z1
        refine ⟨M3, ?_, C3, F3⟩
        rw [e, e3]
        obtain ⟨w1, w2⟩ := wh_mono (go := fun _ (P : ps_P) => !(pa_kn P.1 (A.1.2.2.1 i))) (step := fun _ P => pa_whl A.1 (A.1.2.2.1 i) (P.1, none, P.2.2)) 30 0 (A.1.2.2.2.2.1 j)
        rw [Nat.zero_add] at w1 w2
        unfold pa_lf
        by_cases c : (ps_wh (fun _ (P : ps_P) => !(pa_kn P.1 (A.1.2.2.1 i))) (fun _ P => pa_whl A.1 (A.1.2.2.1 i) (P.1, none, P.2.2)) (30 + 1) 0 (A.1.2.2.2.2.1 j)).1 < 30 + 1
        · have := w1.mp c
          rw [if_pos (by simpa using this), if_pos c, w2 c]
        · have : ¬ _ = false := fun z => c (w1.mpr z)
          rw [if_neg (by simpa using this), if_neg c]
    · rw [mo_isSN hC.1 hok.1 hs, ps_b2E, if_pos rfl, if_neg (fun (z : ps_inB (nI j) A.1.2.2.2.1 = true ∧ ps_inB s A.1.2.1 = true) => ps_inBN hs (by omega) z.2)]
      exact ⟨M, rfl, hC, ps_Fm_rf⟩
  · rw [mo_isPN hC.1 hok.1 hp, ps_b2E, if_pos rfl, if_neg (fun (z : ps_inB p A.1.2.2.2.1 = true ∧ ps_inB s A.1.2.1 = true) => ps_inBN hp (by omega) z.1)]
    exact ⟨M, rfl, hC, ps_Fm_rf⟩
