/-! the model: how long a song is kept, and the best lesson -/
theorem mu_kp {M : ps_M} {q : Nat} {A : ps_U} (hC : ps_MU M q A) (hok : ps_okU A) (p s : Int32) : ∃ M3, ff_X7_keeps q p s M = some (qa_kp p s A.1, M3) ∧ ps_MU M3 q A ∧ ps_Fm q M M3 := by
  have np := hok.1.2.2.1
  have ns := hok.1.2.1.1
  unfold ff_X7_keeps qa_kp
  rcases ps_cas p A.1.2.2.2.1 (by omega) with ⟨j, hj, rfl⟩ | hp
  · rw [mo_isP hC.1 hok.1 hj, ps_b2E, if_neg (by rw [nI_eq (by omega) (by omega)]; omega)]
    rcases ps_cas s A.1.2.1 (by omega) with ⟨i, hi, rfl⟩ | hs
    · rw [mo_isS hC.1 hok.1 hi, ps_b2E, if_neg (by rw [nI_eq (by omega) (by omega)]; omega), if_pos ⟨ev_inB hj (by omega), ev_inB hi (by omega)⟩, nI_clamp (by omega), nI_clamp (by omega), mo_keepT, ps_b2E]
      obtain ⟨M1, hM1⟩ : ∃ M1, M1 = ps_cp M (q + 1) 0 (q + 3) 0 937 := ⟨_, rfl⟩
      rw [← hM1]
      have R1 : ps_RM M1 (q + 1) A.1 := RM_eq hok.1 (fun k _ => by rw [hM1, ev_ca (by omega)]) hC.1
      obtain ⟨s1, s2, s3⟩ := hok.1.2.1.2 i hi
      have hun : ∀ (pf : Nat → ps_P) (n : Nat) (M2 : ps_M), ps_RM M2 (q + 1) (A.1.1, A.1.2.1, A.1.2.2.1, A.1.2.2.2.1, pf, n) → ps_okH (pa_z (A.1.1, A.1.2.1, A.1.2.2.1, A.1.2.2.2.1, pf, n)) → ff_X7_hundredths q (nI j) (nI i) M2 = some (nI (pa_hu (pf j).1 (A.1.2.2.1 i)), M2) := by
        intro pf n M2 hR2 ho
        have hPo : ps_ok (pf j) := ho.2.2.2.1 j
        exact mo_hu hR2.2.2.2.2.2.2.1 hok.1.2.1 (hR2.2.2.2.2.2.2.2 j hj).1 (by omega) (Nat.le_trans hPo.1 (by omega)) hPo.2.1 hi
      have fin : ∀ k (pf : Nat → ps_P) (n : Nat) M2, ps_RM M2 (q + 1) (A.1.1, A.1.2.1, A.1.2.2.1, A.1.2.2.2.1, pf, n) → ps_okH (pa_z (A.1.1, A.1.2.1, A.1.2.2.1, A.1.2.2.2.1, pf, n)) → ps_Fo q M1 M2 → ∃ M3, fk_X7_keeps_53 q (nI j) (nI i) (nI k) M2 = some (if pa_kn (pf j).1 (A.1.2.2.1 i) = true then ps_m 6 else nI k, M3) ∧ ps_MU M3 q A ∧ ps_Fm q M M3 := by
        intro k pf n M2 hR2 ho hF
        obtain ⟨M3, e3, C3, F3⟩ := mu_back hC hok hM1 hF
        obtain ⟨k1, k2⟩ := hu_kn (L := (pf j).1) s1
        refine ⟨M3, ?_, C3, F3⟩
        unfold fk_X7_keeps_53
        rw [hun pf n M2 hR2 ho, ps_b2E, e3, ps_b2E, ps_b2E]
        by_cases c : pa_kn (pf j).1 (A.1.2.2.1 i) = true
        · rw [k1.mpr c, if_pos (nI_le (by omega) (by omega)), if_pos c]
        · have c3 : ¬ pa_hu (pf j).1 (A.1.2.2.1 i) = 100 := fun z => c (k1.mp z)
          rw [if_neg (nI_ge (by omega) (by omega)), if_neg c]
      refine Exists.elim (ps_whR (F := fun n k (P : ps_P) M1 => fk_X7_keeps_24 q n (nI j) (nI i) (nI k) M1) (Rel := fun k P M2 => ∃ (pf : Nat → ps_P) (n : Nat), ps_RM M2 (q + 1) (A.1.1, A.1.2.1, A.1.2.2.1, A.1.2.2.2.1, pf, n) ∧ ps_okH (pa_z (A.1.1, A.1.2.1, A.1.2.2.1, A.1.2.2.2.1, pf, n)) ∧ pf j = P ∧ n ≤ 999 + k ∧ ps_Fo q M1 M2) 30 (fun _ P => pa_kn P.1 (A.1.2.2.1 i)) (fun _ P => ps_sl (A.1.1 1) P) (fun k P M1 => fk_X7_keeps_53 q (nI j) (nI i) (nI k) M1) (fun n k P M2 h1 h2 h3 => ?_) (fun n k P M2 h1 h2 h3 => ?_) 30 ps_fu 0 (A.1.2.2.2.2.1 j) M1 (by omega) (by unfold ps_fu; omega) ⟨A.1.2.2.2.2.1, A.1.2.2.2.2.2, R1, ok_z hok.1, rfl, Nat.le_trans hok.1.2.2.2.2.2 (by omega), ps_Fo_rf⟩) (fun M2 z => ?_)
      · obtain ⟨pf, n2, y1, y2, rfl, y4, y5⟩ := h2
        rw [fk_X7_keeps_24]
        by_cases c : k < 30
        · have c2 : ¬ pa_kn (pf j).1 (A.1.2.2.1 i) = true := by rw [h3 c]; simp
          have c3 : ¬ pa_hu (pf j).1 (A.1.2.2.1 i) = 100 := fun z => c2 ((hu_kn s1).1.mp z)
          have k2 := (hu_kn (L := (pf j).1) s1).2
          rw [if_neg (nI_ge c (by omega)), hun pf n2 M2 y1 y2, ps_b2E, if_neg (by rw [nI_eq (by omega) (by omega)]; exact c3)]
        · rw [if_pos (nI_le (by omega) (by omega))]
      · obtain ⟨pf, n2, y1, y2, rfl, y4, y5⟩ := h2
        obtain ⟨M4, e4, R4, F4⟩ := mo_nights y1 y2 (Nat.lt_of_le_of_lt y4 (by omega))
        refine ⟨M4, ?_, _, _, R4, ok_nt0 y2, ?_, ?_, ps_Fo_tr y5 F4⟩
        · rw [fk_X7_keeps_24, if_neg (nI_ge h1 (by omega)), hun pf n2 M2 y1 y2, ps_b2E, (hu_kn s1).1.mpr h3, if_pos rfl, e4, ps_b2E, ps_letE, nI_add]
        · show (if decide (j < A.1.2.2.2.1) = true then _ else _) = _
          rw [if_pos (decide_eq_true hj)]
        · show n2 + 1 ≤ 999 + (k + 1)
          omega
      · obtain ⟨e, pf, n2, y1, y2, y3, y4, y5⟩ := z
        obtain ⟨M3, e3, C3, F3⟩ := fin (ps_wh (fun _ (P : ps_P) => pa_kn P.1 (A.1.2.2.1 i)) (fun _ P => ps_sl (A.1.1 1) P) 30 0 (A.1.2.2.2.2.1 j)).1 pf n2 M2 y1 y2 y5
        refine ⟨M3, ?_, C3, F3⟩
        rw [e, e3, y3]
        obtain ⟨w1, w2⟩ := wh_mono (go := fun _ (P : ps_P) => pa_kn P.1 (A.1.2.2.1 i)) (step := fun _ P => ps_sl (A.1.1 1) P) 30 0 (A.1.2.2.2.2.1 j)
        rw [Nat.zero_add] at w1 w2
        unfold pa_kp
        by_cases c : (ps_wh (fun _ (P : ps_P) => pa_kn P.1 (A.1.2.2.1 i)) (fun _ P => ps_sl (A.1.1 1) P) (30 + 1) 0 (A.1.2.2.2.2.1 j)).1 < 30 + 1
        · have := w1.mp c
          rw [if_neg (by rw [this]; simp), if_pos c, w2 c]
        · have : ¬ _ = false := fun z => c (w1.mpr z)
          rw [if_pos (by simpa using this), if_neg c]
    · rw [mo_isSN hC.1 hok.1 hs, ps_b2E, if_pos rfl, if_neg (fun (z : ps_inB (nI j) A.1.2.2.2.1 = true ∧ ps_inB s A.1.2.1 = true) => ps_inBN hs (by omega) z.2)]
      exact ⟨M, rfl, hC, ps_Fm_rf⟩
  · rw [mo_isPN hC.1 hok.1 hp, ps_b2E, if_pos rfl, if_neg (fun (z : ps_inB p A.1.2.2.2.1 = true ∧ ps_inB s A.1.2.1 = true) => ps_inBN hp (by omega) z.1)]
    exact ⟨M, rfl, hC, ps_Fm_rf⟩
theorem mu_bl {M : ps_M} {q : Nat} {A : ps_U} (hC : ps_MU M q A) (hok : ps_okU A) (p w : Int32) : ∃ M3, ff_X7_bestLesson q p w M = some (qa_bl p w A.1, M3) ∧ ps_MU M3 q A ∧ ps_Fm q M M3 := by
  have np := hok.1.2.2.1
  have ns := hok.1.2.1.1
  unfold ff_X7_bestLesson qa_bl
  rcases ps_cas p A.1.2.2.2.1 (by omega) with ⟨j, hj, rfl⟩ | hp
  · have hPo := hok.1.2.2.2.1 j
    rw [mo_isP hC.1 hok.1 hj, ps_b2E, if_neg (by rw [nI_eq (by omega) (by omega)]; omega), if_pos (ev_inB hj (by omega)), nI_clamp (by omega), in_c w 1 (by omega), ps_b2E]
    rcases ps_cas w 2 (by omega) with ⟨k, hk, rfl⟩ | hw
    · have hk2 : nI k = nI 0 ∨ nI k = nI 1 := by
        obtain rfl | rfl : k = 0 ∨ k = 1 := by omega
        · exact Or.inl rfl
        · exact Or.inr rfl
      rw [if_pos (ev_inB hk (by omega)), if_neg (by rw [nI_eq (by omega) (by omega)]; omega), if_pos hk2, mo_known hC.1.2.2.1 hC.1.2.2.2.2.2.2.1 hok.1.2.1 (hC.1.2.2.2.2.2.2.2 j hj).1 (by omega) (Nat.le_trans hPo.1 (by omega)) hPo.2.1, ps_b2E]
      refine Exists.elim (ps_whR (F := fun n i (s : Int32 × Int32) M1 => fk_X7_bestLesson_35 q n (nI j) (nI k) s.2 s.1 (nI i) M1) (Rel := fun i s M1 => ps_MU M1 q A ∧ ps_Fm q M M1) A.1.2.1 (fun _ _ => true) (fun i s => if pa_all (pa_whl A.1 (A.1.2.2.1 i) (A.1.2.2.2.2.1 j)).1 A.1.2.1 A.1.2.2.1 ≤ s.2 then s else (nI i, pa_all (pa_whl A.1 (A.1.2.2.1 i) (A.1.2.2.2.2.1 j)).1 A.1.2.1 A.1.2.2.1)) (fun i s M1 => some (if s.1 = ps_m 6 then ps_m 6 else if nI k = nI 0 then s.1 else s.2, M1)) (fun n i s M1 h1 h2 h3 => ?_) (fun n i s M1 h1 h2 h3 => ?_) A.1.2.1 ps_fu 0 (ps_m 6, pa_all (A.1.2.2.2.2.1 j).1 A.1.2.1 A.1.2.2.1) M (by omega) (by unfold ps_fu; omega) ⟨hC, ps_Fm_rf⟩) (fun M1 z => ⟨M1, z.1, z.2⟩)
      · have c : ¬ i < A.1.2.1 := fun c => absurd (h3 c) (by simp)
        rw [fk_X7_bestLesson_35, if_pos (ev_inB (by omega) (by omega)), nI_clamp (by omega), h2.1.1.2.2.1, if_pos (nI_le (by omega) (by omega))]
        by_cases c2 : s.1 = ps_m 6
        · rw [if_pos c2, if_pos c2, c2]
        · rw [if_neg c2, if_neg c2]
          by_cases c3 : nI k = nI 0
          · rw [if_pos c3, if_pos c3]
          · rw [if_neg c3, if_neg c3]
      · obtain ⟨M2, hM2⟩ : ∃ M2, M2 = ps_cp M1 (q + 1) 0 (q + 3) 0 937 := ⟨_, rfl⟩
        have R2 : ps_RM M2 (q + 1) A.1 := RM_eq hok.1 (fun k _ => by rw [hM2, ev_ca (by omega)]) h2.1.1
        have h0 : ps_HR (q + 1) j (A.1.2.2.2.2.1 j) M2 (A.1.2.2.2.2.1 j) M2 := HR_rf (R2.2.2.2.2.2.2.2 j hj) hPo
        obtain ⟨M4, e4, H4⟩ := mo_all R2 hok.1 hj h1 h0
        have hkn := mo_known (by rw [H4.2.2.1.2.2 _ (by omega) (by omega) (by omega)]; exact R2.2.2.1) (MS_eq hok.1.2.1 (fun k a b => H4.2.2.1.2.2 k (by omega) (by omega) (by omega)) R2.2.2.2.2.2.2.1) hok.1.2.1 H4.1.1 (by omega) (Nat.le_trans H4.2.1.1 (by omega)) H4.2.1.2.1
        obtain ⟨M5, e5, C5, F5⟩ := mu_back h2.1 hok hM2 (ps_Fo_s H4.2.2.1)
        refine ⟨M5, ?_, C5, ps_Fm_tr h2.2 F5⟩
        rw [fk_X7_bestLesson_35, if_pos (ev_inB (by omega) (by omega)), nI_clamp (by omega), h2.1.1.2.2.1, if_neg (nI_ge h1 (by omega)), mo_keepT, ps_b2E, ← hM2, e4, ps_b2E, hkn, ps_b2E, e5, ps_b2E]
        by_cases c : pa_all (pa_whl A.1 (A.1.2.2.1 i) (A.1.2.2.2.2.1 j)).1 A.1.2.1 A.1.2.2.1 ≤ s.2
        · rw [if_pos c, if_pos c, if_pos c, ps_letE, nI_add]
        · rw [if_neg c, if_neg c, if_neg c, ps_letE, nI_add]
    · rw [if_neg (ps_inBN hw (by omega)), if_pos rfl, if_neg (fun z => z.elim (no_ne hw (by omega) (by omega)) (no_ne hw (by omega) (by omega)))]
      exact ⟨M, rfl, hC, ps_Fm_rf⟩
  · rw [mo_isPN hC.1 hok.1 hp, ps_b2E, if_pos rfl, if_neg (ps_inBN hp (by omega))]
    exact ⟨M, rfl, hC, ps_Fm_rf⟩
