/-! the law's end, and its whole road from pc 8 on -/
theorem ph_last (H : Nat × (Nat → ps_H)) (v : ps_H) : 1 ≤ (pa_ph H v).1 ∧ (pa_ph H v).2 ((pa_ph H v).1 - 1) = v := by
  unfold pa_ph
  by_cases c : H.1 < 6
  · rw [if_pos c]
    exact ⟨by show 1 ≤ H.1 + 1; omega, by show (if H.1 + 1 - 1 = H.1 then v else _) = v; rw [if_pos (by omega)]⟩
  · rw [if_neg c]
    exact ⟨by show 1 ≤ 6; omega, by show (if 6 - 1 < 5 then H.2 (6 - 1 + 1) else v) = v; rw [if_neg (by omega)]⟩
theorem lw_224 {Ls : Nat} {sc : Nat → Int32} {M : ps_M} {A : ps_U} (hC : ps_CL M A) (hok : ps_okU A) (hs : A.2.2.1 1 = some A.1) (hn : A.1.2.2.2.2.2 < 900) (a2 a4 a5 a6 a7 : Int32) : ∃ M1, fk_L_law_224 Ls sc 0 a2 (nI A.1.2.1) a4 a5 a6 a7 (nI 1) M = some (nI 1, M1) := by
  have h8 := hok.1.2.1.1
  obtain ⟨M1, e1, c1, -⟩ := cl_nt hC hok
  have o1 : ps_okU (pa_ch A (op_nt A.1)) := ok_ch hok (ok_nt hok.1)
  have x1 : (op_nt A.1).1 = pa_gone A.1 := by unfold op_nt; rw [if_pos (by omega)]
  obtain ⟨m, m1, m2⟩ := gone_n hok.1
  rw [x1, m2] at e1
  have hs1 : (pa_ch A (op_nt A.1)).2.2.1 1 = some A.1 := hs
  generalize pa_ch A (op_nt A.1) = B at c1 o1 hs1
  obtain ⟨M2, e2, c2, -⟩ := cl_set c1 o1 (nI 1) (nI 3)
  have o2 : ps_okU (pa_ch B (op_set (nI 1) (nI 3) B.1)) := ok_ch o1 (ok_set o1.1 _ _)
  have x2 : op_set (nI 1) (nI 3) B.1 = (nI (B.1.1 1), ((fun k => if k = 1 then 3 else B.1.1 k), B.1.2)) := by
    unfold op_set
    rw [if_pos (ev_inB (by omega) (by omega)), nI_clamp (show 1 < 2 ^ 31 by omega), if_pos ⟨(show nI 0 ≤ nI 3 by decide), (show nI 3 ≤ nI 3 by decide)⟩, nI_clamp (show 3 < 2 ^ 31 by omega)]
  have hf : B.1.1 1 ≤ 3 := o1.1.1.2.1
  have s3 : (pa_ch B (op_set (nI 1) (nI 3) B.1)).1.1 1 = 3 := by
    show (op_set (nI 1) (nI 3) B.1).2.1 1 = 3
    rw [x2]
    rfl
  have hs2 : (pa_ch B (op_set (nI 1) (nI 3) B.1)).2.2.1 1 = some A.1 := hs1
  have e2b : ff_X6_set 0 (nI 1) (nI 3) M1 = some (nI (B.1.1 1), M2) := by rw [e2, x2]
  generalize pa_ch B (op_set (nI 1) (nI 3) B.1) = D at c2 o2 s3 hs2
  obtain ⟨M3, e3, c3, -⟩ := cl_rest c2 o2 (nI 1)
  have o3 := ok_rest o2 (nI 1)
  have x3 : op_rest (nI 1) D = (nI A.1.2.1, pa_ch D (nI A.1.2.1, A.1)) := by
    unfold op_rest
    rw [if_pos (ev_inB (by omega) (by omega)), nI_clamp (show 1 < 2 ^ 31 by omega), hs2]
  rw [x3] at e3 c3 o3
  obtain ⟨p1, p2⟩ := ph_last D.2.1 D.1
  have x4 : (pa_ch D (nI A.1.2.1, A.1)).2.1 = pa_ph D.2.1 D.1 := by
    show (if pa_er (nI A.1.2.1) = true then D.2.1 else pa_ph D.2.1 D.1) = _
    rw [if_neg (by rw [er_n (by omega)]; decide)]
  obtain ⟨M4, e4, c4, -⟩ := cl_undo c3 o3
  have o4 := ok_undo o3
  have x5 : op_undo (pa_ch D (nI A.1.2.1, A.1)) = (nI ((pa_ph D.2.1 D.1).1 - 1), (D.1, ((pa_ph D.2.1 D.1).1 - 1, (pa_ph D.2.1 D.1).2), D.2.2)) := by
    unfold op_undo
    rw [x4, if_neg (by omega), p2]
    rfl
  have hl6 : (pa_ph D.2.1 D.1).1 ≤ 6 := by rw [← x4]; exact o3.2.1.1
  rw [x5] at e4 c4 o4
  refine ⟨M4, ?_⟩
  unfold fk_L_law_224
  rw [e_c5 hC hok, ps_b2E, if_neg (by decide), e1, ps_b2E, if_neg (nI_nlt (Nat.zero_le _) (by omega)), e2b, ps_b2E, if_neg (nI_nlt (Nat.zero_le _) (by omega)), e3, ps_b2E, if_pos rfl, e_c5 c3 o3, ps_b2E, if_pos ?_, e4, ps_b2E, if_neg ?_, e_c9 c4 o4, ps_b2E, if_pos ?_]
  · show nI (D.1.1 1) = nI 3
    rw [s3]
  · show ¬ nI ((pa_ph D.2.1 D.1).1 - 1) < nI 0
    exact nI_nlt (Nat.zero_le _) (by omega)
  · rfl
theorem lw_142 {Ls : Nat} {sc : Nat → Int32} {A : ps_U} (hok : ps_okU A) (hI : li_V 37 A.1) (hs : A.2.2.1 1 = some A.1) : ∀ (k n j : Nat) (M : ps_M), j + k = A.1.2.1 → k < n → ps_CL M A → ∃ M1, fk_L_law_142 Ls sc n 0 (nI 1) (nI A.1.2.1) (qa_bl (nI 0) (nI 0) A.1) (qa_bl (nI 0) (nI 1) A.1) (pa_sm (fun i => nI (pa_hu (A.1.2.2.2.2.1 0).1 (A.1.2.2.1 i))) j) (nI j) M = some (nI 1, M1) := by
  have h4 := hok.1.2.2.1
  have h8 := hok.1.2.1.1
  have i1 := hI.1
  have i3 := hI.2.2.1
  intro k
  induction k with
  | zero =>
    intro n j M h1 h2 hC
    obtain ⟨n, rfl⟩ : ∃ q, n = q + 1 := ⟨n - 1, by omega⟩
    have ej : j = A.1.2.1 := by omega
    obtain ⟨M1, c1, e1⟩ := lw_songs hC hok
    rw [fk_L_law_142, if_pos (nI_le (by omega) (by omega)), if_neg (by decide), li_sums hC hok (by omega) hI, ps_b2E, if_neg (by decide), e1, ps_b2E, if_neg (by decide)]
    have hend : ∀ (a4 a5 a6 a7 : Int32), ∃ M2, fk_L_law_219 Ls sc 0 (nI 1) (nI A.1.2.1) a4 a5 a6 a7 M1 = some (nI 1, M2) := fun a4 a5 a6 a7 => lw_224 c1 hok hs (by omega) _ _ _ _ _
    obtain ⟨b1, b2⟩ := bl_sp A.1 (A.1.2.2.2.2.1 0)
    have q0 : qa_bl (nI 0) (nI 0) A.1 = if (pa_bl A.1 (A.1.2.2.2.2.1 0)).1 = ps_m 6 then ps_m 6 else (pa_bl A.1 (A.1.2.2.2.2.1 0)).1 := by
      unfold qa_bl
      rw [if_pos (ev_inB (by omega) (by omega)), if_pos (Or.inl rfl), nI_clamp (show 0 < 2 ^ 31 by omega), if_pos (rfl : nI 0 = nI 0)]
    have q1 : qa_bl (nI 0) (nI 1) A.1 = if (pa_bl A.1 (A.1.2.2.2.2.1 0)).1 = ps_m 6 then ps_m 6 else (pa_bl A.1 (A.1.2.2.2.2.1 0)).2 := by
      unfold qa_bl
      rw [if_pos (ev_inB (by omega) (by omega)), if_pos (Or.inr rfl), nI_clamp (show 0 < 2 ^ 31 by omega), if_neg (show ¬ nI 1 = nI 0 by decide)]
    rcases b1 with b | ⟨i, hi, b, b3⟩
    · rw [q0, q1, if_pos b, if_pos b, if_neg (show ¬ nI 0 ≤ ps_m 6 by decide), if_pos rfl, if_pos rfl]
      exact hend _ _ _ _
    · have nb : ¬ (pa_bl A.1 (A.1.2.2.2.2.1 0)).1 = ps_m 6 := by
        rw [b, ev_eqm (by omega) (by omega) (by omega)]
        exact not_false
      rw [q0, q1, if_neg nb, if_neg nb, b, if_pos (nI_le (Nat.zero_le _) (by omega)), if_neg (nI_ge hi (by omega)), if_neg (by rw [ej]; exact b3)]
      exact hend _ _ _ _
  | succ k ih =>
    intro n j M h1 h2 hC
    obtain ⟨n, rfl⟩ : ∃ q, n = q + 1 := ⟨n - 1, by omega⟩
    rw [fk_L_law_142, if_neg (nI_ge (by omega) (by omega)), e_knows hC.1 hok.1 (by omega) (by omega), ps_b2E, ps_letE, ps_letE, nI_add, ← sm_s (fun i => nI (pa_hu (A.1.2.2.2.2.1 0).1 (A.1.2.2.1 i))) j]
    exact ih n (j + 1) M (by omega) (by omega) hC
theorem lw_114 {Ls : Nat} {sc : Nat → Int32} {M : ps_M} {A : ps_U} (hC : ps_CL M A) (hok : ps_okU A) (hI : li_V 37 A.1) (a3 : Int32) : ∃ M1, fk_L_law_114 Ls sc 0 (nI 1) a3 M = some (nI 1, M1) := by
  have h8 := hok.1.2.1.1
  obtain ⟨M1, e1, c1, -⟩ := cl_save hC hok (nI 1)
  have o1 := ok_save hok (nI 1)
  have x1 : op_save (nI 1) A = (nI A.1.2.1, (A.1, A.2.1, (fun k => if k = 1 then some A.1 else A.2.2.1 k), A.2.2.2)) := by
    unfold op_save
    rw [if_pos (ev_inB (by omega) (by omega)), nI_clamp (show 1 < 2 ^ 31 by omega)]
  have e1b : ff_X6_save 0 (nI 1) M = some (nI A.1.2.1, M1) := by rw [e1, x1]
  have g1 : (op_save (nI 1) A).2.1 = A.1 := by rw [x1]
  have g2 : (op_save (nI 1) A).2.2.2.1 1 = some A.1 := by rw [x1]; rfl
  generalize (op_save (nI 1) A).2 = B at c1 o1 g1 g2
  obtain ⟨M2, e2, c2, -⟩ := q_pu c1 o1 (cq_bl c1.1 o1.1 (nI 0) (nI 0))
  obtain ⟨M3, e3, c3, -⟩ := q_pu c2 o1 (cq_bl c2.1 o1.1 (nI 0) (nI 1))
  obtain ⟨M4, e4⟩ := lw_142 (Ls := Ls) (sc := sc) o1 (by rw [g1]; exact hI) (by rw [g1]; exact g2) B.1.2.1 ps_fu 0 M3 (by omega) (by rw [g1]; unfold ps_fu; omega) c3
  refine ⟨M4, ?_⟩
  unfold fk_L_law_114
  rw [e1b, ps_b2E, e2, ps_b2E, e3, ps_b2E, ← g1]
  exact e4
theorem bl_0 {v : ps_H} (h1 : v.2.2.2.1 = 1) (h2 : v.2.1 = 0) : qa_bl (nI 0) (nI 0) v = ps_m 6 := by
  unfold qa_bl pa_bl
  rw [h1, h2, if_pos (ev_inB (by omega) (by omega)), if_pos (Or.inl rfl)]
  exact if_pos rfl
theorem lw_8 {Ls : Nat} {sc : Nat → Int32} (hL : Ls < 1000000) : ∃ M1, fk_L_law_8 Ls sc 0 pc_M0 = some (nI 1, M1) := by
  obtain ⟨M1, e1, c1, -⟩ := cl_undo ini_CL ini_ok
  have x1 : op_undo pc_A0 = (ps_m 5, pc_A0) := rfl
  rw [x1] at e1 c1
  obtain ⟨M2, e2, c2, -⟩ := cl_rest c1 ini_ok (nI 0)
  have x2 : op_rest (nI 0) pc_A0 = (ps_m 5, pc_A0) := by
    unfold op_rest
    rw [if_pos (ev_inB (by omega) (by omega))]
    rfl
  rw [x2] at e2 c2
  obtain ⟨M3, e3, c3, -⟩ := cl_par c2 ini_ok
  have o3 : ps_okU (pa_ch pc_A0 (op_par pc_A0.1)) := ok_ch ini_ok (ok_par ini_ok.1)
  have x3 : op_par pc_A0.1 = (nI 0, (pc_f, 0, (fun _ => (0, fun _ => 0, nI 0)), 1, (fun _ => ps_new), 0)) := rfl
  rw [x3] at e3 c3 o3
  obtain ⟨M4, e4, c4, -⟩ := q_pu c3 o3 (cq_bl c3.1 o3.1 (nI 0) (nI 0))
  have x4 : qa_bl (nI 0) (nI 0) (pa_ch pc_A0 (nI 0, (pc_f, 0, (fun _ => (0, fun _ => 0, nI 0)), 1, (fun _ => ps_new), 0))).1 = ps_m 6 := bl_0 rfl rfl
  rw [x4] at e4
  obtain ⟨c, hc, ec⟩ := lw_cell (Ls := Ls) (sc := sc) (k := 50) hL (by omega) M4
  obtain ⟨M5, A5, e5, c5, o5, g1, g2, g3⟩ := lw_sings c4 o3 hc
  have hI : li_V 1 A5.1 := by
    refine ⟨?_, g3, ?_, fun j => ?_⟩
    · rw [g2]
      exact Nat.le_refl _
    · rw [g2]
      exact Nat.zero_le _
    · rw [g2]
      exact ⟨0, 0, rfl, rfl, Nat.le_refl _, Nat.zero_le _, fun z => absurd rfl z⟩
  obtain ⟨M6, A6, e6, c6, o6, i6⟩ := lw_66 (Ls := Ls) (sc := sc) hL 36 ps_fu 0 M5 A5 (by omega) (by unfold ps_fu; omega) c5 o5 hI
  obtain ⟨M7, e7⟩ := lw_114 (Ls := Ls) (sc := sc) c6 o6 i6 (nI 36)
  refine ⟨M7, ?_⟩
  unfold fk_L_law_8
  rw [e1, ps_b2E, if_pos rfl, e2, ps_b2E, if_pos rfl, e3, ps_b2E, if_pos rfl, e4, ps_b2E, if_pos rfl, ec, ps_b2E, e5, ps_b2E, if_neg (by decide), e6]
  exact e7
