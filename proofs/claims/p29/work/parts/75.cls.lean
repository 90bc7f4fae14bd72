theorem if_ex {c : Prop} {d : Decidable c} {x y : Option (Int32 × ps_M)} {r : Int32} (h1 : c → ∃ M, x = some (r, M)) (h2 : ¬ c → ∃ M, y = some (r, M)) : ∃ M, (if c then x else y) = some (r, M) := by
  by_cases h : c
  · rw [if_pos h]; exact h1 h
  · rw [if_neg h]; exact h2 h
theorem q_cl {M : ps_M} {A : ps_U} {x : Option (Int32 × ps_M)} {r : Int32} (hC : ps_CL M A) (h : x = some (r, M)) : ∃ M1, x = some (r, M1) ∧ ps_CL M1 A ∧ ps_Fc M M1 := ⟨M, h, hC, fun _ _ _ => rfl⟩
theorem q_pu {M : ps_M} {A : ps_U} {x : Option (Int32 × ps_M)} {r : Int32} (hC : ps_CL M A) (hok : ps_okU A) (h : ∃ M1, x = some (r, M1) ∧ ps_Fr 329 335 M M1) : ∃ M1, x = some (r, M1) ∧ ps_CL M1 A ∧ ps_Fc M M1 := by
  obtain ⟨M1, e, F⟩ := h
  exact ⟨M1, e, ps_CL_pup hC hok F, ps_Fc_of F (by omega)⟩
theorem cl_set {M : ps_M} {A : ps_U} (hC : ps_CL M A) (hok : ps_okU A) (a b : Int32) : ∃ M3, ff_X6_set 0 a b M = some ((op_set a b A.1).1, M3) ∧ ps_CL M3 (pa_ch A (op_set a b A.1)) ∧ ps_Fc M M3 := cl_change (op := op_set a b A.1) (Fm := fun M1 => ff_X1_changeSetting (0 + 1) a b M1) hC hok (ok_set hok.1 a b) (fun M1 h => ho_set h hok.1 a b)
theorem cl_par {M : ps_M} {A : ps_U} (hC : ps_CL M A) (hok : ps_okU A) : ∃ M3, ff_X6_parrot 0 M = some ((op_par A.1).1, M3) ∧ ps_CL M3 (pa_ch A (op_par A.1)) ∧ ps_Fc M M3 := cl_change (op := op_par A.1) (Fm := fun M1 => ff_X1_addParrot (0 + 1) M1) hC hok (ok_par hok.1) (fun M1 h => ho_par h hok.1)
theorem cl_les {M : ps_M} {A : ps_U} (hC : ps_CL M A) (hok : ps_okU A) (p s f : Int32) : ∃ M3, ff_X6_lesson 0 p s f M = some ((op_les p s f A.1).1, M3) ∧ ps_CL M3 (pa_ch A (op_les p s f A.1)) ∧ ps_Fc M M3 := cl_change (op := op_les p s f A.1) (Fm := fun M1 => ff_X1_teach (0 + 1) p s f M1) hC hok (ok_les hok.1 p s f) (fun M1 h => ho_les h hok.1 p s f)
theorem cl_hush {M : ps_M} {A : ps_U} (hC : ps_CL M A) (hok : ps_okU A) (p : Int32) : ∃ M3, ff_X6_hush 0 p M = some ((op_hush p A.1).1, M3) ∧ ps_CL M3 (pa_ch A (op_hush p A.1)) ∧ ps_Fc M M3 := cl_change (op := op_hush p A.1) (Fm := fun M1 => ff_X1_silence (0 + 1) p M1) hC hok (ok_hush hok.1 p) (fun M1 h => ho_hush h hok.1 p)
theorem cl_prac {M : ps_M} {A : ps_U} (hC : ps_CL M A) (hok : ps_okU A) (p b : Int32) : ∃ M3, ff_X6_practise 0 p b M = some ((op_prac p b A.1).1, M3) ∧ ps_CL M3 (pa_ch A (op_prac p b A.1)) ∧ ps_Fc M M3 := cl_change (op := op_prac p b A.1) (Fm := fun M1 => ff_X1_letPractise (0 + 1) p b M1) hC hok (ok_prac hok.1 p b) (fun M1 h => ho_prac h hok.1 p b)
theorem cl_nt {M : ps_M} {A : ps_U} (hC : ps_CL M A) (hok : ps_okU A) : ∃ M3, ff_X6_night 0 M = some ((op_nt A.1).1, M3) ∧ ps_CL M3 (pa_ch A (op_nt A.1)) ∧ ps_Fc M M3 := cl_change (op := op_nt A.1) (Fm := fun M1 => ff_X1_passNight (0 + 1) M1) hC hok (ok_nt hok.1) (fun M1 h => ho_nt h hok.1)
def op_wipe (A : ps_U) : Int32 × ps_U := (nI A.2.2.2.1, (A.1, A.2.1, A.2.2.1, (0, A.2.2.2.2)))
theorem ok_wipe {A : ps_U} (hok : ps_okU A) : ps_okU (op_wipe A).2 := ⟨hok.1, hok.2.1, hok.2.2.1, ⟨Nat.zero_le _, fun j hj => absurd hj (Nat.not_lt_zero j)⟩⟩
theorem cl_wipe {M : ps_M} {A : ps_U} (hC : ps_CL M A) (hok : ps_okU A) : ∃ M1, ff_X6_wipe 0 M = some ((op_wipe A).1, M1) ∧ ps_CL M1 (op_wipe A).2 ∧ ps_Fc M M1 := by
  have F1 : ps_Fr 324 325 M (ps_st M 324 1 (nI 0)) := ps_Fr_st (by omega) (by omega)
  have e5 := hC.2.2.2.2.1
  refine ⟨ps_st M 324 1 (nI 0), ?_, ?_, ps_Fc_of F1 (by omega)⟩
  · unfold ff_X6_wipe
    rw [show 0 + 323 + 1 = 324 from rfl, ps_letE, ps_letE, e5]
    rfl
  · obtain ⟨c1, c2, ⟨c3, c4⟩, c5, c6, c7⟩ := hC
    refine ⟨ps_RH_fr hok.1 F1 (by omega) c1, ps_hs_fr F1 c2, ⟨by rw [F1.1 _ (by omega)]; exact c3, fun i hi => ?_⟩, ps_CL_slots (A := A) hok F1 (by omega) c5, ev_rs, fun j hj => absurd hj (Nat.not_lt_zero j)⟩
    rw [ps_rr_fr F1]
    have h6 := hok.2.1.1
    have hi2 : i < A.2.1.1 := hi
    have hbi := ps_hs_bd c2 (i := i) (by omega)
    exact ps_RH_fr (hok.2.1.2 i hi) F1 (by omega) (c4 i hi)
