/-! class and model side by side: a round of the law -/
theorem CL_fm {M M1 : ps_M} {A : ps_U} (hC : ps_CL M A) (hok : ps_okU A) (hF : ps_Fm 415 M M1) : ps_CL M1 A := ps_CL_junk hC hok (fun k hk j => hF.1 k (by omega) j) hF.2
theorem MU_fc {M M1 : ps_M} {A : ps_U} (hC : ps_MU M 415 A) (hok : ps_okU A) (hF : ps_Fc M M1) : ps_MU M1 415 A := MU_eq hC hok (fun k _ => hF _ (by omega) k) (hF _ (by omega) 9) (hF _ (by omega) 10) (fun a ha k => hF a (by omega) k)
theorem if_ex {c : Prop} {d : Decidable c} {x y : Option (Int32 × ps_M)} {r : Int32} (h1 : c → ∃ M, x = some (r, M)) (h2 : ¬ c → ∃ M, y = some (r, M)) : ∃ M, (if c then x else y) = some (r, M) := by
  by_cases h : c
  · rw [if_pos h]; exact h1 h
  · rw [if_neg h]; exact h2 h
theorem st_case {M : ps_M} {A A2 : ps_U} {r : Int32} {x : Option (Int32 × ps_M)} {G k : ps_M → Option (Int32 × ps_M)} (hU : ps_MU M 415 A) (hok : ps_okU A) (h1 : ∃ M1, x = some (r, M1) ∧ ps_CL M1 A2 ∧ ps_Fc M M1) (h2 : ∀ M1, ps_MU M1 415 A → ∃ M2, G M1 = some (r, M2) ∧ ps_MU M2 415 A2 ∧ ps_Fm 415 M1 M2) (hok2 : ps_okU A2) (K : ∀ M2, ps_CL M2 A2 → ps_MU M2 415 A2 → ∃ M3, k M2 = some (nI 1, M3)) : ∃ M3, (ps_b2 x fun r1 M1 => ps_b2 (G M1) fun r2 M2 => if r1 = r2 then k M2 else some (nI 0, M2)) = some (nI 1, M3) := by
  obtain ⟨M1, e1, C1, F1⟩ := h1
  obtain ⟨M2, e2, U2, F2⟩ := h2 M1 (MU_fc hU hok F1)
  obtain ⟨M3, e3⟩ := K M2 (CL_fm C1 hok2 F2) U2
  exact ⟨M3, by rw [e1, ps_b2E, e2, ps_b2E, if_pos rfl, e3]⟩
theorem q_cl {M : ps_M} {A : ps_U} {x : Option (Int32 × ps_M)} {r : Int32} (hC : ps_CL M A) (h : x = some (r, M)) : ∃ M1, x = some (r, M1) ∧ ps_CL M1 A ∧ ps_Fc M M1 := ⟨M, h, hC, fun _ _ _ => rfl⟩
theorem q_mu {M : ps_M} {A : ps_U} {x : Option (Int32 × ps_M)} {r : Int32} (hC : ps_MU M 415 A) (h : x = some (r, M)) : ∃ M1, x = some (r, M1) ∧ ps_MU M1 415 A ∧ ps_Fm 415 M M1 := ⟨M, h, hC, ps_Fm_rf⟩
theorem q_pu {M : ps_M} {A : ps_U} {x : Option (Int32 × ps_M)} {r : Int32} (hC : ps_CL M A) (hok : ps_okU A) (h : ∃ M1, x = some (r, M1) ∧ ps_Fr 329 335 M M1) : ∃ M1, x = some (r, M1) ∧ ps_CL M1 A ∧ ps_Fc M M1 := by
  obtain ⟨M1, e, F⟩ := h
  exact ⟨M1, e, ps_CL_pup hC hok F, ps_Fc_of F (by omega)⟩
theorem cl_set {M : ps_M} {A : ps_U} (hC : ps_CL M A) (hok : ps_okU A) (a b : Int32) : ∃ M3, ff_X6_set 0 a b M = some ((op_set a b A.1).1, M3) ∧ ps_CL M3 (pa_ch A (op_set a b A.1)) ∧ ps_Fc M M3 := cl_change (op := op_set a b A.1) (Fm := fun M1 => ff_X1_changeSetting (0 + 1) a b M1) hC hok (ok_set hok.1 a b) (fun M1 h => ho_set h hok.1 a b)
theorem cl_par {M : ps_M} {A : ps_U} (hC : ps_CL M A) (hok : ps_okU A) : ∃ M3, ff_X6_parrot 0 M = some ((op_par A.1).1, M3) ∧ ps_CL M3 (pa_ch A (op_par A.1)) ∧ ps_Fc M M3 := cl_change (op := op_par A.1) (Fm := fun M1 => ff_X1_addParrot (0 + 1) M1) hC hok (ok_par hok.1) (fun M1 h => ho_par h hok.1)
theorem cl_les {M : ps_M} {A : ps_U} (hC : ps_CL M A) (hok : ps_okU A) (p s f : Int32) : ∃ M3, ff_X6_lesson 0 p s f M = some ((op_les p s f A.1).1, M3) ∧ ps_CL M3 (pa_ch A (op_les p s f A.1)) ∧ ps_Fc M M3 := cl_change (op := op_les p s f A.1) (Fm := fun M1 => ff_X1_teach (0 + 1) p s f M1) hC hok (ok_les hok.1 p s f) (fun M1 h => ho_les h hok.1 p s f)
theorem cl_hush {M : ps_M} {A : ps_U} (hC : ps_CL M A) (hok : ps_okU A) (p : Int32) : ∃ M3, ff_X6_hush 0 p M = some ((op_hush p A.1).1, M3) ∧ ps_CL M3 (pa_ch A (op_hush p A.1)) ∧ ps_Fc M M3 := cl_change (op := op_hush p A.1) (Fm := fun M1 => ff_X1_silence (0 + 1) p M1) hC hok (ok_hush hok.1 p) (fun M1 h => ho_hush h hok.1 p)
theorem cl_prac {M : ps_M} {A : ps_U} (hC : ps_CL M A) (hok : ps_okU A) (p b : Int32) : ∃ M3, ff_X6_practise 0 p b M = some ((op_prac p b A.1).1, M3) ∧ ps_CL M3 (pa_ch A (op_prac p b A.1)) ∧ ps_Fc M M3 := cl_change (op := op_prac p b A.1) (Fm := fun M1 => ff_X1_letPractise (0 + 1) p b M1) hC hok (ok_prac hok.1 p b) (fun M1 h => ho_prac h hok.1 p b)
theorem cl_nt {M : ps_M} {A : ps_U} (hC : ps_CL M A) (hok : ps_okU A) : ∃ M3, ff_X6_night 0 M = some ((op_nt A.1).1, M3) ∧ ps_CL M3 (pa_ch A (op_nt A.1)) ∧ ps_Fc M M3 := cl_change (op := op_nt A.1) (Fm := fun M1 => ff_X1_passNight (0 + 1) M1) hC hok (ok_nt hok.1) (fun M1 h => ho_nt h hok.1)
theorem law_ok {Ls : Nat} {xs : Nat → Int32} (hL : Ls < 1000000) : ∀ (n i : Nat) (M : ps_M) (A : ps_U), i ≤ Ls → Ls + 4 ≤ i + 4 * n → ps_CL M A → ps_MU M 415 A → ps_okU A → ∃ M1, fk_L_law_18 Ls xs n 0 415 (nI i) M = some (nI 1, M1)
  | 0, i, M, A, h1, h2, hC, hU, hok => by omega
  | n + 1, i, M, A, h1, h2, hC, hU, hok => by
    have K : ∀ A2, i + 3 < Ls → ps_okU A2 → ∀ M2, ps_CL M2 A2 → ps_MU M2 415 A2 → ∃ M3, (ps_let (nI i + nI 4) fun x => fk_L_law_18 Ls xs n 0 415 x M2) = some (nI 1, M3) := by
      intro A2 hi ho M2 c u
      rw [nI_add, ps_letE]
      exact law_ok hL n (i + 4) M2 A2 (by omega) (by omega) c u ho
    rw [fk_L_law_18]
    by_cases c : i + 3 < Ls
    · have c0 : ¬ (nI Ls - nI 4) < nI i := by
        rw [pk_sub (by omega)]
        exact nI_nlt (by omega) (by omega)
      have i0 : ps_inB (nI i) Ls = true := ev_inB (by omega) (by omega)
      have i1 : ps_inB (nI i + nI 1) Ls = true := by rw [nI_add]; exact ev_inB (by omega) (by omega)
      have i2 : ps_inB (nI i + nI 2) Ls = true := by rw [nI_add]; exact ev_inB (by omega) (by omega)
      have i3 : ps_inB (nI i + nI 3) Ls = true := by rw [nI_add]; exact ev_inB (by omega) (by omega)
      rw [if_neg c0, if_pos i0, ps_letE]
      generalize xs (nI i).toNatClampNeg &&& nI 31 = z
      refine if_ex (fun _ => ?_) (fun _ => ?_)
      · simp only [if_pos i1, if_pos i2, if_pos i3]
        exact st_case hU hok (cl_set hC hok _ _) (fun M1 h => mu_set (by omega) h hok _ _) (ok_ch hok (ok_set hok.1 _ _)) (K _ c (ok_ch hok (ok_set hok.1 _ _)))
      refine if_ex (fun _ => ?_) (fun _ => ?_)
      · exact st_case hU hok (cl_par hC hok) (fun M1 h => mu_par (by omega) h hok) (ok_ch hok (ok_par hok.1)) (K _ c (ok_ch hok (ok_par hok.1)))
      refine if_ex (fun _ => ?_) (fun _ => ?_)
      · simp only [if_pos i1, if_pos i2, if_pos i3]
        exact st_case hU hok (cl_les hC hok _ _ _) (fun M1 h => mu_les (by omega) h hok _ _ _) (ok_ch hok (ok_les hok.1 _ _ _)) (K _ c (ok_ch hok (ok_les hok.1 _ _ _)))
      refine if_ex (fun _ => ?_) (fun _ => ?_)
      · simp only [if_pos i1, if_pos i2, if_pos i3]
        exact st_case hU hok (cl_hush hC hok _) (fun M1 h => mu_hush (by omega) h hok _) (ok_ch hok (ok_hush hok.1 _)) (K _ c (ok_ch hok (ok_hush hok.1 _)))
      refine if_ex (fun _ => ?_) (fun _ => ?_)
      · simp only [if_pos i1, if_pos i2, if_pos i3]
        exact st_case hU hok (cl_prac hC hok _ _) (fun M1 h => mu_prac (by omega) h hok _ _) (ok_ch hok (ok_prac hok.1 _ _)) (K _ c (ok_ch hok (ok_prac hok.1 _ _)))
      refine if_ex (fun _ => ?_) (fun _ => ?_)
      · exact st_case hU hok (cl_nt hC hok) (fun M1 h => mu_nt (by omega) h hok) (ok_ch hok (ok_nt hok.1)) (K _ c (ok_ch hok (ok_nt hok.1)))
      refine if_ex (fun _ => ?_) (fun _ => ?_)
      · simp only [if_pos i1, if_pos i2, if_pos i3]
        exact st_case hU hok (q_cl hC (cq_ofSong hC.1 hok.1 _ _)) (fun M1 h => q_mu h (mq_ofSong h.1 hok.1 _ _)) (hok) (K _ c (hok))
      refine if_ex (fun _ => ?_) (fun _ => ?_)
      · simp only [if_pos i1, if_pos i2, if_pos i3]
        exact st_case hU hok (q_cl hC (cq_bar hC.1 hok.1 _ _)) (fun M1 h => q_mu h (mq_bar h.1 hok.1 _ _)) (hok) (K _ c (hok))
      refine if_ex (fun _ => ?_) (fun _ => ?_)
      · simp only [if_pos i1, if_pos i2, if_pos i3]
        exact st_case hU hok (q_cl hC (cq_of hC.1 hok.1 _ _)) (fun M1 h => q_mu h (mq_of h.1 hok.1 _ _)) (hok) (K _ c (hok))
      refine if_ex (fun _ => ?_) (fun _ => ?_)
      · simp only [if_pos i1, if_pos i2, if_pos i3]
        exact st_case hU hok (q_cl hC (cq_link hC.1 hok.1 _ _ _)) (fun M1 h => q_mu h (mq_link h.1 hok.1 _ _ _)) (hok) (K _ c (hok))
      refine if_ex (fun _ => ?_) (fun _ => ?_)
      · simp only [if_pos i1, if_pos i2, if_pos i3]
        exact st_case hU hok (q_cl hC (cq_sings hC.1 hok.1 _ _ _)) (fun M1 h => q_mu h (mq_sings h.1 hok.1 _ _ _)) (hok) (K _ c (hok))
      refine if_ex (fun _ => ?_) (fun _ => ?_)
      · simp only [if_pos i1, if_pos i2, if_pos i3]
        exact st_case hU hok (q_cl hC (cq_knows hC.1 hok.1 _ _)) (fun M1 h => q_mu h (mq_knows h.1 hok.1 _ _)) (hok) (K _ c (hok))
      refine if_ex (fun _ => ?_) (fun _ => ?_)
      · simp only [if_pos i1, if_pos i2, if_pos i3]
        exact st_case hU hok (q_cl hC (cq_mist hC.1 hok.1 _ _ _)) (fun M1 h => q_mu h (mq_mist h.1 hok.1 _ _ _)) (hok) (K _ c (hok))
      refine if_ex (fun _ => ?_) (fun _ => ?_)
      · simp only [if_pos i1, if_pos i2, if_pos i3]
        exact st_case hU hok (q_cl hC (cq_rh hC.1 hok.1 _ _)) (fun M1 h => q_mu h (mq_rh h.1 hok.1 _ _)) (hok) (K _ c (hok))
      refine if_ex (fun _ => ?_) (fun _ => ?_)
      · simp only [if_pos i1, if_pos i2, if_pos i3]
        exact st_case hU hok (q_cl hC (cq_fol hC.1 hok.1 _ _)) (fun M1 h => q_mu h (mq_fol h.1 hok.1 _ _)) (hok) (K _ c (hok))
      refine if_ex (fun _ => ?_) (fun _ => ?_)
      · simp only [if_pos i1, if_pos i2, if_pos i3]
        exact st_case hU hok (q_cl hC (cq_count hC hok _)) (fun M1 h => q_mu h (mq_count h.1 hok h.2.2.2.1 h.2.1.1 _)) (hok) (K _ c (hok))
      refine if_ex (fun _ => ?_) (fun _ => ?_)
      · simp only [if_pos i1, if_pos i2, if_pos i3]
        exact st_case hU hok (q_pu hC hok (cq_lf hC.1 hok.1 _ _)) (fun M1 h => mu_lf h hok _ _) (hok) (K _ c (hok))
      refine if_ex (fun _ => ?_) (fun _ => ?_)
      · simp only [if_pos i1, if_pos i2, if_pos i3]
        exact st_case hU hok (q_pu hC hok (cq_bl hC.1 hok.1 _ _)) (fun M1 h => mu_bl h hok _ _) (hok) (K _ c (hok))
      refine if_ex (fun _ => ?_) (fun _ => ?_)
      · simp only [if_pos i1, if_pos i2, if_pos i3]
        exact st_case hU hok (q_pu hC hok (cq_kp hC.1 hok.1 _ _)) (fun M1 h => mu_kp h hok _ _) (hok) (K _ c (hok))
      refine if_ex (fun _ => ?_) (fun _ => ?_)
      · simp only [if_pos i1, if_pos i2, if_pos i3]
        exact st_case hU hok (cl_put hC hok _) (fun M1 h => mu_put h hok _) (ok_put hok _) (K _ c (ok_put hok _))
      refine if_ex (fun _ => ?_) (fun _ => ?_)
      · exact st_case hU hok (cl_wipe hC hok) (fun M1 h => mu_wipe h hok) (ok_wipe hok) (K _ c (ok_wipe hok))
      refine if_ex (fun _ => ?_) (fun _ => ?_)
      · exact st_case hU hok (cq_fault hC hok) (fun M1 h => mu_fault h hok) (hok) (K _ c (hok))
      refine if_ex (fun _ => ?_) (fun _ => ?_)
      · exact st_case hU hok (cl_carry hC hok) (fun M1 h => mu_carry (by omega) h hok) (ok_carry hok) (K _ c (ok_carry hok))
      refine if_ex (fun _ => ?_) (fun _ => ?_)
      · exact st_case hU hok (cl_undo hC hok) (fun M1 h => mu_undo h hok) (ok_undo hok) (K _ c (ok_undo hok))
      refine if_ex (fun _ => ?_) (fun _ => ?_)
      · simp only [if_pos i1, if_pos i2, if_pos i3]
        exact st_case hU hok (cl_save hC hok _) (fun M1 h => mu_save h hok _) (ok_save hok _) (K _ c (ok_save hok _))
      refine if_ex (fun _ => ?_) (fun _ => ?_)
      · simp only [if_pos i1, if_pos i2, if_pos i3]
        exact st_case hU hok (cl_rest hC hok _) (fun M1 h => mu_rest (by omega) h hok _) (ok_rest hok _) (K _ c (ok_rest hok _))
      exact K A c hok M hC hU
    · have c0 : (nI Ls - nI 4) < nI i := by
        rw [Int32.lt_iff_toInt_lt, pk_sub_toInt (by omega) (by omega), nI_toInt (by omega)]
        omega
      rw [if_pos c0]
      exact ⟨M, rfl⟩
