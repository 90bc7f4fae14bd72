/-! put: the characters are written -/
theorem cl_app (a : Int64) (s : Int32) : ∀ (k n L : Nat) (M : ps_M), k < n → L + k ≤ 80 → k ≤ 8 → ps_rd M 324 1 = nI L → ∃ M1, fk_X2_append_31 324 n a s (ps_dn k) M = some (nI (L + k), M1) ∧ ps_rd M1 324 1 = nI (L + k) ∧ (∀ j, j < L → ps_rd M1 325 j = ps_rd M 325 j) ∧ (∀ j, L ≤ j → j < L + k → ps_rd M1 325 j = nI (pa_by (pa_w a) (L + k - 1 - j))) ∧ ps_Fr 324 326 M M1
  | 0, n, L, M, h1, h2, h3, h4 => by
    obtain ⟨n, rfl⟩ : ∃ m, n = m + 1 := ⟨n - 1, by omega⟩
    rw [ps_dn_0, fk_X2_append_31, if_pos (show ps_m 1 < nI 0 by rw [ev_mlt (by omega) (by omega) (by omega)]; trivial), h4]
    exact ⟨M, rfl, h4, fun _ _ => rfl, fun j a b => by omega, ps_Fr_rf⟩
  | k + 1, n, L, M, h1, h2, h3, h4 => by
    obtain ⟨n, rfl⟩ : ∃ m, n = m + 1 := ⟨n - 1, by omega⟩
    have hb : pa_w a / 2 ^ (8 * k) % 256 < 256 := Nat.mod_lt _ (by omega)
    rw [ps_dn_s, fk_X2_append_31, if_neg (nI_nlt (by omega) (by omega)), h4, if_pos (ev_inB (by omega) (by omega)), ch_is a (by omega), if_pos (isC_n (by omega)), nI_clamp (by omega), ps_letE, ev_ra (by omega), h4, nI_add, ps_letE, ps_dn_m, ps_letE]
    obtain ⟨M1, e1, r1, r2, r3, F1⟩ := cl_app a s k n (L + 1) (ps_st (ps_st M (324 + 1) L (nI (pa_w a / 2 ^ (8 * k) % 256))) 324 1 (nI (L + 1))) (by omega) (by omega) (by omega) ev_rs
    rw [show L + 1 + k = L + (k + 1) by omega] at e1 r1 r3
    refine ⟨M1, e1, r1, fun j hj => ?_, fun j hj1 hj2 => ?_, ps_Fr_tr (ps_Fr_tr (ps_Fr_st (by omega) (by omega)) (ps_Fr_st (by omega) (by omega))) F1⟩
    · rw [r2 j (by omega), ev_ra (by omega), ev_rj (by omega)]
    · by_cases e : j = L
      · rw [e, r2 L (by omega), ev_ra (by omega), ev_rs]
        unfold pa_by
        rw [show L + (k + 1) - 1 - L = k by omega]
      · exact r3 j (by omega) hj2
theorem dn_n {k : Nat} (h : 0 < k) : nI k - nI 1 = ps_dn k := rfl
theorem cl_put {M : ps_M} {A : ps_U} (hC : ps_CL M A) (hok : ps_okU A) (a : Int64) : ∃ M1, ff_X6_put 0 a M = some ((op_put a A).1, M1) ∧ ps_CL M1 (op_put a A).2 ∧ ps_Fc M M1 := by
  have h8 := hok.2.2.2.1
  have e5 := hC.2.2.2.2.1
  obtain ⟨z1, z2⟩ := sz_sp (pa_w a) (w_lt a) 8 0 (pa_w a) (by omega) (by simp) (fun i hi => absurd hi (Nat.not_lt_zero i))
  have es : ff_X2_sizeOf a M = some (nI (pa_sz (pa_w a) 8 0 (pa_w a)), M) := by
    unfold ff_X2_sizeOf
    exact cl_size a M 8 0 ps_fu a (by omega) (by unfold ps_fu; omega)
  unfold ff_X6_put ff_X2_append op_put
  rw [show 0 + 323 + 1 = 324 from rfl, es, ps_b2E]
  generalize pa_sz (pa_w a) 8 0 (pa_w a) = sz at z1 z2
  by_cases c1 : sz = 0
  · rw [if_pos (by rw [c1]), if_pos c1]
    exact ⟨M, rfl, hC, fun _ _ _ => rfl⟩
  · rw [if_neg (by rw [nI_eq (by omega) (by omega)]; exact c1), if_neg c1, e5, nI_add]
    by_cases c2 : A.2.2.2.1 + sz ≤ 80
    · rw [if_pos (nI_le c2 (by omega)), if_pos c2, dn_n (by omega), ps_letE]
      obtain ⟨M1, e1, r1, r2, r3, F1⟩ := cl_app a (nI sz) sz ps_fu A.2.2.2.1 M (by unfold ps_fu; omega) c2 z1 e5
      rw [e1, ps_b2E]
      refine ⟨M1, rfl, ?_, ps_Fc_of F1 (by omega)⟩
      obtain ⟨c1, c2, ⟨c3, c4⟩, c5, c6, c7⟩ := hC
      refine ⟨ps_RH_fr hok.1 F1 (by omega) c1, ps_hs_fr F1 c2, ⟨by rw [F1.1 _ (by omega)]; exact c3, fun i hi => ?_⟩, ps_CL_slots (A := A) hok F1 (by omega) c5, r1, fun j hj => ?_⟩
      · rw [ps_rr_fr F1]
        have h6 := hok.2.1.1
        have hi2 : i < A.2.1.1 := hi
        have hbi := ps_hs_bd c2 (i := i) (by omega)
        exact ps_RH_fr (hok.2.1.2 i hi) F1 (by omega) (c4 i hi)
      · have hj2 : j < A.2.2.2.1 + sz := hj
        show _ = nI (if j < A.2.2.2.1 then A.2.2.2.2 j else pa_by (pa_w a) (A.2.2.2.1 + sz - 1 - j))
        by_cases c9 : j < A.2.2.2.1
        · rw [if_pos c9, r2 j c9]; exact c7 j c9
        · rw [if_neg c9]; exact r3 j (by omega) hj2
    · rw [if_neg (nI_ge (by omega) (by omega)), if_neg c2]
      exact ⟨M, rfl, hC, fun _ _ _ => rfl⟩
