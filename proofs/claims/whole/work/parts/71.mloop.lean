/-! the model carries the whole text out -/
theorem mo_song {M : ps_M} {q x l : Nat} {g : Nat → Nat} {v : ps_H} (hR : ps_RM M (q + 1) v) (hok : ps_okH v) (hx : x ≤ 81) (h1 : 1 ≤ l) (h2 : l ≤ 20) (hb : ∀ t, t < l → x + t < 80 ∧ ps_rd M (q + 9) (x + t) = nI (g t + 97)) : ∃ M1, ff_X7_song q (nI x) (nI l) M = some ((op_song l g v).1, M1) ∧ ps_RM M1 (q + 1) (op_song l g v).2 ∧ ps_Fo q M M1 := by
  have ns := hok.2.1.1
  have np := hok.2.2.1
  unfold ff_X7_song op_song
  obtain ⟨r1, r2, r3, r4, r5, r6, r7, r8⟩ := hR
  by_cases c : v.2.1 < 8
  · rw [if_pos c, if_pos (ev_inB (by omega) (by omega)), nI_clamp (by omega), r3, if_neg (by rw [nI_eq (by omega) (by omega)]; omega), if_pos (ev_inB (by omega) (by omega)), n_spec, ps_b2E, if_pos (ev_inB (by omega) (by omega)), ps_letE, nI_add, if_pos (ev_inB (by omega) (by omega)), ps_letE, nI_clamp (by omega), nI_clamp (by omega)]
    obtain ⟨M0, hM0⟩ : ∃ M0, M0 = ps_st (ps_st M (q + 1) (9 + 22 * v.2.1) (nI l)) (q + 1) (9 + 22 * v.2.1 + 1) (nI 0) := ⟨_, rfl⟩
    rw [← hM0]
    have m0 : ∀ a, a ≠ q + 1 → ∀ t, ps_rd M0 a t = ps_rd M a t := fun a ha t => by rw [hM0, ev_ra ha, ev_ra ha]
    have m1 : ∀ t, t ≠ 9 + 22 * v.2.1 → t ≠ 9 + 22 * v.2.1 + 1 → ps_rd M0 (q + 1) t = ps_rd M (q + 1) t := fun t h1 h2 => by rw [hM0, ev_rj h2, ev_rj h1]
    refine Exists.elim (ps_whR (F := fun n k (_ : Unit) M1 => fk_X7_song_43 q n (nI x) (nI l) (nI (9 + 22 * v.2.1)) (nI k) M1) (Rel := fun k _ M1 => (∀ a, a ≠ q + 1 → ∀ t, ps_rd M1 a t = ps_rd M a t) ∧ M1.2 = M.2 ∧ ∀ t, ps_rd M1 (q + 1) t = if 9 + 22 * v.2.1 + 2 ≤ t ∧ t < 9 + 22 * v.2.1 + 2 + k then nI (g (t - (9 + 22 * v.2.1 + 2))) else ps_rd M0 (q + 1) t) l (fun _ _ => true) (fun _ u => u) (fun k _ M1 => some (nI v.2.1, ps_st M1 (q + 1) 5 (nI (v.2.1 + 1)))) (fun n k u M1 g1 g2 g3 => ?_) (fun n k u M1 g1 g2 g3 => ?_) l ps_fu 0 () M0 (by omega) (by unfold ps_fu; omega) ⟨m0, by rw [hM0]; rfl, fun t => by rw [if_neg (by omega)]⟩) (fun M1 z => ?_)
    · have c2 : ¬ k < l := fun c => absurd (g3 c) (by simp)
      have h5 : ps_rd M1 (q + 1) 5 = nI v.2.1 := by rw [g2.2.2, if_neg (by omega), m1 _ (by omega) (by omega)]; exact r3
      rw [fk_X7_song_43]
      simp (disch := omega) only [ps_letE, ps_b2E, nI_add, pk_mul, nI_clamp, ev_inB, nI_leI, nI_ltI, nI_eq, if_pos, if_neg, ev_eqm, ev_eqm2, ev_ltm, ev_lem, ev_mlt, ev_mle, ev_mm, ev_subm, pk_sub, ev_true, if_true, if_false, ite_true, ite_false, Option.map, ev_rs, ev_ra, ev_rj, ev_cpO, ps_isB1, ps_isB0, h5, Nat.add_sub_cancel]
    · obtain ⟨b1, b2⟩ := hb k g1
      have b3 : ps_rd M1 (q + 9) (x + k) = nI (g k + 97) := by rw [g2.1 _ (by omega)]; exact b2
      have b4 : ps_rd M1 (q + 9) (x + k) - nI 97 = nI (g k) := by
        rw [b3]
        by_cases z : g k + 97 < 2147483648
        · rw [pk_sub (by omega), Nat.add_sub_cancel]
        · rw [pk_sub (by omega), Nat.add_sub_cancel]
      refine ⟨ps_st M1 (q + 1) (9 + 22 * v.2.1 + 2 + k) (nI (g k)), ?_, fun a ha t => (ev_ra ha).trans (g2.1 a ha t), g2.2.1, fun t => ?_⟩
      · rw [fk_X7_song_43, if_neg (nI_ge g1 (by omega)), nI_add, if_pos (ev_inB b1 (by omega)), nI_add, nI_add, if_pos (ev_inB (by omega) (by omega)), nI_clamp (by omega), nI_clamp (by omega), b4, ps_letE, ps_letE, nI_add]
      · by_cases e : t = 9 + 22 * v.2.1 + 2 + k
        · rw [e, ev_rs, if_pos (by omega), Nat.add_sub_cancel_left]
        · rw [ev_rj e, g2.2.2]
          by_cases c2 : 9 + 22 * v.2.1 + 2 ≤ t ∧ t < 9 + 22 * v.2.1 + 2 + k
          · rw [if_pos c2, if_pos (by omega)]
          · rw [if_neg c2, if_neg (by omega)]
    · obtain ⟨e, z1, z2, z3⟩ := z
      have hw := ps_wh_all (fun _ (u : Unit) => u) l 0 ()
      rw [Nat.zero_add] at hw
      have hT : ∀ t, t ≠ 5 → ps_rd (ps_st M1 (q + 1) 5 (nI (v.2.1 + 1))) (q + 1) t = if 9 + 22 * v.2.1 + 2 ≤ t ∧ t < 9 + 22 * v.2.1 + 2 + l then nI (g (t - (9 + 22 * v.2.1 + 2))) else ps_rd M0 (q + 1) t := fun t h1 => by rw [ev_rj h1, z3 t, hw]
      have hU : ∀ t, t ≠ 5 → (t < 9 + 22 * v.2.1 ∨ 9 + 22 * v.2.1 + 22 ≤ t) → ps_rd (ps_st M1 (q + 1) 5 (nI (v.2.1 + 1))) (q + 1) t = ps_rd M (q + 1) t := fun t h1 h2 => by rw [hT t h1, if_neg (by omega), m1 _ (by omega) (by omega)]
      refine ⟨_, e, ⟨fun j hj => by rw [hU _ (by omega) (by omega)]; exact r1 j hj, by rw [hU _ (by omega) (by omega)]; exact r2, ev_rs, by rw [hU _ (by omega) (by omega)]; exact r4, ?_, by rw [hU _ (by omega) (by omega)]; exact r6, fun i hi => ?_, fun j hj => ?_⟩, ⟨fun a ha _ k => by rw [ev_ra ha]; exact z1 a ha k, z2⟩⟩
      · rw [hU _ (by omega) (by omega), r5]
        show pa_sm _ _ = pa_sm (fun k => (if k = v.2.1 then (l, g, nI 0) else v.2.2.1 k).2.2) (v.2.1 + 1)
        have e1 : pa_sm (fun k => (if k = v.2.1 then (l, g, nI 0) else v.2.2.1 k).2.2) (v.2.1 + 1) = pa_sm (fun k => (if k = v.2.1 then (l, g, nI 0) else v.2.2.1 k).2.2) v.2.1 + nI 0 := by
          unfold pa_sm
          rw [ps_fo_s]
          dsimp only
          rw [if_pos rfl]
        rw [e1, I_add0]
        exact sm_eq _ (fun k hk => by rw [if_neg (by omega)])
      · have hi2 : i < v.2.1 + 1 := hi
        show _ = nI (if i = v.2.1 then (l, g, nI 0) else v.2.2.1 i).1 ∧ _ = (if i = v.2.1 then (l, g, nI 0) else v.2.2.1 i).2.2 ∧ ∀ j, j < (if i = v.2.1 then (l, g, nI 0) else v.2.2.1 i).1 → _ = nI ((if i = v.2.1 then (l, g, nI 0) else v.2.2.1 i).2.1 j)
        by_cases c2 : i = v.2.1
        · rw [if_pos c2, c2]
          refine ⟨?_, ?_, fun j hj => ?_⟩
          · rw [hT _ (by omega), if_neg (by omega), hM0]
            simp (disch := omega) only [ps_letE, ps_b2E, nI_add, pk_mul, nI_clamp, ev_inB, nI_leI, nI_ltI, nI_eq, if_pos, if_neg, ev_eqm, ev_eqm2, ev_ltm, ev_lem, ev_mlt, ev_mle, ev_mm, ev_subm, pk_sub, ev_true, if_true, if_false, ite_true, ite_false, Option.map, ev_rs, ev_ra, ev_rj, ev_cpO, ps_isB1, ps_isB0]
          · rw [hT _ (by omega), if_neg (by omega), hM0]
            simp (disch := omega) only [ps_letE, ps_b2E, nI_add, pk_mul, nI_clamp, ev_inB, nI_leI, nI_ltI, nI_eq, if_pos, if_neg, ev_eqm, ev_eqm2, ev_ltm, ev_lem, ev_mlt, ev_mle, ev_mm, ev_subm, pk_sub, ev_true, if_true, if_false, ite_true, ite_false, Option.map, ev_rs, ev_ra, ev_rj, ev_cpO, ps_isB1, ps_isB0]
          · have hj2 : j < l := hj
            rw [hT _ (by omega), if_pos (by omega), Nat.add_sub_cancel_left]
        · have hi3 : i < v.2.1 := by omega
          obtain ⟨t1, t2, t3⟩ := r7 i hi3
          obtain ⟨s1, s2, s3⟩ := hok.2.1.2 i hi3
          rw [if_neg c2]
          exact ⟨by rw [hU _ (by omega) (by omega)]; exact t1, by rw [hU _ (by omega) (by omega)]; exact t2, fun j hj => by rw [hU _ (by omega) (by omega)]; exact t3 j hj⟩
      · have hj2 : j < v.2.2.2.1 := hj
        show ps_MP _ (q + 1) j (v.2.2.2.2.1 j)
        obtain ⟨t1, t2, t3, t4, t5⟩ := r8 j hj2
        exact ⟨ML_fs (Nat.le_trans (hok.2.2.2.1 j).1 (by omega)) (fun k hk => hU k (by omega) (by omega)) t1, by rw [hU _ (by omega) (by omega)]; exact t2, by rw [hU _ (by omega) (by omega)]; exact t3, by rw [hU _ (by omega) (by omega)]; exact t4, by rw [hU _ (by omega) (by omega)]; exact t5⟩
  · have e8 : v.2.1 = 8 := by omega
    rw [if_neg c, if_pos (ev_inB (by omega) (by omega)), nI_clamp (by omega), r3, if_pos (by rw [e8])]
    exact ⟨M, rfl, ⟨r1, r2, r3, r4, r5, r6, r7, r8⟩, ps_Fo_rf⟩
theorem mo_do {M : ps_M} {q k : Nat} {T : ps_Tx} {o : Nat × Nat × Nat × Nat} {v : ps_H} (hR : ps_RM M (q + 1) v) (hok : ps_okH v) (hT : ps_TM M q T) (hTo : ps_okT T) (ho : ps_oo T o) (hk : k ≤ 40) (hO : ps_OM M q k o) : ∃ M1, ff_X7_does q (nI k) M = some ((op_ord T o v).1, M1) ∧ ps_RM M1 (q + 1) (op_ord T o v).2 ∧ ps_Fo q M M1 := by
  obtain ⟨h3, h83, h76, h72, h80⟩ := hO
  have h8 := hTo.1
  have ne : ∀ a b : Nat, a < 1000 → b < 1000 → a ≠ b → ¬ nI a = nI b := fun a b ha hb h => by rw [nI_eq (by omega) (by omega)]; exact h
  have i1 : ps_inB (nI (4 * k + 1)) 164 = true := ev_inB (by omega) (by omega)
  have i2 : ps_inB (nI (4 * k + 2)) 164 = true := ev_inB (by omega) (by omega)
  have i3 : ps_inB (nI (4 * k + 3)) 164 = true := ev_inB (by omega) (by omega)
  have c1 : (nI (4 * k + 1)).toNatClampNeg = 4 * k + 1 := nI_clamp (by omega)
  have c2 : (nI (4 * k + 2)).toNatClampNeg = 4 * k + 2 := nI_clamp (by omega)
  have c3 : (nI (4 * k + 3)).toNatClampNeg = 4 * k + 3 := nI_clamp (by omega)
  unfold ff_X7_does
  rw [pk_mul, ps_letE, if_pos (ev_inB (by omega) (by omega)), nI_clamp (by omega), h3, ps_letE]
  simp only [nI_add, if_pos i1, if_pos i2, if_pos i3, c1, c2, c3]
  rcases ho with ⟨e, h1, h2, h9, h4⟩ | e | e | e | e | e
  · obtain ⟨g1, g2⟩ := h83 e
    obtain ⟨M1, e1, R1, F1⟩ := mo_song (x := o.2.1) (l := o.2.2.1) (g := fun t => pa_sg T (o.2.1 + t) - 97) hR hok h9 h1 h2 (fun t ht => by
      have h5 := h4 t ht
      have hl := sg_lt (T := T) (i := o.2.1 + t) (by omega)
      refine ⟨by omega, ?_⟩
      rw [hT.2 _ hl, show pa_sg T (o.2.1 + t) - 97 + 97 = pa_sg T (o.2.1 + t) by omega]
      unfold pa_sg
      rw [if_pos hl])
    have eo : op_ord T o v = op_song o.2.2.1 (fun t => pa_sg T (o.2.1 + t) - 97) v := by unfold op_ord; rw [if_pos e]
    rw [eo, e, if_neg (ne _ _ (by omega) (by omega) (by omega)), if_neg (ne _ _ (by omega) (by omega) (by omega)), if_neg (ne _ _ (by omega) (by omega) (by omega)), if_neg (ne _ _ (by omega) (by omega) (by omega)), if_pos rfl, g1, g2]
    exact ⟨M1, by rw [e1]; rfl, R1, F1⟩
  · obtain ⟨g4, g5, g6⟩ := h76 e
    obtain ⟨M1, e1, R1, F1⟩ := mo_les hR hok (nI o.2.1) (nI o.2.2.1) (nI o.2.2.2)
    have eo : op_ord T o v = op_les (nI o.2.1) (nI o.2.2.1) (nI o.2.2.2) v := by unfold op_ord; rw [if_neg (by omega), if_pos e]
    rw [eo, e, if_neg (ne _ _ (by omega) (by omega) (by omega)), if_neg (ne _ _ (by omega) (by omega) (by omega)), if_pos rfl, g4, g5, g6]
    exact ⟨M1, by rw [e1]; rfl, R1, F1⟩
  · have g4 := h72 e
    obtain ⟨M1, e1, R1, F1⟩ := mo_hush hR hok (nI o.2.1)
    have eo : op_ord T o v = op_hush (nI o.2.1) v := by unfold op_ord; rw [if_neg (by omega), if_neg (by omega), if_pos e]
    rw [eo, e, if_neg (ne _ _ (by omega) (by omega) (by omega)), if_pos rfl, g4]
    exact ⟨M1, by rw [e1]; rfl, R1, F1⟩
  · obtain ⟨g4, g6⟩ := h80 e
    obtain ⟨M1, e1, R1, F1⟩ := mo_prac hR hok (nI o.2.1) (nI o.2.2.1)
    have eo : op_ord T o v = op_prac (nI o.2.1) (nI o.2.2.1) v := by unfold op_ord; rw [if_neg (by omega), if_neg (by omega), if_neg (by omega), if_pos e]
    rw [eo, e, if_neg (ne _ _ (by omega) (by omega) (by omega)), if_neg (ne _ _ (by omega) (by omega) (by omega)), if_neg (ne _ _ (by omega) (by omega) (by omega)), if_pos rfl, g4, g6]
    exact ⟨M1, by rw [e1]; rfl, R1, F1⟩
  · obtain ⟨M1, e1, R1, F1⟩ := mo_comes hR hok
    have eo : op_ord T o v = op_par v := by unfold op_ord; rw [if_neg (by omega), if_neg (by omega), if_neg (by omega), if_neg (by omega), if_pos e]
    rw [eo, e, if_pos rfl]
    exact ⟨M1, by rw [e1]; rfl, R1, F1⟩
  · obtain ⟨M1, e1, R1, F1⟩ := mo_ends hR hok
    have eo : op_ord T o v = op_nt v := by unfold op_ord; rw [if_neg (by omega), if_neg (by omega), if_neg (by omega), if_neg (by omega), if_neg (by omega)]
    rw [eo, e, if_neg (ne _ _ (by omega) (by omega) (by omega)), if_neg (ne _ _ (by omega) (by omega) (by omega)), if_neg (ne _ _ (by omega) (by omega) (by omega)), if_neg (ne _ _ (by omega) (by omega) (by omega)), if_neg (ne _ _ (by omega) (by omega) (by omega))]
    exact ⟨M1, by rw [e1]; rfl, R1, F1⟩
theorem MU_fd {M M1 : ps_M} {q : Nat} {A : ps_U} (hC : ps_MU M q A) (hok : ps_okU A) (hF : ps_Fd q M M1) : ps_MU M1 q A := MU_eq hC hok (fun k _ => hF.1 _ (by omega) (by omega) k) hF.2.2.1 hF.2.2.2 (fun a ha k => hF.1 a (by omega) (by omega) k)
theorem Fm_fd {M M1 : ps_M} {q : Nat} (hF : ps_Fd q M M1) : ps_Fm q M M1 := ⟨fun a ha k => hF.1 a (by omega) (by omega) k, hF.2.1⟩
theorem mu_fin {M : ps_M} {q : Nat} {A : ps_U} {v : ps_H} (hq : q + 9 < 1000000) (hC : ps_MU M q (v, A.2)) (hok : ps_okU A) (hv : ps_okH v) (hb : ps_RM M (q + 2) A.1) {k : Nat} (hk : k ≤ 80) : ∃ M3, (ps_let (ps_st M q 9 (nI 0)) fun M3 => ps_b2 (ff_X7_recorded q (nI k) M3) fun r4 M4 => some (r4, M4)) = some (nI k, M3) ∧ ps_MU M3 q (v, pa_ph A.2.1 A.1, A.2.2.1, (0, A.2.2.2.2)) ∧ ps_Fm q M M3 := by
  have hok2 : ps_okU (v, A.2.1, A.2.2.1, ((0 : Nat), A.2.2.2.2)) := ⟨hv, hok.2.1, hok.2.2.1, ⟨Nat.zero_le _, fun j hj => absurd hj (Nat.not_lt_zero j)⟩⟩
  have C1 : ps_MU (ps_st M q 9 (nI 0)) q (v, A.2.1, A.2.2.1, ((0 : Nat), A.2.2.2.2)) := by
    obtain ⟨c1, ⟨c2, c3⟩, c4, c5, c6⟩ := hC
    exact ⟨RM_eq hv (fun k _ => ev_ra (by omega)) c1, ⟨by rw [ev_rj (by omega)]; exact c2, fun i hi => RO_eq (hok.2.1.2 i hi) (fun k _ => ev_ra (by omega)) (c3 i hi)⟩, MU_slots hok.2.2.1 (fun k => ev_ra (by omega)) (fun k => ev_ra (by omega)) c4, ev_rs, fun j hj => absurd hj (Nat.not_lt_zero j)⟩
  obtain ⟨M3, e3, C3, F3⟩ := mo_rec hq C1 hok2 hok.1 (RM_eq hok.1 (fun k _ => ev_ra (by omega)) hb) (rs_n (n := k) (by omega))
  rw [if_neg (by rw [er_n (by omega)]; simp)] at C3
  refine ⟨M3, ?_, C3, ps_Fm_tr (ps_Fm_st (by omega) (by omega)) F3⟩
  rw [ps_letE, e3, ps_b2E]
theorem mu_co {q : Nat} {A : ps_U} (hq : q + 9 < 1000000) (hok : ps_okU A) (hf : pa_flt A.2.2.2 = none) : ∀ (m k n : Nat) (M : ps_M) (v : ps_H), k + m = pa_n A.2.2.2 + 1 → m + 2 ≤ n → ps_MU M q (v, A.2) → ps_okH v → ps_RM M (q + 2) A.1 → ps_rd M q 11 = nI (pa_n A.2.2.2 + 1) → (∀ t, t ≤ pa_n A.2.2.2 → ps_OM M q t (pa_or A.2.2.2 t)) → ∃ M3, fk_X7_carryOut_18 q n (nI k) (nI 1) M = some (nI (pa_cw A.2.2.2 m k v).1, M3) ∧ ps_MU M3 q ((pa_cw A.2.2.2 m k v).2, pa_ph A.2.1 A.1, A.2.2.1, (0, A.2.2.2.2)) ∧ ps_Fm q M M3
  | 0, k, n, M, v, h1, h2, hC, hv, hb, h3, h4 => by
    obtain ⟨n1, n2, n3⟩ := pa_n_sp hok.2.2.2
    obtain ⟨n, rfl⟩ : ∃ m, n = m + 1 := ⟨n - 1, by omega⟩
    rw [fk_X7_carryOut_18, if_neg (by rw [nI_eq (by omega) (by omega)]; omega), h3, if_pos (nI_le (by omega) (by omega))]
    exact mu_fin hq hC hok hv hb (by omega)
  | m + 1, k, n, M, v, h1, h2, hC, hv, hb, h3, h4 => by
    obtain ⟨n1, n2, n3⟩ := pa_n_sp hok.2.2.2
    obtain ⟨n, rfl⟩ : ∃ m, n = m + 2 := ⟨n - 2, by omega⟩
    have hoo := or_oo hok.2.2.2 hf (k := k) (by omega)
    have hTM : ps_TM M q A.2.2.2 := hC.2.2.2
    have hokv : ps_okU (v, A.2) := ⟨hv, hok.2⟩
    obtain ⟨M2, e2, R2, F2⟩ := mo_do hC.1 hv hTM hok.2.2.2 hoo (by omega) (h4 k (by omega))
    have C2 := MU_fo hC hokv F2 R2
    have hb2 : ps_RM M2 (q + 2) A.1 := RM_eq hok.1 (fun k _ => F2.1 _ (by omega) (by omega) k) hb
    have hv2 := ok_ord (T := A.2.2.2) hv hoo
    have hcw : pa_cw A.2.2.2 (m + 1) k v = if (!(pa_er (op_ord A.2.2.2 (pa_or A.2.2.2 k) v).1)) = true then pa_cw A.2.2.2 m (k + 1) (op_ord A.2.2.2 (pa_or A.2.2.2 k) v).2 else (k, v) := rfl
    rw [fk_X7_carryOut_18, if_neg (by rw [nI_eq (by omega) (by omega)]; omega), h3, if_neg (nI_ge (by omega) (by omega)), e2, ps_b2E, hcw]
    rcases rs_er (rs_ord (T := A.2.2.2) hv hoo) with ⟨hy, he⟩ | ⟨⟨hn1, hn2⟩, he⟩
    · obtain ⟨M3, e3, C3, F3⟩ := mu_co hq hok hf m (k + 1) (n + 1) M2 (op_ord A.2.2.2 (pa_or A.2.2.2 k) v).2 (by omega) (by omega) C2 hv2 hb2 (by rw [F2.1 _ (by omega) (by omega)]; exact h3) (fun t ht => OM_eq (fun j _ _ => F2.1 _ (by omega) (by omega) j) (h4 t ht))
      have e46 : ∀ r, fk_X7_carryOut_46 q (fun a1' a2' M' => fk_X7_carryOut_18 q (n + 1) a1' a2' M') (nI k) (nI 1) r M2 = fk_X7_carryOut_18 q (n + 1) (nI (k + 1)) (nI 1) M2 := fun r => by unfold fk_X7_carryOut_46; rw [nI_add, ps_letE]
      rw [he, if_pos (show (!false) = true from rfl)]
      refine ⟨M3, ?_, C3, ps_Fm_tr (ps_Fm_o F2) F3⟩
      by_cases c0 : nI 0 ≤ (op_ord A.2.2.2 (pa_or A.2.2.2 k) v).1
      · rw [if_pos c0, e46]
        exact e3
      · rw [if_neg c0, if_pos (hy.resolve_left c0), e46]
        exact e3
    · have es := er_same hv hoo he
      rw [es] at C2
      obtain ⟨M3, e3, C3, F3⟩ := mu_fin (A := A) hq C2 hok hv hb2 (k := k) (by omega)
      rw [if_neg hn1, if_neg hn2, nI_add, Nat.add_zero, ps_letE, fk_X7_carryOut_18, if_pos rfl, he, if_neg (by simp)]
      exact ⟨M3, e3, C3, ps_Fm_tr (ps_Fm_o F2) F3⟩
theorem mu_carry {M : ps_M} {q : Nat} {A : ps_U} (hq : q + 9 < 1000000) (hC : ps_MU M q A) (hok : ps_okU A) : ∃ M3, ff_X7_carryOut q M = some ((op_carry A).1, M3) ∧ ps_MU M3 q (op_carry A).2 ∧ ps_Fm q M M3 := by
  have n1 := (pa_n_sp hok.2.2.2).1
  have hTM : ps_TM M q A.2.2.2 := hC.2.2.2
  obtain ⟨M1, e1, F1, r1⟩ := mt_fault hTM hok.2.2.2
  have C1 := MU_fd hC hok F1
  obtain ⟨f1, f2, f3⟩ := fa_fm hok.2.2.2
  unfold ff_X7_carryOut op_carry
  rw [e1, ps_b2E]
  cases e : pa_flt A.2.2.2 with
  | some p =>
    rw [if_neg (fun z => by rw [f1.mp z] at e; cases e)]
    exact ⟨M1, rfl, C1, Fm_fd F1⟩
  | none =>
    obtain ⟨r2, r3⟩ := r1 e
    rw [if_pos (f1.mpr e)]
    have h2 : ff_X7_hold q M1 = some (nI 0, ps_cp M1 (q + 1) 0 (q + 2) 0 937) := mo_hold
    have C2 : ps_MU (ps_cp M1 (q + 1) 0 (q + 2) 0 937) q A := MU_eq C1 hok (fun k _ => ev_ca (by omega)) (ev_ca (by omega)) (ev_ca (by omega)) (fun a ha k => ev_ca (by omega))
    have b2 : ps_RM (ps_cp M1 (q + 1) 0 (q + 2) 0 937) (q + 2) A.1 := RM_eq hok.1 (fun k hk => by
      rw [ev_ci (by omega) (by omega)]
      exact congrArg (ps_rd M1 (q + 1)) (by omega)) C1.1
    obtain ⟨M4, e4, C4, F4⟩ := mu_co hq hok e (pa_n A.2.2.2 + 1) 0 ps_fu (ps_cp M1 (q + 1) 0 (q + 2) 0 937) A.1 (by omega) (by unfold ps_fu; omega) C2 hok.1 b2 (by rw [ev_ca (by omega)]; exact r2) (fun t ht => OM_eq (fun j _ _ => ev_ca (by omega)) (r3 t ht))
    refine ⟨M4, ?_, C4, ps_Fm_tr (Fm_fd F1) (ps_Fm_tr (ps_Fm_cp (by omega) (by omega)) F4)⟩
    rw [h2, ps_b2E]
    exact e4
theorem mu_fault {M : ps_M} {q : Nat} {A : ps_U} (hC : ps_MU M q A) (hok : ps_okU A) : ∃ M1, ff_X7_fault q M = some (pa_fa A.2.2.2, M1) ∧ ps_MU M1 q A ∧ ps_Fm q M M1 := by
  have hTM : ps_TM M q A.2.2.2 := hC.2.2.2
  obtain ⟨M1, e1, F1⟩ := mq_fault hTM hok.2.2.2
  exact ⟨M1, e1, MU_fd hC hok F1, Fm_fd F1⟩
/-! wipe -/
def op_wipe (A : ps_U) : Int32 × ps_U := (nI A.2.2.2.1, (A.1, A.2.1, A.2.2.1, (0, A.2.2.2.2)))
theorem ok_wipe {A : ps_U} (hok : ps_okU A) : ps_okU (op_wipe A).2 := ⟨hok.1, hok.2.1, hok.2.2.1, ⟨Nat.zero_le _, fun j hj => absurd hj (Nat.not_lt_zero j)⟩⟩
theorem mu_wipe {M : ps_M} {q : Nat} {A : ps_U} (hC : ps_MU M q A) (hok : ps_okU A) : ∃ M1, ff_X7_wipe q M = some ((op_wipe A).1, M1) ∧ ps_MU M1 q (op_wipe A).2 ∧ ps_Fm q M M1 := by
  obtain ⟨c1, ⟨c2, c3⟩, c4, c5, c6⟩ := hC
  refine ⟨ps_st M q 9 (nI 0), ?_, ⟨RM_eq hok.1 (fun k _ => ev_ra (by omega)) c1, ⟨by rw [ev_rj (by omega)]; exact c2, fun i hi => RO_eq (hok.2.1.2 i hi) (fun k _ => ev_ra (by omega)) (c3 i hi)⟩, MU_slots hok.2.2.1 (fun k => ev_ra (by omega)) (fun k => ev_ra (by omega)) c4, ev_rs, fun j hj => absurd hj (Nat.not_lt_zero j)⟩, ps_Fm_st (by omega) (by omega)⟩
  unfold ff_X7_wipe
  rw [ps_letE, ps_letE, c5]
  rfl
theorem cl_wipe {M : ps_M} {A : ps_U} (hC : ps_CL M A) (hok : ps_okU A) : ∃ M1, ff_X6_wipe 0 M = some ((op_wipe A).1, M1) ∧ ps_CL M1 (op_wipe A).2 ∧ ps_Fc M M1 := by
  have F1 : ps_Fr 324 325 M (ps_st M 324 1 (nI 0)) := ps_Fr_st (by omega) (by omega)
  have e5 := hC.2.2.2.2.1
  refine ⟨ps_st M 324 1 (nI 0), ?_, ?_, ps_Fc_of F1 (by omega)⟩
  · unfold ff_X6_wipe
    rw [show 0 + 323 + 1 = 324 from rfl, ps_letE, ps_letE, e5]
    rfl
  · obtain ⟨c1, c2, ⟨c3, c4⟩, c5, c6, c7⟩ := hC
    refine ⟨ps_RH_fr hok.1 F1 (by omega) c1, ps_hs_fr F1 c2, ⟨by rw [F1.1 _ (by omega)]; exact c3, fun i hi => ?_⟩, ps_CL_slots (A := A) hok F1 (by omega) c5, ev_rs, fun j hj => absurd hj (Nat.not_lt_zero j)⟩
    rw [ps_rr_fr F1]
    have h6 := hok.2.1.1
    have hi2 : i < A.2.1.1 := hi
    have hbi := ps_hs_bd c2 (i := i) (by omega)
    exact ps_RH_fr (hok.2.1.2 i hi) F1 (by omega) (c4 i hi)
