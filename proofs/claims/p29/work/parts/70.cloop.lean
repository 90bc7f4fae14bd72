/-! the class carries the whole text out -/
def pa_or (T : ps_Tx) (k : Nat) : Nat × Nat × Nat × Nat := (pa_ord T (pa_pos T k)).2.2
def pa_cw (T : ps_Tx) (m k : Nat) (v : ps_H) : Nat × ps_H := ps_wh (fun k v => !(pa_er (op_ord T (pa_or T k) v).1)) (fun k v => (op_ord T (pa_or T k) v).2) m k v
def op_carry (A : ps_U) : Int32 × ps_U := match pa_flt A.2.2.2 with
  | some _ => (ps_m 3, A)
  | none => (nI (pa_cw A.2.2.2 (pa_n A.2.2.2 + 1) 0 A.1).1, ((pa_cw A.2.2.2 (pa_n A.2.2.2 + 1) 0 A.1).2, pa_ph A.2.1 A.1, A.2.2.1, (0, A.2.2.2.2)))
theorem flt_no {T : ps_Tx} (h : pa_flt T = none) : (pa_ord T (pa_pos T (pa_n T))).1 = true ∧ T.1 ≤ (pa_ord T (pa_pos T (pa_n T))).2.1 := by
  unfold pa_flt at h
  by_cases c : (pa_ord T (pa_pos T (pa_n T))).1 = true ∧ T.1 ≤ (pa_ord T (pa_pos T (pa_n T))).2.1
  · exact c
  · rw [if_neg c] at h; cases h
theorem or_oo {T : ps_Tx} (hT : ps_okT T) (h : pa_flt T = none) {k : Nat} (hk : k ≤ pa_n T) : ps_oo T (pa_or T k) := by
  obtain ⟨n1, n2, n3⟩ := pa_n_sp hT
  have h8 := hT.1
  obtain ⟨b1, b2⟩ := pos_b hT k (fun t ht => n3 t (by omega))
  refine ord_oo (by omega) ?_
  by_cases z : k < pa_n T
  · exact (go_t (n3 k z)).1
  · rw [show k = pa_n T by omega]
    exact (flt_no h).1
theorem ok_cw {T : ps_Tx} (hT : ps_okT T) (h : pa_flt T = none) : ∀ (m k : Nat) (v : ps_H), k + m ≤ pa_n T + 1 → ps_okH v → ps_okH (pa_cw T m k v).2
  | 0, k, v, _, hv => hv
  | m + 1, k, v, hk, hv => by
    unfold pa_cw ps_wh
    by_cases c : (!(pa_er (op_ord T (pa_or T k) v).1)) = true
    · rw [if_pos c]
      exact ok_cw hT h m (k + 1) _ (by omega) (ok_ord hv (or_oo hT h (by omega)))
    · rw [if_neg c]; exact hv
theorem ok_carry {A : ps_U} (hok : ps_okU A) : ps_okU (op_carry A).2 := by
  unfold op_carry
  cases e : pa_flt A.2.2.2 with
  | some p => exact hok
  | none => exact ⟨ok_cw hok.2.2.2 e _ _ _ (by omega) hok.1, ok_ph hok hok.1, hok.2.2.1, ⟨Nat.zero_le _, fun j hj => absurd hj (Nat.not_lt_zero j)⟩⟩
theorem CL_fe {M M1 : ps_M} {A : ps_U} (hC : ps_CL M A) (hok : ps_okU A) (hF : ps_Fe 323 M M1) : ps_CL M1 A := ps_CL_junk hC hok (fun k hk j => hF.1 k (by omega) (by omega) j) hF.2
theorem Fc_fe {M M1 : ps_M} (hF : ps_Fe 323 M M1) : ps_Fc M M1 := fun k hk j => hF.1 k (by omega) (by omega) j
/-- the end of it: the pad is wiped, and what was goes into the history -/
theorem cl_fin {M : ps_M} {A : ps_U} {v : ps_H} (hC : ps_CL M (v, A.2)) (hok : ps_okU A) (hv : ps_okH v) (hb : ps_RH M (ps_rr M 6) A.1) {k : Nat} (hk : k ≤ 80) : ∃ M3, (ps_let (ps_st M ((0 + 323) + 1) 1 (nI 0)) fun M4 => ps_b2 (ff_X0_keepUnlessError (0 + 41) (nI k) M4) fun r5 M5 => some (r5, M5)) = some (nI k, M3) ∧ ps_CL M3 (v, pa_ph A.2.1 A.1, A.2.2.1, (0, A.2.2.2.2)) ∧ ps_Fc M M3 := by
  have hok2 : ps_okU (v, A.2.1, A.2.2.1, ((0 : Nat), A.2.2.2.2)) := ⟨hv, hok.2.1, hok.2.2.1, ⟨Nat.zero_le _, fun j hj => absurd hj (Nat.not_lt_zero j)⟩⟩
  have hb6 := ps_hs_bd hC.2.1 (i := 6) (by omega)
  have F1 : ps_Fr 324 325 M (ps_st M 324 1 (nI 0)) := ps_Fr_st (by omega) (by omega)
  have C1 : ps_CL (ps_st M 324 1 (nI 0)) (v, A.2.1, A.2.2.1, ((0 : Nat), A.2.2.2.2)) := by
    obtain ⟨c1, c2, ⟨c3, c4⟩, c5, c6, c7⟩ := hC
    refine ⟨ps_RH_fr hv F1 (by omega) c1, ps_hs_fr F1 c2, ⟨by rw [F1.1 _ (by omega)]; exact c3, fun i hi => ?_⟩, ps_CL_slots (A := (v, A.2)) ⟨hv, hok.2⟩ F1 (by omega) c5, ev_rs, fun j hj => absurd hj (Nat.not_lt_zero j)⟩
    rw [ps_rr_fr F1]
    have h6 := hok.2.1.1
    have hi2 : i < A.2.1.1 := hi
    have hbi := ps_hs_bd c2 (i := i) (by omega)
    exact ps_RH_fr (hok.2.1.2 i hi) F1 (by omega) (c4 i hi)
  obtain ⟨M3, e3, C3, k3⟩ := hi_keep C1 hok2 hok.1 (by rw [ps_rr_fr F1]; exact ps_RH_fr hok.1 F1 (by omega) hb) (nI k)
  rw [if_neg (by rw [er_n (by omega)]; simp)] at C3
  refine ⟨M3, ?_, C3, ps_Fc_tr (ps_Fc_of F1 (by omega)) (fun k hk j => k3 k (by omega) j)⟩
  rw [ps_letE, e3, ps_b2E]
theorem cl_ie (r : Int32) (M : ps_M) : ff_X6_isError r M = some (pa_bi (pa_er r), M) := by
  unfold ff_X6_isError pa_bi pa_er
  by_cases c1 : ps_m 1 < r
  · rw [if_pos c1, if_neg (by simp; intro q; exact absurd q (Int32.not_le.mpr c1))]
  · rw [if_neg c1]
    by_cases c2 : r < ps_m 5
    · rw [if_pos c2, if_neg (by simp; intro _; exact c2)]
    · rw [if_neg c2, if_pos (by simp; exact ⟨Int32.not_lt.mp c1, Int32.not_lt.mp c2⟩)]
theorem cl_co {A : ps_U} (hok : ps_okU A) (hf : pa_flt A.2.2.2 = none) : ∀ (m k n : Nat) (M : ps_M) (v : ps_H), k + m = pa_n A.2.2.2 + 1 → m + 1 ≤ n → ps_CL M (v, A.2) → ps_okH v → ps_RH M (ps_rr M 6) A.1 → ps_rd M 323 2 = (if k ≤ pa_n A.2.2.2 then nI 1 else nI 0) → (k ≤ pa_n A.2.2.2 → ps_rd M 323 1 = nI (pa_pos A.2.2.2 k)) → ∃ M3, fk_X6_carryOut_35 0 n (nI k) M = some (nI (pa_cw A.2.2.2 m k v).1, M3) ∧ ps_CL M3 ((pa_cw A.2.2.2 m k v).2, pa_ph A.2.1 A.1, A.2.2.1, (0, A.2.2.2.2)) ∧ ps_Fc M M3
  | 0, k, n, M, v, h1, h2, hC, hv, hb, h3, h4 => by
    obtain ⟨n1, n2, n3⟩ := pa_n_sp hok.2.2.2
    obtain ⟨n, rfl⟩ : ∃ m, n = m + 1 := ⟨n - 1, by omega⟩
    rw [if_neg (by omega)] at h3
    rw [fk_X6_carryOut_35, if_neg (nI_ge (by omega) (by omega))]
    unfold ff_X4_readNext
    rw [show 0 + 323 = 323 from rfl, h3, if_pos rfl, ps_b2E, if_pos rfl]
    exact cl_fin hC hok hv hb (by omega)
  | m + 1, k, n, M, v, h1, h2, hC, hv, hb, h3, h4 => by
    obtain ⟨n1, n2, n3⟩ := pa_n_sp hok.2.2.2
    obtain ⟨n, rfl⟩ : ∃ m, n = m + 1 := ⟨n - 1, by omega⟩
    rw [if_pos (by omega)] at h3
    have h5 := h4 (by omega)
    have hTX : ps_TX M (323 + 1) A.2.2.2 := hC.2.2.2.2
    have hoo := or_oo hok.2.2.2 hf (k := k) (by omega)
    have hnx : ∃ M1, ff_X4_readNext 323 M = some (nI 1, M1) ∧ ps_OR M1 323 A.2.2.2 (pa_or A.2.2.2 k) ∧ ps_Fe 323 M M1 ∧ ps_rd M1 323 2 = (if k + 1 ≤ pa_n A.2.2.2 then nI 1 else nI 0) ∧ (k + 1 ≤ pa_n A.2.2.2 → ps_rd M1 323 1 = nI (pa_pos A.2.2.2 (k + 1))) := by
      by_cases z : k < pa_n A.2.2.2
      · obtain ⟨M1, e1, r1, r2, O1, F1⟩ := cl_nextA hTX hok.2.2.2 (fun t ht => n3 t (by omega)) h5 h3 (n3 k z)
        exact ⟨M1, e1, O1, F1, by rw [if_pos (by omega)]; exact r2, fun _ => r1⟩
      · have ek : k = pa_n A.2.2.2 := by omega
        obtain ⟨f1, f2⟩ := flt_no hf
        rw [← ek] at f1 f2 n2
        obtain ⟨M1, e1, r2, O1, F1⟩ := cl_nextB hTX hok.2.2.2 (fun t ht => n3 t (by omega)) h5 h3 n2 f1 f2
        exact ⟨M1, e1, O1, F1, by rw [if_neg (by omega)]; exact r2, fun z2 => by omega⟩
    obtain ⟨M1, e1, O1, F1, g2, g1⟩ := hnx
    have hokv : ps_okU (v, A.2) := ⟨hv, hok.2⟩
    have C1 := CL_fe hC hokv F1
    have hb6 := ps_hs_bd hC.2.1 (i := 6) (by omega)
    have rr1 : ps_rr M1 6 = ps_rr M 6 := by unfold ps_rr; rw [F1.2]
    have hb1 : ps_RH M1 (ps_rr M1 6) A.1 := by rw [rr1]; exact ps_RH_eq (fun k h1 h2 j => F1.1 k (by omega) (by omega) j) hok.1 hb
    obtain ⟨M2, e2, R2, F2⟩ := cl_do C1.1 hv hoo O1
    have C2 := ps_CL_cur C1 hokv F2 R2
    have hb2 : ps_RH M2 (ps_rr M2 6) A.1 := by rw [ps_rr_fr F2]; exact ps_RH_fr hok.1 F2 (by rw [rr1]; omega) hb1
    have hv2 := ok_ord (T := A.2.2.2) hv hoo
    have Fc2 : ps_Fc M M2 := ps_Fc_tr (Fc_fe F1) (ps_Fc_of F2 (by omega))
    have hcw : pa_cw A.2.2.2 (m + 1) k v = if (!(pa_er (op_ord A.2.2.2 (pa_or A.2.2.2 k) v).1)) = true then pa_cw A.2.2.2 m (k + 1) (op_ord A.2.2.2 (pa_or A.2.2.2 k) v).2 else (k, v) := rfl
    rw [fk_X6_carryOut_35, if_neg (nI_ge (by omega) (by omega)), show 0 + 323 = 323 from rfl, e1, ps_b2E, if_neg (by rw [nI_eq (by omega) (by omega)]; omega), e2, ps_b2E, cl_ie, ps_b2E, hcw]
    by_cases c : pa_er (op_ord A.2.2.2 (pa_or A.2.2.2 k) v).1 = true
    · have es := er_same hv hoo c
      rw [es] at C2
      obtain ⟨M3, e3, C3, F3⟩ := cl_fin (A := A) C2 hok hv hb2 (k := k) (by omega)
      rw [c, show pa_bi true = nI 1 from rfl, if_neg (by rw [nI_eq (by omega) (by omega)]; omega), if_neg (by simp)]
      exact ⟨M3, e3, C3, ps_Fc_tr Fc2 F3⟩
    · rw [Bool.not_eq_true] at c
      obtain ⟨M3, e3, C3, F3⟩ := cl_co hok hf m (k + 1) n M2 _ (by omega) (by omega) C2 hv2 hb2 (by rw [F2.1 _ (by omega)]; exact g2) (fun z => by rw [F2.1 _ (by omega)]; exact g1 z)
      rw [c, show pa_bi false = nI 0 from rfl, if_pos rfl, if_pos (by simp), ps_letE, nI_add]
      exact ⟨M3, e3, C3, ps_Fc_tr Fc2 F3⟩
theorem cl_carry {M : ps_M} {A : ps_U} (hC : ps_CL M A) (hok : ps_okU A) : ∃ M3, ff_X6_carryOut 0 M = some ((op_carry A).1, M3) ∧ ps_CL M3 (op_carry A).2 ∧ ps_Fc M M3 := by
  have n1 := (pa_n_sp hok.2.2.2).1
  have hTX : ps_TX M (323 + 1) A.2.2.2 := hC.2.2.2.2
  obtain ⟨M1, e1, F1⟩ := cl_fault hTX hok.2.2.2
  have C1 := CL_fe hC hok F1
  obtain ⟨f1, f2, f3⟩ := fa_fm hok.2.2.2
  unfold ff_X6_carryOut op_carry
  rw [show 0 + 323 = 323 from rfl, e1, ps_b2E]
  cases e : pa_flt A.2.2.2 with
  | some p =>
    rw [if_neg (fun z => by rw [f2.mp z] at e; cases e)]
    exact ⟨M1, rfl, C1, Fc_fe F1⟩
  | none =>
    rw [if_pos (f2.mpr e)]
    obtain ⟨M2, e2, C2, b2, F2⟩ := hi_note C1 hok
    have hb6 := ps_hs_bd C1.2.1 (i := 6) (by omega)
    have hb62 := ps_hs_bd C2.2.1 (i := 6) (by omega)
    have F3 : ps_Fe 323 M2 (ps_st (ps_st M2 323 1 (nI 0)) 323 2 (nI 1)) := ps_Fe_tr ps_Fe_st ps_Fe_st
    have C3 := CL_fe C2 hok F3
    have rr3 : ps_rr (ps_st (ps_st M2 323 1 (nI 0)) 323 2 (nI 1)) 6 = ps_rr M2 6 := rfl
    obtain ⟨M4, e4, C4, F4⟩ := cl_co hok e (pa_n A.2.2.2 + 1) 0 ps_fu (ps_st (ps_st M2 323 1 (nI 0)) 323 2 (nI 1)) A.1 (by omega) (by unfold ps_fu; omega) C3 hok.1 (by rw [rr3]; exact ps_RH_eq (fun k h1 h2 j => F3.1 k (by omega) (by omega) j) hok.1 b2) (by rw [if_pos (Nat.zero_le _), ev_rs]) (fun _ => by rw [ev_rj (by omega), ev_rs]; rfl)
    refine ⟨M4, ?_, C4, ps_Fc_tr (Fc_fe F1) (ps_Fc_tr (ps_Fc_of F2 (by omega)) (ps_Fc_tr (Fc_fe F3) F4))⟩
    rw [e2, ps_b2E, cl_start, ps_b2E]
    exact e4
theorem cq_fault {M : ps_M} {A : ps_U} (hC : ps_CL M A) (hok : ps_okU A) : ∃ M1, ff_X6_fault 0 M = some (pa_fa A.2.2.2, M1) ∧ ps_CL M1 A ∧ ps_Fc M M1 := by
  have hTX : ps_TX M (323 + 1) A.2.2.2 := hC.2.2.2.2
  obtain ⟨M1, e1, F1⟩ := cl_fault hTX hok.2.2.2
  refine ⟨M1, ?_, CL_fe hC hok F1, Fc_fe F1⟩
  unfold ff_X6_fault
  rw [show 0 + 323 = 323 from rfl, e1, ps_b2E]
