/-! the model's fault of the pad -/
def pa_fm (T : ps_Tx) : Int32 := match pa_flt T with
  | none => ps_m 1
  | some p => nI p
def ps_RF (M : ps_M) (q : Nat) (T : ps_Tx) (x : Option (Int32 × ps_M)) : Prop := ∃ M1, x = some (pa_fm T, M1) ∧ ps_Fd q M M1 ∧ (pa_flt T = none → ps_rd M1 q 11 = nI (pa_n T + 1) ∧ ∀ t, t ≤ pa_n T → ps_OM M1 q t (pa_ord T (pa_pos T t)).2.2)
theorem mt_ff {q : Nat} {T : ps_Tx} (hok : ps_okT T) : ∀ (m k n : Nat) (M : ps_M), k + m = pa_n T → 2 * m + 3 ≤ n → ps_TM M q T → ps_rd M q 12 = nI (pa_ord T (pa_pos T k)).2.1 → ps_rd M q 11 = nI (if (pa_ord T (pa_pos T k)).1 = true then k + 1 else k) → (∀ t, t < k → ps_OM M q t (pa_ord T (pa_pos T t)).2.2) → ((pa_ord T (pa_pos T k)).1 = true → ps_OM M q k (pa_ord T (pa_pos T k)).2.2) → ps_RF M q T (fk_X7_faultOf_15 q n (pa_bi (pa_ord T (pa_pos T k)).1) M)
  | 0, k, n, M, h1, h2, hT, h3, h4, h5, h6 => by
    obtain ⟨n1, n2, n3⟩ := pa_n_sp hok
    obtain ⟨n, rfl⟩ : ∃ m, n = m + 2 := ⟨n - 2, by omega⟩
    have hk : k = pa_n T := h1
    have h8 := hok.1
    obtain ⟨b1, b2⟩ := pos_b hok k (fun t ht => n3 t (by omega))
    obtain ⟨e1, e2, e3⟩ := ord_end hok b2
    have ne10 : ¬ nI 1 = nI 0 := by rw [nI_eq (by omega) (by omega)]; omega
    have ng : pa_go T k = false := by rw [hk]; exact n2
    unfold ps_RF pa_fm
    by_cases g1 : (pa_ord T (pa_pos T k)).1 = true
    · have g2 := go_f ng g1
      rw [if_pos g1] at h4
      rw [g1, show pa_bi true = nI 1 from rfl, fk_X7_faultOf_15, if_neg ne10, hT.1, h3]
      by_cases hl : T.1 ≤ (pa_ord T (pa_pos T k)).2.1
      · have ef : pa_flt T = none := by
          unfold pa_flt
          rw [← hk, if_pos ⟨g1, hl⟩]
        rw [if_pos (nI_le hl (by omega)), if_neg ne10, ef]
        refine ⟨M, rfl, ps_Fd_rf, fun _ => ⟨by rw [← hk]; exact h4, fun t ht => ?_⟩⟩
        by_cases z : t < k
        · exact h5 t z
        · rw [show t = k by omega]
          exact h6 g1
      · have ef : pa_flt T = some (pa_ord T (pa_pos T k)).2.1 := by
          unfold pa_flt
          rw [← hk, if_neg (fun z => hl z.2)]
        rw [if_neg (nI_ge (by omega) (by omega)), mt_acc hT hok (by omega) (by omega) (by omega) h3, if_neg g2, ps_b2E, if_pos rfl, fk_X7_faultOf_15, if_pos rfl, if_pos rfl, h3, ef]
        exact ⟨M, rfl, ps_Fd_rf, fun z => by cases z⟩
    · have ef : pa_flt T = some (pa_ord T (pa_pos T k)).2.1 := by
        unfold pa_flt
        rw [← hk, if_neg (fun z => g1 z.1)]
      rw [Bool.not_eq_true] at g1
      rw [g1, show pa_bi false = nI 0 from rfl, fk_X7_faultOf_15, if_pos rfl, if_pos rfl, h3, ef]
      exact ⟨M, rfl, ps_Fd_rf, fun z => by cases z⟩
  | m + 1, k, n, M, h1, h2, hT, h3, h4, h5, h6 => by
    obtain ⟨n1, n2, n3⟩ := pa_n_sp hok
    obtain ⟨n, rfl⟩ : ∃ m, n = m + 1 := ⟨n - 1, by omega⟩
    have h8 := hok.1
    obtain ⟨g1, g2⟩ := go_t (n3 k (by omega))
    obtain ⟨b1, b2⟩ := pos_b hok (k + 1) (fun t ht => n3 t (by omega))
    have hl : (pa_ord T (pa_pos T k)).2.1 < T.1 := sg_lt (by omega)
    have ne10 : ¬ nI 1 = nI 0 := by rw [nI_eq (by omega) (by omega)]; omega
    rw [if_pos g1] at h4
    have F1 : ps_Fd q M (ps_st M q 12 (nI ((pa_ord T (pa_pos T k)).2.1 + 1))) := ps_Fd_st (by omega)
    obtain ⟨M2, e2, F2, r12, r11, ro, rO⟩ := mt_ord (M := ps_st M q 12 (nI ((pa_ord T (pa_pos T k)).2.1 + 1))) (i := pa_pos T (k + 1)) (k := k + 1) (TM_fd F1 hT) hok (by omega) ev_rs (by rw [ev_rj (by omega)]; exact h4) (by omega)
    have h7 : ∀ t, t < k + 1 → ps_OM M2 q t (pa_ord T (pa_pos T t)).2.2 := by
      intro t ht
      refine OM_eq (fun j ha hb => (ro j (by omega)).trans (ev_ra (by omega))) ?_
      by_cases z : t < k
      · exact h5 t z
      · rw [show t = k by omega]
        exact h6 g1
    obtain ⟨M3, e3, F3, r3⟩ := mt_ff hok m (k + 1) n M2 (by omega) (by omega) (TM_fd F2 (TM_fd F1 hT)) r12 r11 h7 rO
    refine ⟨M3, ?_, ps_Fd_tr F1 (ps_Fd_tr F2 F3), r3⟩
    rw [g1, show pa_bi true = nI 1 from rfl, fk_X7_faultOf_15, if_neg ne10, hT.1, h3, if_neg (nI_ge hl (by omega)), mt_acc hT hok (by omega) (by omega) (by omega) h3, if_pos g2, ps_b2E, if_neg ne10, e2, ps_b2E]
    rw [← e3]
    unfold pa_bi
    by_cases z : (pa_ord T (pa_pos T (k + 1))).1 = true
    · rw [if_pos z, if_neg ne10]
    · rw [if_neg z, if_pos rfl]
theorem mt_fault {M : ps_M} {q : Nat} {T : ps_Tx} (hT : ps_TM M q T) (hok : ps_okT T) : ps_RF M q T (ff_X7_faultOf q M) := by
  have n1 := (pa_n_sp hok).1
  have F0 : ps_Fd q M (ps_st (ps_st M q 12 (nI 0)) q 11 (nI 0)) := ps_Fd_tr (ps_Fd_st (by omega)) (ps_Fd_st (by omega))
  obtain ⟨M2, e2, F2, r12, r11, ro, rO⟩ := mt_ord (M := ps_st (ps_st M q 12 (nI 0)) q 11 (nI 0)) (i := pa_pos T 0) (k := 0) (TM_fd F0 hT) hok (Nat.zero_le _) (by rw [ev_rj (by omega), ev_rs]; rfl) ev_rs (by omega)
  obtain ⟨M3, e3, F3, r3⟩ := mt_ff hok (pa_n T) 0 ps_fu M2 (by omega) (by unfold ps_fu; omega) (TM_fd F2 (TM_fd F0 hT)) r12 r11 (fun t ht => absurd ht (Nat.not_lt_zero t)) rO
  refine ⟨M3, ?_, ps_Fd_tr F0 (ps_Fd_tr F2 F3), r3⟩
  unfold ff_X7_faultOf
  rw [ps_letE, ps_letE, e2, ps_b2E]
  exact e3
/-! the answers of fault -/
theorem fa_fm {T : ps_Tx} (hok : ps_okT T) : (pa_fm T < nI 0 ↔ pa_flt T = none) ∧ (pa_fa T = ps_m 6 ↔ pa_flt T = none) ∧ (∀ p, pa_flt T = some p → p ≤ 80) := by
  obtain ⟨n1, n2, n3⟩ := pa_n_sp hok
  obtain ⟨b1, b2⟩ := pos_b hok (pa_n T) n3
  obtain ⟨e1, e2, e3⟩ := ord_end hok b2
  have h8 := hok.1
  have h9 : ∀ p, pa_flt T = some p → p ≤ 80 := by
    intro p hp
    unfold pa_flt at hp
    by_cases c : (pa_ord T (pa_pos T (pa_n T))).1 = true ∧ T.1 ≤ (pa_ord T (pa_pos T (pa_n T))).2.1
    · rw [if_pos c] at hp; cases hp
    · rw [if_neg c] at hp; cases hp; omega
  unfold pa_fm pa_fa
  cases e : pa_flt T with
  | none =>
    refine ⟨⟨fun _ => rfl, fun _ => ?_⟩, ⟨fun _ => rfl, fun _ => rfl⟩, fun p hp => by cases hp⟩
    show ps_m 1 < nI 0
    rw [ev_mlt (by omega) (by omega) (by omega)]
    trivial
  | some p =>
    have hp := h9 p e
    refine ⟨⟨fun z => ?_, fun z => by cases z⟩, ⟨fun z => ?_, fun z => by cases z⟩, fun r hr => by cases hr; exact hp⟩
    · exact absurd z (nI_nlt (by omega) (by omega))
    · have z2 : nI p = ps_m 6 := z
      rw [ev_eqm (by omega) (by omega) (by omega)] at z2
      exact z2.elim
theorem mq_fault {M : ps_M} {q : Nat} {T : ps_Tx} (hT : ps_TM M q T) (hok : ps_okT T) : ∃ M1, ff_X7_fault q M = some (pa_fa T, M1) ∧ ps_Fd q M M1 := by
  obtain ⟨M1, e1, F1, -⟩ := mt_fault hT hok
  obtain ⟨f1, f2, f3⟩ := fa_fm hok
  refine ⟨M1, ?_, F1⟩
  unfold ff_X7_fault
  rw [e1, ps_b2E]
  by_cases c : pa_fm T < nI 0
  · rw [if_neg (Int32.not_le.mpr c), f2.mpr (f1.mp c)]
  · rw [if_pos (Int32.not_lt.mp c)]
    unfold pa_fm pa_fa at *
    cases e : pa_flt T with
    | none => exact absurd (f1.mpr e) c
    | some p => rfl
