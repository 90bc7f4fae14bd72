/-! the whole text, order by order -/
def pa_pos (T : ps_Tx) : Nat → Nat
  | 0 => 0
  | k + 1 => (pa_ord T (pa_pos T k)).2.1 + 1
def pa_go (T : ps_Tx) (k : Nat) : Bool := (pa_ord T (pa_pos T k)).1 && decide (pa_sg T (pa_ord T (pa_pos T k)).2.1 = 59)
def pa_n (T : ps_Tx) : Nat := ps_sc (pa_go T) 41 0
theorem go_t {T : ps_Tx} {k : Nat} (h : pa_go T k = true) : (pa_ord T (pa_pos T k)).1 = true ∧ pa_sg T (pa_ord T (pa_pos T k)).2.1 = 59 := by
  unfold pa_go at h
  rw [Bool.and_eq_true] at h
  exact ⟨h.1, of_decide_eq_true h.2⟩
theorem go_f {T : ps_Tx} {k : Nat} (h : pa_go T k = false) (h1 : (pa_ord T (pa_pos T k)).1 = true) : ¬ pa_sg T (pa_ord T (pa_pos T k)).2.1 = 59 := by
  intro z
  unfold pa_go at h
  rw [h1, decide_eq_true z] at h
  cases h
theorem pos_b {T : ps_Tx} (hT : ps_okT T) : ∀ k, (∀ t, t < k → pa_go T t = true) → 2 * k ≤ pa_pos T k ∧ pa_pos T k ≤ T.1
  | 0, _ => ⟨Nat.le_refl _, Nat.zero_le _⟩
  | k + 1, h => by
    obtain ⟨i1, i2⟩ := pos_b hT k (fun t ht => h t (by omega))
    obtain ⟨g1, g2⟩ := go_t (h k (by omega))
    obtain ⟨e1, e2, e3⟩ := ord_end hT i2
    have := e3 g1
    have := sg_lt (T := T) (i := (pa_ord T (pa_pos T k)).2.1) (by omega)
    exact ⟨by show _ ≤ (pa_ord T (pa_pos T k)).2.1 + 1; omega, by show (pa_ord T (pa_pos T k)).2.1 + 1 ≤ _; omega⟩
theorem pa_n_sp {T : ps_Tx} (hT : ps_okT T) : pa_n T ≤ 40 ∧ pa_go T (pa_n T) = false ∧ ∀ t, t < pa_n T → pa_go T t = true := by
  obtain ⟨s1, s2, s3, s4⟩ := ps_sc_spec (pa_go T) 41 0
  have h8 := hT.1
  have h3 : ∀ t, t < pa_n T → pa_go T t = true := fun t ht => s3 t (Nat.zero_le _) ht
  have h1 : pa_n T ≤ 40 := by
    have := pos_b hT (pa_n T) h3
    omega
  exact ⟨h1, s4 (by unfold pa_n at h1; omega), h3⟩
/-- where the text can't be read on -/
def pa_flt (T : ps_Tx) : Option Nat := if (pa_ord T (pa_pos T (pa_n T))).1 = true ∧ T.1 ≤ (pa_ord T (pa_pos T (pa_n T))).2.1 then none else some (pa_ord T (pa_pos T (pa_n T))).2.1
def ps_Fe (q : Nat) (M M1 : ps_M) : Prop := (∀ a, a ≠ q → a ≠ q + 3 → ∀ k, ps_rd M1 a k = ps_rd M a k) ∧ M1.2 = M.2
theorem ps_Fe_tr {q : Nat} {M M1 M2 : ps_M} (h1 : ps_Fe q M M1) (h2 : ps_Fe q M1 M2) : ps_Fe q M M2 := ⟨fun a ha hb k => (h2.1 a ha hb k).trans (h1.1 a ha hb k), h2.2.trans h1.2⟩
theorem ps_Fe_q {q : Nat} {M M1 : ps_M} (h : ps_Fq q M M1) : ps_Fe q M M1 := ⟨h.1, h.2.1⟩
theorem ps_Fe_st {q k : Nat} {M : ps_M} {x : Int32} : ps_Fe q M (ps_st M q k x) := ⟨fun a ha _ i => ev_ra ha, rfl⟩
theorem TX_fe {q : Nat} {M M1 : ps_M} {T : ps_Tx} (h : ps_Fe q M M1) (hT : ps_TX M (q + 1) T) : ps_TX M1 (q + 1) T := ⟨by rw [h.1 _ (by omega) (by omega)]; exact hT.1, fun j hj => by rw [h.1 _ (by omega) (by omega)]; exact hT.2 j hj⟩
theorem OR_st {M : ps_M} {q k : Nat} {T : ps_Tx} {o : Nat × Nat × Nat × Nat} {x : Int32} (hk : k = 1 ∨ k = 2) (h : ps_OR M q T o) : ps_OR (ps_st M q k x) q T o := by
  obtain ⟨h1, h2, h3, h4, h5⟩ := h
  exact ⟨by rw [ev_rj (by omega)]; exact h1, fun z => ⟨by rw [ev_rj (by omega)]; exact (h2 z).1, fun t ht => by rw [ev_ra (by omega)]; exact (h2 z).2 t ht⟩, fun z => ⟨by rw [ev_rj (by omega)]; exact (h3 z).1, by rw [ev_rj (by omega)]; exact (h3 z).2.1, by rw [ev_rj (by omega)]; exact (h3 z).2.2⟩, fun z => by rw [ev_rj (by omega)]; exact h4 z, fun z => ⟨by rw [ev_rj (by omega)]; exact (h5 z).1, by rw [ev_rj (by omega)]; exact (h5 z).2⟩⟩
/-- on, and behind a semicolon another one -/
theorem cl_nextA {M : ps_M} {q k : Nat} {T : ps_Tx} (hT : ps_TX M (q + 1) T) (hok : ps_okT T) (hk : ∀ t, t < k → pa_go T t = true) (h1 : ps_rd M q 1 = nI (pa_pos T k)) (h2 : ps_rd M q 2 = nI 1) (hg : pa_go T k = true) : ∃ M1, ff_X4_readNext q M = some (nI 1, M1) ∧ ps_rd M1 q 1 = nI (pa_pos T (k + 1)) ∧ ps_rd M1 q 2 = nI 1 ∧ ps_OR M1 q T (pa_ord T (pa_pos T k)).2.2 ∧ ps_Fe q M M1 := by
  have h8 := hok.1
  obtain ⟨b1, b2⟩ := pos_b hok k hk
  obtain ⟨g1, g2⟩ := go_t hg
  obtain ⟨e1, e2, e3⟩ := ord_end hok b2
  obtain ⟨M2, r1, F2, r2, r3⟩ := cl_ord hT hok (by omega) h1
  unfold ff_X4_readNext
  rw [h2, if_neg (by rw [nI_eq (by omega) (by omega)]; omega), r1, ps_b2E, g1, show pa_bi true = nI 1 from rfl, if_neg (by rw [nI_eq (by omega) (by omega)]; omega), cl_take (TX_fq F2 hT) hok (by omega) (by omega) r2, if_pos g2, ps_b2E, if_pos ps_isB1, ps_letE, ev_rs, if_neg (by rw [nI_eq (by omega) (by omega)]; omega)]
  exact ⟨_, rfl, by rw [ev_rj (by omega), ev_rs]; rfl, ev_rs, OR_st (Or.inr rfl) (OR_st (Or.inl rfl) (r3 g1)), ps_Fe_tr (ps_Fe_q F2) (ps_Fe_tr ps_Fe_st ps_Fe_st)⟩
/-- the last one -/
theorem cl_nextB {M : ps_M} {q k : Nat} {T : ps_Tx} (hT : ps_TX M (q + 1) T) (hok : ps_okT T) (hk : ∀ t, t < k → pa_go T t = true) (h1 : ps_rd M q 1 = nI (pa_pos T k)) (h2 : ps_rd M q 2 = nI 1) (hg : pa_go T k = false) (g1 : (pa_ord T (pa_pos T k)).1 = true) (hl : T.1 ≤ (pa_ord T (pa_pos T k)).2.1) : ∃ M1, ff_X4_readNext q M = some (nI 1, M1) ∧ ps_rd M1 q 2 = nI 0 ∧ ps_OR M1 q T (pa_ord T (pa_pos T k)).2.2 ∧ ps_Fe q M M1 := by
  have h8 := hok.1
  obtain ⟨b1, b2⟩ := pos_b hok k hk
  have g2 := go_f hg g1
  obtain ⟨e1, e2, e3⟩ := ord_end hok b2
  obtain ⟨M2, r1, F2, r2, r3⟩ := cl_ord hT hok (by omega) h1
  unfold ff_X4_readNext
  rw [h2, if_neg (by rw [nI_eq (by omega) (by omega)]; omega), r1, ps_b2E, g1, show pa_bi true = nI 1 from rfl, if_neg (by rw [nI_eq (by omega) (by omega)]; omega), cl_take (TX_fq F2 hT) hok (by omega) (by omega) r2, if_neg g2, ps_b2E, if_pos ps_isB0, ps_letE, ev_rs, if_pos rfl, ev_rj (by omega), r2, ev_ra (by omega), (TX_fq F2 hT).1, if_neg (nI_nlt hl (by omega))]
  exact ⟨_, rfl, ev_rs, OR_st (Or.inr rfl) (r3 g1), ps_Fe_tr (ps_Fe_q F2) ps_Fe_st⟩
/-- here is the fault -/
theorem cl_nextC {M : ps_M} {q k : Nat} {T : ps_Tx} (hT : ps_TX M (q + 1) T) (hok : ps_okT T) (hk : ∀ t, t < k → pa_go T t = true) (h1 : ps_rd M q 1 = nI (pa_pos T k)) (h2 : ps_rd M q 2 = nI 1) (hg : pa_go T k = false) (hn : ¬ ((pa_ord T (pa_pos T k)).1 = true ∧ T.1 ≤ (pa_ord T (pa_pos T k)).2.1)) : ∃ M1, ff_X4_readNext q M = some (nI 0, M1) ∧ ps_rd M1 q 1 = nI (pa_ord T (pa_pos T k)).2.1 ∧ ps_Fe q M M1 := by
  have h8 := hok.1
  obtain ⟨b1, b2⟩ := pos_b hok k hk
  obtain ⟨e1, e2, e3⟩ := ord_end hok b2
  obtain ⟨M2, r1, F2, r2, r3⟩ := cl_ord hT hok (by omega) h1
  unfold ff_X4_readNext
  rw [h2, if_neg (by rw [nI_eq (by omega) (by omega)]; omega), r1, ps_b2E]
  by_cases g1 : (pa_ord T (pa_pos T k)).1 = true
  · have g2 := go_f hg g1
    have hl : (pa_ord T (pa_pos T k)).2.1 < T.1 := by
      by_cases z : T.1 ≤ (pa_ord T (pa_pos T k)).2.1
      · exact absurd ⟨g1, z⟩ hn
      · omega
    rw [g1, show pa_bi true = nI 1 from rfl, if_neg (by rw [nI_eq (by omega) (by omega)]; omega), cl_take (TX_fq F2 hT) hok (by omega) (by omega) r2, if_neg g2, ps_b2E, if_pos ps_isB0, ps_letE, ev_rs, if_pos rfl, ev_rj (by omega), r2, ev_ra (by omega), (TX_fq F2 hT).1, if_pos (nI_lt hl (by omega))]
    exact ⟨_, rfl, by rw [ev_rj (by omega)]; exact r2, ps_Fe_tr (ps_Fe_q F2) ps_Fe_st⟩
  · rw [Bool.not_eq_true] at g1
    rw [g1, show pa_bi false = nI 0 from rfl, if_pos rfl]
    exact ⟨M2, rfl, r2, ps_Fe_q F2⟩
def pa_fa (T : ps_Tx) : Int32 := match pa_flt T with
  | none => ps_m 6
  | some p => nI p
theorem cl_ff {q : Nat} {T : ps_Tx} (hok : ps_okT T) : ∀ (m k n : Nat) (M : ps_M), k + m = pa_n T → m + 2 ≤ n → ps_TX M (q + 1) T → ps_rd M q 1 = nI (pa_pos T k) → ps_rd M q 2 = nI 1 → ∃ M1, fk_X4_findFault_6 q n (nI k) M = some (pa_fa T, M1) ∧ ps_Fe q M M1
  | 0, k, n, M, h1, h2, hT, h3, h4 => by
    obtain ⟨n1, n2, n3⟩ := pa_n_sp hok
    obtain ⟨n, rfl⟩ : ∃ m, n = m + 2 := ⟨n - 2, by omega⟩
    have hk : k = pa_n T := h1
    rw [fk_X4_findFault_6, if_neg (nI_ge (by omega) (by omega)), h4, if_neg (by rw [nI_eq (by omega) (by omega)]; omega)]
    unfold pa_fa pa_flt
    by_cases c : (pa_ord T (pa_pos T k)).1 = true ∧ T.1 ≤ (pa_ord T (pa_pos T k)).2.1
    · obtain ⟨M1, e1, r2, -, F1⟩ := cl_nextB hT hok (fun t ht => n3 t (by omega)) h3 h4 (by rw [hk]; exact n2) c.1 c.2
      rw [hk] at c
      rw [e1, ps_b2E, if_neg (by rw [nI_eq (by omega) (by omega)]; omega), ps_letE, nI_add, fk_X4_findFault_6, if_neg (nI_ge (by omega) (by omega)), r2, if_pos rfl, if_pos c]
      exact ⟨M1, rfl, F1⟩
    · obtain ⟨M1, e1, r2, F1⟩ := cl_nextC hT hok (fun t ht => n3 t (by omega)) h3 h4 (by rw [hk]; exact n2) c
      rw [hk] at c r2
      rw [e1, ps_b2E, if_pos rfl, r2, if_neg c]
      exact ⟨M1, rfl, F1⟩
  | m + 1, k, n, M, h1, h2, hT, h3, h4 => by
    obtain ⟨n1, n2, n3⟩ := pa_n_sp hok
    obtain ⟨n, rfl⟩ : ∃ m, n = m + 1 := ⟨n - 1, by omega⟩
    obtain ⟨M1, e1, r1, r2, -, F1⟩ := cl_nextA hT hok (fun t ht => n3 t (by omega)) h3 h4 (n3 k (by omega))
    obtain ⟨M2, e2, F2⟩ := cl_ff hok m (k + 1) n M1 (by omega) (by omega) (TX_fe F1 hT) r1 r2
    refine ⟨M2, ?_, ps_Fe_tr F1 F2⟩
    rw [fk_X4_findFault_6, if_neg (nI_ge (by omega) (by omega)), h4, if_neg (by rw [nI_eq (by omega) (by omega)]; omega), e1, ps_b2E, if_neg (by rw [nI_eq (by omega) (by omega)]; omega), ps_letE, nI_add, e2]
theorem cl_start {M : ps_M} {q : Nat} : ff_X4_start q M = some (nI 0, ps_st (ps_st M q 1 (nI 0)) q 2 (nI 1)) := by
  unfold ff_X4_start
  rw [ps_letE, ps_letE]
theorem cl_fault {M : ps_M} {q : Nat} {T : ps_Tx} (hT : ps_TX M (q + 1) T) (hok : ps_okT T) : ∃ M1, ff_X4_findFault q M = some (pa_fa T, M1) ∧ ps_Fe q M M1 := by
  have n1 := (pa_n_sp hok).1
  have F0 : ps_Fe q M (ps_st (ps_st M q 1 (nI 0)) q 2 (nI 1)) := ps_Fe_tr ps_Fe_st ps_Fe_st
  obtain ⟨M1, e1, F1⟩ := cl_ff (q := q) hok (pa_n T) 0 ps_fu (ps_st (ps_st M q 1 (nI 0)) q 2 (nI 1)) (by omega) (by unfold ps_fu; omega) (TX_fe F0 hT) (by rw [ev_rj (by omega), ev_rs]; rfl) ev_rs
  refine ⟨M1, ?_, ps_Fe_tr F0 F1⟩
  unfold ff_X4_findFault
  rw [cl_start, ps_b2E]
  exact e1
