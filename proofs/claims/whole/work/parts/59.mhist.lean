/-! the model's copies of its row -/
theorem cp_0 {M : ps_M} {sa sp da dp : Nat} : ps_cp M sa sp da dp 0 = M := by
  refine Prod.ext (funext fun a => funext fun j => if_neg (fun z => ?_)) rfl
  omega
theorem cp_step {M : ps_M} {sa sp da dp k : Nat} (h : sa ≠ da ∨ dp ≤ sp) : ps_st (ps_cp M sa sp da dp k) da (dp + k) (ps_rd (ps_cp M sa sp da dp k) sa (sp + k)) = ps_cp M sa sp da dp (k + 1) := by
  have e : ps_rd (ps_cp M sa sp da dp k) sa (sp + k) = M.1 sa (sp + k) := if_neg (fun z => by omega)
  rw [e]
  refine Prod.ext (funext fun a => funext fun j => ?_) rfl
  show (if a = da ∧ j = dp + k then M.1 sa (sp + k) else (if a = da ∧ dp ≤ j ∧ j < dp + k then M.1 sa (sp + (j - dp)) else M.1 a j)) = (if a = da ∧ dp ≤ j ∧ j < dp + (k + 1) then M.1 sa (sp + (j - dp)) else M.1 a j)
  by_cases c : a = da
  · by_cases c2 : j = dp + k
    · rw [if_pos ⟨c, c2⟩, if_pos (by omega), c2, Nat.add_sub_cancel_left]
    · rw [if_neg (fun z => c2 z.2)]
      by_cases c3 : dp ≤ j ∧ j < dp + k
      · rw [if_pos ⟨c, c3⟩, if_pos (by omega)]
      · rw [if_neg (fun z => c3 z.2), if_neg (fun z => c3 (by omega))]
  · rw [if_neg (fun z => c z.1), if_neg (fun z => c z.1), if_neg (fun z => c z.1)]
theorem cp_loop {ρ : Type} {F : Nat → Nat → ps_M → ρ} {M : ps_M} {sa sp da dp cnt : Nat} {r : ρ} (h : sa ≠ da ∨ dp ≤ sp) (hx : ∀ n, F (n + 1) cnt (ps_cp M sa sp da dp cnt) = r) (hs : ∀ n i, i < cnt → F (n + 1) i (ps_cp M sa sp da dp i) = F n (i + 1) (ps_st (ps_cp M sa sp da dp i) da (dp + i) (ps_rd (ps_cp M sa sp da dp i) sa (sp + i)))) : ∀ (k n i : Nat), i + k = cnt → k < n → F n i (ps_cp M sa sp da dp i) = r
  | 0, n, i, h1, h2 => by
    obtain ⟨n, rfl⟩ : ∃ m, n = m + 1 := ⟨n - 1, by omega⟩
    have e : i = cnt := by omega
    rw [e]
    exact hx n
  | k + 1, n, i, h1, h2 => by
    obtain ⟨n, rfl⟩ : ∃ m, n = m + 1 := ⟨n - 1, by omega⟩
    rw [hs n i (by omega), cp_step h]
    exact cp_loop h hx hs k n (i + 1) (by omega) (by omega)
theorem cp_all {ρ : Type} {F : Nat → Nat → ps_M → ρ} {M : ps_M} {sa sp da dp cnt : Nat} {r : ρ} (h : sa ≠ da ∨ dp ≤ sp) (hc : cnt < 10000) (hx : ∀ n, F (n + 1) cnt (ps_cp M sa sp da dp cnt) = r) (hs : ∀ n i, i < cnt → F (n + 1) i (ps_cp M sa sp da dp i) = F n (i + 1) (ps_st (ps_cp M sa sp da dp i) da (dp + i) (ps_rd (ps_cp M sa sp da dp i) sa (sp + i)))) : F ps_fu 0 M = r := by
  have := cp_loop h hx hs cnt ps_fu 0 (by omega) (by unfold ps_fu; omega)
  rw [cp_0] at this
  exact this
theorem mo_hold {M : ps_M} {q : Nat} : ff_X7_hold q M = some (nI 0, ps_cp M (q + 1) 0 (q + 2) 0 937) := by
  unfold ff_X7_hold
  refine cp_all (F := fun n k M => fk_X7_hold_2 q n (nI k) M) (M := M) (sa := q + 1) (sp := 0) (da := q + 2) (dp := 0) (cnt := 937) (Or.inl (by omega)) (by omega) (fun n => ?_) (fun n i hi => ?_)
  · rw [fk_X7_hold_2, if_pos (nI_le (by omega) (by omega))]
  · rw [fk_X7_hold_2, if_neg (nI_ge hi (by omega)), if_pos (ev_inB hi (by omega)), if_pos (ev_inB hi (by omega)), ps_letE, ps_letE, nI_add, nI_clamp (by omega), Nat.zero_add]
theorem mo_keepT {M : ps_M} {q : Nat} : ff_X7_keepTrial q M = some (nI 0, ps_cp M (q + 1) 0 (q + 3) 0 937) := by
  unfold ff_X7_keepTrial
  refine cp_all (F := fun n k M => fk_X7_keepTrial_2 q n (nI k) M) (M := M) (sa := q + 1) (sp := 0) (da := q + 3) (dp := 0) (cnt := 937) (Or.inl (by omega)) (by omega) (fun n => ?_) (fun n i hi => ?_)
  · rw [fk_X7_keepTrial_2, if_pos (nI_le (by omega) (by omega))]
  · rw [fk_X7_keepTrial_2, if_neg (nI_ge hi (by omega)), if_pos (ev_inB hi (by omega)), if_pos (ev_inB hi (by omega)), ps_letE, ps_letE, nI_add, nI_clamp (by omega), Nat.zero_add]
theorem mo_putB {M : ps_M} {q : Nat} : ff_X7_putBack q M = some (nI 0, ps_cp M (q + 3) 0 (q + 1) 0 937) := by
  unfold ff_X7_putBack
  refine cp_all (F := fun n k M => fk_X7_putBack_2 q n (nI k) M) (M := M) (sa := q + 3) (sp := 0) (da := q + 1) (dp := 0) (cnt := 937) (Or.inl (by omega)) (by omega) (fun n => ?_) (fun n i hi => ?_)
  · rw [fk_X7_putBack_2, if_pos (nI_le (by omega) (by omega))]
  · rw [fk_X7_putBack_2, if_neg (nI_ge hi (by omega)), if_pos (ev_inB hi (by omega)), if_pos (ev_inB hi (by omega)), ps_letE, ps_letE, nI_add, nI_clamp (by omega), Nat.zero_add]
theorem cp_rd {M : ps_M} {sa sp da dp n b k : Nat} (h : b ≠ da) : ps_rd (ps_cp M sa sp da dp n) b k = ps_rd M b k := ev_ca h
theorem mo_rec1 {M : ps_M} {q st : Nat} (h : ps_rd M q 10 = nI st) (hs : st < 6) (a1 : Int32) : fk_X7_recorded_62 q ps_fu a1 (nI 0) M = some (a1, ps_st (ps_cp M (q + 2) 0 (q + 4) (937 * st) 937) q 10 (nI (st + 1))) := by
  refine cp_all (F := fun n k M => fk_X7_recorded_62 q n a1 (nI k) M) (M := M) (sa := q + 2) (sp := 0) (da := q + 4) (dp := 937 * st) (cnt := 937) (Or.inl (by omega)) (by omega) (fun n => ?_) (fun n i hi => ?_)
  · rw [fk_X7_recorded_62, if_pos (nI_le (by omega) (by omega)), cp_rd (by omega), h, nI_add]
    rfl
  · rw [fk_X7_recorded_62, if_neg (nI_ge hi (by omega)), if_pos (ev_inB hi (by omega)), cp_rd (by omega), h, pk_mul, nI_add, if_pos (ev_inB (by omega) (by omega)), ps_letE, ps_letE, nI_add, nI_clamp (by omega), nI_clamp (by omega), Nat.zero_add]
theorem mo_rec6 {M : ps_M} {q : Nat} (h : ps_rd M q 10 = nI 6) (a1 : Int32) : fk_X7_recorded_21 q ps_fu a1 (nI 0) M = some (a1, ps_st (ps_cp (ps_st (ps_cp M (q + 4) 937 (q + 4) 0 4685) q 10 (nI 5)) (q + 2) 0 (q + 4) (937 * 5) 937) q 10 (nI 6)) := by
  refine cp_all (F := fun n k M => fk_X7_recorded_21 q n a1 (nI k) M) (M := M) (sa := q + 4) (sp := 937) (da := q + 4) (dp := 0) (cnt := 4685) (Or.inr (by omega)) (by omega) (fun n => ?_) (fun n i hi => ?_)
  · rw [fk_X7_recorded_21, if_pos (nI_le (by omega) (by omega)), cp_rd (by omega), h, pk_sub (by omega), ps_letE]
    exact mo_rec1 ev_rs (by omega) a1
  · rw [fk_X7_recorded_21, if_neg (nI_ge hi (by omega)), nI_add, if_pos (ev_inB (by omega) (by omega)), if_pos (ev_inB (by omega) (by omega)), ps_letE, ps_letE, nI_add, nI_clamp (by omega), nI_clamp (by omega), Nat.zero_add]
/-- a house in a row, from a place on -/
def ps_RO (M : ps_M) (a o : Nat) (v : ps_H) : Prop := ps_RM (fun _ k => ps_rd M a (o + k), M.2) 0 v
theorem RO_eq {M M1 : ps_M} {a o a1 o1 : Nat} {v : ps_H} (hok : ps_okH v) (h : ∀ k, k < 937 → ps_rd M1 a1 (o1 + k) = ps_rd M a (o + k)) (hR : ps_RO M a o v) : ps_RO M1 a1 o1 v := RM_eq (M := (fun _ k => ps_rd M a (o + k), M.2)) (M1 := (fun _ k => ps_rd M1 a1 (o1 + k), M1.2)) (s := 0) (s1 := 0) hok (fun k hk => h k hk) hR
theorem RO_M {M M1 : ps_M} {a o s : Nat} {v : ps_H} (hok : ps_okH v) (h : ∀ k, k < 937 → ps_rd M1 s k = ps_rd M a (o + k)) (hR : ps_RO M a o v) : ps_RM M1 s v := RM_eq (M := (fun _ k => ps_rd M a (o + k), M.2)) (s := 0) hok (fun k hk => h k hk) hR
theorem M_RO {M M1 : ps_M} {a o s : Nat} {v : ps_H} (hok : ps_okH v) (h : ∀ k, k < 937 → ps_rd M1 a (o + k) = ps_rd M s k) (hR : ps_RM M s v) : ps_RO M1 a o v := RM_eq (M1 := (fun _ k => ps_rd M1 a (o + k), M1.2)) (s1 := 0) hok (fun k hk => h k hk) hR
/-- all of the model -/
def ps_MU (M : ps_M) (q : Nat) (A : ps_U) : Prop := ps_RM M (q + 1) A.1 ∧ (ps_rd M q 10 = nI A.2.1.1 ∧ ∀ i, i < A.2.1.1 → ps_RO M (q + 4) (937 * i) (A.2.1.2 i)) ∧ (∀ s, s < 2 → match A.2.2.1 s with
    | none => ps_rd M (q + 6) s = nI 0
    | some v => ps_rd M (q + 6) s = nI 1 ∧ ps_RO M (q + 5) (937 * s) v) ∧ (ps_rd M q 9 = nI A.2.2.2.1 ∧ ∀ j, j < A.2.2.2.1 → ps_rd M (q + 9) j = nI (A.2.2.2.2 j))
/-- only the model's cells change -/
def ps_Fm (q : Nat) (M M1 : ps_M) : Prop := (∀ a, (a < q ∨ q + 10 ≤ a) → ∀ k, ps_rd M1 a k = ps_rd M a k) ∧ M1.2 = M.2
theorem ps_Fm_rf {q : Nat} {M : ps_M} : ps_Fm q M M := ⟨fun _ _ _ => rfl, rfl⟩
theorem ps_Fm_tr {q : Nat} {M M1 M2 : ps_M} (h1 : ps_Fm q M M1) (h2 : ps_Fm q M1 M2) : ps_Fm q M M2 := ⟨fun a ha k => (h2.1 a ha k).trans (h1.1 a ha k), h2.2.trans h1.2⟩
theorem ps_Fm_o {q : Nat} {M M1 : ps_M} (h : ps_Fo q M M1) : ps_Fm q M M1 := ⟨fun a ha k => h.1 a (by omega) (by omega) k, h.2⟩
theorem ps_Fm_st {q a k : Nat} {M : ps_M} {x : Int32} (h1 : q ≤ a) (h2 : a < q + 10) : ps_Fm q M (ps_st M a k x) := ⟨fun b hb i => ev_ra (by omega), rfl⟩
theorem ps_Fm_cp {q sa sp da dp n : Nat} {M : ps_M} (h1 : q ≤ da) (h2 : da < q + 10) : ps_Fm q M (ps_cp M sa sp da dp n) := ⟨fun b hb i => ev_ca (by omega), rfl⟩
theorem MU_slots {M M1 : ps_M} {q : Nat} {f : Nat → Option ps_H} (hok : ∀ s v, s < 2 → f s = some v → ps_okH v) (h6 : ∀ k, ps_rd M1 (q + 6) k = ps_rd M (q + 6) k) (h5 : ∀ k, ps_rd M1 (q + 5) k = ps_rd M (q + 5) k) (h : ∀ s, s < 2 → match f s with
    | none => ps_rd M (q + 6) s = nI 0
    | some v => ps_rd M (q + 6) s = nI 1 ∧ ps_RO M (q + 5) (937 * s) v) : ∀ s, s < 2 → match f s with
    | none => ps_rd M1 (q + 6) s = nI 0
    | some v => ps_rd M1 (q + 6) s = nI 1 ∧ ps_RO M1 (q + 5) (937 * s) v := by
  intro s hs
  have := h s hs
  cases e : f s with
  | none =>
    rw [e] at this
    show ps_rd M1 (q + 6) s = nI 0
    rw [h6]
    exact this
  | some v =>
    rw [e] at this
    exact ⟨by rw [h6]; exact this.1, RO_eq (hok s v hs e) (fun k _ => h5 _) this.2⟩
/-- an answer as they are -/
def ps_rs (r : Int32) : Prop := (∃ n, n < 2147483648 ∧ r = nI n) ∨ ∃ k, 1 ≤ k ∧ k ≤ 6 ∧ r = ps_m k
theorem rs_er {r : Int32} (h : ps_rs r) : (nI 0 ≤ r ∨ r = ps_m 6) ∧ pa_er r = false ∨ (¬ nI 0 ≤ r ∧ ¬ r = ps_m 6) ∧ pa_er r = true := by
  unfold pa_er
  rcases h with ⟨n, hn, rfl⟩ | ⟨k, h1, h2, rfl⟩
  · refine Or.inl ⟨Or.inl (nI_le (Nat.zero_le _) hn), decide_eq_false (fun z => ?_)⟩
    rw [ev_lem hn (by omega) (by omega)] at z
    exact z.1
  · by_cases c : k = 6
    · subst c
      refine Or.inl ⟨Or.inr rfl, decide_eq_false (fun z => ?_)⟩
      have := z.2
      rw [Int32.le_iff_toInt_le, ev_mt 5 (by omega), ev_mt 6 (by omega)] at this
      omega
    · refine Or.inr ⟨⟨fun z => ?_, fun z => ?_⟩, decide_eq_true ⟨?_, ?_⟩⟩
      · rw [ev_lem (by omega) (by omega) (by omega)] at z
        exact z
      · rw [ev_mm (by omega) (by omega)] at z
        exact c z
      · rw [Int32.le_iff_toInt_le, ev_mt 1 (by omega), ev_mt k (by omega)]
        omega
      · rw [Int32.le_iff_toInt_le, ev_mt 5 (by omega), ev_mt k (by omega)]
        omega
/-- what was held goes into the history, if the answer is none of an error -/
theorem mo_rec {M : ps_M} {q : Nat} {A : ps_U} {v : ps_H} (hq : q + 9 < 1000000) (hC : ps_MU M q A) (hok : ps_okU A) (hv : ps_okH v) (hb : ps_RM M (q + 2) v) {r : Int32} (hr : ps_rs r) : ∃ M1, ff_X7_recorded q r M = some (r, M1) ∧ ps_MU M1 q (A.1, (if pa_er r = true then A.2.1 else pa_ph A.2.1 v), A.2.2) ∧ ps_Fm q M M1 := by
  obtain ⟨c1, ⟨c2, c3⟩, c4, c5, c6⟩ := hC
  have h6 := hok.2.1.1
  unfold ff_X7_recorded
  rcases rs_er hr with ⟨hy, he⟩ | ⟨⟨hn1, hn2⟩, he⟩
  · rw [if_neg (show ¬ pa_er r = true by rw [he]; simp)]
    have key : ∃ M1, (if (ps_rd M q 10) = (nI 6) then (fk_X7_recorded_21 q ps_fu r (nI 0) M) else (fk_X7_recorded_62 q ps_fu r (nI 0) M)) = some (r, M1) ∧ ps_MU M1 q (A.1, pa_ph A.2.1 v, A.2.2) ∧ ps_Fm q M M1 := by
      rw [c2]
      by_cases c : A.2.1.1 = 6
      · rw [c] at c2 c3 ⊢
        rw [if_pos rfl, mo_rec6 c2]
        have ep : pa_ph A.2.1 v = (6, fun i => if i < 5 then A.2.1.2 (i + 1) else v) := if_neg (by omega)
        rw [ep]
        refine ⟨_, rfl, ⟨?_, ⟨ev_rs, fun i hi => ?_⟩, ?_, ?_, ?_⟩, ?_⟩
        · exact RM_eq hok.1 (fun k _ => by rw [ev_ra (by omega), ev_ca (by omega), ev_ra (by omega), ev_ca (by omega)]) c1
        · have hi6 : i < 6 := hi
          show ps_RO _ _ _ (if i < 5 then A.2.1.2 (i + 1) else v)
          by_cases ci : i < 5
          · rw [if_pos ci]
            refine RO_eq (hok.2.1.2 _ (by omega)) (fun k hk => ?_) (c3 (i + 1) (by omega))
            rw [ev_ra (by omega), ev_co (by omega), ev_ra (by omega), ev_ci (by omega) (by omega)]
            exact congrArg (ps_rd M (q + 4)) (by omega)
          · rw [if_neg ci]
            refine M_RO hv (fun k hk => ?_) hb
            have e5 : i = 5 := by omega
            subst e5
            rw [ev_ra (by omega), ev_ci (by omega) (by omega), ev_ra (by omega), ev_ca (by omega)]
            exact congrArg (ps_rd M (q + 2)) (by omega)
        · exact MU_slots hok.2.2.1 (fun k => by rw [ev_ra (by omega), ev_ca (by omega), ev_ra (by omega), ev_ca (by omega)]) (fun k => by rw [ev_ra (by omega), ev_ca (by omega), ev_ra (by omega), ev_ca (by omega)]) c4
        · rw [ev_rj (by omega), ev_ca (by omega), ev_rj (by omega), ev_ca (by omega)]
          exact c5
        · intro j hj
          rw [ev_ra (by omega), ev_ca (by omega), ev_ra (by omega), ev_ca (by omega)]
          exact c6 j hj
        · exact ps_Fm_tr (ps_Fm_tr (ps_Fm_tr (ps_Fm_cp (by omega) (by omega)) (ps_Fm_st (by omega) (by omega))) (ps_Fm_cp (by omega) (by omega))) (ps_Fm_st (by omega) (by omega))
      · rw [if_neg (by rw [nI_eq (by omega) (by omega)]; exact c), mo_rec1 c2 (by omega)]
        have ep : pa_ph A.2.1 v = (A.2.1.1 + 1, fun i => if i = A.2.1.1 then v else A.2.1.2 i) := if_pos (by omega)
        rw [ep]
        refine ⟨_, rfl, ⟨?_, ⟨ev_rs, fun i hi => ?_⟩, ?_, ?_, ?_⟩, ?_⟩
        · exact RM_eq hok.1 (fun k _ => by rw [ev_ra (by omega), ev_ca (by omega)]) c1
        · have hi6 : i < A.2.1.1 + 1 := hi
          show ps_RO _ _ _ (if i = A.2.1.1 then v else A.2.1.2 i)
          by_cases ci : i = A.2.1.1
          · rw [if_pos ci, ci]
            refine M_RO hv (fun k hk => ?_) hb
            rw [ev_ra (by omega), ev_ci (by omega) (by omega)]
            exact congrArg (ps_rd M (q + 2)) (by omega)
          · rw [if_neg ci]
            refine RO_eq (hok.2.1.2 _ (by omega)) (fun k hk => ?_) (c3 i (by omega))
            rw [ev_ra (by omega), ev_co (by omega)]
        · exact MU_slots hok.2.2.1 (fun k => by rw [ev_ra (by omega), ev_ca (by omega)]) (fun k => by rw [ev_ra (by omega), ev_ca (by omega)]) c4
        · rw [ev_rj (by omega), ev_ca (by omega)]
          exact c5
        · intro j hj
          rw [ev_ra (by omega), ev_ca (by omega)]
          exact c6 j hj
        · exact ps_Fm_tr (ps_Fm_cp (by omega) (by omega)) (ps_Fm_st (by omega) (by omega))
    by_cases c0 : nI 0 ≤ r
    · rw [if_pos c0]
      exact key
    · rw [if_neg c0, if_pos (hy.resolve_left c0)]
      exact key
  · rw [if_neg hn1, if_neg hn2, if_pos he]
    exact ⟨M, rfl, ⟨c1, ⟨c2, c3⟩, c4, c5, c6⟩, ps_Fm_rf⟩
