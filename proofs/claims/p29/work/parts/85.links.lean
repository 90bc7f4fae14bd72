/-! what the law reads of a parrot's links -/
theorem nx_49 {K : Nat → Int32 → Int32 → Int32 → Int32 → Int32 → ps_M → Option (Int32 × ps_M)} {a1 a2 a3 a4 : Int32} {k : Nat} {M : ps_M} : fk_L_next_49 K 0 a1 a2 a3 a4 (nI k) M = K 0 a1 a2 a3 a4 (nI (k + 1)) M := by
  unfold fk_L_next_49 fk_L_next_50
  rw [if_pos rfl]
  unfold fk_L_next_69
  rw [if_pos rfl, ps_letE, nI_add]
theorem nx_50 {M : ps_M} {v : ps_H} (hR : ps_RH M 1 v) (hok : ps_okH v) {p k : Nat} (hp : p < v.2.2.2.1) (hk : k < (v.2.2.2.2.1 p).1.length) {K : Nat → Int32 → Int32 → Int32 → Int32 → Int32 → ps_M → Option (Int32 × ps_M)} {a2 a3 a4 : Int32} : fk_L_next_50 K 0 (nI p) a2 a3 a4 (nI k) (nI 1) M = K 0 (nI p) a2 (nI (ps_lk (v.2.2.2.2.1 p).1 ((v.2.2.2.2.1 p).1.length - 1 - k)).2.1) (nI (ps_lk (v.2.2.2.2.1 p).1 ((v.2.2.2.2.1 p).1.length - 1 - k)).2.2.1) (nI (k + 1)) M := by
  unfold fk_L_next_50
  rw [if_neg (by decide), e_link1 hR hok hp hk, ps_b2E]
  unfold fk_L_next_69
  rw [if_neg (by decide), e_link2 hR hok hp hk, ps_b2E, ps_letE, nI_add]
theorem lw_next {M : ps_M} {v : ps_H} (hR : ps_RH M 1 v) (hok : ps_okH v) {p a : Nat} (hp : p < v.2.2.2.1) (ha : a < 26) : ff_L_next 0 (nI p) (nI a) M = some (ps_cl (ps_nx (v.2.2.2.2.1 p).1 a), M) := by
  have h6 := (hok.2.2.2.1 p).1
  have hL := (hok.2.2.2.1 p).2.1
  have key : ∀ (k n r : Nat) (b : Option Nat), r + k = (v.2.2.2.2.1 p).1.length → k < n → pa_best (v.2.2.2.2.1 p).1 a k (v.2.2.2.2.1 p).1.length b → fk_L_next_9 n 0 (nI p) (nI a) (ps_cl (b.map (fun j => (ps_lk (v.2.2.2.2.1 p).1 j).2.1))) (nI (pa_str (v.2.2.2.2.1 p).1 b)) (nI r) M = some (ps_cl (ps_nx (v.2.2.2.2.1 p).1 a), M) := by
    intro k
    induction k with
    | zero =>
      intro n r b h1 h2 h3
      obtain ⟨n, rfl⟩ : ∃ m, n = m + 1 := ⟨n - 1, by omega⟩
      rw [fk_L_next_9, e_of0 hR hok hp, ps_b2E, if_pos (nI_le (by omega) (by omega)), pa_best_one h3 (ps_bst_best (v.2.2.2.2.1 p).1 a (v.2.2.2.2.1 p).1.length)]
      rfl
    | succ k ih =>
      intro n r b h1 h2 h3
      obtain ⟨n, rfl⟩ : ∃ m, n = m + 1 := ⟨n - 1, by omega⟩
      have hr : r < (v.2.2.2.2.1 p).1.length := by omega
      have er : (v.2.2.2.2.1 p).1.length - 1 - r = k := by omega
      obtain ⟨o1, o2, o3, o4, o5⟩ := okL_at hL (show k < (v.2.2.2.2.1 p).1.length by omega)
      have hs : pa_str (v.2.2.2.2.1 p).1 b ≤ 9 := by
        cases b with
        | none => exact Nat.zero_le _
        | some j => exact (okL_at hL h3.1.2.1).2.2.2.1
      have hd := pa_best_dn (by omega) h3
      rw [fk_L_next_9, e_of0 hR hok hp, ps_b2E, if_neg (nI_ge hr (by omega)), e_link0 hR hok hp hr, ps_b2E, er]
      by_cases m1 : (ps_lk (v.2.2.2.2.1 p).1 k).1 = a
      · rw [if_pos (by rw [m1]), e_link2 hR hok hp hr, ps_b2E, er]
        by_cases m2 : (ps_lk (v.2.2.2.2.1 p).1 k).2.2.1 ≤ pa_str (v.2.2.2.2.1 p).1 b
        · have hn : ¬ ((ps_lk (v.2.2.2.2.1 p).1 k).1 = a ∧ ∀ j, b = some j → (ps_lk (v.2.2.2.2.1 p).1 j).2.2.1 < (ps_lk (v.2.2.2.2.1 p).1 k).2.2.1) := fun z => by
            cases b with
            | none =>
              have : (ps_lk (v.2.2.2.2.1 p).1 k).2.2.1 ≤ 0 := m2
              omega
            | some j =>
              have h5 := z.2 j rfl
              have : (ps_lk (v.2.2.2.2.1 p).1 k).2.2.1 ≤ (ps_lk (v.2.2.2.2.1 p).1 j).2.2.1 := m2
              omega
          rw [if_neg hn] at hd
          rw [if_pos (nI_le m2 (by omega)), nx_49]
          exact ih n (r + 1) b (by omega) (by omega) hd
        · have hy : ((ps_lk (v.2.2.2.2.1 p).1 k).1 = a ∧ ∀ j, b = some j → (ps_lk (v.2.2.2.2.1 p).1 j).2.2.1 < (ps_lk (v.2.2.2.2.1 p).1 k).2.2.1) := ⟨m1, fun j e => by
            subst e
            have : ¬ (ps_lk (v.2.2.2.2.1 p).1 k).2.2.1 ≤ (ps_lk (v.2.2.2.2.1 p).1 j).2.2.1 := m2
            omega⟩
          rw [if_pos hy] at hd
          rw [if_neg (nI_ge (by omega) (by omega)), nx_50 hR hok hp hr, er]
          exact ih n (r + 1) (some k) (by omega) (by omega) hd
      · have hn : ¬ ((ps_lk (v.2.2.2.2.1 p).1 k).1 = a ∧ ∀ j, b = some j → (ps_lk (v.2.2.2.2.1 p).1 j).2.2.1 < (ps_lk (v.2.2.2.2.1 p).1 k).2.2.1) := fun z => m1 z.1
        rw [if_neg hn] at hd
        rw [if_neg (by rw [nI_eq (by omega) (by omega)]; exact m1), nx_49]
        exact ih n (r + 1) b (by omega) (by omega) hd
  unfold ff_L_next
  refine key (v.2.2.2.2.1 p).1.length ps_fu 0 none (by omega) (by unfold ps_fu; omega) ?_
  intro t h1 h2
  omega
theorem sm_str (L : List ps_L) : pa_sm (fun j => nI (ps_lk L (L.length - 1 - j)).2.2.1) L.length = pa_sum L := sm_rev L.length (fun i => nI (ps_lk L i).2.2.1)
theorem lw_links {M : ps_M} {v : ps_H} (hR : ps_RH M 1 v) (hok : ps_okH v) {p : Nat} (hp : p < v.2.2.2.1) (hts : ¬ (v.2.2.2.2.1 p).2.2.2.1 < (v.2.2.2.2.1 p).2.2.1) : ff_L_areLinks 0 (nI p) M = some (nI 1, M) := by
  have h6 := (hok.2.2.2.1 p).1
  have hL := (hok.2.2.2.1 p).2.1
  have key : ∀ (k n r : Nat) (s : Int32), r + k = (v.2.2.2.2.1 p).1.length → k < n → s = pa_sm (fun j => nI (ps_lk (v.2.2.2.2.1 p).1 ((v.2.2.2.2.1 p).1.length - 1 - j)).2.2.1) r → fk_L_areLinks_56 n 0 (nI p) (nI (v.2.2.2.2.1 p).1.length) s (nI 1) (nI r) M = some (nI 1, M) := by
    intro k
    induction k with
    | zero =>
      intro n r s h1 h2 h3
      obtain ⟨n, rfl⟩ : ∃ m, n = m + 1 := ⟨n - 1, by omega⟩
      have er : r = (v.2.2.2.2.1 p).1.length := by omega
      rw [fk_L_areLinks_56, if_pos (nI_le (by omega) (by omega))]
      unfold fk_L_areLinks_169
      rw [if_neg (by decide), e_of1 hR hok hp, ps_b2E, if_pos (by rw [h3, er]; exact sm_str _)]
    | succ k ih =>
      intro n r s h1 h2 h3
      obtain ⟨n, rfl⟩ : ∃ m, n = m + 1 := ⟨n - 1, by omega⟩
      have hr : r < (v.2.2.2.2.1 p).1.length := by omega
      have er : (v.2.2.2.2.1 p).1.length - 1 - r = k := by omega
      obtain ⟨o1, o2, o3, o4, o5⟩ := okL_at hL (show k < (v.2.2.2.2.1 p).1.length by omega)
      rw [fk_L_areLinks_56, if_neg (nI_ge hr (by omega)), if_neg (by decide), e_link0 hR hok hp hr, ps_b2E, e_link2 hR hok hp hr, ps_b2E, ps_letE, e_link2 hR hok hp hr, ps_b2E, er, if_neg (nI_nlt o3 (by omega)), e_link2 hR hok hp hr, ps_b2E, er, if_neg (nI_nlt o4 (by omega)), if_neg (nI_nlt (Nat.zero_le _) (by omega)), if_neg (nI_ge o1 (by omega)), e_sings hR hok hp o1 (by omega), ps_b2E, lw_next hR hok hp o1, ps_b2E, if_pos (show ps_cl (pa_it (v.2.2.2.2.1 p).1 (some (ps_lk (v.2.2.2.2.1 p).1 k).1) 1) = ps_cl (ps_nx (v.2.2.2.2.1 p).1 (ps_lk (v.2.2.2.2.1 p).1 k).1) from rfl), e_sings hR hok hp o1 (by omega), ps_b2E, if_pos (show ps_cl (pa_it (v.2.2.2.2.1 p).1 (some (ps_lk (v.2.2.2.2.1 p).1 k).1) 0) = nI (ps_lk (v.2.2.2.2.1 p).1 k).1 from rfl), ps_letE, nI_add]
      exact ih n (r + 1) _ (by omega) (by omega) (by rw [sm_s, h3, er])
  unfold ff_L_areLinks
  rw [e_of0 hR hok hp, ps_b2E, e_linkN hR hok hp (ps_noI (Nat.le_refl _) (by omega)), ps_b2E, if_pos rfl, e_linkN hR hok hp (Or.inl (by decide)), ps_b2E, if_pos rfl, e_of3 hR hok hp, ps_b2E, e_of4 hR hok hp, ps_b2E, if_neg hts]
  exact key (v.2.2.2.2.1 p).1.length ps_fu 0 (nI 0) (by omega) (by unfold ps_fu; omega) rfl
/-! the sums -/
theorem or_n0 (x : Int32) : x ||| nI 0 = x := Int32.or_zero
theorem lw_sums {M : ps_M} {A : ps_U} (hC : ps_CL M A) (hok : ps_okU A) (hts : ∀ p, p < A.1.2.2.2.1 → ¬ (A.1.2.2.2.2.1 p).2.2.2.1 < (A.1.2.2.2.2.1 p).2.2.1) (hlt : ∀ p, p < A.1.2.2.2.1 → (A.1.2.2.2.2.1 p).2.1 ≠ none → ¬ (A.1.2.2.2.2.1 p).2.2.1 ≤ nI 0) : ff_L_areSums 0 M = some (nI 1, M) := by
  have hR := hC.1
  have ho := hok.1
  have h4 := hok.1.2.2.1
  have h8 := hok.1.2.1.1
  have ks : ∀ (k n i : Nat), i + k = A.1.2.1 → k < n → fk_L_areSums_139 n 0 (pa_sm (fun j => nI (A.1.2.2.2.2.1 j).1.length) A.1.2.2.2.1) (pa_sm (fun j => (A.1.2.2.2.2.1 j).2.2.2.1) A.1.2.2.2.1) (pa_sm (fun j => (A.1.2.2.2.2.1 j).2.2.2.2) A.1.2.2.2.1) (pa_sm (fun i => (A.1.2.2.1 i).2.2) i) (pa_set (fun j => pa_ti A.1 (A.1.2.2.2.2.1 j)) A.1.2.2.2.1) (nI 1) (nI i) M = some (nI 1, M) := by
    intro k
    induction k with
    | zero =>
      intro n i h1 h2
      obtain ⟨n, rfl⟩ : ∃ m, n = m + 1 := ⟨n - 1, by omega⟩
      have ei : i = A.1.2.1 := by omega
      rw [fk_L_areSums_139, e_c1 hC hok, ps_b2E, if_pos (nI_le (by omega) (by omega)), if_neg (by decide), e_c5 hC hok, ps_b2E, if_pos rfl, e_c4 hC hok, ps_b2E, if_pos rfl, e_c6 hC hok, ps_b2E, if_pos rfl, e_c3 hC hok, ps_b2E, if_pos (by rw [ei]), e_c7 hC hok, ps_b2E, if_pos rfl]
    | succ k ih =>
      intro n i h1 h2
      obtain ⟨n, rfl⟩ : ∃ m, n = m + 1 := ⟨n - 1, by omega⟩
      rw [fk_L_areSums_139, e_c1 hC hok, ps_b2E, if_neg (nI_ge (by omega) (by omega)), e_s4 hR ho (by omega), ps_b2E, ps_letE, nI_add, ps_letE, ← sm_s (fun i => (A.1.2.2.1 i).2.2) i]
      exact ih n (i + 1) (by omega) (by omega)
  have kp : ∀ (k n i : Nat), i + k = A.1.2.2.2.1 → k < n → fk_L_areSums_18 n 0 (pa_sm (fun j => nI (A.1.2.2.2.2.1 j).1.length) i) (pa_sm (fun j => (A.1.2.2.2.2.1 j).2.2.2.1) i) (pa_sm (fun j => (A.1.2.2.2.2.1 j).2.2.2.2) i) (nI 0) (pa_set (fun j => pa_ti A.1 (A.1.2.2.2.2.1 j)) i) (nI 1) (nI i) M = some (nI 1, M) := by
    intro k
    induction k with
    | zero =>
      intro n i h1 h2
      obtain ⟨n, rfl⟩ : ∃ m, n = m + 1 := ⟨n - 1, by omega⟩
      have ei : i = A.1.2.2.2.1 := by omega
      rw [fk_L_areSums_18, e_c2 hC hok, ps_b2E, if_pos (nI_le (by omega) (by omega)), ei]
      exact ks A.1.2.1 ps_fu 0 (by omega) (by unfold ps_fu; omega)
    | succ k ih =>
      intro n i h1 h2
      obtain ⟨n, rfl⟩ : ∃ m, n = m + 1 := ⟨n - 1, by omega⟩
      have hi : i < A.1.2.2.2.1 := by omega
      have k89 : ∀ (K : Nat → Int32 → Int32 → Int32 → Int32 → Int32 → Int32 → Int32 → ps_M → Option (Int32 × ps_M)) (a1 a2 a3 a4 a5 a6 s0 s1 : Int32), fk_L_areSums_89 K 0 a1 a2 a3 a4 a5 a6 (nI i) s0 s1 M = K 0 a1 a2 a3 a4 (s0 ||| s1) (nI 1) (nI (i + 1)) M := by
        intro K a1 a2 a3 a4 a5 a6 s0 s1
        unfold fk_L_areSums_89
        rw [ps_letE, lw_links hR ho hi (hts i hi), ps_b2E, if_neg (by decide), e_of2 hR ho hi, ps_b2E]
        by_cases c : (A.1.2.2.2.2.1 i).2.1 = none
        · rw [if_pos (by rw [c]; rfl), ps_letE, nI_add]
        · rw [if_neg (by rw [ps_cl_n (ho.2.2.2.1 i).2.2]; exact c), e_of3 hR ho hi, ps_b2E, if_neg (hlt i hi c), ps_letE, nI_add]
      have e5 := set_s (fun j => pa_ti A.1 (A.1.2.2.2.2.1 j)) i
      rw [fk_L_areSums_18, e_c2 hC hok, ps_b2E, if_neg (nI_ge hi (by omega)), if_neg (by decide), e_of0 hR ho hi, ps_b2E, ps_letE, e_of4 hR ho hi, ps_b2E, ps_letE, e_of5 hR ho hi, ps_b2E, ps_letE, e_of3 hR ho hi, ps_b2E, e_c11 hC hok, ps_b2E]
      have g := ih n (i + 1) (by omega) (by omega)
      rw [sm_s, sm_s, sm_s, e5] at g
      by_cases c : (A.1.2.2.2.2.1 i).2.2.1 < nI (A.1.1 3)
      · have e : pa_ti A.1 (A.1.2.2.2.2.1 i) = false := by
          unfold pa_ti
          exact decide_eq_false (Int32.not_le.mpr c)
        rw [if_neg (show ¬ pa_ti A.1 (A.1.2.2.2.2.1 i) = true by rw [e]; decide)] at g
        rw [if_pos c, k89, or_n0]
        exact g
      · have e : pa_ti A.1 (A.1.2.2.2.2.1 i) = true := by
          unfold pa_ti
          exact decide_eq_true (Int32.not_lt.mp c)
        rw [if_pos e] at g
        rw [if_neg c, k89]
        exact g
  unfold ff_L_areSums
  exact kp A.1.2.2.2.1 ps_fu 0 (by omega) (by unfold ps_fu; omega)
