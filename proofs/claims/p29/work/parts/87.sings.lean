/-! a song of as many bars as told comes by a text -/
theorem rem_n {c d : Nat} (hc : c < 2 ^ 31) (h0 : 0 < d) (hd : d < 2 ^ 31) : nI c - nI c / nI d * nI d = nI (c % d) := pk_rem hc h0 hd
theorem shr_n {c k : Nat} (hc : c < 2 ^ 31) (hk : k < 26) : nI c >>> ((nI k) &&& 31) = nI (c / 2 ^ k) := by
  rw [am_b k hk]
  exact pk_shrN hc _ k (sm_b k hk)
theorem div_lt {c k : Nat} (hc : c < 2 ^ 31) : c / 2 ^ k < 2 ^ 31 := Nat.lt_of_le_of_lt (Nat.div_le_self _ _) hc
theorem sz_1 {w : Nat} (h1 : 33 ≤ w) (h2 : w ≤ 126) : pa_sz w 8 0 w = 1 := by
  have e1 : w % 256 = w := Nat.mod_eq_of_lt (by omega)
  have e2 : w / 256 = 0 := Nat.div_eq_of_lt (by omega)
  rw [pa_sz, e1, if_neg (by omega), if_neg (by omega), if_pos h2, e2, pa_sz, if_pos rfl, if_pos rfl]
/-- the pad with an S and k letters -/
def ls_T (c k : Nat) (T : ps_Tx) : Prop := T.1 = k + 1 ∧ T.2 0 = 83 ∧ ∀ j, j < k → T.2 (j + 1) = 97 + c / 2 ^ j % 5
theorem ls_put {M : ps_M} {A : ps_U} (hC : ps_CL M A) (hok : ps_okU A) {w : Nat} (h1 : 33 ≤ w) (h2 : w ≤ 126) (h3 : A.2.2.2.1 + 1 ≤ 80) : ∃ M1 f, ff_X6_put 0 (lN w) M = some (nI (A.2.2.2.1 + 1), M1) ∧ ps_CL M1 (A.1, A.2.1, A.2.2.1, (A.2.2.2.1 + 1, f)) ∧ ps_okU (A.1, A.2.1, A.2.2.1, (A.2.2.2.1 + 1, f)) ∧ (∀ j, j < A.2.2.2.1 → f j = A.2.2.2.2 j) ∧ f A.2.2.2.1 = w := by
  obtain ⟨M1, e1, c1, -⟩ := cl_put hC hok (lN w)
  have o1 := ok_put hok (lN w)
  have ew : pa_w (lN w) = w := w_lN (by omega)
  have es : pa_sz (pa_w (lN w)) 8 0 (pa_w (lN w)) = 1 := by rw [ew]; exact sz_1 h1 h2
  have e : op_put (lN w) A = (nI (A.2.2.2.1 + 1), (A.1, A.2.1, A.2.2.1, (A.2.2.2.1 + 1, fun j => if j < A.2.2.2.1 then A.2.2.2.2 j else pa_by (pa_w (lN w)) (A.2.2.2.1 + 1 - 1 - j)))) := by
    unfold op_put
    rw [es, if_neg (by omega), if_pos h3]
  rw [e] at e1 c1 o1
  refine ⟨M1, _, e1, c1, o1, fun j hj => if_pos hj, ?_⟩
  show (if A.2.2.2.1 < A.2.2.2.1 then _ else pa_by (pa_w (lN w)) (A.2.2.2.1 + 1 - 1 - A.2.2.2.1)) = w
  rw [if_neg (Nat.lt_irrefl _), ew, show A.2.2.2.1 + 1 - 1 - A.2.2.2.1 = 0 by omega]
  unfold pa_by
  rw [Nat.mul_zero, Nat.pow_zero, Nat.div_one]
  exact Nat.mod_eq_of_lt (by omega)
theorem ls_ord {c k : Nat} {T : ps_Tx} (hT : ls_T c k T) (hk : 1 ≤ k) (hk2 : k ≤ 12) : pa_ord T 0 = (true, k + 1, 83, 1, k, 0) := by
  obtain ⟨t1, t2, t3⟩ := hT
  have e0 : pa_sg T 0 = 83 := by unfold pa_sg; rw [if_pos (by omega), t2]
  have el : pa_lt T (0 + 1) = k := by
    obtain ⟨h1, h2, h3, h4⟩ := ps_sc_spec (fun t => decide (97 ≤ pa_sg T (0 + 1 + t) ∧ pa_sg T (0 + 1 + t) ≤ 122)) 20 0
    have hin : ∀ t, t < k → pa_sg T (0 + 1 + t) = 97 + c / 2 ^ t % 5 := fun t ht => by
      unfold pa_sg
      rw [if_pos (by omega), show 0 + 1 + t = t + 1 by omega, t3 t ht]
    have hout : pa_sg T (0 + 1 + k) = 0 := by
      unfold pa_sg
      rw [if_neg (by omega)]
    show ps_sc (fun t => decide (97 ≤ pa_sg T (0 + 1 + t) ∧ pa_sg T (0 + 1 + t) ≤ 122)) 20 0 = k
    rcases Nat.lt_trichotomy (ps_sc (fun t => decide (97 ≤ pa_sg T (0 + 1 + t) ∧ pa_sg T (0 + 1 + t) ≤ 122)) 20 0) k with q | q | q
    · have e1 := of_decide_eq_false (h4 (by omega))
      have e2 := hin _ q
      have e3 : c / 2 ^ (ps_sc (fun t => decide (97 ≤ pa_sg T (0 + 1 + t) ∧ pa_sg T (0 + 1 + t) ≤ 122)) 20 0) % 5 < 5 := Nat.mod_lt _ (by omega)
      exact absurd ⟨by omega, by omega⟩ e1
    · exact q
    · have e1 := of_decide_eq_true (h3 k (by omega) q)
      rw [hout] at e1
      omega
  unfold pa_ord
  rw [if_pos e0, el, show decide (0 < k) = true from decide_eq_true (by omega), show 0 + 1 + k = k + 1 by omega]
theorem ls_n {c k : Nat} {T : ps_Tx} (hT : ls_T c k T) (hk : 1 ≤ k) (hk2 : k ≤ 12) : pa_n T = 0 ∧ pa_flt T = none := by
  have ho := ls_ord hT hk hk2
  have hp : pa_pos T 0 = 0 := rfl
  have hg : pa_go T 0 = false := by
    unfold pa_go
    rw [hp, ho]
    have : pa_sg T (k + 1) = 0 := by
      unfold pa_sg
      rw [if_neg (by have := hT.1; omega)]
    show (true && decide (pa_sg T (k + 1) = 59)) = false
    rw [this]
    rfl
  have hn : pa_n T = 0 := by
    unfold pa_n ps_sc ps_wh
    rw [if_neg (by rw [hg]; decide)]
  refine ⟨hn, ?_⟩
  unfold pa_flt
  rw [hn, hp, ho, if_pos ⟨rfl, by show T.1 ≤ k + 1; rw [hT.1]; exact Nat.le_refl _⟩]
theorem ls_carry {c k : Nat} {A : ps_U} (hT : ls_T c k A.2.2.2) (hk : 1 ≤ k) (hk2 : k ≤ 12) : (op_carry A).1 = nI (if A.1.2.1 < 8 then 1 else 0) ∧ (op_carry A).2.1 = (op_song k (fun t => pa_sg A.2.2.2 (1 + t) - 97) A.1).2 := by
  obtain ⟨hn, hf⟩ := ls_n hT hk hk2
  have ho : pa_or A.2.2.2 0 = (83, 1, k, 0) := by
    unfold pa_or
    rw [show pa_pos A.2.2.2 0 = 0 from rfl, ls_ord hT hk hk2]
  have hd : op_ord A.2.2.2 (pa_or A.2.2.2 0) A.1 = op_song k (fun t => pa_sg A.2.2.2 (1 + t) - 97) A.1 := by
    rw [ho]
    unfold op_ord
    rw [if_pos rfl]
  have hw : pa_cw A.2.2.2 (pa_n A.2.2.2 + 1) 0 A.1 = (if A.1.2.1 < 8 then 1 else 0, (op_song k (fun t => pa_sg A.2.2.2 (1 + t) - 97) A.1).2) := by
    rw [hn]
    unfold pa_cw ps_wh
    rw [hd]
    unfold op_song
    by_cases q : A.1.2.1 < 8
    · rw [if_pos q, if_pos q, if_pos (by rw [er_n (by omega)]; rfl)]
      rfl
    · rw [if_neg q, if_neg q, if_neg (show ¬ (!(pa_er (ps_m 4))) = true by decide)]
  unfold op_carry
  rw [hf]
  dsimp only
  rw [hw]
  exact ⟨rfl, rfl⟩
/-- songs come: the house with a song more, or as it was -/
def ls_V (k b : Nat) (v w : ps_H) : Prop := w.1 = v.1 ∧ w.2.2.2 = v.2.2.2 ∧ 1 ≤ w.2.1
theorem lw_sings {M : ps_M} {A : ps_U} (hC : ps_CL M A) (hok : ps_okU A) {c : Nat} (hc : c < 2 ^ 31) : ∃ M1 A1, ff_L_sings 0 (nI c) M = some (nI 1, M1) ∧ ps_CL M1 A1 ∧ ps_okU A1 ∧ A1.1.1 = A.1.1 ∧ A1.1.2.2.2 = A.1.2.2.2 ∧ 1 ≤ A1.1.2.1 := by
  have h8 := hok.1.2.1.1
  have hb : c % 12 < 12 := Nat.mod_lt _ (by omega)
  -- the loop
  have key : ∀ (k n j : Nat) (M : ps_M) (B : ps_U), j + k = 1 + c % 12 → k < n → ps_CL M B → ps_okU B → B.1 = A.1 → ls_T c j B.2.2.2 → ∃ M1 B1, fk_L_sings_41 n 0 (nI c) (nI (1 + c % 12)) (nI A.1.2.1) (nI 1) (nI j) M = fk_L_sings_86 0 (nI c) (nI (1 + c % 12)) (nI A.1.2.1) (nI 1) (nI (1 + c % 12)) M1 ∧ ps_CL M1 B1 ∧ ps_okU B1 ∧ B1.1 = A.1 ∧ ls_T c (1 + c % 12) B1.2.2.2 := by
    intro k
    induction k with
    | zero =>
      intro n j M B h1 h2 hC hok hB hT
      obtain ⟨n, rfl⟩ : ∃ m, n = m + 1 := ⟨n - 1, by omega⟩
      have ej : j = 1 + c % 12 := by omega
      subst ej
      refine ⟨M, B, ?_, hC, hok, hB, hT⟩
      rw [fk_L_sings_41, if_pos (nI_le (Nat.le_refl _) (by omega))]
    | succ k ih =>
      intro n j M B h1 h2 hC hok hB hT
      obtain ⟨n, rfl⟩ : ∃ m, n = m + 1 := ⟨n - 1, by omega⟩
      have hm : c / 2 ^ j % 5 < 5 := Nat.mod_lt _ (by omega)
      have hd : c / 2 ^ j < 2 ^ 31 := div_lt hc
      have ht1 := hT.1
      obtain ⟨M1, f, e1, c1, o1, f1, f2⟩ := ls_put hC hok (w := 97 + c / 2 ^ j % 5) (by omega) (by omega) (by omega)
      obtain ⟨M2, B2, e2, r⟩ := ih n (j + 1) M1 _ (by omega) (by omega) c1 o1 hB ⟨by show B.2.2.2.1 + 1 = _; omega, by show f 0 = 83; rw [f1 0 (by omega)]; exact hT.2.1, fun i hi => by
        show f (i + 1) = _
        by_cases q : i < j
        · rw [f1 (i + 1) (by omega)]
          exact hT.2.2 i q
        · have e : i = j := by omega
          subst e
          rw [show i + 1 = B.2.2.2.1 by omega, f2]⟩
      refine ⟨M2, B2, ?_, r⟩
      rw [fk_L_sings_41, if_neg (nI_ge (by omega) (by omega)), if_neg (by decide), shr_n hc (by omega), rem_n hd (by omega) (by omega), nI_add, nI_l (by omega), e1, ps_b2E, nI_add, if_pos (by rw [ht1]), ps_letE, nI_add]
      exact e2
  -- the beginning
  obtain ⟨M1, e1, c1, -⟩ := cl_wipe hC hok
  have o1 := ok_wipe hok
  obtain ⟨M2, f, e2, c2, o2, f1, f2⟩ := ls_put c1 o1 (w := 83) (by omega) (by omega) (by show 0 + 1 ≤ 80; omega)
  obtain ⟨M3, B, e3, c3, o3, b3, t3⟩ := key (1 + c % 12) ps_fu 0 M2 _ (by omega) (by unfold ps_fu; omega) c2 o2 rfl ⟨rfl, f2, fun i hi => absurd hi (Nat.not_lt_zero _)⟩
  have e86 : ff_L_sings 0 (nI c) M = fk_L_sings_86 0 (nI c) (nI (1 + c % 12)) (nI A.1.2.1) (nI 1) (nI (1 + c % 12)) M3 := by
    have h80 := hok.2.2.2.1
    unfold ff_L_sings
    rw [ps_letE, rem_n hc (by omega) (by omega), nI_add, e_c1 hC hok, ps_b2E, e1, ps_b2E, if_neg (show ¬ (op_wipe A).1 < nI 0 from nI_nlt (Nat.zero_le _) (by omega)), e2, ps_b2E, if_pos (show nI ((op_wipe A).2.2.2.2.1 + 1) = nI 1 from rfl)]
    exact e3
  -- the end
  obtain ⟨hn, hf⟩ := ls_n t3 (by omega) (by omega)
  obtain ⟨k1, k2⟩ := ls_carry t3 (by omega) (by omega)
  obtain ⟨M4, e4, c4, -⟩ := cq_fault c3 o3
  obtain ⟨M5, e5, c5, -⟩ := cl_carry c4 o3
  have o5 := ok_carry o3
  rw [b3] at k1 k2
  refine ⟨M5, (op_carry B).2, ?_, c5, o5, ?_⟩
  · rw [e86]
    unfold fk_L_sings_86
    rw [if_neg (by decide), e4, ps_b2E, if_pos (by unfold pa_fa; rw [hf]), e5, ps_b2E]
    have hq : ∀ (x y : Nat), nI A.1.2.1 = nI 8 ↔ A.1.2.1 = 8 := fun _ _ => nI_eq (by omega) (by omega)
    by_cases q : A.1.2.1 = 8
    · have ex : (op_carry B).2.1 = A.1 := by
        rw [k2]
        unfold op_song
        rw [if_neg (by omega)]
      rw [if_pos (by rw [q])]
      unfold fk_L_sings_115
      rw [if_pos (by rw [k1, if_neg (by omega)]), e_c1 c5 o5, ps_b2E, if_pos (by rw [q])]
      unfold fk_L_sings_137
      rw [if_pos (by rw [ex, q])]
      unfold fk_L_sings_145
      rw [if_neg (by decide), if_pos (by rw [q])]
    · have ex : (op_carry B).2.1 = (A.1.1, A.1.2.1 + 1, (fun k => if k = A.1.2.1 then (1 + c % 12, (fun t => pa_sg B.2.2.2 (1 + t) - 97), nI 0) else A.1.2.2.1 k), A.1.2.2.2) := by
        rw [k2]
        unfold op_song
        rw [if_pos (by omega)]
      have hs : ((op_carry B).2.1.2.2.1 A.1.2.1) = (1 + c % 12, (fun t => pa_sg B.2.2.2 (1 + t) - 97), nI 0) := by
        rw [ex]
        exact if_pos rfl
      have hns : (op_carry B).2.1.2.1 = A.1.2.1 + 1 := by rw [ex]
      have hlt : A.1.2.1 < (op_carry B).2.1.2.1 := by omega
      have nq : ¬ nI A.1.2.1 = nI 8 := by rw [nI_eq (by omega) (by omega)]; exact q
      rw [if_neg nq]
      unfold fk_L_sings_115
      rw [if_pos (by rw [k1, if_pos (by omega)]), e_c1 c5 o5, ps_b2E, if_neg nq]
      unfold fk_L_sings_137
      rw [if_pos (by rw [hns, nI_add])]
      unfold fk_L_sings_145
      rw [if_neg (by decide), if_neg nq, e_s0 c5.1 o5.1 hlt, ps_b2E, if_pos (by rw [hs]), e_bar c5.1 o5.1 hlt (by rw [hs]; show 0 < 1 + c % 12; omega), ps_b2E, if_pos ?_]
      rw [hs, rem_n hc (by omega) (by omega)]
      show nI (pa_sg B.2.2.2 (1 + 0) - 97) = nI (c % 5)
      have e0 : pa_sg B.2.2.2 (1 + 0) = 97 + c % 5 := by
        have ht := t3.1
        unfold pa_sg
        rw [if_pos (by omega), show 1 + 0 = 0 + 1 from rfl, t3.2.2 0 (by omega), Nat.pow_zero, Nat.div_one]
      rw [e0, show 97 + c % 5 - 97 = c % 5 by omega]
  · rw [k2]
    unfold op_song
    by_cases q : A.1.2.1 < 8
    · rw [if_pos q]
      exact ⟨rfl, rfl, by show 1 ≤ A.1.2.1 + 1; omega⟩
    · rw [if_neg q]
      exact ⟨rfl, rfl, by show 1 ≤ A.1.2.1; omega⟩
