/-! one act -/
set_option maxHeartbeats 4000000 in
theorem lw_acts {M : ps_M} {A : ps_U} (hC : ps_CL M A) (hok : ps_okU A) {k c : Nat} (hk : k < 500) (hI : li_V k A.1) (hc : c < 2 ^ 31) : ∃ M1 A1, ff_L_acts 0 (nI c) M = some (nI 1, M1) ∧ ps_CL M1 A1 ∧ ps_okU A1 ∧ li_V (k + 1) A1.1 := by
  have h4 := hok.1.2.2.1
  have h8 := hok.1.2.1.1
  have i1 := hI.1
  have i2 := hI.2.1
  have n2 : ¬ nI A.1.2.2.2.1 = nI 0 := by rw [nI_eq (by omega) (by omega)]; omega
  have n3 : ¬ nI A.1.2.1 = nI 0 := by rw [nI_eq (by omega) (by omega)]; omega
  have e63 : ff_L_acts 0 (nI c) M = fk_L_acts_63 0 (nI c) (nI A.1.2.2.2.1) (nI A.1.2.1) (nI (c / 2 ^ 4 % A.1.2.2.2.1)) (nI (c / 2 ^ 7 % A.1.2.1)) (nI (if pa_ti A.1 (A.1.2.2.2.2.1 (c / 2 ^ 4 % A.1.2.2.2.1)) = true then 1 else 0)) M := by
    unfold ff_L_acts
    rw [e_c2 hC hok, ps_b2E, e_c1 hC hok, ps_b2E, if_neg n2, if_pos n2, shr_n hc (by omega), rem_n (div_lt hc) (by omega) (by omega)]
    unfold fk_L_acts_25
    rw [if_neg n3, if_pos n3, shr_n hc (by omega), rem_n (div_lt hc) (by omega) (by omega)]
    have hb : ((pa_set (fun j => pa_ti A.1 (A.1.2.2.2.2.1 j)) A.1.2.2.2.1 >>> ((nI (c / 2 ^ 4 % A.1.2.2.2.1)) &&& 31)) &&& nI 1) = nI (if pa_ti A.1 (A.1.2.2.2.2.1 (c / 2 ^ 4 % A.1.2.2.2.1)) = true then 1 else 0) := set_bit _ (by omega) (Nat.mod_lt _ (by omega))
    unfold fk_L_acts_41
    rw [e_c7 hC hok, ps_b2E, hb]
    by_cases t : pa_ti A.1 (A.1.2.2.2.2.1 (c / 2 ^ 4 % A.1.2.2.2.1)) = true
    · rw [if_pos t, if_pos rfl]
    · rw [if_neg t, if_neg (by decide)]
  have hp : c / 2 ^ 4 % A.1.2.2.2.1 < A.1.2.2.2.1 := Nat.mod_lt _ (by omega)
  have hi : c / 2 ^ 7 % A.1.2.1 < A.1.2.1 := Nat.mod_lt _ (by omega)
  rw [e63]
  generalize c / 2 ^ 4 % A.1.2.2.2.1 = p at hp
  generalize c / 2 ^ 7 % A.1.2.1 = i at hi
  obtain ⟨l1, l2, l3⟩ := hok.1.2.1.2 i hi
  have hm : c % 12 < 12 := Nat.mod_lt _ (by omega)
  have nl : ¬ nI (A.1.2.2.1 i).1 = nI 0 := by rw [nI_eq (by omega) (by omega)]; omega
  have hd4 : c / 2 ^ 4 < 2 ^ 31 := div_lt hc
  have hd8 : c / 2 ^ 8 < 2 ^ 31 := div_lt hc
  have hd10 : c / 2 ^ 10 < 2 ^ 31 := div_lt hc
  unfold fk_L_acts_63
  rw [e_of2 hC.1 hok.1 hp, ps_b2E, e_of4 hC.1 hok.1 hp, ps_b2E, ps_letE, rem_n hc (by omega) (by omega)]
  have hles : ∃ M1 A1, (ps_b2 (ff_X6_ofSong 0 (nI i) (nI 0) M) fun r76 M76 => if (nI 1) ≤ r76 then (if ¬ r76 = nI 0 then (fk_L_acts_234 0 (nI c) (nI A.1.2.2.2.1) (nI A.1.2.1) (nI p) (nI i) (nI (if pa_ti A.1 (A.1.2.2.2.2.1 p) = true then 1 else 0)) (ps_cl (A.1.2.2.2.2.1 p).2.1) (A.1.2.2.2.2.1 p).2.2.2.1 r76 ((nI c >>> ((nI 10) &&& 31)) - (nI c >>> ((nI 10) &&& 31)) / r76 * r76) M76) else none) else (fk_L_acts_234 0 (nI c) (nI A.1.2.2.2.1) (nI A.1.2.1) (nI p) (nI i) (nI (if pa_ti A.1 (A.1.2.2.2.2.1 p) = true then 1 else 0)) (ps_cl (A.1.2.2.2.2.1 p).2.1) (A.1.2.2.2.2.1 p).2.2.2.1 r76 (nI 0) M76)) = some (nI 1, M1) ∧ ps_CL M1 A1 ∧ ps_okU A1 ∧ li_V (k + 1) A1.1 := by
    rw [e_s0 hC.1 hok.1 hi, ps_b2E, if_pos (nI_le l1 (by omega)), if_pos nl, shr_n hc (by omega), rem_n hd10 (by omega) (by omega)]
    exact act_les hC hok hI (by omega) hp hi (Nat.mod_lt _ (by omega)) _ _
  have hsing : ∃ M1 A1, (ps_b2 (ff_L_sings 0 (nI c >>> ((nI 4) &&& 31)) M) fun r81 M81 => if ps_isB r81 = true then some (r81, M81) else none) = some (nI 1, M1) ∧ ps_CL M1 A1 ∧ ps_okU A1 ∧ li_V (k + 1) A1.1 := by
    rw [shr_n hc (by omega)]
    obtain ⟨M1, A1, e1, c1, o1, g1, g2, g3⟩ := lw_sings hC hok hd4
    refine ⟨M1, A1, by rw [e1, ps_b2E, if_pos ps_isB1], c1, o1, ?_⟩
    obtain ⟨j1, j2, j3, j4⟩ := hI
    refine ⟨?_, g3, ?_, fun j => ?_⟩
    · rw [g2]
      exact j1
    · rw [g2]
      omega
    · rw [g2]
      exact li_mo (j4 j) (by omega)
  rcases (show c % 12 = 0 ∨ c % 12 = 1 ∨ c % 12 = 2 ∨ c % 12 = 3 ∨ c % 12 = 4 ∨ c % 12 = 5 ∨ c % 12 = 6 ∨ c % 12 = 7 ∨ c % 12 = 8 ∨ c % 12 = 9 ∨ c % 12 = 10 ∨ c % 12 = 11 by omega) with h | h | h | h | h | h | h | h | h | h | h | h
  · rw [h, if_pos rfl]
    exact act_par hC hok hI
  · rw [h, if_neg (by decide), if_pos rfl]
    exact hsing
  · rw [h, if_neg (by decide), if_neg (by decide), if_pos rfl]
    exact hsing
  · rw [h, if_neg (by decide), if_neg (by decide), if_neg (by decide), if_pos rfl]
    exact hles
  · rw [h, if_neg (by decide), if_neg (by decide), if_neg (by decide), if_neg (by decide), if_pos rfl]
    exact hles
  · rw [h, if_neg (by decide), if_neg (by decide), if_neg (by decide), if_neg (by decide), if_neg (by decide), if_pos rfl]
    exact hles
  · rw [h, if_neg (by decide), if_neg (by decide), if_neg (by decide), if_neg (by decide), if_neg (by decide), if_neg (by decide), if_pos rfl]
    exact hles
  · rw [h, if_neg (by decide), if_neg (by decide), if_neg (by decide), if_neg (by decide), if_neg (by decide), if_neg (by decide), if_neg (by decide), if_pos rfl, shr_n hc (by omega), rem_n hd10 (by omega) (by omega)]
    have h2 : c / 2 ^ 10 % 2 < 2 := Nat.mod_lt _ (by omega)
    by_cases q : c / 2 ^ 10 % 2 = 0
    · rw [if_pos (by rw [q])]
      obtain ⟨j1, j2, j3, j4⟩ := hI
      exact ⟨M, A, rfl, hC, hok, j1, j2, by omega, fun j => li_mo (j4 j) (by omega)⟩
    · rw [if_neg (by rw [nI_eq (by omega) (by omega)]; exact q)]
      exact act_hush hC hok hI hp _ _ _ _ _
  · rw [h, if_neg (by decide), if_neg (by decide), if_neg (by decide), if_neg (by decide), if_neg (by decide), if_neg (by decide), if_neg (by decide), if_neg (by decide), if_pos rfl, ps_letE, shr_n hc (by omega), rem_n hd10 (by omega) (by omega), nI_add]
    have h2 : c / 2 ^ 10 % 40 < 40 := Nat.mod_lt _ (by omega)
    have hP := hok.1.2.2.2.1 p
    cases hl : (A.1.2.2.2.2.1 p).2.1 with
    | none =>
      rw [if_neg (show ¬ nI 0 ≤ ps_cl none by decide)]
      have g := act_prac (M := M) hC hok hI hp (n := 1 + c / 2 ^ 10 % 40) (by omega) (by omega) (nI c) (nI A.1.2.1) (nI i) (A.1.2.2.2.2.1 p).2.2.2.1 (ps_m 6) (fun b hb => by rw [hl] at hb; cases hb)
      rw [hl] at g
      exact g
    | some b =>
      have hb := hP.2.2 b hl
      rw [if_pos (show nI 0 ≤ ps_cl (some b) from nI_le (Nat.zero_le _) (by omega)), show ps_cl (some b) = nI b from rfl, e_sings hC.1 hok.1 hp hb (by omega), ps_b2E]
      have g := act_prac (M := M) hC hok hI hp (n := 1 + c / 2 ^ 10 % 40) (by omega) (by omega) (nI c) (nI A.1.2.1) (nI i) (A.1.2.2.2.2.1 p).2.2.2.1 (ps_cl (pa_it (A.1.2.2.2.2.1 p).1 (some b) (1 + c / 2 ^ 10 % 40))) (fun d hd => by rw [hl] at hd; cases hd; rfl)
      rw [hl] at g
      exact g
  · rw [h, if_neg (by decide), if_neg (by decide), if_neg (by decide), if_neg (by decide), if_neg (by decide), if_neg (by decide), if_neg (by decide), if_neg (by decide), if_neg (by decide), if_pos rfl, ps_letE, shr_n hc (by omega), shr_n hc (by omega), rem_n hd4 (by omega) (by omega), rem_n hd8 (by omega) (by omega), rem_n hd8 (by omega) (by omega), rem_n hd8 (by omega) (by omega), rem_n hd8 (by omega) (by omega), nI_add, nI_add, nI_add]
    have m0 : c / 2 ^ 8 % 57 < 57 := Nat.mod_lt _ (by omega)
    have m1 : c / 2 ^ 8 % 4 < 4 := Nat.mod_lt _ (by omega)
    have m2 : c / 2 ^ 8 % 3 < 3 := Nat.mod_lt _ (by omega)
    have m3 : c / 2 ^ 8 % 60 < 60 := Nat.mod_lt _ (by omega)
    have m4 : c / 2 ^ 4 % 4 < 4 := Nat.mod_lt _ (by omega)
    rcases (show c / 2 ^ 4 % 4 = 0 ∨ c / 2 ^ 4 % 4 = 1 ∨ c / 2 ^ 4 % 4 = 2 ∨ c / 2 ^ 4 % 4 = 3 by omega) with w | w | w | w
    · rw [w, if_pos rfl]
      exact act_set (w := 0) (x := 4 + c / 2 ^ 8 % 57) hC hok hI (by omega) (by omega) (show nI 4 ≤ nI (4 + c / 2 ^ 8 % 57) from nI_le (by omega) (by omega)) (show nI (4 + c / 2 ^ 8 % 57) ≤ nI 60 from nI_le (by omega) (by omega)) _ _ _ _ _ _ _ _
    · rw [w, if_neg (by decide), if_pos rfl]
      exact act_set (w := 1) (x := c / 2 ^ 8 % 4) hC hok hI (by omega) (by omega) (show nI 0 ≤ nI (c / 2 ^ 8 % 4) from nI_le (by omega) (by omega)) (show nI (c / 2 ^ 8 % 4) ≤ nI 3 from nI_le (by omega) (by omega)) _ _ _ _ _ _ _ _
    · rw [w, if_neg (by decide), if_neg (by decide), if_pos rfl]
      exact act_set (w := 2) (x := 1 + c / 2 ^ 8 % 3) hC hok hI (by omega) (by omega) (show nI 1 ≤ nI (1 + c / 2 ^ 8 % 3) from nI_le (by omega) (by omega)) (show nI (1 + c / 2 ^ 8 % 3) ≤ nI 3 from nI_le (by omega) (by omega)) _ _ _ _ _ _ _ _
    · rw [w, if_neg (by decide), if_neg (by decide), if_neg (by decide)]
      exact act_set (w := 3) (x := 1 + c / 2 ^ 8 % 60) hC hok hI (by omega) (by omega) (show nI 1 ≤ nI (1 + c / 2 ^ 8 % 60) from nI_le (by omega) (by omega)) (show nI (1 + c / 2 ^ 8 % 60) ≤ nI 60 from nI_le (by omega) (by omega)) _ _ _ _ _ _ _ _
  · rw [h, if_neg (by decide), if_neg (by decide), if_neg (by decide), if_neg (by decide), if_neg (by decide), if_neg (by decide), if_neg (by decide), if_neg (by decide), if_neg (by decide), if_neg (by decide)]
    exact act_nt hC hok hI (by omega)
  · rw [h, if_neg (by decide), if_neg (by decide), if_neg (by decide), if_neg (by decide), if_neg (by decide), if_neg (by decide), if_neg (by decide), if_neg (by decide), if_neg (by decide), if_neg (by decide)]
    exact act_nt hC hok hI (by omega)
/-! the law's own loops -/
theorem lw_cell {Ls : Nat} {sc : Nat → Int32} {k : Nat} (hL : Ls < 1000000) (hk : k < 1000000) (M : ps_M) : ∃ c, c < 2 ^ 31 ∧ ff_L_cell Ls sc (nI k) M = some (nI c, M) := by
  have hm : (nI 2147483647).toBitVec.toNat = 2 ^ 31 - 1 := by decide
  unfold ff_L_cell
  by_cases q : Ls ≤ k
  · rw [if_pos (nI_le q (by omega))]
    obtain ⟨c, h1, h2⟩ := pk_andE ((nI 15485959) * (nI k) + (nI 8508)) 31 hm
    exact ⟨c, h1, by rw [h2]⟩
  · rw [if_neg (nI_ge (by omega) (by omega)), if_pos (ev_inB (by omega) (by omega))]
    obtain ⟨c, h1, h2⟩ := pk_andE (sc (nI k).toNatClampNeg) 31 hm
    exact ⟨c, h1, by rw [h2]⟩
theorem li_sums {M : ps_M} {A : ps_U} (hC : ps_CL M A) (hok : ps_okU A) {k : Nat} (hk : k < 500) (hI : li_V k A.1) : ff_L_areSums 0 M = some (nI 1, M) := by
  obtain ⟨i1, i2, i3, i4⟩ := hI
  refine lw_sums hC hok (fun p hp => ?_) (fun p hp hl => ?_)
  · obtain ⟨t, s, h1, h2, h3, h5, h6⟩ := i4 p
    rw [h1, h2]
    exact nI_nlt h3 (by omega)
  · obtain ⟨t, s, h1, h2, h3, h5, h6⟩ := i4 p
    rw [h1]
    exact nI_ge (show 0 < t from h6 hl) (by omega)
theorem lw_66 {Ls : Nat} {sc : Nat → Int32} (hL : Ls < 1000000) : ∀ (m n k : Nat) (M : ps_M) (A : ps_U), k + m = 36 → m < n → ps_CL M A → ps_okU A → li_V (k + 1) A.1 → ∃ M1 A1, fk_L_law_66 Ls sc n 0 (nI 1) (nI k) M = fk_L_law_114 Ls sc 0 (nI 1) (nI 36) M1 ∧ ps_CL M1 A1 ∧ ps_okU A1 ∧ li_V 37 A1.1 := by
  intro m
  induction m with
  | zero =>
    intro n k M A h1 h2 hC hok hI
    obtain ⟨n, rfl⟩ : ∃ j, n = j + 1 := ⟨n - 1, by omega⟩
    have ek : k = 36 := by omega
    subst ek
    exact ⟨M, A, by rw [fk_L_law_66, if_pos (nI_le (Nat.le_refl _) (by omega))], hC, hok, hI⟩
  | succ m ih =>
    intro n k M A h1 h2 hC hok hI
    obtain ⟨n, rfl⟩ : ∃ j, n = j + 1 := ⟨n - 1, by omega⟩
    obtain ⟨c, hc, ec⟩ := lw_cell (Ls := Ls) (sc := sc) (k := k) hL (by omega) M
    obtain ⟨M1, A1, e1, c1, o1, g1⟩ := lw_acts hC hok (by omega) hI hc
    obtain ⟨M2, A2, e2, r2⟩ := ih n (k + 1) M1 A1 (by omega) (by omega) c1 o1 g1
    refine ⟨M2, A2, ?_, r2⟩
    have hm : k % 12 < 12 := Nat.mod_lt _ (by omega)
    rw [fk_L_law_66, if_neg (nI_ge (by omega) (by omega)), if_neg (by decide), ec, ps_b2E, e1, ps_b2E, if_neg (by decide), rem_n (by omega) (by omega) (by omega)]
    by_cases q : k % 12 = 0
    · rw [if_neg (by rw [q]; decide), li_sums c1 o1 (by omega) g1, ps_b2E, if_neg (by decide), ps_letE, nI_add]
      exact e2
    · rw [if_pos (nI_lt (by omega) (by omega)), ps_letE, nI_add]
      exact e2
theorem bl_sp (v : ps_H) (P : ps_P) : ((pa_bl v P).1 = ps_m 6 ∨ ∃ i, i < v.2.1 ∧ (pa_bl v P).1 = nI i ∧ ¬ (pa_bl v P).2 ≤ pa_all P.1 v.2.1 v.2.2.1) ∧ ¬ (pa_bl v P).2 < pa_all P.1 v.2.1 v.2.2.1 := by
  unfold pa_bl
  generalize pa_all P.1 v.2.1 v.2.2.1 = now
  have key : ∀ n, n ≤ v.2.1 → ((ps_fo (fun i (s : Int32 × Int32) => if pa_all (pa_whl v (v.2.2.1 i) P).1 v.2.1 v.2.2.1 ≤ s.2 then s else (nI i, pa_all (pa_whl v (v.2.2.1 i) P).1 v.2.1 v.2.2.1)) n (ps_m 6, now)).1 = ps_m 6 ∨ ∃ i, i < v.2.1 ∧ (ps_fo (fun i (s : Int32 × Int32) => if pa_all (pa_whl v (v.2.2.1 i) P).1 v.2.1 v.2.2.1 ≤ s.2 then s else (nI i, pa_all (pa_whl v (v.2.2.1 i) P).1 v.2.1 v.2.2.1)) n (ps_m 6, now)).1 = nI i ∧ ¬ (ps_fo (fun i (s : Int32 × Int32) => if pa_all (pa_whl v (v.2.2.1 i) P).1 v.2.1 v.2.2.1 ≤ s.2 then s else (nI i, pa_all (pa_whl v (v.2.2.1 i) P).1 v.2.1 v.2.2.1)) n (ps_m 6, now)).2 ≤ now) ∧ ¬ (ps_fo (fun i (s : Int32 × Int32) => if pa_all (pa_whl v (v.2.2.1 i) P).1 v.2.1 v.2.2.1 ≤ s.2 then s else (nI i, pa_all (pa_whl v (v.2.2.1 i) P).1 v.2.1 v.2.2.1)) n (ps_m 6, now)).2 < now := by
    intro n
    induction n with
    | zero => intro _; exact ⟨Or.inl rfl, Int32.lt_irrefl⟩
    | succ n ih =>
      intro hn
      obtain ⟨a1, a2⟩ := ih (by omega)
      rw [ps_fo_s]
      generalize ps_fo (fun i (s : Int32 × Int32) => if pa_all (pa_whl v (v.2.2.1 i) P).1 v.2.1 v.2.2.1 ≤ s.2 then s else (nI i, pa_all (pa_whl v (v.2.2.1 i) P).1 v.2.1 v.2.2.1)) n (ps_m 6, now) = s at a1 a2
      by_cases q : pa_all (pa_whl v (v.2.2.1 n) P).1 v.2.1 v.2.2.1 ≤ s.2
      · rw [if_pos q]
        exact ⟨a1, a2⟩
      · rw [if_neg q]
        have h1 : now ≤ s.2 := Int32.not_lt.mp a2
        have h2 : s.2 < pa_all (pa_whl v (v.2.2.1 n) P).1 v.2.1 v.2.2.1 := Int32.not_le.mp q
        have h3 : now < pa_all (pa_whl v (v.2.2.1 n) P).1 v.2.1 v.2.2.1 := Int32.lt_of_le_of_lt h1 h2
        exact ⟨Or.inr ⟨n, by omega, rfl, Int32.not_le.mpr h3⟩, Int32.not_lt.mpr (Int32.le_of_lt h3)⟩
  exact key v.2.1 (Nat.le_refl _)
