/-! what the law reads of songs -/
theorem un_le (s : ps_S) : (pa_un s).1 ≤ s.1 := by
  unfold pa_un
  have key : ∀ n, (ps_fo (fun k (c : Nat × Int32) => (c.1 + (if ((c.2 >>> ((nI (s.2.1 k)) &&& 31)) &&& nI 1) = nI 0 then 1 else 0), c.2 ||| ((nI 1) <<< ((nI (s.2.1 k)) &&& 31)))) n (0, nI 0)).1 ≤ n := by
    intro n
    induction n with
    | zero => exact Nat.le_refl _
    | succ n ih =>
      rw [ps_fo_s]
      dsimp only
      split <;> omega
  exact key s.1
theorem sc_all {go : Nat → Bool} {k : Nat} (h : ∀ t, t < k → go t = true) : ps_sc go k 0 = k := by
  obtain ⟨h1, h2, h3, h4⟩ := ps_sc_spec go k 0
  by_cases c : ps_sc go k 0 < k
  · have e1 := h4 (by omega)
    have e2 := h _ c
    rw [e2] at e1
    cases e1
  · omega
theorem rh_self (s : ps_S) : pa_rh s s = s.1 := by
  unfold pa_rh
  rw [Nat.min_self]
  exact sc_all (fun t _ => decide_eq_true rfl)
theorem rh_sym (s u : ps_S) : pa_rh s u = pa_rh u s := by
  unfold pa_rh
  rw [Nat.min_comm]
  congr 1
  funext t
  exact decide_eq_decide.mpr ⟨fun e => e.symm, fun e => e.symm⟩
theorem rt_at {L : List ps_L} {s : ps_S} {t : Nat} (h : t < pa_rt L s) : ps_nx L (s.2.1 t) = some (s.2.1 (t + 1)) := by
  unfold pa_rt at h
  exact of_decide_eq_true ((ps_sc_spec (fun t => decide (ps_nx L (s.2.1 t) = some (s.2.1 (t + 1)))) (s.1 - 1) 0).2.2.1 t (Nat.zero_le _) h)
theorem rt_no {L : List ps_L} {s : ps_S} (h : pa_rt L s < s.1 - 1) : ¬ ps_nx L (s.2.1 (pa_rt L s)) = some (s.2.1 (pa_rt L s + 1)) := by
  have := (ps_sc_spec (fun t => decide (ps_nx L (s.2.1 t) = some (s.2.1 (t + 1)))) (s.1 - 1) 0).2.2.2
  unfold pa_rt at h ⊢
  exact of_decide_eq_false (this (by omega))
theorem it_rt {L : List ps_L} {s : ps_S} : ∀ r, r ≤ pa_rt L s → pa_it L (some (s.2.1 0)) r = some (s.2.1 r)
  | 0, _ => rfl
  | r + 1, h => by
    show (pa_it L (some (s.2.1 0)) r).bind (ps_nx L) = _
    rw [it_rt r (by omega)]
    exact rt_at (by omega)
theorem hu_kn {L : List ps_L} {s : ps_S} (h1 : 1 ≤ s.1) : (pa_hu L s = 100) = (pa_kn L s = true) := by
  have hr := pa_rt_le L s
  unfold pa_hu pa_kn
  refine propext ⟨fun e => decide_eq_true ?_, fun e => ?_⟩
  · by_cases c : s.1 < 2
    · omega
    · rw [if_neg c] at e
      by_cases d : pa_rt L s < s.1 - 1
      · have := (Nat.div_lt_iff_lt_mul (show 0 < s.1 - 1 by omega)).mpr (show 100 * pa_rt L s < 100 * (s.1 - 1) by omega)
        omega
      · omega
  · have e2 := of_decide_eq_true e
    by_cases c : s.1 < 2
    · rw [if_pos c]
    · rw [if_neg c, show pa_rt L s = s.1 - 1 by omega]
      exact Nat.mul_div_cancel _ (by omega)
theorem hu_le {L : List ps_L} {s : ps_S} (h1 : 1 ≤ s.1) : pa_hu L s ≤ 100 := by
  have hr := pa_rt_le L s
  unfold pa_hu
  by_cases c : s.1 < 2
  · rw [if_pos c]
    omega
  · rw [if_neg c]
    exact Nat.div_le_of_le_mul (by rw [Nat.mul_comm]; exact Nat.mul_le_mul_right _ hr)
theorem e_lf {M : ps_M} {A : ps_U} (hC : ps_CL M A) (hok : ps_okU A) {p i : Nat} (hp : p < A.1.2.2.2.1) (hi : i < A.1.2.1) (hk : pa_kn (A.1.2.2.2.2.1 p).1 (A.1.2.2.1 i) = true) : ∃ M1, ff_X6_lessonsFor 0 (nI p) (nI i) M = some (nI 0, M1) ∧ ps_CL M1 A := by
  have h4 := hok.1.2.2.1
  have h8 := hok.1.2.1.1
  obtain ⟨M1, e1, c1, -⟩ := q_pu hC hok (cq_lf hC.1 hok.1 (nI p) (nI i))
  refine ⟨M1, ?_, c1⟩
  rw [e1]
  unfold qa_lf
  have e : pa_lf A.1 (A.1.2.2.1 i) (A.1.2.2.2.2.1 p) = (0, A.1.2.2.2.2.1 p) := by
    unfold pa_lf ps_wh
    rw [if_neg (by rw [hk]; decide)]
  rw [if_pos ⟨ev_inB hp (by omega), ev_inB hi (by omega)⟩, nI_clamp (show p < 2 ^ 31 by omega), nI_clamp (show i < 2 ^ 31 by omega), e, if_pos (show (0 : Nat) < 31 by decide)]
theorem e_kp {M : ps_M} {A : ps_U} (hC : ps_CL M A) (hok : ps_okU A) {p i : Nat} (hp : p < A.1.2.2.2.1) (hi : i < A.1.2.1) : ∃ M1 r, ff_X6_keeps 0 (nI p) (nI i) M = some (r, M1) ∧ ps_CL M1 A ∧ ((r = nI 0) = ¬ pa_kn (A.1.2.2.2.2.1 p).1 (A.1.2.2.1 i) = true) := by
  have h4 := hok.1.2.2.1
  have h8 := hok.1.2.1.1
  obtain ⟨M1, e1, c1, -⟩ := q_pu hC hok (cq_kp hC.1 hok.1 (nI p) (nI i))
  refine ⟨M1, _, e1, c1, ?_⟩
  unfold qa_kp
  rw [if_pos ⟨ev_inB hp (by omega), ev_inB hi (by omega)⟩, nI_clamp (show p < 2 ^ 31 by omega), nI_clamp (show i < 2 ^ 31 by omega)]
  by_cases hk : pa_kn (A.1.2.2.2.2.1 p).1 (A.1.2.2.1 i) = true
  · have e : 1 ≤ (pa_kp A.1 (A.1.2.2.1 i) (A.1.2.2.2.2.1 p)).1 := by
      unfold pa_kp ps_wh
      rw [if_pos hk]
      exact (ps_wh_le _ _ _ _ _).1
    refine propext ⟨fun z => ?_, fun z => absurd hk z⟩
    by_cases c : (pa_kp A.1 (A.1.2.2.1 i) (A.1.2.2.2.2.1 p)).1 < 31
    · rw [if_pos c, nI_eq (by omega) (by omega)] at z
      omega
    · rw [if_neg c] at z
      exact absurd z (by decide)
  · have e : (pa_kp A.1 (A.1.2.2.1 i) (A.1.2.2.2.2.1 p)).1 = 0 := by
      unfold pa_kp ps_wh
      rw [if_neg hk]
    rw [e, if_pos (show (0 : Nat) < 31 by decide)]
    exact propext ⟨fun _ => hk, fun _ => rfl⟩
section
variable {A : ps_U}
/-- the songs that follow, and rhymes -/
theorem ar_410 {M : ps_M} (hC : ps_CL M A) (hok : ps_okU A) {p i : Nat} (hp : p < A.1.2.2.2.1) (hi : i < A.1.2.1) (K : Nat → Int32 → Int32 → Int32 → Int32 → Int32 → ps_M → Option (Int32 × ps_M)) (a3 a4 a6 a7 : Int32) : ∀ (k n j : Nat), j + k = A.1.2.1 → k < n → fk_L_areSongs_410 K n 0 (nI 1) (nI i) a3 a4 (nI p) a6 a7 (ps_cl (ps_nx (A.1.2.2.2.2.1 p).1 ((A.1.2.2.1 i).2.1 ((A.1.2.2.1 i).1 - 1)))) (nI j) M = K 0 (nI 1) (nI i) a3 a4 (nI (p + 1)) M := by
  have hR := hC.1
  have ho := hok.1
  have h4 := hok.1.2.2.1
  have h8 := hok.1.2.1.1
  have hL := (ho.2.2.2.1 p).2.1
  intro k
  induction k with
  | zero =>
    intro n j h1 h2
    obtain ⟨n, rfl⟩ : ∃ m, n = m + 1 := ⟨n - 1, by omega⟩
    rw [fk_L_areSongs_410, e_c1 hC hok, ps_b2E, if_pos (nI_le (by omega) (by omega)), ps_letE, nI_add]
  | succ k ih =>
    intro n j h1 h2
    obtain ⟨n, rfl⟩ : ∃ m, n = m + 1 := ⟨n - 1, by omega⟩
    have hj : j < A.1.2.1 := by omega
    have k458 : ∀ (K2 : Nat → Int32 → Int32 → Int32 → Int32 → Int32 → Int32 → Int32 → Int32 → Int32 → ps_M → Option (Int32 × ps_M)) (a1 a8 s0 : Int32), fk_L_areSongs_458 K2 0 a1 (nI i) a3 a4 (nI p) a6 a7 a8 (nI j) s0 s0 M = K2 0 (nI 1) (nI i) a3 a4 (nI p) a6 a7 a8 (nI (j + 1)) M := by
      intro K2 a1 a8 s0
      unfold fk_L_areSongs_458
      rw [if_pos rfl, e_rh hR ho hi hj, ps_b2E, e_rh hR ho hj hi, ps_b2E, if_pos (by rw [rh_sym]), ps_letE, nI_add]
    have hj26 := (ho.2.1.2 j hj).2.2 0 (by have := (ho.2.1.2 j hj).1; omega)
    rw [fk_L_areSongs_410, e_c1 hC hok, ps_b2E, if_neg (nI_ge hj (by omega)), if_neg (by decide), e_fol hR ho hp hi, ps_b2E, set_bit _ h8 hj]
    cases e : ps_nx (A.1.2.2.2.2.1 p).1 ((A.1.2.2.1 i).2.1 ((A.1.2.2.1 i).1 - 1)) with
    | none =>
      rw [if_pos (show ps_cl none < nI 0 by decide)]
      unfold fk_L_areSongs_457
      rw [if_neg (by simp), k458]
      have g := ih n (j + 1) (by omega) (by omega)
      rw [e] at g
      exact g
    | some c =>
      have hc := ps_nx_lt hL e
      have g := ih n (j + 1) (by omega) (by omega)
      rw [e] at g
      rw [if_neg (show ¬ ps_cl (some c) < nI 0 from nI_nlt (Nat.zero_le _) (by omega)), e_s2 hR ho hj, ps_b2E]
      by_cases q : (A.1.2.2.1 j).2.1 0 = c
      · rw [if_pos (show nI ((A.1.2.2.1 j).2.1 0) = ps_cl (some c) by rw [q]; rfl), if_pos (by rw [q]; simp), k458]
        exact g
      · rw [if_neg (show ¬ nI ((A.1.2.2.1 j).2.1 0) = ps_cl (some c) by show ¬ nI _ = nI c; rw [nI_eq (by omega) (by omega)]; exact q)]
        unfold fk_L_areSongs_457
        rw [if_neg (by simp; exact fun z => q z.symm), k458]
        exact g
/-- a parrot and a song -/
theorem ar_200 {M : ps_M} (hC : ps_CL M A) (hok : ps_okU A) {p i : Nat} (hp : p < A.1.2.2.2.1) (hi : i < A.1.2.1) (K : Nat → Int32 → Int32 → Int32 → Int32 → Int32 → ps_M → Option (Int32 × ps_M)) : ∃ M1, ps_CL M1 A ∧ fk_L_areSongs_200 K 0 (nI 1) (nI i) (nI (A.1.2.2.1 i).1) (pa_set (fun j => pa_kn (A.1.2.2.2.2.1 j).1 (A.1.2.2.1 i)) p) (nI p) (nI (pa_rt (A.1.2.2.2.2.1 p).1 (A.1.2.2.1 i))) M = K 0 (nI 1) (nI i) (nI (A.1.2.2.1 i).1) (pa_set (fun j => pa_kn (A.1.2.2.2.2.1 j).1 (A.1.2.2.1 i)) (p + 1)) (nI (p + 1)) M1 := by
  have hR := hC.1
  have ho := hok.1
  have h4 := hok.1.2.2.1
  have h8 := hok.1.2.1.1
  obtain ⟨l1, l2, l3⟩ := ho.2.1.2 i hi
  have hr := pa_rt_le (A.1.2.2.2.2.1 p).1 (A.1.2.2.1 i)
  have hL := (ho.2.2.2.1 p).2.1
  have huk := hu_kn (L := (A.1.2.2.2.2.1 p).1) l1
  have hul := hu_le (L := (A.1.2.2.2.2.1 p).1) l1
  have hb1 := l3 ((A.1.2.2.1 i).1 - 1) (by omega)
  have hb2 := l3 (pa_rt (A.1.2.2.2.2.1 p).1 (A.1.2.2.1 i)) (by omega)
  have hy : pa_kn (A.1.2.2.2.2.1 p).1 (A.1.2.2.1 i) = true → nI (pa_hu (A.1.2.2.2.2.1 p).1 (A.1.2.2.1 i)) = nI 100 := fun c => by rw [huk.mpr c]
  have hn : ¬ pa_kn (A.1.2.2.2.2.1 p).1 (A.1.2.2.1 i) = true → ¬ nI (pa_hu (A.1.2.2.2.2.1 p).1 (A.1.2.2.1 i)) = nI 100 := fun c => by rw [nI_eq (by omega) (by omega), huk]; exact c
  have es := set_s (fun j => pa_kn (A.1.2.2.2.2.1 j).1 (A.1.2.2.1 i)) p
  -- from 200 to 219
  have q200 : fk_L_areSongs_200 K 0 (nI 1) (nI i) (nI (A.1.2.2.1 i).1) (pa_set (fun j => pa_kn (A.1.2.2.2.2.1 j).1 (A.1.2.2.1 i)) p) (nI p) (nI (pa_rt (A.1.2.2.2.2.1 p).1 (A.1.2.2.1 i))) M = fk_L_areSongs_219 K 0 (nI 1) (nI i) (nI (A.1.2.2.1 i).1) (pa_set (fun j => pa_kn (A.1.2.2.2.2.1 j).1 (A.1.2.2.1 i)) p) (nI p) (nI (pa_rt (A.1.2.2.2.2.1 p).1 (A.1.2.2.1 i))) (nI (pa_hu (A.1.2.2.2.2.1 p).1 (A.1.2.2.1 i))) M := by
    unfold fk_L_areSongs_200 pa_hu
    by_cases c : (A.1.2.2.1 i).1 < 2
    · rw [if_pos (show nI (A.1.2.2.1 i).1 = nI 1 by rw [show (A.1.2.2.1 i).1 = 1 by omega]), if_pos c]
    · rw [if_neg (show ¬ nI (A.1.2.2.1 i).1 = nI 1 by rw [nI_eq (by omega) (by omega)]; omega), if_neg c, pk_sub l1, if_pos (by rw [nI_eq (by omega) (by omega)]; omega), pk_mul, pk_div (by omega) (by omega) (by omega)]
  -- from 219 to 238
  have q219 : fk_L_areSongs_219 K 0 (nI 1) (nI i) (nI (A.1.2.2.1 i).1) (pa_set (fun j => pa_kn (A.1.2.2.2.2.1 j).1 (A.1.2.2.1 i)) p) (nI p) (nI (pa_rt (A.1.2.2.2.2.1 p).1 (A.1.2.2.1 i))) (nI (pa_hu (A.1.2.2.2.2.1 p).1 (A.1.2.2.1 i))) M = fk_L_areSongs_238 K 0 (nI 1) (nI i) (nI (A.1.2.2.1 i).1) (pa_set (fun j => pa_kn (A.1.2.2.2.2.1 j).1 (A.1.2.2.1 i)) (p + 1)) (nI p) (nI (pa_rt (A.1.2.2.2.2.1 p).1 (A.1.2.2.1 i))) (nI (pa_hu (A.1.2.2.2.2.1 p).1 (A.1.2.2.1 i))) (pa_set (fun j => pa_kn (A.1.2.2.2.2.1 j).1 (A.1.2.2.1 i)) (p + 1)) (nI 0) M := by
    unfold fk_L_areSongs_219
    by_cases c : pa_kn (A.1.2.2.2.2.1 p).1 (A.1.2.2.1 i) = true
    · rw [if_pos (hy c)]
      unfold fk_L_areSongs_238
      rw [ps_letE, ps_letE, es, if_pos c, or_n0]
    · rw [if_neg (hn c)]
      unfold fk_L_areSongs_238
      rw [ps_letE, ps_letE, es, if_neg c, or_n0]
  rw [q200, q219]
  generalize pa_set (fun j => pa_kn (A.1.2.2.2.2.1 j).1 (A.1.2.2.1 i)) (p + 1) = a4
  -- from 383 on
  have q383 : ∀ (M2 : ps_M), ps_CL M2 A → ∃ M1, ps_CL M1 A ∧ fk_L_areSongs_371 K 0 (nI 1) (nI i) (nI (A.1.2.2.1 i).1) a4 (nI p) (nI (pa_rt (A.1.2.2.2.2.1 p).1 (A.1.2.2.1 i))) (nI (pa_hu (A.1.2.2.2.2.1 p).1 (A.1.2.2.1 i))) (ps_cl (ps_nx (A.1.2.2.2.2.1 p).1 ((A.1.2.2.1 i).2.1 ((A.1.2.2.1 i).1 - 1)))) M2 = K 0 (nI 1) (nI i) (nI (A.1.2.2.1 i).1) a4 (nI (p + 1)) M1 := by
    intro M2 hC2
    obtain ⟨M1, r, e1, c1, e2⟩ := e_kp hC2 hok hp hi
    refine ⟨M1, c1, ?_⟩
    have g := ar_410 c1 hok hp hi K (nI (A.1.2.2.1 i).1) a4 (nI (pa_rt (A.1.2.2.2.2.1 p).1 (A.1.2.2.1 i))) (nI (pa_hu (A.1.2.2.2.2.1 p).1 (A.1.2.2.1 i))) A.1.2.1 ps_fu 0 (by omega) (by unfold ps_fu; omega)
    unfold fk_L_areSongs_371
    by_cases c : pa_kn (A.1.2.2.2.2.1 p).1 (A.1.2.2.1 i) = true
    · rw [if_pos (hy c)]
      unfold fk_L_areSongs_383
      rw [e1, ps_b2E, if_neg (by rw [e2]; exact fun z => z c), if_pos rfl]
      exact g
    · rw [if_neg (hn c)]
      unfold fk_L_areSongs_383
      rw [e1, ps_b2E, if_pos (by rw [e2]; exact c), if_pos rfl]
      exact g
  have q354 : ∃ M1, ps_CL M1 A ∧ fk_L_areSongs_354 K 0 (nI 1) (nI i) (nI (A.1.2.2.1 i).1) a4 (nI p) (nI (pa_rt (A.1.2.2.2.2.1 p).1 (A.1.2.2.1 i))) (nI (pa_hu (A.1.2.2.2.2.1 p).1 (A.1.2.2.1 i))) (ps_cl (ps_nx (A.1.2.2.2.2.1 p).1 ((A.1.2.2.1 i).2.1 ((A.1.2.2.1 i).1 - 1)))) M = K 0 (nI 1) (nI i) (nI (A.1.2.2.1 i).1) a4 (nI (p + 1)) M1 := by
    unfold fk_L_areSongs_354
    by_cases c : pa_kn (A.1.2.2.2.2.1 p).1 (A.1.2.2.1 i) = true
    · have e : pa_hu (A.1.2.2.2.2.1 p).1 (A.1.2.2.1 i) = 100 := by rw [huk]; exact c
      obtain ⟨M2, e1, c1⟩ := e_lf hC hok hp hi c
      rw [if_neg (by rw [e]; exact nI_nlt (Nat.le_refl _) (by omega)), e1, ps_b2E, if_pos rfl]
      exact q383 M2 c1
    · have e : ¬ pa_hu (A.1.2.2.2.2.1 p).1 (A.1.2.2.1 i) = 100 := by rw [huk]; exact c
      rw [if_pos (nI_lt (by omega) (by omega))]
      exact q383 M hC
  obtain ⟨M1, c1, e1⟩ := q354
  refine ⟨M1, c1, ?_⟩
  rw [← e1]
  have e0 : pa_it (A.1.2.2.2.2.1 p).1 (some ((A.1.2.2.1 i).2.1 ((A.1.2.2.1 i).1 - 1))) 1 = ps_nx (A.1.2.2.2.2.1 p).1 ((A.1.2.2.1 i).2.1 ((A.1.2.2.1 i).1 - 1)) := rfl
  unfold fk_L_areSongs_238
  rw [ps_letE, or_n0, e_s3 hR ho hi, ps_b2E, e_sings hR ho hp hb1 (by omega), ps_b2E, e_knows hR ho hp hi, ps_b2E, if_pos rfl, e_of6 hR ho hp, ps_b2E, set_bit _ h8 hi, e0]
  by_cases c : pa_kn (A.1.2.2.2.2.1 p).1 (A.1.2.2.1 i) = true
  · have c2 : (A.1.2.2.1 i).1 ≤ pa_rt (A.1.2.2.2.2.1 p).1 (A.1.2.2.1 i) + 1 := by unfold pa_kn at c; exact of_decide_eq_true c
    rw [if_pos (hy c), if_pos c]
    unfold fk_L_areSongs_292
    rw [if_pos rfl, e_mist0 hR ho hp hi, ps_b2E, if_pos c2, if_pos (hy c)]
    unfold fk_L_areSongs_319
    rw [if_pos rfl, if_pos (hy c)]
  · have c2 : ¬ (A.1.2.2.1 i).1 ≤ pa_rt (A.1.2.2.2.2.1 p).1 (A.1.2.2.1 i) + 1 := fun z => c (by unfold pa_kn; exact decide_eq_true z)
    rw [if_neg (hn c), if_neg c]
    unfold fk_L_areSongs_292
    rw [if_pos rfl, e_mist0 hR ho hp hi, ps_b2E, if_neg c2, if_neg (hn c)]
    unfold fk_L_areSongs_319
    rw [if_pos (by rw [nI_add]), if_neg (hn c), e_mist1 hR ho hp hi c2, ps_b2E, e_bar hR ho hi (by omega), ps_b2E, e_sings hR ho hp hb2 (by omega), ps_b2E, if_pos (show ps_cl (ps_nx (A.1.2.2.2.2.1 p).1 ((A.1.2.2.1 i).2.1 (pa_rt (A.1.2.2.2.2.1 p).1 (A.1.2.2.1 i)))) = ps_cl (pa_it (A.1.2.2.2.2.1 p).1 (some ((A.1.2.2.1 i).2.1 (pa_rt (A.1.2.2.2.2.1 p).1 (A.1.2.2.1 i)))) 1) from rfl)]
theorem ar_158 {M : ps_M} (hC : ps_CL M A) (hok : ps_okU A) {p i : Nat} (hp : p < A.1.2.2.2.1) (hi : i < A.1.2.1) (K : Nat → Int32 → Int32 → Int32 → Int32 → Int32 → ps_M → Option (Int32 × ps_M)) (a4 : Int32) : ∀ (k n r : Nat), r + k = pa_rt (A.1.2.2.2.2.1 p).1 (A.1.2.2.1 i) → k < n → fk_L_areSongs_158 K n 0 (nI 1) (nI i) (nI (A.1.2.2.1 i).1) a4 (nI p) (nI r) M = fk_L_areSongs_200 K 0 (nI 1) (nI i) (nI (A.1.2.2.1 i).1) a4 (nI p) (nI (pa_rt (A.1.2.2.2.2.1 p).1 (A.1.2.2.1 i))) M := by
  have hR := hC.1
  have ho := hok.1
  have h4 := hok.1.2.2.1
  have h8 := hok.1.2.1.1
  obtain ⟨l1, l2, l3⟩ := ho.2.1.2 i hi
  have hr := pa_rt_le (A.1.2.2.2.2.1 p).1 (A.1.2.2.1 i)
  have hL := (ho.2.2.2.1 p).2.1
  have hb0 := l3 0 (by omega)
  have est : ∀ r, r ≤ pa_rt (A.1.2.2.2.2.1 p).1 (A.1.2.2.1 i) → pa_it (A.1.2.2.2.2.1 p).1 (some ((A.1.2.2.1 i).2.1 0)) (r + 1) = ps_nx (A.1.2.2.2.2.1 p).1 ((A.1.2.2.1 i).2.1 r) := by
    intro r h
    show (pa_it (A.1.2.2.2.2.1 p).1 (some ((A.1.2.2.1 i).2.1 0)) r).bind _ = _
    rw [it_rt r h]
    rfl
  intro k
  induction k with
  | zero =>
    intro n r h1 h2
    obtain ⟨n, rfl⟩ : ∃ m, n = m + 1 := ⟨n - 1, by omega⟩
    have er : r = pa_rt (A.1.2.2.2.2.1 p).1 (A.1.2.2.1 i) := by omega
    rw [fk_L_areSongs_158, nI_add]
    by_cases c : (A.1.2.2.1 i).1 ≤ r + 1
    · rw [if_pos (nI_le c (by omega)), er]
    · have hb := l3 (r + 1) (by omega)
      rw [if_neg (nI_ge (by omega) (by omega)), e_bar hR ho hi (by omega), ps_b2E, e_sings hR ho hp hb0 (by omega), ps_b2E, e_bar hR ho hi (by omega), ps_b2E, est r (by omega), if_neg (by rw [ps_cl_eq hL hb, er]; exact rt_no (by omega)), er]
  | succ k ih =>
    intro n r h1 h2
    obtain ⟨n, rfl⟩ : ∃ m, n = m + 1 := ⟨n - 1, by omega⟩
    have hb := l3 (r + 1) (by omega)
    rw [fk_L_areSongs_158, nI_add, if_neg (nI_ge (by omega) (by omega)), e_bar hR ho hi (by omega), ps_b2E, e_sings hR ho hp hb0 (by omega), ps_b2E, e_bar hR ho hi (by omega), ps_b2E, est r (by omega), if_pos (by rw [ps_cl_eq hL hb]; exact rt_at (by omega)), ps_letE]
    exact ih n (r + 1) (by omega) (by omega)
theorem ar_141 (hok : ps_okU A) {i : Nat} (hi : i < A.1.2.1) (K : Nat → Int32 → Int32 → ps_M → Option (Int32 × ps_M)) : ∀ (k n p : Nat) (M : ps_M), p + k = A.1.2.2.2.1 → k < n → ps_CL M A → ∃ M1, ps_CL M1 A ∧ fk_L_areSongs_141 K n 0 (nI 1) (nI i) (nI (A.1.2.2.1 i).1) (pa_set (fun j => pa_kn (A.1.2.2.2.2.1 j).1 (A.1.2.2.1 i)) p) (nI p) M = K 0 (nI 1) (nI (i + 1)) M1 := by
  have h4 := hok.1.2.2.1
  have h8 := hok.1.2.1.1
  intro k
  induction k with
  | zero =>
    intro n p M h1 h2 hC
    obtain ⟨n, rfl⟩ : ∃ m, n = m + 1 := ⟨n - 1, by omega⟩
    have ep : p = A.1.2.2.2.1 := by omega
    refine ⟨M, hC, ?_⟩
    rw [fk_L_areSongs_141, e_c2 hC hok, ps_b2E, if_pos (nI_le (by omega) (by omega))]
    unfold fk_L_areSongs_496
    rw [if_neg (by decide), e_s5 hC.1 hok.1 hi, ps_b2E, if_pos (by rw [ep]), ps_letE, nI_add]
  | succ k ih =>
    intro n p M h1 h2 hC
    obtain ⟨n, rfl⟩ : ∃ m, n = m + 1 := ⟨n - 1, by omega⟩
    have hp : p < A.1.2.2.2.1 := by omega
    rw [fk_L_areSongs_141, e_c2 hC hok, ps_b2E, if_neg (nI_ge hp (by omega)), if_neg (by decide)]
    rw [ar_158 hC hok hp hi _ _ (pa_rt (A.1.2.2.2.2.1 p).1 (A.1.2.2.1 i)) ps_fu 0 (by omega) (by have := pa_rt_le (A.1.2.2.2.2.1 p).1 (A.1.2.2.1 i); have := (hok.1.2.1.2 i hi).2.1; unfold ps_fu; omega)]
    obtain ⟨M1, c1, e1⟩ := ar_200 hC hok hp hi (fun b0' a1' a2' a3' a4' a5' M' => fk_L_areSongs_141 K n b0' a1' a2' a3' a4' a5' M')
    rw [e1]
    exact ih n (p + 1) M1 (by omega) (by omega) c1
theorem ar_36 (hok : ps_okU A) : ∀ (k n i : Nat) (M : ps_M), i + k = A.1.2.1 → k < n → ps_CL M A → ∃ M1, ps_CL M1 A ∧ fk_L_areSongs_36 n 0 (nI 1) (nI i) M = some (nI 1, M1) := by
  have h4 := hok.1.2.2.1
  have h8 := hok.1.2.1.1
  intro k
  induction k with
  | zero =>
    intro n i M h1 h2 hC
    obtain ⟨n, rfl⟩ : ∃ m, n = m + 1 := ⟨n - 1, by omega⟩
    refine ⟨M, hC, ?_⟩
    rw [fk_L_areSongs_36, e_c1 hC hok, ps_b2E, if_pos (nI_le (by omega) (by omega)), if_pos ps_isB1]
  | succ k ih =>
    intro n i M h1 h2 hC
    obtain ⟨n, rfl⟩ : ∃ m, n = m + 1 := ⟨n - 1, by omega⟩
    have hi : i < A.1.2.1 := by omega
    have hR := hC.1
    have ho := hok.1
    obtain ⟨l1, l2, l3⟩ := ho.2.1.2 i hi
    have hu := un_le (A.1.2.2.1 i)
    obtain ⟨M1, c1, e1⟩ := ar_141 hok hi (fun b0' a1' a2' M' => fk_L_areSongs_36 n b0' a1' a2' M') A.1.2.2.2.1 ps_fu 0 M (by omega) (by unfold ps_fu; omega) hC
    obtain ⟨M2, c2, e2⟩ := ih n (i + 1) M1 (by omega) (by omega) c1
    refine ⟨M2, c2, ?_⟩
    rw [← e2]
    rw [fk_L_areSongs_36, e_c1 hC hok, ps_b2E, if_neg (nI_ge hi (by omega)), if_neg (by decide), e_s0 hR ho hi, ps_b2E, if_neg (nI_nlt l1 (by omega)), if_neg (nI_nlt l2 (by omega)), e_barN hR ho hi (ps_noI (Nat.le_refl _) (by omega)), ps_b2E, if_pos rfl, e_bar hR ho hi (by omega), ps_b2E, e_s2 hR ho hi, ps_b2E, if_pos rfl, pk_sub l1, e_bar hR ho hi (by omega), ps_b2E, e_s3 hR ho hi, ps_b2E, if_pos rfl, e_rh hR ho hi hi, ps_b2E, if_pos (by rw [rh_self]), e_s1 hR ho hi, ps_b2E, if_neg (nI_nlt hu (by omega))]
    exact e1
theorem lw_songs {M : ps_M} (hC : ps_CL M A) (hok : ps_okU A) : ∃ M1, ps_CL M1 A ∧ ff_L_areSongs 0 M = some (nI 1, M1) := by
  have h4 := hok.1.2.2.1
  have h8 := hok.1.2.1.1
  obtain ⟨M1, c1, e1⟩ := ar_36 hok A.1.2.1 ps_fu 0 M (by omega) (by unfold ps_fu; omega) hC
  refine ⟨M1, c1, ?_⟩
  unfold ff_L_areSongs
  rw [e_c1 hC hok, ps_b2E, e_sN hC.1 hok.1, ps_b2E, if_pos rfl, e_c2 hC hok, ps_b2E, e_ofN hC.1 hok.1, ps_b2E, if_pos rfl]
  exact e1
end
