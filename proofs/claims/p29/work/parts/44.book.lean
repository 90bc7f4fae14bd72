/-! the class's songs, at the cell b -/
def ps_RB (M : ps_M) (b ns : Nat) (sf : Nat → ps_S) : Prop := ps_rd M b 3 = nI ns ∧ ∀ i, i < ns → ps_rd M (b + 10) i = nI (sf i).1 ∧ ps_rd M (b + 11) i = (sf i).2.2 ∧ ∀ j, j < (sf i).1 → ps_rd M (b + 2 + i) j = nI ((sf i).2.1 j)
def ps_okS (ns : Nat) (sf : Nat → ps_S) : Prop := ns ≤ 8 ∧ ∀ i, i < ns → 1 ≤ (sf i).1 ∧ (sf i).1 ≤ 20 ∧ ∀ j, j < (sf i).1 → (sf i).2.1 j < 26
theorem ps_RB_fr {lo hi : Nat} {M M1 : ps_M} {b ns : Nat} {sf : Nat → ps_S} (h : ps_Fr lo hi M M1) (hok : ns ≤ 8) (hq : b + 12 ≤ lo ∨ hi ≤ b) (hR : ps_RB M b ns sf) : ps_RB M1 b ns sf := by
  refine ⟨by rw [h.1 b (by omega)]; exact hR.1, fun i hi => ?_⟩
  rw [h.1 (b + 10) (by omega), h.1 (b + 11) (by omega)]
  refine ⟨(hR.2 i hi).1, (hR.2 i hi).2.1, fun j hj => ?_⟩
  rw [h.1 (b + 2 + i) (by omega)]
  exact (hR.2 i hi).2.2 j hj
/-- no number of n -/
def ps_no (x : Int32) (n : Nat) : Prop := x < nI 0 ∨ nI n ≤ x
theorem ps_cas (x : Int32) (n : Nat) (hn : n < 2147483648) : (∃ j, j < n ∧ x = nI j) ∨ ps_no x n := by
  rcases pk_ix x hn with h | h | h
  · exact Or.inr (Or.inl h)
  · exact Or.inr (Or.inr h)
  · exact Or.inl h
theorem ps_noI {j n : Nat} (h : n ≤ j) (hj : j < 2147483648) : ps_no (nI j) n := Or.inr (nI_le h hj)
theorem bk_has {M : ps_M} {b ns : Nat} {sf : Nat → ps_S} (hR : ps_RB M b ns sf) (hok : ps_okS ns sf) {i : Nat} (hi : i < ns) : ff_X5_has b (nI i) M = some (nI 1, M) := by
  have := hok.1
  unfold ff_X5_has
  rw [hR.1]
  simp (disch := omega) only [ps_letE, ps_b2E, nI_add, pk_mul, nI_clamp, ev_inB, nI_leI, nI_ltI, nI_eq, if_pos, if_neg, ev_eqm, ev_eqm2, ev_ltm, ev_lem, ev_mlt, ev_mle, ev_mm, ev_subm, pk_sub, ev_true, if_true, if_false, ite_true, ite_false, Option.map, ev_rs, ev_ra, ev_rj, ev_cpO, ps_isB1, ps_isB0]
theorem bk_hasN {M : ps_M} {b ns : Nat} {sf : Nat → ps_S} (hR : ps_RB M b ns sf) {x : Int32} (hx : ps_no x ns) : ff_X5_has b x M = some (nI 0, M) := by
  unfold ff_X5_has
  rw [hR.1]
  by_cases h : x < nI 0
  · rw [if_pos h]
  · rw [if_neg h, if_pos (hx.resolve_left h)]
theorem bk_len {M : ps_M} {b ns : Nat} {sf : Nat → ps_S} (hR : ps_RB M b ns sf) (hok : ps_okS ns sf) {i : Nat} (hi : i < ns) : ff_X5_lengthOf b (nI i) M = some (nI (sf i).1, M) := by
  have := hok.1
  unfold ff_X5_lengthOf
  rw [bk_has hR hok hi]
  simp (disch := omega) only [ps_letE, ps_b2E, nI_add, pk_mul, nI_clamp, ev_inB, nI_leI, nI_ltI, nI_eq, if_pos, if_neg, ev_eqm, ev_eqm2, ev_ltm, ev_lem, ev_mlt, ev_mle, ev_mm, ev_subm, pk_sub, ev_true, if_true, if_false, ite_true, ite_false, Option.map, ev_rs, ev_ra, ev_rj, ev_cpO, ps_isB1, ps_isB0, (hR.2 i hi).1]
theorem bk_hasBar {M : ps_M} {b ns : Nat} {sf : Nat → ps_S} (hR : ps_RB M b ns sf) (hok : ps_okS ns sf) {i j : Nat} (hi : i < ns) (hj : j < (sf i).1) : ff_X5_hasBar b (nI i) (nI j) M = some (nI 1, M) := by
  have := hok.1
  have := (hok.2 i hi).2.1
  unfold ff_X5_hasBar
  rw [bk_has hR hok hi]
  simp (disch := omega) only [ps_letE, ps_b2E, nI_add, pk_mul, nI_clamp, ev_inB, nI_leI, nI_ltI, nI_eq, if_pos, if_neg, ev_eqm, ev_eqm2, ev_ltm, ev_lem, ev_mlt, ev_mle, ev_mm, ev_subm, pk_sub, ev_true, if_true, if_false, ite_true, ite_false, Option.map, ev_rs, ev_ra, ev_rj, ev_cpO, ps_isB1, ps_isB0, (hR.2 i hi).1]
theorem bk_hasBarN {M : ps_M} {b ns : Nat} {sf : Nat → ps_S} (hR : ps_RB M b ns sf) (hok : ps_okS ns sf) {i : Nat} (hi : i < ns) {x : Int32} (hx : ps_no x (sf i).1) : ff_X5_hasBar b (nI i) x M = some (nI 0, M) := by
  have := hok.1
  unfold ff_X5_hasBar
  rw [bk_has hR hok hi, ps_b2E, if_neg (by rw [nI_eq (by omega) (by omega)]; omega)]
  by_cases h : x < nI 0
  · rw [if_pos h]
  · rw [if_neg h, if_pos (ev_inB (by omega) (by omega)), nI_clamp (by omega), (hR.2 i hi).1, if_pos (hx.resolve_left h)]
theorem bk_bar {M : ps_M} {b ns : Nat} {sf : Nat → ps_S} (hR : ps_RB M b ns sf) (hok : ps_okS ns sf) {i j : Nat} (hi : i < ns) (hj : j < (sf i).1) : ff_X5_barAt b (nI i) (nI j) M = some (nI ((sf i).2.1 j), M) := by
  have := hok.1
  have := (hok.2 i hi).2.1
  unfold ff_X5_barAt
  rw [bk_hasBar hR hok hi hj]
  simp (disch := omega) only [ps_letE, ps_b2E, nI_add, pk_mul, nI_clamp, ev_inB, nI_leI, nI_ltI, nI_eq, if_pos, if_neg, ev_eqm, ev_eqm2, ev_ltm, ev_lem, ev_mlt, ev_mle, ev_mm, ev_subm, pk_sub, ev_true, if_true, if_false, ite_true, ite_false, Option.map, ev_rs, ev_ra, ev_rj, ev_cpO, ps_isB1, ps_isB0, Nat.add_assoc, Nat.reduceAdd]
  rw [← Nat.add_assoc, (hR.2 i hi).2.2 j hj]
theorem bk_last {M : ps_M} {b ns : Nat} {sf : Nat → ps_S} (hR : ps_RB M b ns sf) (hok : ps_okS ns sf) {i : Nat} (hi : i < ns) : ff_X5_lastBar b (nI i) M = some (nI ((sf i).2.1 ((sf i).1 - 1)), M) := by
  have h1 := hok.2 i hi
  unfold ff_X5_lastBar
  rw [bk_len hR hok hi]
  simp (disch := omega) only [ps_letE, ps_b2E, nI_add, pk_mul, nI_clamp, ev_inB, nI_leI, nI_ltI, nI_eq, if_pos, if_neg, ev_eqm, ev_eqm2, ev_ltm, ev_lem, ev_mlt, ev_mle, ev_mm, ev_subm, pk_sub, ev_true, if_true, if_false, ite_true, ite_false, Option.map, ev_rs, ev_ra, ev_rj, ev_cpO, ps_isB1, ps_isB0, bk_bar hR hok hi]
theorem bk_lessons {M : ps_M} {b ns : Nat} {sf : Nat → ps_S} (hR : ps_RB M b ns sf) (hok : ps_okS ns sf) {i : Nat} (hi : i < ns) : ff_X5_lessonsWith b (nI i) M = some ((sf i).2.2, M) := by
  have := hok.1
  unfold ff_X5_lessonsWith
  rw [bk_has hR hok hi]
  simp (disch := omega) only [ps_letE, ps_b2E, nI_add, pk_mul, nI_clamp, ev_inB, nI_leI, nI_ltI, nI_eq, if_pos, if_neg, ev_eqm, ev_eqm2, ev_ltm, ev_lem, ev_mlt, ev_mle, ev_mm, ev_subm, pk_sub, ev_true, if_true, if_false, ite_true, ite_false, Option.map, ev_rs, ev_ra, ev_rj, ev_cpO, ps_isB1, ps_isB0, (hR.2 i hi).2.1]
def pa_lessons (ns : Nat) (sf : Nat → ps_S) : Int32 := ps_fo (fun i s => s + (sf i).2.2) ns (nI 0)
theorem bk_allLessons {M : ps_M} {b ns : Nat} {sf : Nat → ps_S} (hR : ps_RB M b ns sf) (hok : ps_okS ns sf) : ff_X5_lessonsInAll b M = some (pa_lessons ns sf, M) := by
  have := hok.1
  unfold ff_X5_lessonsInAll
  refine (ps_whP (F := fun n i (s : Int32) => fk_X5_lessonsInAll_4 b n s (nI i) M) (I := fun _ _ => True) ns (fun _ _ => true) (fun i s => s + (sf i).2.2) (fun i s => some (s, M)) (fun n i s h1 h2 h3 => ?_) (fun n i s h1 h2 h3 => ⟨?_, trivial⟩) ns ps_fu 0 (nI 0) (by omega) (by unfold ps_fu; omega) trivial).1
  · rw [fk_X5_lessonsInAll_4, hR.1]
    have h4 : ¬ i < ns := fun q => by simp at h3; omega
    simp (disch := omega) only [ps_letE, ps_b2E, nI_add, pk_mul, nI_clamp, ev_inB, nI_leI, nI_ltI, nI_eq, if_pos, if_neg, ev_eqm, ev_eqm2, ev_ltm, ev_lem, ev_mlt, ev_mle, ev_mm, ev_subm, pk_sub, ev_true, if_true, if_false, ite_true, ite_false, Option.map, ev_rs, ev_ra, ev_rj, ev_cpO, ps_isB1, ps_isB0]
  · rw [fk_X5_lessonsInAll_4, hR.1]
    simp (disch := omega) only [ps_letE, ps_b2E, nI_add, pk_mul, nI_clamp, ev_inB, nI_leI, nI_ltI, nI_eq, if_pos, if_neg, ev_eqm, ev_eqm2, ev_ltm, ev_lem, ev_mlt, ev_mle, ev_mm, ev_subm, pk_sub, ev_true, if_true, if_false, ite_true, ite_false, Option.map, ev_rs, ev_ra, ev_rj, ev_cpO, ps_isB1, ps_isB0, (hR.2 i h1).2.1]
/-- how many bars behind the first one are right -/
def pa_rt (L : List ps_L) (s : ps_S) : Nat := ps_sc (fun t => decide (ps_nx L (s.2.1 t) = some (s.2.1 (t + 1)))) (s.1 - 1) 0
theorem pa_rt_le (L : List ps_L) (s : ps_S) : pa_rt L s ≤ s.1 - 1 := by
  have := (ps_sc_spec (fun t => decide (ps_nx L (s.2.1 t) = some (s.2.1 (t + 1)))) (s.1 - 1) 0).2.1
  unfold pa_rt
  omega
theorem ps_nx_lt {L : List ps_L} (hok : ps_okL L) {a c : Nat} (h : ps_nx L a = some c) : c < 26 := by
  unfold ps_nx at h
  have hb := ps_bst_best L a L.length
  cases e : ps_bst L a L.length with
  | none => rw [e] at h; cases h
  | some j =>
    rw [e] at h hb
    cases h
    exact (okL_at hok hb.1.2.1).2.1
theorem ps_cl_eq {L : List ps_L} (hok : ps_okL L) {a c : Nat} (hc : c < 26) : (ps_cl (ps_nx L a) = nI c) = (ps_nx L a = some c) := by
  cases h : ps_nx L a with
  | none =>
    show (ps_m 6 = nI c) = _
    rw [ev_eqm2 (by omega) (by omega) (by omega)]
    simp
  | some d =>
    have hd := ps_nx_lt hok h
    show (nI d = nI c) = _
    rw [nI_eq (by omega) (by omega)]
    simp
theorem bk_wrong {M : ps_M} {b q ns : Nat} {sf : Nat → ps_S} {L : List ps_L} (hR : ps_RB M b ns sf) (hok : ps_okS ns sf) (hL : ps_RL M q L) (hL1 : L.length ≤ 61) (hoL : ps_okL L) {i : Nat} (hi : i < ns) : ff_X5_firstWrong b q (nI i) M = some (nI (pa_rt L (sf i) + 1), M) := by
  obtain ⟨s1, s2, s3⟩ := hok.2 i hi
  unfold ff_X5_firstWrong
  refine ps_scP (F := fun n t => fk_X5_firstWrong_2 b n q (nI i) (nI (t + 1)) M) ((sf i).1 - 1) _ (fun t => some (nI (t + 1), M)) (fun n t h1 h2 => ?_) (fun n t h1 h2 => ?_) ((sf i).1 - 1) ps_fu 0 (by omega) (by unfold ps_fu; omega)
  · rw [fk_X5_firstWrong_2, bk_len hR hok hi]
    by_cases h : t < (sf i).1 - 1
    · have h3 : ¬ ps_nx L ((sf i).2.1 t) = some ((sf i).2.1 (t + 1)) := of_decide_eq_false (h2 h)
      have hb := s3 (t + 1) (by omega)
      have ha := s3 t (by omega)
      simp (disch := omega) only [ps_letE, ps_b2E, nI_add, pk_mul, nI_clamp, ev_inB, nI_leI, nI_ltI, nI_eq, if_pos, if_neg, ev_eqm, ev_eqm2, ev_ltm, ev_lem, ev_mlt, ev_mle, ev_mm, ev_subm, pk_sub, ev_true, if_true, if_false, ite_true, ite_false, Option.map, ev_rs, ev_ra, ev_rj, ev_cpO, ps_isB1, ps_isB0, Nat.add_sub_cancel, bk_bar hR hok hi, pr_next hL hL1 hoL, ps_cl_eq hoL, h3]
    · simp (disch := omega) only [ps_letE, ps_b2E, nI_add, pk_mul, nI_clamp, ev_inB, nI_leI, nI_ltI, nI_eq, if_pos, if_neg, ev_eqm, ev_eqm2, ev_ltm, ev_lem, ev_mlt, ev_mle, ev_mm, ev_subm, pk_sub, ev_true, if_true, if_false, ite_true, ite_false, Option.map, ev_rs, ev_ra, ev_rj, ev_cpO, ps_isB1, ps_isB0]
  · rw [fk_X5_firstWrong_2, bk_len hR hok hi]
    have hb := s3 (t + 1) (by omega)
    have ha := s3 t (by omega)
    have h3 : ps_cl (ps_nx L ((sf i).2.1 t)) = nI ((sf i).2.1 (t + 1)) := by
      rw [ps_cl_eq hoL hb]
      exact of_decide_eq_true h2
    simp (disch := omega) only [ps_letE, ps_b2E, nI_add, pk_mul, nI_clamp, ev_inB, nI_leI, nI_ltI, nI_eq, if_pos, if_neg, ev_eqm, ev_eqm2, ev_ltm, ev_lem, ev_mlt, ev_mle, ev_mm, ev_subm, pk_sub, ev_true, if_true, if_false, ite_true, ite_false, Option.map, ev_rs, ev_ra, ev_rj, ev_cpO, ps_isB1, ps_isB0, Nat.add_sub_cancel, bk_bar hR hok hi, pr_next hL hL1 hoL, h3]
/-- knows it whole -/
def pa_kn (L : List ps_L) (s : ps_S) : Bool := decide (s.1 ≤ pa_rt L s + 1)
def pa_hu (L : List ps_L) (s : ps_S) : Nat := if s.1 < 2 then 100 else 100 * pa_rt L s / (s.1 - 1)
def pa_bi (c : Bool) : Int32 := if c = true then nI 1 else nI 0
theorem bk_known {M : ps_M} {b q ns : Nat} {sf : Nat → ps_S} {L : List ps_L} (hR : ps_RB M b ns sf) (hok : ps_okS ns sf) (hL : ps_RL M q L) (hL1 : L.length ≤ 61) (hoL : ps_okL L) {i : Nat} (hi : i < ns) : ff_X5_isKnownBy b q (nI i) M = some (pa_bi (pa_kn L (sf i)), M) := by
  obtain ⟨s1, s2, s3⟩ := hok.2 i hi
  have := pa_rt_le L (sf i)
  unfold ff_X5_isKnownBy pa_bi pa_kn
  rw [bk_wrong hR hok hL hL1 hoL hi, ps_b2E, bk_len hR hok hi, ps_b2E]
  by_cases h : (sf i).1 ≤ pa_rt L (sf i) + 1
  · rw [if_neg (nI_nlt h (by omega)), if_pos (decide_eq_true h)]
  · rw [if_pos (nI_lt (by omega) (by omega)), if_neg (by simpa using h)]
theorem bk_hu {M : ps_M} {b q ns : Nat} {sf : Nat → ps_S} {L : List ps_L} (hR : ps_RB M b ns sf) (hok : ps_okS ns sf) (hL : ps_RL M q L) (hL1 : L.length ≤ 61) (hoL : ps_okL L) {i : Nat} (hi : i < ns) : ff_X5_hundredths b q (nI i) M = some (nI (pa_hu L (sf i)), M) := by
  obtain ⟨s1, s2, s3⟩ := hok.2 i hi
  have := pa_rt_le L (sf i)
  unfold ff_X5_hundredths pa_hu
  rw [bk_len hR hok hi, ps_b2E]
  by_cases h : (sf i).1 < 2
  · simp (disch := omega) only [ps_letE, ps_b2E, nI_add, pk_mul, nI_clamp, ev_inB, nI_leI, nI_ltI, nI_eq, if_pos, if_neg, ev_eqm, ev_eqm2, ev_ltm, ev_lem, ev_mlt, ev_mle, ev_mm, ev_subm, pk_sub, ev_true, if_true, if_false, ite_true, ite_false, Option.map, ev_rs, ev_ra, ev_rj, ev_cpO, ps_isB1, ps_isB0]
  · simp (disch := omega) only [ps_letE, ps_b2E, nI_add, pk_mul, nI_clamp, ev_inB, nI_leI, nI_ltI, nI_eq, if_pos, if_neg, ev_eqm, ev_eqm2, ev_ltm, ev_lem, ev_mlt, ev_mle, ev_mm, ev_subm, pk_sub, ev_true, if_true, if_false, ite_true, ite_false, Option.map, ev_rs, ev_ra, ev_rj, ev_cpO, ps_isB1, ps_isB0, bk_wrong hR hok hL hL1 hoL hi, Nat.add_sub_cancel, pk_div]
def pa_all (L : List ps_L) (ns : Nat) (sf : Nat → ps_S) : Int32 := ps_fo (fun i s => s + nI (pa_hu L (sf i))) ns (nI 0)
theorem bk_all {M : ps_M} {b q ns : Nat} {sf : Nat → ps_S} {L : List ps_L} (hR : ps_RB M b ns sf) (hok : ps_okS ns sf) (hL : ps_RL M q L) (hL1 : L.length ≤ 61) (hoL : ps_okL L) : ff_X5_hundredthsInAll b q M = some (pa_all L ns sf, M) := by
  have := hok.1
  unfold ff_X5_hundredthsInAll
  refine (ps_whP (F := fun n i (s : Int32) => fk_X5_hundredthsInAll_4 b n q s (nI i) M) (I := fun _ _ => True) ns (fun _ _ => true) (fun i s => s + nI (pa_hu L (sf i))) (fun i s => some (s, M)) (fun n i s h1 h2 h3 => ?_) (fun n i s h1 h2 h3 => ⟨?_, trivial⟩) ns ps_fu 0 (nI 0) (by omega) (by unfold ps_fu; omega) trivial).1
  · rw [fk_X5_hundredthsInAll_4, hR.1]
    have h4 : ¬ i < ns := fun q => by simp at h3; omega
    simp (disch := omega) only [ps_letE, ps_b2E, nI_add, pk_mul, nI_clamp, ev_inB, nI_leI, nI_ltI, nI_eq, if_pos, if_neg, ev_eqm, ev_eqm2, ev_ltm, ev_lem, ev_mlt, ev_mle, ev_mm, ev_subm, pk_sub, ev_true, if_true, if_false, ite_true, ite_false, Option.map, ev_rs, ev_ra, ev_rj, ev_cpO, ps_isB1, ps_isB0]
  · rw [fk_X5_hundredthsInAll_4, hR.1]
    simp (disch := omega) only [ps_letE, ps_b2E, nI_add, pk_mul, nI_clamp, ev_inB, nI_leI, nI_ltI, nI_eq, if_pos, if_neg, ev_eqm, ev_eqm2, ev_ltm, ev_lem, ev_mlt, ev_mle, ev_mm, ev_subm, pk_sub, ev_true, if_true, if_false, ite_true, ite_false, Option.map, ev_rs, ev_ra, ev_rj, ev_cpO, ps_isB1, ps_isB0, bk_hu hR hok hL hL1 hoL h1]
/-- the set of those of which a test holds -/
def pa_set (p : Nat → Bool) (n : Nat) : Int32 := ps_fo (fun i s => if p i = true then s ||| ((nI 1) <<< ((nI i) &&& 31)) else s) n (nI 0)
theorem bk_knownBy {M : ps_M} {b q ns : Nat} {sf : Nat → ps_S} {L : List ps_L} (hR : ps_RB M b ns sf) (hok : ps_okS ns sf) (hL : ps_RL M q L) (hL1 : L.length ≤ 61) (hoL : ps_okL L) : ff_X5_knownBy b q M = some (pa_set (fun i => pa_kn L (sf i)) ns, M) := by
  have := hok.1
  unfold ff_X5_knownBy
  refine (ps_whP (F := fun n i (s : Int32) => fk_X5_knownBy_4 b n q s (nI i) M) (I := fun _ _ => True) ns (fun _ _ => true) _ (fun i s => some (s, M)) (fun n i s h1 h2 h3 => ?_) (fun n i s h1 h2 h3 => ⟨?_, trivial⟩) ns ps_fu 0 (nI 0) (by omega) (by unfold ps_fu; omega) trivial).1
  · rw [fk_X5_knownBy_4, hR.1]
    have h4 : ¬ i < ns := fun q => by simp at h3; omega
    simp (disch := omega) only [ps_letE, ps_b2E, nI_add, pk_mul, nI_clamp, ev_inB, nI_leI, nI_ltI, nI_eq, if_pos, if_neg, ev_eqm, ev_eqm2, ev_ltm, ev_lem, ev_mlt, ev_mle, ev_mm, ev_subm, pk_sub, ev_true, if_true, if_false, ite_true, ite_false, Option.map, ev_rs, ev_ra, ev_rj, ev_cpO, ps_isB1, ps_isB0]
  · rw [fk_X5_knownBy_4, hR.1]
    cases h : pa_kn L (sf i)
    · simp (disch := omega) only [ps_letE, ps_b2E, nI_add, pk_mul, nI_clamp, ev_inB, nI_leI, nI_ltI, nI_eq, if_pos, if_neg, ev_eqm, ev_eqm2, ev_ltm, ev_lem, ev_mlt, ev_mle, ev_mm, ev_subm, pk_sub, ev_true, if_true, if_false, ite_true, ite_false, Option.map, ev_rs, ev_ra, ev_rj, ev_cpO, ps_isB1, ps_isB0, bk_known hR hok hL hL1 hoL h1, h, pa_bi, Bool.false_eq_true]
    · simp (disch := omega) only [ps_letE, ps_b2E, nI_add, pk_mul, nI_clamp, ev_inB, nI_leI, nI_ltI, nI_eq, if_pos, if_neg, ev_eqm, ev_eqm2, ev_ltm, ev_lem, ev_mlt, ev_mle, ev_mm, ev_subm, pk_sub, ev_true, if_true, if_false, ite_true, ite_false, Option.map, ev_rs, ev_ra, ev_rj, ev_cpO, ps_isB1, ps_isB0, bk_known hR hok hL hL1 hoL h1, h, pa_bi]
theorem bk_from {M : ps_M} {b ns : Nat} {sf : Nat → ps_S} (hR : ps_RB M b ns sf) (hok : ps_okS ns sf) {o : Option Nat} (ho : ∀ c, o = some c → c < 26) : ff_X5_songsFrom b (ps_cl o) M = some (pa_set (fun i => decide (o = some ((sf i).2.1 0))) ns, M) := by
  have := hok.1
  unfold ff_X5_songsFrom
  refine (ps_whP (F := fun n i (s : Int32) => fk_X5_songsFrom_4 b n (ps_cl o) s (nI i) M) (I := fun _ _ => True) ns (fun _ _ => true) _ (fun i s => some (s, M)) (fun n i s h1 h2 h3 => ?_) (fun n i s h1 h2 h3 => ⟨?_, trivial⟩) ns ps_fu 0 (nI 0) (by omega) (by unfold ps_fu; omega) trivial).1
  · rw [fk_X5_songsFrom_4, hR.1]
    have h4 : ¬ i < ns := fun q => by simp at h3; omega
    simp (disch := omega) only [ps_letE, ps_b2E, nI_add, pk_mul, nI_clamp, ev_inB, nI_leI, nI_ltI, nI_eq, if_pos, if_neg, ev_eqm, ev_eqm2, ev_ltm, ev_lem, ev_mlt, ev_mle, ev_mm, ev_subm, pk_sub, ev_true, if_true, if_false, ite_true, ite_false, Option.map, ev_rs, ev_ra, ev_rj, ev_cpO, ps_isB1, ps_isB0]
  · rw [fk_X5_songsFrom_4, hR.1]
    obtain ⟨s1, s2, s3⟩ := hok.2 i h1
    have hb := s3 0 (by omega)
    cases o with
    | none => simp (disch := omega) only [ps_letE, ps_b2E, nI_add, pk_mul, nI_clamp, ev_inB, nI_leI, nI_ltI, nI_eq, if_pos, if_neg, ev_eqm, ev_eqm2, ev_ltm, ev_lem, ev_mlt, ev_mle, ev_mm, ev_subm, pk_sub, ev_true, if_true, if_false, ite_true, ite_false, Option.map, ev_rs, ev_ra, ev_rj, ev_cpO, ps_isB1, ps_isB0, bk_bar hR hok h1, ps_cl, reduceCtorEq, decide_false, Bool.false_eq_true]
    | some c =>
      have hc := ho c rfl
      by_cases e : c = (sf i).2.1 0
      · subst e
        simp (disch := omega) only [ps_letE, ps_b2E, nI_add, pk_mul, nI_clamp, ev_inB, nI_leI, nI_ltI, nI_eq, if_pos, if_neg, ev_eqm, ev_eqm2, ev_ltm, ev_lem, ev_mlt, ev_mle, ev_mm, ev_subm, pk_sub, ev_true, if_true, if_false, ite_true, ite_false, Option.map, ev_rs, ev_ra, ev_rj, ev_cpO, ps_isB1, ps_isB0, bk_bar hR hok h1, ps_cl, decide_true]
      · simp (disch := omega) only [ps_letE, ps_b2E, nI_add, pk_mul, nI_clamp, ev_inB, nI_leI, nI_ltI, nI_eq, if_pos, if_neg, ev_eqm, ev_eqm2, ev_ltm, ev_lem, ev_mlt, ev_mle, ev_mm, ev_subm, pk_sub, ev_true, if_true, if_false, ite_true, ite_false, Option.map, ev_rs, ev_ra, ev_rj, ev_cpO, ps_isB1, ps_isB0, bk_bar hR hok h1, ps_cl, Option.some.injEq, e, decide_false, Bool.false_eq_true]
/-- the bar nx stands right behind the bar a somewhere -/
def pa_pair (s : ps_S) (a c : Nat) : Bool := decide (ps_sc (fun t => !(decide (s.2.1 t = a ∧ s.2.1 (t + 1) = c))) (s.1 - 1) 0 < s.1 - 1)
theorem bk_pair {M : ps_M} {b ns : Nat} {sf : Nat → ps_S} (hR : ps_RB M b ns sf) (hok : ps_okS ns sf) {i a c : Nat} (hi : i < ns) (ha : a < 26) (hc : c < 26) : ff_X5_hasPair b (nI i) (nI a) (nI c) M = some (pa_bi (pa_pair (sf i) a c), M) := by
  obtain ⟨s1, s2, s3⟩ := hok.2 i hi
  unfold ff_X5_hasPair pa_bi pa_pair
  simp only [decide_eq_true_eq]
  refine ps_scP (F := fun n t => fk_X5_hasPair_3 b n (nI i) (nI a) (nI c) (nI (t + 1)) M) ((sf i).1 - 1) _ (fun t => some (if t < (sf i).1 - 1 then nI 1 else nI 0, M)) (fun n t h1 h2 => ?_) (fun n t h1 h2 => ?_) ((sf i).1 - 1) ps_fu 0 (by omega) (by unfold ps_fu; omega)
  · rw [fk_X5_hasPair_3, bk_len hR hok hi]
    by_cases h : t < (sf i).1 - 1
    · have h3 := nb_f (h2 h)
      have hb := s3 (t + 1) (by omega)
      have ha := s3 t (by omega)
      simp (disch := omega) only [ps_letE, ps_b2E, nI_add, pk_mul, nI_clamp, ev_inB, nI_leI, nI_ltI, nI_eq, if_pos, if_neg, ev_eqm, ev_eqm2, ev_ltm, ev_lem, ev_mlt, ev_mle, ev_mm, ev_subm, pk_sub, ev_true, if_true, if_false, ite_true, ite_false, Option.map, ev_rs, ev_ra, ev_rj, ev_cpO, ps_isB1, ps_isB0, Nat.add_sub_cancel, bk_bar hR hok hi, h3.1, h3.2]
    · simp (disch := omega) only [ps_letE, ps_b2E, nI_add, pk_mul, nI_clamp, ev_inB, nI_leI, nI_ltI, nI_eq, if_pos, if_neg, ev_eqm, ev_eqm2, ev_ltm, ev_lem, ev_mlt, ev_mle, ev_mm, ev_subm, pk_sub, ev_true, if_true, if_false, ite_true, ite_false, Option.map, ev_rs, ev_ra, ev_rj, ev_cpO, ps_isB1, ps_isB0]
  · rw [fk_X5_hasPair_3, bk_len hR hok hi]
    have h3 := nb_t h2
    have hb := s3 (t + 1) (by omega)
    have ha := s3 t (by omega)
    by_cases m : (sf i).2.1 t = a
    · have m2 : ¬ (sf i).2.1 (t + 1) = c := fun e => h3 ⟨m, e⟩
      simp (disch := omega) only [ps_letE, ps_b2E, nI_add, pk_mul, nI_clamp, ev_inB, nI_leI, nI_ltI, nI_eq, if_pos, if_neg, ev_eqm, ev_eqm2, ev_ltm, ev_lem, ev_mlt, ev_mle, ev_mm, ev_subm, pk_sub, ev_true, if_true, if_false, ite_true, ite_false, Option.map, ev_rs, ev_ra, ev_rj, ev_cpO, ps_isB1, ps_isB0, Nat.add_sub_cancel, bk_bar hR hok hi, m, m2]
    · simp (disch := omega) only [ps_letE, ps_b2E, nI_add, pk_mul, nI_clamp, ev_inB, nI_leI, nI_ltI, nI_eq, if_pos, if_neg, ev_eqm, ev_eqm2, ev_ltm, ev_lem, ev_mlt, ev_mle, ev_mm, ev_subm, pk_sub, ev_true, if_true, if_false, ite_true, ite_false, Option.map, ev_rs, ev_ra, ev_rj, ev_cpO, ps_isB1, ps_isB0, Nat.add_sub_cancel, bk_bar hR hok hi, m]
theorem bk_pairs {M : ps_M} {b ns : Nat} {sf : Nat → ps_S} (hR : ps_RB M b ns sf) (hok : ps_okS ns sf) {a c : Nat} (ha : a < 26) (hc : c < 26) : ff_X5_songsWithPair b (nI a) (nI c) M = some (pa_set (fun i => pa_pair (sf i) a c) ns, M) := by
  have := hok.1
  unfold ff_X5_songsWithPair
  refine (ps_whP (F := fun n i (s : Int32) => fk_X5_songsWithPair_5 b n (nI a) (nI c) s (nI i) M) (I := fun _ _ => True) ns (fun _ _ => true) _ (fun i s => some (s, M)) (fun n i s h1 h2 h3 => ?_) (fun n i s h1 h2 h3 => ⟨?_, trivial⟩) ns ps_fu 0 (nI 0) (by omega) (by unfold ps_fu; omega) trivial).1
  · rw [fk_X5_songsWithPair_5, hR.1]
    have h4 : ¬ i < ns := fun q => by simp at h3; omega
    simp (disch := omega) only [ps_letE, ps_b2E, nI_add, pk_mul, nI_clamp, ev_inB, nI_leI, nI_ltI, nI_eq, if_pos, if_neg, ev_eqm, ev_eqm2, ev_ltm, ev_lem, ev_mlt, ev_mle, ev_mm, ev_subm, pk_sub, ev_true, if_true, if_false, ite_true, ite_false, Option.map, ev_rs, ev_ra, ev_rj, ev_cpO, ps_isB1, ps_isB0]
  · rw [fk_X5_songsWithPair_5, hR.1]
    cases h : pa_pair (sf i) a c
    · simp (disch := omega) only [ps_letE, ps_b2E, nI_add, pk_mul, nI_clamp, ev_inB, nI_leI, nI_ltI, nI_eq, if_pos, if_neg, ev_eqm, ev_eqm2, ev_ltm, ev_lem, ev_mlt, ev_mle, ev_mm, ev_subm, pk_sub, ev_true, if_true, if_false, ite_true, ite_false, Option.map, ev_rs, ev_ra, ev_rj, ev_cpO, ps_isB1, ps_isB0, bk_pair hR hok h1 ha hc, h, pa_bi, Bool.false_eq_true]
    · simp (disch := omega) only [ps_letE, ps_b2E, nI_add, pk_mul, nI_clamp, ev_inB, nI_leI, nI_ltI, nI_eq, if_pos, if_neg, ev_eqm, ev_eqm2, ev_ltm, ev_lem, ev_mlt, ev_mle, ev_mm, ev_subm, pk_sub, ev_true, if_true, if_false, ite_true, ite_false, Option.map, ev_rs, ev_ra, ev_rj, ev_cpO, ps_isB1, ps_isB0, bk_pair hR hok h1 ha hc, h, pa_bi]
/-- by how many bars from the end on -/
def pa_rh (s u : ps_S) : Nat := ps_sc (fun t => decide (s.2.1 (s.1 - 1 - t) = u.2.1 (u.1 - 1 - t))) (min s.1 u.1) 0
theorem bk_rhyme {M : ps_M} {b ns : Nat} {sf : Nat → ps_S} (hR : ps_RB M b ns sf) (hok : ps_okS ns sf) {i k : Nat} (hi : i < ns) (hk : k < ns) : ff_X5_sameAtEnd b (nI i) (nI k) M = some (nI (pa_rh (sf i) (sf k)), M) := by
  obtain ⟨s1, s2, s3⟩ := hok.2 i hi
  obtain ⟨u1, u2, u3⟩ := hok.2 k hk
  unfold ff_X5_sameAtEnd
  rw [bk_len hR hok hi, ps_b2E, bk_len hR hok hk, ps_b2E, ps_letE]
  have hm : (if nI (sf k).1 < nI (sf i).1 then nI (sf k).1 else nI (sf i).1) = nI (min (sf i).1 (sf k).1) := by
    by_cases h : (sf k).1 < (sf i).1
    · rw [if_pos (nI_lt h (by omega)), Nat.min_eq_right (by omega)]
    · rw [if_neg (nI_nlt (by omega) (by omega)), Nat.min_eq_left (by omega)]
  rw [hm]
  refine ps_scP (F := fun n t => fk_X5_sameAtEnd_17 b n (nI i) (nI k) (nI (min (sf i).1 (sf k).1)) (nI t) M) (min (sf i).1 (sf k).1) _ (fun t => some (nI t, M)) (fun n t h1 h2 => ?_) (fun n t h1 h2 => ?_) (min (sf i).1 (sf k).1) ps_fu 0 (by omega) (by unfold ps_fu; omega)
  · rw [fk_X5_sameAtEnd_17]
    by_cases h : t < min (sf i).1 (sf k).1
    · have h3 := of_decide_eq_false (h2 h)
      have hb := s3 ((sf i).1 - 1 - t) (by omega)
      have ha := u3 ((sf k).1 - 1 - t) (by omega)
      simp (disch := omega) only [ps_letE, ps_b2E, nI_add, pk_mul, nI_clamp, ev_inB, nI_leI, nI_ltI, nI_eq, if_pos, if_neg, ev_eqm, ev_eqm2, ev_ltm, ev_lem, ev_mlt, ev_mle, ev_mm, ev_subm, pk_sub, ev_true, if_true, if_false, ite_true, ite_false, Option.map, ev_rs, ev_ra, ev_rj, ev_cpO, ps_isB1, ps_isB0, bk_len hR hok hi, bk_len hR hok hk, bk_bar hR hok hi, bk_bar hR hok hk, h3]
    · simp (disch := omega) only [ps_letE, ps_b2E, nI_add, pk_mul, nI_clamp, ev_inB, nI_leI, nI_ltI, nI_eq, if_pos, if_neg, ev_eqm, ev_eqm2, ev_ltm, ev_lem, ev_mlt, ev_mle, ev_mm, ev_subm, pk_sub, ev_true, if_true, if_false, ite_true, ite_false, Option.map, ev_rs, ev_ra, ev_rj, ev_cpO, ps_isB1, ps_isB0]
  · rw [fk_X5_sameAtEnd_17]
    have h3 := of_decide_eq_true h2
    have hb := s3 ((sf i).1 - 1 - t) (by omega)
    have ha := u3 ((sf k).1 - 1 - t) (by omega)
    simp (disch := omega) only [ps_letE, ps_b2E, nI_add, pk_mul, nI_clamp, ev_inB, nI_leI, nI_ltI, nI_eq, if_pos, if_neg, ev_eqm, ev_eqm2, ev_ltm, ev_lem, ev_mlt, ev_mle, ev_mm, ev_subm, pk_sub, ev_true, if_true, if_false, ite_true, ite_false, Option.map, ev_rs, ev_ra, ev_rj, ev_cpO, ps_isB1, ps_isB0, bk_len hR hok hi, bk_len hR hok hk, bk_bar hR hok hi, bk_bar hR hok hk, h3]
theorem bk_count {M : ps_M} {b ns : Nat} {sf : Nat → ps_S} (hR : ps_RB M b ns sf) (hok : ps_okS ns sf) {i : Nat} (hi : i < ns) : ∃ M1, ff_X5_countLesson b (nI i) M = some (nI 0, M1) ∧ ps_RB M1 b ns (fun k => if k = i then ((sf i).1, (sf i).2.1, (sf i).2.2 + nI 1) else sf k) ∧ ps_Fr b (b + 12) M M1 := by
  have := hok.1
  unfold ff_X5_countLesson
  rw [bk_has hR hok hi]
  simp (disch := omega) only [ps_letE, ps_b2E, nI_add, pk_mul, nI_clamp, ev_inB, nI_leI, nI_ltI, nI_eq, if_pos, if_neg, ev_eqm, ev_eqm2, ev_ltm, ev_lem, ev_mlt, ev_mle, ev_mm, ev_subm, pk_sub, ev_true, if_true, if_false, ite_true, ite_false, Option.map, ev_rs, ev_ra, ev_rj, ev_cpO, ps_isB1, ps_isB0, (hR.2 i hi).2.1]
  refine ⟨_, rfl, ⟨by simp (disch := omega) only [ps_letE, ps_b2E, nI_add, pk_mul, nI_clamp, ev_inB, nI_leI, nI_ltI, nI_eq, if_pos, if_neg, ev_eqm, ev_eqm2, ev_ltm, ev_lem, ev_mlt, ev_mle, ev_mm, ev_subm, pk_sub, ev_true, if_true, if_false, ite_true, ite_false, Option.map, ev_rs, ev_ra, ev_rj, ev_cpO, ps_isB1, ps_isB0, hR.1], fun k hk => ?_⟩, ps_Fr_st (by omega) (by omega)⟩
  dsimp only
  by_cases e : k = i
  · subst e
    rw [if_pos rfl]
    refine ⟨by simp (disch := omega) only [ps_letE, ps_b2E, nI_add, pk_mul, nI_clamp, ev_inB, nI_leI, nI_ltI, nI_eq, if_pos, if_neg, ev_eqm, ev_eqm2, ev_ltm, ev_lem, ev_mlt, ev_mle, ev_mm, ev_subm, pk_sub, ev_true, if_true, if_false, ite_true, ite_false, Option.map, ev_rs, ev_ra, ev_rj, ev_cpO, ps_isB1, ps_isB0, (hR.2 k hk).1], by simp (disch := omega) only [ps_letE, ps_b2E, nI_add, pk_mul, nI_clamp, ev_inB, nI_leI, nI_ltI, nI_eq, if_pos, if_neg, ev_eqm, ev_eqm2, ev_ltm, ev_lem, ev_mlt, ev_mle, ev_mm, ev_subm, pk_sub, ev_true, if_true, if_false, ite_true, ite_false, Option.map, ev_rs, ev_ra, ev_rj, ev_cpO, ps_isB1, ps_isB0], fun j hj => ?_⟩
    simp (disch := omega) only [ps_letE, ps_b2E, nI_add, pk_mul, nI_clamp, ev_inB, nI_leI, nI_ltI, nI_eq, if_pos, if_neg, ev_eqm, ev_eqm2, ev_ltm, ev_lem, ev_mlt, ev_mle, ev_mm, ev_subm, pk_sub, ev_true, if_true, if_false, ite_true, ite_false, Option.map, ev_rs, ev_ra, ev_rj, ev_cpO, ps_isB1, ps_isB0, (hR.2 k hk).2.2 j hj]
  · rw [if_neg e]
    refine ⟨by simp (disch := omega) only [ps_letE, ps_b2E, nI_add, pk_mul, nI_clamp, ev_inB, nI_leI, nI_ltI, nI_eq, if_pos, if_neg, ev_eqm, ev_eqm2, ev_ltm, ev_lem, ev_mlt, ev_mle, ev_mm, ev_subm, pk_sub, ev_true, if_true, if_false, ite_true, ite_false, Option.map, ev_rs, ev_ra, ev_rj, ev_cpO, ps_isB1, ps_isB0, (hR.2 k hk).1], by simp (disch := omega) only [ps_letE, ps_b2E, nI_add, pk_mul, nI_clamp, ev_inB, nI_leI, nI_ltI, nI_eq, if_pos, if_neg, ev_eqm, ev_eqm2, ev_ltm, ev_lem, ev_mlt, ev_mle, ev_mm, ev_subm, pk_sub, ev_true, if_true, if_false, ite_true, ite_false, Option.map, ev_rs, ev_ra, ev_rj, ev_cpO, ps_isB1, ps_isB0, (hR.2 k hk).2.1], fun j hj => ?_⟩
    simp (disch := omega) only [ps_letE, ps_b2E, nI_add, pk_mul, nI_clamp, ev_inB, nI_leI, nI_ltI, nI_eq, if_pos, if_neg, ev_eqm, ev_eqm2, ev_ltm, ev_lem, ev_mlt, ev_mle, ev_mm, ev_subm, pk_sub, ev_true, if_true, if_false, ite_true, ite_false, Option.map, ev_rs, ev_ra, ev_rj, ev_cpO, ps_isB1, ps_isB0, (hR.2 k hk).2.2 j hj]
/-- a song comes, out of a row of bars -/
theorem bk_add {M : ps_M} {b r ns l : Nat} {sf : Nat → ps_S} {g : Nat → Nat} (hR : ps_RB M b ns sf) (hok : ps_okS ns sf) (hr : r < b ∨ b + 12 ≤ r) (hl : l ≤ 20) (hg : ∀ j, j < l → ps_rd M r j = nI (g j)) : ∃ M1, ff_X5_add b r (nI l) M = some (if ns < 8 then nI ns else ps_m 4, M1) ∧ (if ns < 8 then ps_RB M1 b (ns + 1) (fun k => if k = ns then (l, g, nI 0) else sf k) else ps_RB M1 b ns sf) ∧ ps_Fr b (b + 12) M M1 := by
  have h8 := hok.1
  unfold ff_X5_add
  rw [hR.1]
  by_cases h : ns < 8
  · have hm : (if nI 0 < (if (if nI 20 < nI 20 then nI 20 else nI 20) < nI l then (if nI 20 < nI 20 then nI 20 else nI 20) else nI l) then (if (if nI 20 < nI 20 then nI 20 else nI 20) < nI l then (if nI 20 < nI 20 then nI 20 else nI 20) else nI l) else nI 0) = nI l := by
      have e1 : (if nI 20 < nI 20 then nI 20 else nI 20) = nI 20 := if_neg (nI_nlt (Nat.le_refl _) (by omega))
      rw [e1]
      have e2 : (if nI 20 < nI l then nI 20 else nI l) = nI l := if_neg (nI_nlt hl (by omega))
      rw [e2]
      by_cases z : l = 0
      · subst z
        rw [if_neg (nI_nlt (Nat.le_refl _) (by omega))]
      · exact if_pos (nI_lt (by omega) (by omega))
    rw [hm]
    simp (disch := omega) only [ps_letE, ps_b2E, nI_add, pk_mul, nI_clamp, ev_inB, nI_leI, nI_ltI, nI_eq, if_pos, if_neg, ev_eqm, ev_eqm2, ev_ltm, ev_lem, ev_mlt, ev_mle, ev_mm, ev_subm, pk_sub, ev_true, if_true, if_false, ite_true, ite_false, Option.map, ev_rs, ev_ra, ev_rj, ev_cpO, ps_isB1, ps_isB0, ev_ca, hR.1, Nat.add_assoc, Nat.reduceAdd, Nat.add_sub_cancel]
    refine ⟨_, rfl, ⟨by simp (disch := omega) only [ps_letE, ps_b2E, nI_add, pk_mul, nI_clamp, ev_inB, nI_leI, nI_ltI, nI_eq, if_pos, if_neg, ev_eqm, ev_eqm2, ev_ltm, ev_lem, ev_mlt, ev_mle, ev_mm, ev_subm, pk_sub, ev_true, if_true, if_false, ite_true, ite_false, Option.map, ev_rs, ev_ra, ev_rj, ev_cpO, ps_isB1, ps_isB0], fun k hk => ?_⟩, ps_Fr_tr (ps_Fr_tr (ps_Fr_tr (ps_Fr_cp (by omega) (by omega)) (ps_Fr_st (by omega) (by omega))) (ps_Fr_st (by omega) (by omega))) (ps_Fr_st (by omega) (by omega))⟩
    dsimp only
    by_cases e : k = ns
    · subst e
      rw [if_pos rfl]
      refine ⟨by simp (disch := omega) only [ps_letE, ps_b2E, nI_add, pk_mul, nI_clamp, ev_inB, nI_leI, nI_ltI, nI_eq, if_pos, if_neg, ev_eqm, ev_eqm2, ev_ltm, ev_lem, ev_mlt, ev_mle, ev_mm, ev_subm, pk_sub, ev_true, if_true, if_false, ite_true, ite_false, Option.map, ev_rs, ev_ra, ev_rj, ev_cpO, ps_isB1, ps_isB0], by simp (disch := omega) only [ps_letE, ps_b2E, nI_add, pk_mul, nI_clamp, ev_inB, nI_leI, nI_ltI, nI_eq, if_pos, if_neg, ev_eqm, ev_eqm2, ev_ltm, ev_lem, ev_mlt, ev_mle, ev_mm, ev_subm, pk_sub, ev_true, if_true, if_false, ite_true, ite_false, Option.map, ev_rs, ev_ra, ev_rj, ev_cpO, ps_isB1, ps_isB0], fun j hj => ?_⟩
      have hj' : j < l := hj
      simp (disch := omega) only [ps_letE, ps_b2E, nI_add, pk_mul, nI_clamp, ev_inB, nI_leI, nI_ltI, nI_eq, if_pos, if_neg, ev_eqm, ev_eqm2, ev_ltm, ev_lem, ev_mlt, ev_mle, ev_mm, ev_subm, pk_sub, ev_true, if_true, if_false, ite_true, ite_false, Option.map, ev_rs, ev_ra, ev_rj, ev_cpO, ps_isB1, ps_isB0, Nat.add_assoc, ev_ci, Nat.sub_zero, Nat.zero_add, hg j hj']
    · rw [if_neg e]
      have hk2 : k < ns := by omega
      refine ⟨by simp (disch := omega) only [ps_letE, ps_b2E, nI_add, pk_mul, nI_clamp, ev_inB, nI_leI, nI_ltI, nI_eq, if_pos, if_neg, ev_eqm, ev_eqm2, ev_ltm, ev_lem, ev_mlt, ev_mle, ev_mm, ev_subm, pk_sub, ev_true, if_true, if_false, ite_true, ite_false, Option.map, ev_rs, ev_ra, ev_rj, ev_cpO, ps_isB1, ps_isB0, ev_ca, (hR.2 k hk2).1], by simp (disch := omega) only [ps_letE, ps_b2E, nI_add, pk_mul, nI_clamp, ev_inB, nI_leI, nI_ltI, nI_eq, if_pos, if_neg, ev_eqm, ev_eqm2, ev_ltm, ev_lem, ev_mlt, ev_mle, ev_mm, ev_subm, pk_sub, ev_true, if_true, if_false, ite_true, ite_false, Option.map, ev_rs, ev_ra, ev_rj, ev_cpO, ps_isB1, ps_isB0, ev_ca, (hR.2 k hk2).2.1], fun j hj => ?_⟩
      simp (disch := omega) only [ps_letE, ps_b2E, nI_add, pk_mul, nI_clamp, ev_inB, nI_leI, nI_ltI, nI_eq, if_pos, if_neg, ev_eqm, ev_eqm2, ev_ltm, ev_lem, ev_mlt, ev_mle, ev_mm, ev_subm, pk_sub, ev_true, if_true, if_false, ite_true, ite_false, Option.map, ev_rs, ev_ra, ev_rj, ev_cpO, ps_isB1, ps_isB0, ev_ca, (hR.2 k hk2).2.2 j hj]
  · rw [if_neg (nI_nlt (by omega) (by omega))]
    refine ⟨M, by rw [if_neg h], ?_, ps_Fr_rf⟩
    rw [if_neg h]
    exact hR
theorem bk_copy1 {M : ps_M} {q b c : Nat} (n : Nat) (hc : c < 8) : fk_X5_copyFrom_2 q (n + 1) b (nI c) M = fk_X5_copyFrom_2 q n b (nI (c + 1)) (ps_cp M (b + 2 + c) 0 (q + 2 + c) 0 20) := by
  rw [fk_X5_copyFrom_2]
  simp (disch := omega) only [ps_letE, ps_b2E, nI_add, pk_mul, nI_clamp, ev_inB, nI_leI, nI_ltI, nI_eq, if_pos, if_neg, ev_eqm, ev_eqm2, ev_ltm, ev_lem, ev_mlt, ev_mle, ev_mm, ev_subm, pk_sub, ev_true, if_true, if_false, ite_true, ite_false, Option.map, ev_rs, ev_ra, ev_rj, ev_cpO, ps_isB1, ps_isB0, Nat.reduceAdd]
theorem bk_copy {M : ps_M} {q b ns : Nat} {sf : Nat → ps_S} (hR : ps_RB M b ns sf) (hok : ps_okS ns sf) (hq : q + 12 ≤ b ∨ b + 12 ≤ q) : ∃ M1, ff_X5_copyFrom q b M = some (nI 0, M1) ∧ ps_RB M1 q ns sf ∧ ps_Fr q (q + 12) M M1 := by
  unfold ff_X5_copyFrom
  refine Exists.elim (ps_whR (F := fun n c (_ : Unit) M1 => fk_X5_copyFrom_2 q n b (nI c) M1) (Rel := fun c _ M1 => ps_Fr q (q + 12) M M1 ∧ (∀ i, i < c → ∀ j, j < 20 → ps_rd M1 (q + 2 + i) j = ps_rd M (b + 2 + i) j)) 8 (fun _ _ => true) (fun _ u => u) (fun c _ M1 => some (nI 0, ps_st (ps_cp (ps_cp M1 (b + 10) 0 (q + 10) 0 8) (b + 11) 0 (q + 11) 0 8) q 3 (nI ns))) (fun n i u M1 h1 h2 h3 => ?_) (fun n i u M1 h1 h2 h3 => ?_) 8 ps_fu 0 () M (by omega) (by unfold ps_fu; omega) ⟨ps_Fr_rf, fun i h => absurd h (Nat.not_lt_zero i)⟩) (fun M1 z => ?_)
  rotate_left 2
  · obtain ⟨e, r1, r2⟩ := z
    rw [ps_wh_all, Nat.zero_add] at r2
    have h8 := hok.1
    refine ⟨_, e, ⟨by simp (disch := omega) only [ps_letE, ps_b2E, nI_add, pk_mul, nI_clamp, ev_inB, nI_leI, nI_ltI, nI_eq, if_pos, if_neg, ev_eqm, ev_eqm2, ev_ltm, ev_lem, ev_mlt, ev_mle, ev_mm, ev_subm, pk_sub, ev_true, if_true, if_false, ite_true, ite_false, Option.map, ev_rs, ev_ra, ev_rj, ev_cpO, ps_isB1, ps_isB0], fun k hk => ?_⟩, ps_Fr_tr r1 (ps_Fr_tr (ps_Fr_tr (ps_Fr_cp (by omega) (by omega)) (ps_Fr_cp (by omega) (by omega))) (ps_Fr_st (by omega) (by omega)))⟩
    obtain ⟨t1, t2, t3⟩ := hR.2 k hk
    have s2 := (hok.2 k hk).2.1
    refine ⟨?_, ?_, fun j hj => ?_⟩
    · simp (disch := omega) only [ps_letE, ps_b2E, nI_add, pk_mul, nI_clamp, ev_inB, nI_leI, nI_ltI, nI_eq, if_pos, if_neg, ev_eqm, ev_eqm2, ev_ltm, ev_lem, ev_mlt, ev_mle, ev_mm, ev_subm, pk_sub, ev_true, if_true, if_false, ite_true, ite_false, Option.map, ev_rs, ev_ra, ev_rj, ev_cpO, ps_isB1, ps_isB0, ev_ca, ev_ci, Nat.sub_zero, Nat.zero_add]
      rw [r1.1 _ (by omega)]
      exact t1
    · simp (disch := omega) only [ps_letE, ps_b2E, nI_add, pk_mul, nI_clamp, ev_inB, nI_leI, nI_ltI, nI_eq, if_pos, if_neg, ev_eqm, ev_eqm2, ev_ltm, ev_lem, ev_mlt, ev_mle, ev_mm, ev_subm, pk_sub, ev_true, if_true, if_false, ite_true, ite_false, Option.map, ev_rs, ev_ra, ev_rj, ev_cpO, ps_isB1, ps_isB0, ev_ca, ev_ci, Nat.sub_zero, Nat.zero_add]
      rw [r1.1 _ (by omega)]
      exact t2
    · simp (disch := omega) only [ps_letE, ps_b2E, nI_add, pk_mul, nI_clamp, ev_inB, nI_leI, nI_ltI, nI_eq, if_pos, if_neg, ev_eqm, ev_eqm2, ev_ltm, ev_lem, ev_mlt, ev_mle, ev_mm, ev_subm, pk_sub, ev_true, if_true, if_false, ite_true, ite_false, Option.map, ev_rs, ev_ra, ev_rj, ev_cpO, ps_isB1, ps_isB0, ev_ca]
      rw [r2 k (by omega) j (by omega)]
      exact t3 j hj
  · have h4 : i = 8 := by
      by_cases q : i < 8
      · exact absurd (h3 q) (by simp)
      · omega
    rw [fk_X5_copyFrom_2, h4]
    have hb : ps_rd M1 b 3 = nI ns := by rw [h2.1.1 b (by omega)]; exact hR.1
    simp (disch := omega) only [ps_letE, ps_b2E, nI_add, pk_mul, nI_clamp, ev_inB, nI_leI, nI_ltI, nI_eq, if_pos, if_neg, ev_eqm, ev_eqm2, ev_ltm, ev_lem, ev_mlt, ev_mle, ev_mm, ev_subm, pk_sub, ev_true, if_true, if_false, ite_true, ite_false, Option.map, ev_rs, ev_ra, ev_rj, ev_cpO, ps_isB1, ps_isB0, ev_ca, hb]
  · refine ⟨_, bk_copy1 n h1, ps_Fr_tr h2.1 (ps_Fr_cp (by omega) (by omega)), fun k hk j hj => ?_⟩
    by_cases e : k = i
    · subst e
      simp (disch := omega) only [ps_letE, ps_b2E, nI_add, pk_mul, nI_clamp, ev_inB, nI_leI, nI_ltI, nI_eq, if_pos, if_neg, ev_eqm, ev_eqm2, ev_ltm, ev_lem, ev_mlt, ev_mle, ev_mm, ev_subm, pk_sub, ev_true, if_true, if_false, ite_true, ite_false, Option.map, ev_rs, ev_ra, ev_rj, ev_cpO, ps_isB1, ps_isB0, ev_ci, Nat.sub_zero, Nat.zero_add]
      rw [h2.1.1 _ (by omega)]
    · simp (disch := omega) only [ps_letE, ps_b2E, nI_add, pk_mul, nI_clamp, ev_inB, nI_leI, nI_ltI, nI_eq, if_pos, if_neg, ev_eqm, ev_eqm2, ev_ltm, ev_lem, ev_mlt, ev_mle, ev_mm, ev_subm, pk_sub, ev_true, if_true, if_false, ite_true, ite_false, Option.map, ev_rs, ev_ra, ev_rj, ev_cpO, ps_isB1, ps_isB0, ev_ca]
      exact h2.2 k (by omega) j hj
