/-! the class's questions about its house -/
/-- unlike bars: how many, and the set -/
def pa_un (s : ps_S) : Nat × Int32 := ps_fo (fun k c => (c.1 + (if ((c.2 >>> ((nI (s.2.1 k)) &&& 31)) &&& nI 1) = nI 0 then 1 else 0), c.2 ||| ((nI 1) <<< ((nI (s.2.1 k)) &&& 31)))) s.1 (0, nI 0)
theorem bk_unlike {M : ps_M} {b ns : Nat} {sf : Nat → ps_S} (hR : ps_RB M b ns sf) (hok : ps_okS ns sf) {i : Nat} (hi : i < ns) : ff_X5_unlikeBars b (nI i) M = some (nI (pa_un (sf i)).1, M) := by
  obtain ⟨s1, s2, s3⟩ := hok.2 i hi
  unfold ff_X5_unlikeBars
  refine (ps_whP (F := fun n k (s : Nat × Int32) => fk_X5_unlikeBars_4 b n (nI i) s.2 (nI k) M) (I := fun k s => ∃ S, S < 67108864 ∧ s.2 = nI S ∧ s.1 = pa_pop S) (sf i).1 (fun _ _ => true) (fun k c => (c.1 + (if ((c.2 >>> ((nI ((sf i).2.1 k)) &&& 31)) &&& nI 1) = nI 0 then 1 else 0), c.2 ||| ((nI 1) <<< ((nI ((sf i).2.1 k)) &&& 31)))) (fun k s => some (nI s.1, M)) (fun n k s h1 h2 h3 => ?_) (fun n k s h1 h2 h3 => ?_) (sf i).1 ps_fu 0 (0, nI 0) (by omega) (by unfold ps_fu; omega) ⟨0, by omega, rfl, rfl⟩).1
  · obtain ⟨S, hS, e1, e2⟩ := h2
    have c : ¬ k < (sf i).1 := fun c => absurd (h3 c) (by simp)
    rw [fk_X5_unlikeBars_4, bk_len hR hok hi, ps_b2E, if_pos (nI_le (by omega) (by omega)), e1, bc_ff hS, ps_b2E, e2]
  · obtain ⟨S, hS, e1, e2⟩ := h2
    have hb := s3 k h1
    have hp : (2 : Nat) ^ ((sf i).2.1 k) < 2 ^ 26 := Nat.pow_lt_pow_right (by omega) hb
    refine ⟨?_, S ||| 2 ^ ((sf i).2.1 k), Nat.or_lt_two_pow (n := 26) hS hp, ?_, ?_⟩
    · rw [fk_X5_unlikeBars_4, bk_len hR hok hi, ps_b2E, if_neg (nI_ge h1 (by omega)), bk_bar hR hok hi h1, ps_b2E, ps_letE, ps_letE, nI_add]
    · show s.2 ||| ((nI 1) <<< ((nI ((sf i).2.1 k)) &&& 31)) = _
      rw [e1, sh_1 _ hb, or_nI hS hp]
    · show s.1 + (if ((s.2 >>> ((nI ((sf i).2.1 k)) &&& 31)) &&& nI 1) = nI 0 then 1 else 0) = _
      rw [e1, e2, shr_b hS hb, pop_or hb]
      by_cases t : S.testBit ((sf i).2.1 k) = true
      · rw [if_pos t, if_pos t, if_neg (by rw [nI_eq (by omega) (by omega)]; omega)]
      · rw [if_neg t, if_neg t, if_pos rfl]
theorem bk_pairN {M : ps_M} {b ns : Nat} {sf : Nat → ps_S} (hR : ps_RB M b ns sf) (hok : ps_okS ns sf) {i a : Nat} (hi : i < ns) (ha : a < 26) : ff_X5_hasPair b (nI i) (nI a) (ps_m 6) M = some (nI 0, M) := by
  obtain ⟨s1, s2, s3⟩ := hok.2 i hi
  unfold ff_X5_hasPair
  refine ps_scP (F := fun n t => fk_X5_hasPair_3 b n (nI i) (nI a) (ps_m 6) (nI (t + 1)) M) ((sf i).1 - 1) (fun _ => true) (fun t => some (nI 0, M)) (fun n t h1 h2 => ?_) (fun n t h1 h2 => ?_) ((sf i).1 - 1) ps_fu 0 (by omega) (by unfold ps_fu; omega)
  · rw [fk_X5_hasPair_3, bk_len hR hok hi]
    have h : ¬ t < (sf i).1 - 1 := fun h => absurd (h2 h) (by simp)
    simp (disch := omega) only [ps_letE, ps_b2E, nI_add, pk_mul, nI_clamp, ev_inB, nI_leI, nI_ltI, nI_eq, if_pos, if_neg, ev_eqm, ev_eqm2, ev_ltm, ev_lem, ev_mlt, ev_mle, ev_mm, ev_subm, pk_sub, ev_true, if_true, if_false, ite_true, ite_false, Option.map, ev_rs, ev_ra, ev_rj, ev_cpO, ps_isB1, ps_isB0]
  · rw [fk_X5_hasPair_3, bk_len hR hok hi]
    have hb := s3 (t + 1) (by omega)
    have ha2 := s3 t (by omega)
    by_cases m : (sf i).2.1 t = a
    · simp (disch := omega) only [ps_letE, ps_b2E, nI_add, pk_mul, nI_clamp, ev_inB, nI_leI, nI_ltI, nI_eq, if_pos, if_neg, ev_eqm, ev_eqm2, ev_ltm, ev_lem, ev_mlt, ev_mle, ev_mm, ev_subm, pk_sub, ev_true, if_true, if_false, ite_true, ite_false, Option.map, ev_rs, ev_ra, ev_rj, ev_cpO, ps_isB1, ps_isB0, Nat.add_sub_cancel, bk_bar hR hok hi, m]
    · simp (disch := omega) only [ps_letE, ps_b2E, nI_add, pk_mul, nI_clamp, ev_inB, nI_leI, nI_ltI, nI_eq, if_pos, if_neg, ev_eqm, ev_eqm2, ev_ltm, ev_lem, ev_mlt, ev_mle, ev_mm, ev_subm, pk_sub, ev_true, if_true, if_false, ite_true, ite_false, Option.map, ev_rs, ev_ra, ev_rj, ev_cpO, ps_isB1, ps_isB0, Nat.add_sub_cancel, bk_bar hR hok hi, m]
theorem bk_pairsN {M : ps_M} {b ns : Nat} {sf : Nat → ps_S} (hR : ps_RB M b ns sf) (hok : ps_okS ns sf) {a : Nat} (ha : a < 26) : ff_X5_songsWithPair b (nI a) (ps_m 6) M = some (nI 0, M) := by
  have := hok.1
  unfold ff_X5_songsWithPair
  refine (ps_whP (F := fun n i (_ : Unit) => fk_X5_songsWithPair_5 b n (nI a) (ps_m 6) (nI 0) (nI i) M) (I := fun _ _ => True) ns (fun _ _ => true) (fun _ u => u) (fun i s => some (nI 0, M)) (fun n i s h1 h2 h3 => ?_) (fun n i s h1 h2 h3 => ⟨?_, trivial⟩) ns ps_fu 0 () (by omega) (by unfold ps_fu; omega) trivial).1
  · rw [fk_X5_songsWithPair_5, hR.1]
    have h4 : ¬ i < ns := fun q => by simp at h3; omega
    simp (disch := omega) only [ps_letE, ps_b2E, nI_add, pk_mul, nI_clamp, ev_inB, nI_leI, nI_ltI, nI_eq, if_pos, if_neg, ev_eqm, ev_eqm2, ev_ltm, ev_lem, ev_mlt, ev_mle, ev_mm, ev_subm, pk_sub, ev_true, if_true, if_false, ite_true, ite_false, Option.map, ev_rs, ev_ra, ev_rj, ev_cpO, ps_isB1, ps_isB0]
  · rw [fk_X5_songsWithPair_5, hR.1]
    simp (disch := omega) only [ps_letE, ps_b2E, nI_add, pk_mul, nI_clamp, ev_inB, nI_leI, nI_ltI, nI_eq, if_pos, if_neg, ev_eqm, ev_eqm2, ev_ltm, ev_lem, ev_mlt, ev_mle, ev_mm, ev_subm, pk_sub, ev_true, if_true, if_false, ite_true, ite_false, Option.map, ev_rs, ev_ra, ev_rj, ev_cpO, ps_isB1, ps_isB0, bk_pairN hR hok h1 ha]
def qa_ofSong (s w : Int32) (v : ps_H) : Int32 := if ps_inB s v.2.1 = true then
    (if w = nI 0 then nI (v.2.2.1 s.toNatClampNeg).1 else if w = nI 1 then nI (pa_un (v.2.2.1 s.toNatClampNeg)).1 else if w = nI 2 then nI ((v.2.2.1 s.toNatClampNeg).2.1 0) else if w = nI 3 then nI ((v.2.2.1 s.toNatClampNeg).2.1 ((v.2.2.1 s.toNatClampNeg).1 - 1)) else if w = nI 4 then (v.2.2.1 s.toNatClampNeg).2.2 else if w = nI 5 then pa_set (fun j => pa_kn (v.2.2.2.2.1 j).1 (v.2.2.1 s.toNatClampNeg)) v.2.2.2.1 else ps_m 2)
  else ps_m 1
theorem cq_ofSong {M : ps_M} {v : ps_H} (hR : ps_RH M 1 v) (hok : ps_okH v) (s w : Int32) : ff_X6_ofSong 0 s w M = some (qa_ofSong s w v, M) := by
  have ns := hok.2.1.1
  unfold ff_X6_ofSong qa_ofSong
  rw [Nat.zero_add]
  rcases ps_cas s v.2.1 (by omega) with ⟨i, hi, rfl⟩ | hs
  · rw [bk_has hR.2.1 hok.2.1 hi, ps_b2E, if_neg (by rw [nI_eq (by omega) (by omega)]; omega), if_pos (ev_inB hi (by omega)), nI_clamp (by omega), bk_len hR.2.1 hok.2.1 hi, bk_unlike hR.2.1 hok.2.1 hi, bk_bar hR.2.1 hok.2.1 hi ((hok.2.1.2 i hi).1), bk_last hR.2.1 hok.2.1 hi, bk_lessons hR.2.1 hok.2.1 hi, ho_knowing hR hok hi]
    refine ps_it (fun _ => rfl) (fun _ => ps_it (fun _ => rfl) (fun _ => ps_it (fun _ => rfl) (fun _ => ps_it (fun _ => rfl) (fun _ => ps_it (fun _ => rfl) (fun _ => ps_it (fun _ => rfl) (fun _ => rfl))))))
  · rw [bk_hasN hR.2.1 hs, ps_b2E, if_pos rfl, if_neg (ps_inBN hs (by omega))]
def qa_bar (s i : Int32) (v : ps_H) : Int32 := if ps_inB s v.2.1 = true ∧ ps_inB i (v.2.2.1 s.toNatClampNeg).1 = true then nI ((v.2.2.1 s.toNatClampNeg).2.1 i.toNatClampNeg) else ps_m 1
theorem bk_hasBarN2 {M : ps_M} {b ns : Nat} {sf : Nat → ps_S} (hR : ps_RB M b ns sf) {x y : Int32} (hx : ps_no x ns) : ff_X5_hasBar b x y M = some (nI 0, M) := by
  unfold ff_X5_hasBar
  rw [bk_hasN hR hx, ps_b2E, if_pos rfl]
theorem cq_bar {M : ps_M} {v : ps_H} (hR : ps_RH M 1 v) (hok : ps_okH v) (s i : Int32) : ff_X6_bar 0 s i M = some (qa_bar s i v, M) := by
  have ns := hok.2.1.1
  unfold ff_X6_bar qa_bar
  rw [Nat.zero_add]
  rcases ps_cas s v.2.1 (by omega) with ⟨k, hk, rfl⟩ | hs
  · obtain ⟨s1, s2, s3⟩ := hok.2.1.2 k hk
    rw [nI_clamp (by omega)]
    rcases ps_cas i (v.2.2.1 k).1 (by omega) with ⟨j, hj, rfl⟩ | hi
    · rw [bk_hasBar hR.2.1 hok.2.1 hk hj, ps_b2E, if_neg (by rw [nI_eq (by omega) (by omega)]; omega), bk_bar hR.2.1 hok.2.1 hk hj, ps_b2E, if_pos ⟨ev_inB hk (by omega), ev_inB hj (by omega)⟩, nI_clamp (by omega)]
    · rw [bk_hasBarN hR.2.1 hok.2.1 hk hi, ps_b2E, if_pos rfl, if_neg (fun z => ps_inBN hi (by omega) z.2)]
  · rw [bk_hasBarN2 hR.2.1 hs, ps_b2E, if_pos rfl, if_neg (fun z => ps_inBN hs (by omega) z.1)]
def qa_of (p w : Int32) (v : ps_H) : Int32 := if ps_inB p v.2.2.2.1 = true then
    (if w = nI 0 then nI (v.2.2.2.2.1 p.toNatClampNeg).1.length else if w = nI 1 then pa_sum (v.2.2.2.2.1 p.toNatClampNeg).1 else if w = nI 2 then ps_cl (v.2.2.2.2.1 p.toNatClampNeg).2.1 else if w = nI 3 then (v.2.2.2.2.1 p.toNatClampNeg).2.2.1 else if w = nI 4 then (v.2.2.2.2.1 p.toNatClampNeg).2.2.2.1 else if w = nI 5 then (v.2.2.2.2.1 p.toNatClampNeg).2.2.2.2 else if w = nI 6 then pa_set (fun i => pa_kn (v.2.2.2.2.1 p.toNatClampNeg).1 (v.2.2.1 i)) v.2.1 else ps_m 2)
  else ps_m 1
theorem cq_of {M : ps_M} {v : ps_H} (hR : ps_RH M 1 v) (hok : ps_okH v) (p w : Int32) : ff_X6_of 0 p w M = some (qa_of p w v, M) := by
  have np := hok.2.2.1
  unfold ff_X6_of qa_of
  rw [Nat.zero_add]
  rcases ps_cas p v.2.2.2.1 (by omega) with ⟨j, hj, rfl⟩ | hp
  · have hP := hR.2.2.2.1 j (by omega)
    have hPo := hok.2.2.2.1 j
    rw [ho_has hR hok hj, ps_b2E, if_neg (by rw [nI_eq (by omega) (by omega)]; omega), if_pos (ev_inB (by omega) (by omega)), if_pos (ev_inB hj (by omega)), nI_clamp (by omega), hP.1.1, pr_sum hP.1 (Nat.le_trans hPo.1 (by omega)), hP.2.1, hP.2.2.1, hP.2.2.2.1, hP.2.2.2.2, bk_knownBy hR.2.1 hok.2.1 hP.1 (Nat.le_trans hPo.1 (by omega)) hPo.2.1]
    refine ps_it (fun _ => rfl) (fun _ => ps_it (fun _ => rfl) (fun _ => ps_it (fun _ => rfl) (fun _ => ps_it (fun _ => rfl) (fun _ => ps_it (fun _ => rfl) (fun _ => ps_it (fun _ => rfl) (fun _ => ps_it (fun _ => rfl) (fun _ => rfl)))))))
  · rw [ho_hasN hR hp, ps_b2E, if_pos rfl, if_neg (ps_inBN hp (by omega))]
def qa_link (p k w : Int32) (v : ps_H) : Int32 := if ps_inB p v.2.2.2.1 = true ∧ ps_inB k (v.2.2.2.2.1 p.toNatClampNeg).1.length = true then
    (if ps_inB w 4 = true then nI (pa_col (ps_lk (v.2.2.2.2.1 p.toNatClampNeg).1 ((v.2.2.2.2.1 p.toNatClampNeg).1.length - 1 - k.toNatClampNeg)) w.toNatClampNeg) else ps_m 2)
  else ps_m 1
theorem cq_link {M : ps_M} {v : ps_H} (hR : ps_RH M 1 v) (hok : ps_okH v) (p k w : Int32) : ff_X6_link 0 p k w M = some (qa_link p k w v, M) := by
  have np := hok.2.2.1
  unfold ff_X6_link qa_link
  rw [Nat.zero_add]
  rcases ps_cas p v.2.2.2.1 (by omega) with ⟨j, hj, rfl⟩ | hp
  · have hP := hR.2.2.2.1 j (by omega)
    have hPo := hok.2.2.2.1 j
    have hl := hPo.1
    rw [ho_has hR hok hj, ps_b2E, if_neg (by rw [nI_eq (by omega) (by omega)]; omega), nI_clamp (by omega), hP.1.1]
    rcases ps_cas k (v.2.2.2.2.1 j).1.length (by omega) with ⟨i, hi, rfl⟩ | hk
    · have a1 : ¬ nI i < nI 0 := nI_nlt (by omega) (by omega)
      have a2 : nI i < nI (v.2.2.2.2.1 j).1.length := nI_lt hi (by omega)
      have a3 : ps_inB (nI j) 4 = true := ev_inB (by omega) (by omega)
      have a4 : ps_inB (nI j) v.2.2.2.1 = true ∧ ps_inB (nI i) (v.2.2.2.2.1 j).1.length = true := ⟨ev_inB hj (by omega), ev_inB hi (by omega)⟩
      rw [if_neg a1, if_pos a3, if_pos a2, if_pos a4, nI_clamp (by omega : i < 2 ^ 31)]
      rcases ps_cas w 4 (by omega) with ⟨c, hc, rfl⟩ | hw
      · have b1 : ¬ nI c < nI 0 := nI_nlt (by omega) (by omega)
        have b2 : nI c < nI 4 := nI_lt hc (by omega)
        have b3 : ps_inB (nI c) 4 = true := ev_inB hc (by omega)
        rw [if_neg b1, if_pos b2, if_pos a3, pr_ofLink hP.1 (by omega) hi hc, ps_b2E, if_pos b3, nI_clamp (by omega)]
      · rw [if_neg (ps_inBN hw (by omega))]
        by_cases c : w < nI 0
        · rw [if_pos c]
        · rw [if_neg c, if_neg (Int32.not_lt.mpr (hw.resolve_left c))]
    · rw [if_neg (fun (z : ps_inB (nI j) v.2.2.2.1 = true ∧ ps_inB k (v.2.2.2.2.1 j).1.length = true) => ps_inBN hk (by omega) z.2)]
      have a3 : ps_inB (nI j) 4 = true := ev_inB (by omega) (by omega)
      by_cases c : k < nI 0
      · rw [if_pos c]
      · rw [if_neg c, if_pos a3, if_neg (Int32.not_lt.mpr (hk.resolve_left c))]
  · rw [ho_hasN hR hp, ps_b2E, if_pos rfl, if_neg (fun z => ps_inBN hp (by omega) z.1)]
theorem pa_it_s (L : List ps_L) : ∀ (k : Nat) (o : Option Nat), pa_it L (o.bind (ps_nx L)) k = pa_it L o (k + 1)
  | 0, o => rfl
  | k + 1, o => by
    show (pa_it L (o.bind (ps_nx L)) k).bind (ps_nx L) = (pa_it L o (k + 1)).bind (ps_nx L)
    rw [pa_it_s L k o]
theorem pa_it_n (L : List ps_L) : ∀ k, pa_it L none k = none
  | 0 => rfl
  | k + 1 => by
    show (pa_it L none k).bind (ps_nx L) = none
    rw [pa_it_n L k]
    rfl
theorem pa_it_wh (L : List ps_L) : ∀ (k i : Nat) (o : Option Nat), (ps_wh (fun _ o => o.isSome) (fun _ o => o.bind (ps_nx L)) k i o).2 = pa_it L o k
  | 0, i, o => rfl
  | k + 1, i, o => by
    simp only [ps_wh]
    cases o with
    | none =>
      rw [pa_it_n]
      rfl
    | some a =>
      simp only [Option.isSome_some, if_true]
      rw [pa_it_wh L k (i + 1), pa_it_s]
def qa_sings (p b t : Int32) (v : ps_H) : Int32 := if ps_inB p v.2.2.2.1 = true then
    (if ps_inB b 26 = true ∧ ps_inB t 100 = true then ps_cl (pa_it (v.2.2.2.2.1 p.toNatClampNeg).1 (some b.toNatClampNeg) t.toNatClampNeg) else ps_m 2)
  else ps_m 1
theorem cq_sings {M : ps_M} {v : ps_H} (hR : ps_RH M 1 v) (hok : ps_okH v) (p b t : Int32) : ff_X6_sings 0 p b t M = some (qa_sings p b t v, M) := by
  have np := hok.2.2.1
  unfold ff_X6_sings qa_sings
  rw [Nat.zero_add]
  rcases ps_cas p v.2.2.2.1 (by omega) with ⟨j, hj, rfl⟩ | hp
  · have hP := hR.2.2.2.1 j (by omega)
    have hPo := hok.2.2.2.1 j
    rw [ho_has hR hok hj, ps_b2E, if_neg (by rw [nI_eq (by omega) (by omega)]; omega), if_pos (ev_inB hj (by omega)), nI_clamp (by omega)]
    rcases ps_cas b 26 (by omega) with ⟨a, ha, rfl⟩ | hb
    · have a1 : ¬ nI a < nI 0 := nI_nlt (by omega) (by omega)
      have a2 : ¬ nI 26 ≤ nI a := nI_ge ha (by omega)
      rw [if_neg a1, if_neg a2]
      rcases ps_cas t 100 (by omega) with ⟨k, hk, rfl⟩ | ht
      · have b1 : ¬ nI k < nI 0 := nI_nlt (by omega) (by omega)
        have b2 : nI k ≤ nI 99 := nI_le (by omega) (by omega)
        have b3 : ps_inB (nI a) 26 = true ∧ ps_inB (nI k) 100 = true := ⟨ev_inB ha (by omega), ev_inB hk (by omega)⟩
        rw [if_neg b1, if_pos b2, if_pos b3, nI_clamp (by omega), nI_clamp (by omega)]
        refine Eq.trans (ps_whP (F := fun n i (o : Option Nat) => fk_X6_sings_42 0 n (nI j) (nI a) (nI k) (ps_cl o) (nI i) M) (I := fun _ o => ∀ c, o = some c → c < 26) k (fun _ o => o.isSome) (fun _ o => o.bind (ps_nx (v.2.2.2.2.1 j).1)) (fun i o => some (ps_cl o, M)) (fun n i o h1 h2 h3 => ?_) (fun n i o h1 h2 h3 => ?_) k ps_fu 0 (some a) (by omega) (by unfold ps_fu; omega) (fun c e => by cases e; exact ha)).1 (by rw [pa_it_wh])
        · rw [fk_X6_sings_42]
          by_cases c : i < k
          · have h4 := h3 c
            cases o with
            | none =>
              rw [if_neg (nI_ge c (by omega))]
              exact if_pos rfl
            | some d => simp at h4
          · rw [if_pos (nI_le (by omega) (by omega))]
        · cases o with
          | none => simp at h3
          | some d =>
            have hd := h2 d rfl
            refine ⟨?_, fun c e => ps_nx_lt hPo.2.1 e⟩
            rw [fk_X6_sings_42, if_neg (nI_ge h1 (by omega)), if_neg (by rw [ps_cl_n h2]; simp), if_pos (ev_inB (by omega) (by omega)), nI_clamp (by omega), Nat.zero_add]
            show ps_b2 (ff_X3_nextBehind _ (nI d) M) _ = _
            rw [pr_next hP.1 (Nat.le_trans hPo.1 (by omega)) hPo.2.1 hd, ps_b2E, ps_letE, nI_add]
            rfl
      · rw [if_neg (fun (z : ps_inB (nI a) 26 = true ∧ ps_inB t 100 = true) => ps_inBN ht (by omega) z.2)]
        by_cases c : t < nI 0
        · rw [if_pos c]
        · rw [if_neg c, if_neg (fun z => ?_)]
          rcases ht with h | h
          · exact c h
          · rw [Int32.le_iff_toInt_le, nI_toInt (by omega)] at h z
            omega
    · rw [if_neg (fun (z : ps_inB b 26 = true ∧ ps_inB t 100 = true) => ps_inBN hb (by omega) z.1)]
      by_cases c : b < nI 0
      · rw [if_pos c]
      · rw [if_neg c, if_pos (hb.resolve_left c)]
  · rw [ho_hasN hR hp, ps_b2E, if_pos rfl, if_neg (ps_inBN hp (by omega))]
def qa_knows (p s : Int32) (v : ps_H) : Int32 := if ps_inB p v.2.2.2.1 = true ∧ ps_inB s v.2.1 = true then nI (pa_hu (v.2.2.2.2.1 p.toNatClampNeg).1 (v.2.2.1 s.toNatClampNeg)) else ps_m 1
theorem cq_knows {M : ps_M} {v : ps_H} (hR : ps_RH M 1 v) (hok : ps_okH v) (p s : Int32) : ff_X6_knows 0 p s M = some (qa_knows p s v, M) := by
  have np := hok.2.2.1
  have ns := hok.2.1.1
  unfold ff_X6_knows qa_knows
  rw [Nat.zero_add]
  rcases ps_cas p v.2.2.2.1 (by omega) with ⟨j, hj, rfl⟩ | hp
  · have hP := hR.2.2.2.1 j (by omega)
    have hPo := hok.2.2.2.1 j
    rw [ho_has hR hok hj, ps_b2E, if_neg (by rw [nI_eq (by omega) (by omega)]; omega)]
    rcases ps_cas s v.2.1 (by omega) with ⟨i, hi, rfl⟩ | hs
    · rw [bk_has hR.2.1 hok.2.1 hi, ps_b2E, if_neg (by rw [nI_eq (by omega) (by omega)]; omega), if_pos (ev_inB (by omega) (by omega)), if_pos ⟨ev_inB hj (by omega), ev_inB hi (by omega)⟩, nI_clamp (by omega), nI_clamp (by omega), bk_hu hR.2.1 hok.2.1 hP.1 (Nat.le_trans hPo.1 (by omega)) hPo.2.1 hi]
      rfl
    · rw [bk_hasN hR.2.1 hs, ps_b2E, if_pos rfl, if_neg (fun z => ps_inBN hs (by omega) z.2)]
  · rw [ho_hasN hR hp, ps_b2E, if_pos rfl, if_neg (fun z => ps_inBN hp (by omega) z.1)]
def qa_mist (p s w : Int32) (v : ps_H) : Int32 := if ps_inB p v.2.2.2.1 = true ∧ ps_inB s v.2.1 = true then
    (if ps_inB w 3 = true then
      (if (v.2.2.1 s.toNatClampNeg).1 ≤ pa_rt (v.2.2.2.2.1 p.toNatClampNeg).1 (v.2.2.1 s.toNatClampNeg) + 1 then ps_m 5
       else if w = nI 0 then nI (pa_rt (v.2.2.2.2.1 p.toNatClampNeg).1 (v.2.2.1 s.toNatClampNeg) + 1)
       else if w = nI 1 then ps_cl (ps_nx (v.2.2.2.2.1 p.toNatClampNeg).1 ((v.2.2.1 s.toNatClampNeg).2.1 (pa_rt (v.2.2.2.2.1 p.toNatClampNeg).1 (v.2.2.1 s.toNatClampNeg))))
       else match ps_nx (v.2.2.2.2.1 p.toNatClampNeg).1 ((v.2.2.1 s.toNatClampNeg).2.1 (pa_rt (v.2.2.2.2.1 p.toNatClampNeg).1 (v.2.2.1 s.toNatClampNeg))) with
         | none => nI 0
         | some c => pa_set (fun i => pa_pair (v.2.2.1 i) ((v.2.2.1 s.toNatClampNeg).2.1 (pa_rt (v.2.2.2.2.1 p.toNatClampNeg).1 (v.2.2.1 s.toNatClampNeg))) c) v.2.1)
     else ps_m 2)
  else ps_m 1
theorem cq_mist {M : ps_M} {v : ps_H} (hR : ps_RH M 1 v) (hok : ps_okH v) (p s w : Int32) : ff_X6_mistake 0 p s w M = some (qa_mist p s w v, M) := by
  have np := hok.2.2.1
  have ns := hok.2.1.1
  unfold ff_X6_mistake qa_mist
  rw [Nat.zero_add]
  rcases ps_cas p v.2.2.2.1 (by omega) with ⟨j, hj, rfl⟩ | hp
  · have hP := hR.2.2.2.1 j (by omega)
    have hPo := hok.2.2.2.1 j
    rw [ho_has hR hok hj, ps_b2E, if_neg (by rw [nI_eq (by omega) (by omega)]; omega)]
    rcases ps_cas s v.2.1 (by omega) with ⟨i, hi, rfl⟩ | hs
    · obtain ⟨s1, s2, s3⟩ := hok.2.1.2 i hi
      have a4 : ps_inB (nI j) v.2.2.2.1 = true ∧ ps_inB (nI i) v.2.1 = true := ⟨ev_inB hj (by omega), ev_inB hi (by omega)⟩
      rw [bk_has hR.2.1 hok.2.1 hi, ps_b2E, if_neg (by rw [nI_eq (by omega) (by omega)]; omega), if_pos a4, nI_clamp (by omega : j < 2 ^ 31), nI_clamp (by omega : i < 2 ^ 31)]
      rcases ps_cas w 3 (by omega) with ⟨c, hc, rfl⟩ | hw
      · have hrt := pa_rt_le (v.2.2.2.2.1 j).1 (v.2.2.1 i)
        have b1 : ¬ nI c < nI 0 := nI_nlt (by omega) (by omega)
        have b2 : nI c ≤ nI 2 := nI_le (by omega) (by omega)
        have b3 : ps_inB (nI c) 3 = true := ev_inB hc (by omega)
        have b4 : ps_inB (nI j) 4 = true := ev_inB (by omega) (by omega)
        rw [if_neg b1, if_pos b2, if_pos b4, if_pos b3, bk_wrong hR.2.1 hok.2.1 hP.1 (Nat.le_trans hPo.1 (by omega)) hPo.2.1 hi, ps_b2E, bk_len hR.2.1 hok.2.1 hi, ps_b2E]
        by_cases c1 : (v.2.2.1 i).1 ≤ pa_rt (v.2.2.2.2.1 j).1 (v.2.2.1 i) + 1
        · rw [if_pos c1, if_neg (nI_nlt c1 (by omega))]
        · rw [if_neg c1, if_pos (nI_lt (by omega) (by omega))]
          refine ps_it (fun _ => rfl) (fun _ => ?_)
          have hb := s3 (pa_rt (v.2.2.2.2.1 j).1 (v.2.2.1 i)) (by omega)
          rw [pk_sub (by omega), Nat.add_sub_cancel, bk_bar hR.2.1 hok.2.1 hi (by omega), ps_b2E, pr_next hP.1 (Nat.le_trans hPo.1 (by omega)) hPo.2.1 hb, ps_b2E]
          refine ps_it (fun _ => rfl) (fun _ => ?_)
          cases e : ps_nx (v.2.2.2.2.1 j).1 ((v.2.2.1 i).2.1 (pa_rt (v.2.2.2.2.1 j).1 (v.2.2.1 i))) with
          | none =>
            show ps_b2 (ff_X5_songsWithPair _ _ (ps_m 6) M) _ = _
            rw [bk_pairsN hR.2.1 hok.2.1 hb]
            rfl
          | some d =>
            show ps_b2 (ff_X5_songsWithPair _ _ (nI d) M) _ = _
            rw [bk_pairs hR.2.1 hok.2.1 hb (ps_nx_lt hPo.2.1 e)]
            rfl
      · rw [if_neg (ps_inBN hw (by omega))]
        by_cases c : w < nI 0
        · rw [if_pos c]
        · rw [if_neg c, if_neg (fun z => ?_)]
          rcases hw with h | h
          · exact c h
          · rw [Int32.le_iff_toInt_le, nI_toInt (by omega)] at h z
            omega
    · rw [bk_hasN hR.2.1 hs, ps_b2E, if_pos rfl, if_neg (fun z => ps_inBN hs (by omega) z.2)]
  · rw [ho_hasN hR hp, ps_b2E, if_pos rfl, if_neg (fun z => ps_inBN hp (by omega) z.1)]
def qa_rh (s u : Int32) (v : ps_H) : Int32 := if ps_inB s v.2.1 = true ∧ ps_inB u v.2.1 = true then nI (pa_rh (v.2.2.1 s.toNatClampNeg) (v.2.2.1 u.toNatClampNeg)) else ps_m 1
theorem cq_rh {M : ps_M} {v : ps_H} (hR : ps_RH M 1 v) (hok : ps_okH v) (s u : Int32) : ff_X6_rhymes 0 s u M = some (qa_rh s u v, M) := by
  have ns := hok.2.1.1
  unfold ff_X6_rhymes qa_rh
  rw [Nat.zero_add]
  rcases ps_cas s v.2.1 (by omega) with ⟨i, hi, rfl⟩ | hs
  · rw [bk_has hR.2.1 hok.2.1 hi, ps_b2E, if_neg (by rw [nI_eq (by omega) (by omega)]; omega)]
    rcases ps_cas u v.2.1 (by omega) with ⟨k, hk, rfl⟩ | hu
    · rw [bk_has hR.2.1 hok.2.1 hk, ps_b2E, if_neg (by rw [nI_eq (by omega) (by omega)]; omega), if_pos ⟨ev_inB hi (by omega), ev_inB hk (by omega)⟩, nI_clamp (by omega), nI_clamp (by omega), bk_rhyme hR.2.1 hok.2.1 hi hk]
      rfl
    · rw [bk_hasN hR.2.1 hu, ps_b2E, if_pos rfl, if_neg (fun z => ps_inBN hu (by omega) z.2)]
  · rw [bk_hasN hR.2.1 hs, ps_b2E, if_pos rfl, if_neg (fun z => ps_inBN hs (by omega) z.1)]
def qa_fol (p s : Int32) (v : ps_H) : Int32 := if ps_inB p v.2.2.2.1 = true ∧ ps_inB s v.2.1 = true then pa_set (fun i => decide (ps_nx (v.2.2.2.2.1 p.toNatClampNeg).1 ((v.2.2.1 s.toNatClampNeg).2.1 ((v.2.2.1 s.toNatClampNeg).1 - 1)) = some ((v.2.2.1 i).2.1 0))) v.2.1 else ps_m 1
theorem cq_fol {M : ps_M} {v : ps_H} (hR : ps_RH M 1 v) (hok : ps_okH v) (p s : Int32) : ff_X6_follows 0 p s M = some (qa_fol p s v, M) := by
  have np := hok.2.2.1
  have ns := hok.2.1.1
  unfold ff_X6_follows qa_fol
  rw [Nat.zero_add]
  rcases ps_cas p v.2.2.2.1 (by omega) with ⟨j, hj, rfl⟩ | hp
  · have hP := hR.2.2.2.1 j (by omega)
    have hPo := hok.2.2.2.1 j
    rw [ho_has hR hok hj, ps_b2E, if_neg (by rw [nI_eq (by omega) (by omega)]; omega)]
    rcases ps_cas s v.2.1 (by omega) with ⟨i, hi, rfl⟩ | hs
    · obtain ⟨s1, s2, s3⟩ := hok.2.1.2 i hi
      rw [bk_has hR.2.1 hok.2.1 hi, ps_b2E, if_neg (by rw [nI_eq (by omega) (by omega)]; omega), if_pos (ev_inB (by omega) (by omega)), if_pos ⟨ev_inB hj (by omega), ev_inB hi (by omega)⟩, nI_clamp (by omega), nI_clamp (by omega), bk_last hR.2.1 hok.2.1 hi, ps_b2E, pr_next hP.1 (Nat.le_trans hPo.1 (by omega)) hPo.2.1 (s3 _ (by omega)), ps_b2E, bk_from hR.2.1 hok.2.1 (fun c e => ps_nx_lt hPo.2.1 e)]
      rfl
    · rw [bk_hasN hR.2.1 hs, ps_b2E, if_pos rfl, if_neg (fun z => ps_inBN hs (by omega) z.2)]
  · rw [ho_hasN hR hp, ps_b2E, if_pos rfl, if_neg (fun z => ps_inBN hp (by omega) z.1)]
def qa_count (w : Int32) (A : ps_U) : Int32 := if w = nI 0 then nI A.1.2.2.2.2.2 else if w = nI 1 then nI A.1.2.1 else if w = nI 2 then nI A.1.2.2.2.1 else if w = nI 3 then pa_lessons A.1.2.1 A.1.2.2.1 else if w = nI 4 then pa_sm (fun j => (A.1.2.2.2.2.1 j).2.2.2.1) A.1.2.2.2.1 else if w = nI 5 then pa_sm (fun j => nI (A.1.2.2.2.2.1 j).1.length) A.1.2.2.2.1 else if w = nI 6 then pa_sm (fun j => (A.1.2.2.2.2.1 j).2.2.2.2) A.1.2.2.2.1 else if w = nI 7 then pa_set (fun j => pa_ti A.1 (A.1.2.2.2.2.1 j)) A.1.2.2.2.1 else if w = nI 8 then nI (A.1.1 0) else if w = nI 9 then nI (A.1.1 1) else if w = nI 10 then nI (A.1.1 2) else if w = nI 11 then nI (A.1.1 3) else if w = nI 12 then nI A.2.2.2.1 else if w = nI 13 then nI A.2.1.1 else ps_m 2
theorem cq_count {M : ps_M} {A : ps_U} (hC : ps_CL M A) (hok : ps_okU A) (w : Int32) : ff_X6_count 0 w M = some (qa_count w A, M) := by
  have hR := hC.1
  unfold ff_X6_count qa_count
  have e0 : ps_inB (nI 0) 4 = true := ev_inB (by omega) (by omega)
  have e1 : ps_inB (nI 1) 4 = true := ev_inB (by omega) (by omega)
  have e2 : ps_inB (nI 2) 4 = true := ev_inB (by omega) (by omega)
  have e3 : ps_inB (nI 3) 4 = true := ev_inB (by omega) (by omega)
  have f0 : (nI 0).toNatClampNeg = 0 := nI_clamp (by omega)
  have f1 : (nI 1).toNatClampNeg = 1 := nI_clamp (by omega)
  have f2 : (nI 2).toNatClampNeg = 2 := nI_clamp (by omega)
  have f3 : (nI 3).toNatClampNeg = 3 := nI_clamp (by omega)
  simp only [Nat.zero_add, if_pos e0, if_pos e1, if_pos e2, if_pos e3, f0, f1, f2, f3]
  rw [hR.2.2.2.2, hR.2.1.1, hR.2.2.1, bk_allLessons hR.2.1 hok.1.2.1, ho_heard hR hok.1, ho_links hR hok.1, ho_forg hR hok.1, ho_tireds hR hok.1, hR.1 0 (by omega), hR.1 1 (by omega), hR.1 2 (by omega), hR.1 3 (by omega), hC.2.2.1.1, hC.2.2.2.2.1]
  refine ps_it (fun _ => rfl) (fun _ => ps_it (fun _ => rfl) (fun _ => ps_it (fun _ => rfl) (fun _ => ps_it (fun _ => rfl) (fun _ => ps_it (fun _ => rfl) (fun _ => ps_it (fun _ => rfl) (fun _ => ps_it (fun _ => rfl) (fun _ => ps_it (fun _ => rfl) (fun _ => ps_it (fun _ => rfl) (fun _ => ps_it (fun _ => rfl) (fun _ => ps_it (fun _ => rfl) (fun _ => ps_it (fun _ => rfl) (fun _ => ps_it (fun _ => rfl) (fun _ => ps_it (fun _ => rfl) (fun _ => rfl))))))))))))))
