/-! the class's house, at the cell h -/
def ps_RH (M : ps_M) (h : Nat) (v : ps_H) : Prop := (∀ j, j < 4 → ps_rd M (h + 1) j = nI (v.1 j)) ∧ ps_RB M (h + 2) v.2.1 v.2.2.1 ∧ ps_rd M h 3 = nI v.2.2.2.1 ∧ (∀ j, j < 4 → ps_RP M (h + 14 + 2 + 6 * j) (v.2.2.2.2.1 j)) ∧ ps_rd M h 4 = nI v.2.2.2.2.2
def ps_okH (v : ps_H) : Prop := ((4 ≤ v.1 0 ∧ v.1 0 ≤ 60) ∧ v.1 1 ≤ 3 ∧ (1 ≤ v.1 2 ∧ v.1 2 ≤ 3) ∧ 1 ≤ v.1 3 ∧ v.1 3 ≤ 60) ∧ ps_okS v.2.1 v.2.2.1 ∧ v.2.2.2.1 ≤ 4 ∧ (∀ j, ps_ok (v.2.2.2.2.1 j)) ∧ (∀ j, v.2.2.2.1 ≤ j → v.2.2.2.2.1 j = ps_new) ∧ v.2.2.2.2.2 ≤ 999
theorem ps_RH_fr {lo hi : Nat} {M M1 : ps_M} {h : Nat} {v : ps_H} (hok : ps_okH v) (hF : ps_Fr lo hi M M1) (hq : h + 40 ≤ lo ∨ hi ≤ h) (hR : ps_RH M h v) : ps_RH M1 h v := by
  obtain ⟨r1, r2, r3, r4, r5⟩ := hR
  refine ⟨fun j hj => by rw [hF.1 _ (by omega)]; exact r1 j hj, ps_RB_fr hF hok.2.1.1 (by omega) r2, by rw [hF.1 _ (by omega)]; exact r3, fun j hj => ps_RP_fr hF (by omega) (r4 j hj), by rw [hF.1 _ (by omega)]; exact r5⟩
/-- the parrots, one of them another -/
def pa_up (f : Nat → ps_P) (j : Nat) (P : ps_P) : Nat → ps_P := fun k => if k = j then P else f k
def pa_wP (v : ps_H) (j : Nat) (P : ps_P) : ps_H := (v.1, v.2.1, v.2.2.1, v.2.2.2.1, pa_up v.2.2.2.2.1 j P, v.2.2.2.2.2)
theorem pa_wP_self {v : ps_H} {j : Nat} : pa_wP v j (v.2.2.2.2.1 j) = v := by
  unfold pa_wP
  have : pa_up v.2.2.2.2.1 j (v.2.2.2.2.1 j) = v.2.2.2.2.1 := by
    funext k
    unfold pa_up
    by_cases e : k = j
    · rw [if_pos e, e]
    · rw [if_neg e]
  rw [this]
theorem ps_RH_wP {M M1 : ps_M} {h j : Nat} {v : ps_H} {P : ps_P} (hok : ps_okH v) (hj : j < 4) (hF : ps_Fr (h + 14 + 2 + 6 * j) (h + 14 + 2 + 6 * j + 6) M M1) (hR : ps_RH M h v) (hP : ps_RP M1 (h + 14 + 2 + 6 * j) P) : ps_RH M1 h (pa_wP v j P) := by
  obtain ⟨r1, r2, r3, r4, r5⟩ := hR
  refine ⟨fun k hk => by rw [hF.1 _ (by omega)]; exact r1 k hk, ps_RB_fr hF hok.2.1.1 (by omega) r2, by rw [hF.1 _ (by omega)]; exact r3, fun k hk => ?_, by rw [hF.1 _ (by omega)]; exact r5⟩
  show ps_RP M1 _ (pa_up v.2.2.2.2.1 j P k)
  unfold pa_up
  by_cases e : k = j
  · rw [if_pos e, e]
    exact hP
  · rw [if_neg e]
    exact ps_RP_fr hF (by omega) (r4 k hk)
theorem ps_okH_wP {v : ps_H} {j : Nat} {P : ps_P} (hok : ps_okH v) (hj : j < v.2.2.2.1) (hP : ps_ok P) : ps_okH (pa_wP v j P) := by
  obtain ⟨o1, o2, o3, o4, o5, o6⟩ := hok
  refine ⟨o1, o2, o3, fun k => ?_, fun k hk => ?_, o6⟩
  · show ps_ok (pa_up v.2.2.2.2.1 j P k)
    unfold pa_up
    by_cases e : k = j
    · rw [if_pos e]; exact hP
    · rw [if_neg e]; exact o4 k
  · show pa_up v.2.2.2.2.1 j P k = ps_new
    unfold pa_up
    have hk' : v.2.2.2.1 ≤ k := hk
    rw [if_neg (by omega)]
    exact o5 k hk
theorem ho_has {M : ps_M} {h : Nat} {v : ps_H} (hR : ps_RH M h v) (hok : ps_okH v) {j : Nat} (hj : j < v.2.2.2.1) : ff_X1_hasParrot h (nI j) M = some (nI 1, M) := by
  have := hok.2.2.1
  unfold ff_X1_hasParrot
  rw [hR.2.2.1]
  simp (disch := omega) only [ps_letE, ps_b2E, nI_add, pk_mul, nI_clamp, ev_inB, nI_leI, nI_ltI, nI_eq, if_pos, if_neg, ev_eqm, ev_eqm2, ev_ltm, ev_lem, ev_mlt, ev_mle, ev_mm, ev_subm, pk_sub, ev_true, if_true, if_false, ite_true, ite_false, Option.map, ev_rs, ev_ra, ev_rj, ev_cpO, ps_isB1, ps_isB0]
theorem ho_hasN {M : ps_M} {h : Nat} {v : ps_H} (hR : ps_RH M h v) {x : Int32} (hx : ps_no x v.2.2.2.1) : ff_X1_hasParrot h x M = some (nI 0, M) := by
  unfold ff_X1_hasParrot
  rw [hR.2.2.1]
  by_cases c : x < nI 0
  · rw [if_pos c]
  · rw [if_neg c, if_pos (hx.resolve_left c)]
/-- tired -/
def pa_ti (v : ps_H) (P : ps_P) : Bool := decide (nI (v.1 3) ≤ P.2.2.1)
theorem ho_tired {M : ps_M} {h q : Nat} {v : ps_H} {P : ps_P} (hS : ∀ j, j < 4 → ps_rd M (h + 1) j = nI (v.1 j)) (hP : ps_RP M q P) : ff_X1_isTired h q M = some (pa_bi (pa_ti v P), M) := by
  unfold ff_X1_isTired pa_bi pa_ti
  rw [if_pos (ev_inB (by omega) (by omega)), nI_clamp (by omega), hS 3 (by omega), hP.2.2.1]
  by_cases c : nI (v.1 3) ≤ P.2.2.1
  · rw [if_neg (Int32.not_lt.mpr c), if_pos (decide_eq_true c)]
  · rw [if_pos (Int32.not_le.mp c), if_neg (by simpa using c)]
def pa_hear (v : ps_H) (bar : Nat) (P : ps_P) : ps_P := ps_hr (v.1 0) (v.1 2) bar P
theorem ok_hear {v : ps_H} {P : ps_P} (hok : ps_okH v) (hP : ps_ok P) {bar : Nat} (hb : bar < 26) : ps_ok (pa_hear v bar P) := ok_hr hP hb hok.1.2.2.1.1 hok.1.2.2.1.2 hok.1.1.2
/-! what the operations on a house answer, and leave -/
def op_set (a b : Int32) (v : ps_H) : Int32 × ps_H := if ps_inB a 4 = true then (if ps_least a.toNatClampNeg ≤ b ∧ b ≤ ps_most a.toNatClampNeg then (nI (v.1 a.toNatClampNeg), ((fun k => if k = a.toNatClampNeg then b.toNatClampNeg else v.1 k), v.2)) else (ps_m 2, v)) else (ps_m 2, v)
theorem ps_inBN {x : Int32} {n : Nat} (h : ps_no x n) (hn : n < 1000000) : ¬ ps_inB x n = true := by
  intro q
  obtain ⟨h1, h2⟩ := of_decide_eq_true q
  rcases h with h | h
  · rw [Int32.lt_iff_toInt_lt, nI_toInt (by omega)] at h
    omega
  · rw [Int32.le_iff_toInt_le, nI_toInt (by omega)] at h
    omega
theorem lm_nat : ∀ j, j < 4 → ∃ a b : Nat, ps_least j = nI a ∧ ps_most j = nI b ∧ a ≤ b ∧ b ≤ 60 ∧ (j = 0 → 4 ≤ a) ∧ (j = 1 → b ≤ 3) ∧ (j = 2 → 1 ≤ a ∧ b ≤ 3) ∧ (j = 3 → 1 ≤ a) := by
  intro j hj
  rcases (by omega : j = 0 ∨ j = 1 ∨ j = 2 ∨ j = 3) with rfl | rfl | rfl | rfl
  · exact ⟨4, 60, rfl, rfl, by omega, by omega, by omega, by omega, by omega, by omega⟩
  · exact ⟨0, 3, rfl, rfl, by omega, by omega, by omega, by omega, by omega, by omega⟩
  · exact ⟨1, 3, rfl, rfl, by omega, by omega, by omega, by omega, by omega, by omega⟩
  · exact ⟨1, 60, rfl, rfl, by omega, by omega, by omega, by omega, by omega, by omega⟩
theorem ps_btw {x : Int32} {a b : Nat} (hb : b < 2147483648) (h1 : nI a ≤ x) (h2 : x ≤ nI b) (hab : a ≤ b) : ∃ w, a ≤ w ∧ w ≤ b ∧ x = nI w := by
  rw [Int32.le_iff_toInt_le, nI_toInt (by omega)] at h1
  rw [Int32.le_iff_toInt_le, nI_toInt (by omega)] at h2
  refine ⟨x.toInt.toNat, by omega, by omega, Int32.toInt_inj.mp ?_⟩
  rw [nI_toInt (by omega)]
  omega
theorem ok_set {v : ps_H} (hok : ps_okH v) (a b : Int32) : ps_okH (op_set a b v).2 := by
  unfold op_set
  by_cases h : ps_inB a 4 = true
  · rw [if_pos h]
    have hj := ps_inB_lt h
    generalize a.toNatClampNeg = j at hj
    obtain ⟨la, mo, e1, e2, e3, e4, e5, e6, e7, e8⟩ := lm_nat j hj
    rw [e1, e2]
    by_cases c : nI la ≤ b ∧ b ≤ nI mo
    · rw [if_pos c]
      obtain ⟨w, w1, w2, rfl⟩ := ps_btw (by omega) c.1 c.2 e3
      rw [nI_clamp (by omega)]
      obtain ⟨⟨o1, o2, o3, o4⟩, o5⟩ := hok
      refine ⟨⟨?_, ?_, ?_, ?_⟩, o5⟩
      · show 4 ≤ (if 0 = j then w else v.1 0) ∧ (if 0 = j then w else v.1 0) ≤ 60
        by_cases z : 0 = j
        · rw [if_pos z]; omega
        · rw [if_neg z]; exact o1
      · show (if 1 = j then w else v.1 1) ≤ 3
        by_cases z : 1 = j
        · rw [if_pos z]; omega
        · rw [if_neg z]; exact o2
      · show 1 ≤ (if 2 = j then w else v.1 2) ∧ (if 2 = j then w else v.1 2) ≤ 3
        by_cases z : 2 = j
        · rw [if_pos z]; omega
        · rw [if_neg z]; exact o3
      · show 1 ≤ (if 3 = j then w else v.1 3) ∧ (if 3 = j then w else v.1 3) ≤ 60
        by_cases z : 3 = j
        · rw [if_pos z]; omega
        · rw [if_neg z]; exact o4
    · rw [if_neg c]; exact hok
  · rw [if_neg h]; exact hok
theorem ho_set {M : ps_M} {h : Nat} {v : ps_H} (hR : ps_RH M h v) (hok : ps_okH v) (a b : Int32) : ∃ M1, ff_X1_changeSetting h a b M = some ((op_set a b v).1, M1) ∧ ps_RH M1 h (op_set a b v).2 ∧ ps_Fr h (h + 40) M M1 := by
  unfold ff_X1_changeSetting
  rcases ps_cas a 4 (by omega) with ⟨j, hj, rfl⟩ | ha
  · obtain ⟨la, mo, e1, e2, e3, e4, -⟩ := lm_nat j hj
    unfold op_set
    rw [if_pos (ev_inB hj (by omega)), nI_clamp (by omega), e1, e2, if_neg (nI_nlt (by omega) (by omega)), if_pos (nI_lt hj (by omega)), if_pos (ev_inB hj (by omega)), if_pos (ev_inB hj (by omega)), if_pos (ev_inB hj (by omega))]
    simp only [ps_letE]
    rw [if_pos (ev_inB hj (by omega))]
    by_cases c1 : b < nI la
    · rw [if_pos c1, if_neg (fun z => absurd z.1 (Int32.not_le.mpr c1))]
      exact ⟨M, rfl, hR, ps_Fr_rf⟩
    · rw [if_neg c1]
      by_cases c2 : b ≤ nI mo
      · rw [if_pos c2, if_pos ⟨Int32.not_lt.mp c1, c2⟩, hR.1 j hj]
        obtain ⟨w, w1, w2, rfl⟩ := ps_btw (by omega) (Int32.not_lt.mp c1) c2 e3
        rw [nI_clamp (by omega)]
        obtain ⟨r1, r2, r3, r4, r5⟩ := hR
        refine ⟨_, rfl, ⟨fun k hk => ?_, ps_RB_fr (ps_Fr_st (lo := h + 1) (hi := h + 2) (by omega) (by omega)) hok.2.1.1 (by omega) r2, by simp (disch := omega) only [ps_letE, ps_b2E, nI_add, pk_mul, nI_clamp, ev_inB, nI_leI, nI_ltI, nI_eq, if_pos, if_neg, ev_eqm, ev_eqm2, ev_ltm, ev_lem, ev_mlt, ev_mle, ev_mm, ev_subm, pk_sub, ev_true, if_true, if_false, ite_true, ite_false, Option.map, ev_rs, ev_ra, ev_rj, ev_cpO, ps_isB1, ps_isB0]; exact r3, fun k hk => ps_RP_fr (ps_Fr_st (lo := h + 1) (hi := h + 2) (by omega) (by omega)) (by omega) (r4 k hk), by simp (disch := omega) only [ps_letE, ps_b2E, nI_add, pk_mul, nI_clamp, ev_inB, nI_leI, nI_ltI, nI_eq, if_pos, if_neg, ev_eqm, ev_eqm2, ev_ltm, ev_lem, ev_mlt, ev_mle, ev_mm, ev_subm, pk_sub, ev_true, if_true, if_false, ite_true, ite_false, Option.map, ev_rs, ev_ra, ev_rj, ev_cpO, ps_isB1, ps_isB0]; exact r5⟩, ps_Fr_st (by omega) (by omega)⟩
        show _ = nI (if k = j then w else v.1 k)
        by_cases z : k = j
        · rw [if_pos z, z, ev_rs]
        · rw [if_neg z, ev_rj z]
          exact r1 k hk
      · rw [if_neg c2, if_neg (fun z => c2 z.2)]
        exact ⟨M, rfl, hR, ps_Fr_rf⟩
  · have e : op_set a b v = (ps_m 2, v) := if_neg (ps_inBN ha (by omega))
    rw [e]
    refine ⟨M, ?_, hR, ps_Fr_rf⟩
    by_cases c : a < nI 0
    · rw [if_pos c]
    · rw [if_neg c, if_neg (Int32.not_lt.mpr (ha.resolve_left c))]
def op_par (v : ps_H) : Int32 × ps_H := if v.2.2.2.1 < 4 then (nI v.2.2.2.1, (v.1, v.2.1, v.2.2.1, v.2.2.2.1 + 1, v.2.2.2.2)) else (ps_m 4, v)
theorem ok_par {v : ps_H} (hok : ps_okH v) : ps_okH (op_par v).2 := by
  unfold op_par
  by_cases h : v.2.2.2.1 < 4
  · rw [if_pos h]
    obtain ⟨o1, o2, o3, o4, o5, o6⟩ := hok
    exact ⟨o1, o2, h, o4, fun j hj => o5 j (Nat.le_of_succ_le hj), o6⟩
  · rw [if_neg h]; exact hok
theorem ho_par {M : ps_M} {h : Nat} {v : ps_H} (hR : ps_RH M h v) (hok : ps_okH v) : ∃ M1, ff_X1_addParrot h M = some ((op_par v).1, M1) ∧ ps_RH M1 h (op_par v).2 ∧ ps_Fr h (h + 40) M M1 := by
  unfold ff_X1_addParrot op_par
  have h4 := hok.2.2.1
  obtain ⟨r1, r2, r3, r4, r5⟩ := hR
  rw [r3]
  by_cases c : v.2.2.2.1 < 4
  · rw [if_pos c, if_pos (nI_lt c (by omega))]
    simp (disch := omega) only [ps_letE, ps_b2E, nI_add, pk_mul, nI_clamp, ev_inB, nI_leI, nI_ltI, nI_eq, if_pos, if_neg, ev_eqm, ev_eqm2, ev_ltm, ev_lem, ev_mlt, ev_mle, ev_mm, ev_subm, pk_sub, ev_true, if_true, if_false, ite_true, ite_false, Option.map, ev_rs, ev_ra, ev_rj, ev_cpO, ps_isB1, ps_isB0, Nat.add_sub_cancel]
    refine ⟨_, rfl, ⟨fun k hk => by simp (disch := omega) only [ps_letE, ps_b2E, nI_add, pk_mul, nI_clamp, ev_inB, nI_leI, nI_ltI, nI_eq, if_pos, if_neg, ev_eqm, ev_eqm2, ev_ltm, ev_lem, ev_mlt, ev_mle, ev_mm, ev_subm, pk_sub, ev_true, if_true, if_false, ite_true, ite_false, Option.map, ev_rs, ev_ra, ev_rj, ev_cpO, ps_isB1, ps_isB0]; exact r1 k hk, ps_RB_fr (ps_Fr_st (lo := h) (hi := h + 1) (by omega) (by omega)) hok.2.1.1 (by omega) r2, by simp (disch := omega) only [ps_letE, ps_b2E, nI_add, pk_mul, nI_clamp, ev_inB, nI_leI, nI_ltI, nI_eq, if_pos, if_neg, ev_eqm, ev_eqm2, ev_ltm, ev_lem, ev_mlt, ev_mle, ev_mm, ev_subm, pk_sub, ev_true, if_true, if_false, ite_true, ite_false, Option.map, ev_rs, ev_ra, ev_rj, ev_cpO, ps_isB1, ps_isB0], fun k hk => ps_RP_fr (ps_Fr_st (lo := h) (hi := h + 1) (by omega) (by omega)) (by omega) (r4 k hk), by simp (disch := omega) only [ps_letE, ps_b2E, nI_add, pk_mul, nI_clamp, ev_inB, nI_leI, nI_ltI, nI_eq, if_pos, if_neg, ev_eqm, ev_eqm2, ev_ltm, ev_lem, ev_mlt, ev_mle, ev_mm, ev_subm, pk_sub, ev_true, if_true, if_false, ite_true, ite_false, Option.map, ev_rs, ev_ra, ev_rj, ev_cpO, ps_isB1, ps_isB0]; exact r5⟩, ps_Fr_st (by omega) (by omega)⟩
  · rw [if_neg c, if_neg (nI_nlt (by omega) (by omega))]
    exact ⟨M, rfl, ⟨r1, r2, r3, r4, r5⟩, ps_Fr_rf⟩
/-- a lesson: how far, and the parrot then -/
def pa_les (v : ps_H) (s : ps_S) (from_ : Nat) (P : ps_P) : Nat × ps_P := ps_wh (fun _ P => !(pa_ti v P)) (fun i P => pa_hear v (s.2.1 i) P) (s.1 - from_) from_ P
def pa_wS (v : ps_H) (i : Nat) : ps_H := (v.1, v.2.1, (fun k => if k = i then ((v.2.2.1 i).1, (v.2.2.1 i).2.1, (v.2.2.1 i).2.2 + nI 1) else v.2.2.1 k), v.2.2.2)
def op_les (p s f : Int32) (v : ps_H) : Int32 × ps_H :=
  if ps_inB p v.2.2.2.1 = true ∧ ps_inB s v.2.1 = true then
    (if ps_inB f (v.2.2.1 s.toNatClampNeg).1 = true then
      (if pa_ti v (v.2.2.2.2.1 p.toNatClampNeg) = true then (ps_m 5, v)
       else (nI ((pa_les v (v.2.2.1 s.toNatClampNeg) f.toNatClampNeg (v.2.2.2.2.1 p.toNatClampNeg)).1 - f.toNatClampNeg), pa_wS (pa_wP v p.toNatClampNeg (pa_les v (v.2.2.1 s.toNatClampNeg) f.toNatClampNeg (v.2.2.2.2.1 p.toNatClampNeg)).2) s.toNatClampNeg))
     else (ps_m 2, v))
  else (ps_m 1, v)
theorem ok_wh {v : ps_H} (hok : ps_okH v) {g : Nat → Nat} {go : Nat → ps_P → Bool} : ∀ (k i : Nat) (P : ps_P), (∀ t, i ≤ t → t < i + k → g t < 26) → ps_ok P → ps_ok (ps_wh go (fun i P => pa_hear v (g i) P) k i P).2
  | 0, i, P, _, h => h
  | k + 1, i, P, hg, h => by
    unfold ps_wh
    by_cases c : go i P = true
    · rw [if_pos c]
      exact ok_wh hok k (i + 1) _ (fun t h1 h2 => hg t (by omega) (by omega)) (ok_hear hok h (hg i (Nat.le_refl _) (by omega)))
    · rw [if_neg c]; exact h
theorem ok_les {v : ps_H} (hok : ps_okH v) (p s f : Int32) : ps_okH (op_les p s f v).2 := by
  unfold op_les
  by_cases h1 : ps_inB p v.2.2.2.1 = true ∧ ps_inB s v.2.1 = true
  · rw [if_pos h1]
    by_cases h2 : ps_inB f (v.2.2.1 s.toNatClampNeg).1 = true
    · rw [if_pos h2]
      by_cases h3 : pa_ti v (v.2.2.2.2.1 p.toNatClampNeg) = true
      · rw [if_pos h3]; exact hok
      · rw [if_neg h3]
        have hp := ps_inB_lt h1.1
        have hs := ps_inB_lt h1.2
        have hf := ps_inB_lt h2
        obtain ⟨s1, s2, s3⟩ := hok.2.1.2 _ hs
        have hP : ps_ok (pa_les v (v.2.2.1 s.toNatClampNeg) f.toNatClampNeg (v.2.2.2.2.1 p.toNatClampNeg)).2 := ok_wh hok _ _ _ (fun t a b => s3 t (by omega)) (hok.2.2.2.1 _)
        have hw := ps_okH_wP hok hp hP
        obtain ⟨o1, o2, o3⟩ := hw
        refine ⟨o1, ⟨o2.1, fun i hi => ?_⟩, o3⟩
        dsimp only [pa_wS]
        by_cases e : i = s.toNatClampNeg
        · rw [if_pos e]; exact o2.2 _ hs
        · rw [if_neg e]; exact o2.2 i hi
    · rw [if_neg h2]; exact hok
  · rw [if_neg h1]; exact hok
theorem ho_wS {M M1 : ps_M} {h i : Nat} {v : ps_H} (hok : ps_okH v) (hR : ps_RH M h v) (hF : ps_Fr (h + 2) (h + 2 + 12) M M1) (hB : ps_RB M1 (h + 2) v.2.1 (fun k => if k = i then ((v.2.2.1 i).1, (v.2.2.1 i).2.1, (v.2.2.1 i).2.2 + nI 1) else v.2.2.1 k)) : ps_RH M1 h (pa_wS v i) := by
  obtain ⟨r1, r2, r3, r4, r5⟩ := hR
  exact ⟨fun k hk => by rw [hF.1 _ (by omega)]; exact r1 k hk, hB, by rw [hF.1 _ (by omega)]; exact r3, fun k hk => ps_RP_fr hF (by omega) (r4 k hk), by rw [hF.1 _ (by omega)]; exact r5⟩
theorem ho_les {M : ps_M} {h : Nat} {v : ps_H} (hR : ps_RH M h v) (hok : ps_okH v) (p s f : Int32) : ∃ M1, ff_X1_teach h p s f M = some ((op_les p s f v).1, M1) ∧ ps_RH M1 h (op_les p s f v).2 ∧ ps_Fr h (h + 40) M M1 := by
  have np := hok.2.2.1
  have ns := hok.2.1.1
  unfold ff_X1_teach op_les
  rcases ps_cas p v.2.2.2.1 (by omega) with ⟨j, hj, rfl⟩ | hp
  · rw [ho_has hR hok hj, ps_b2E, if_neg (by rw [nI_eq (by omega) (by omega)]; omega)]
    rcases ps_cas s v.2.1 (by omega) with ⟨i, hi, rfl⟩ | hs
    · rw [bk_has hR.2.1 hok.2.1 hi, ps_b2E, if_neg (by rw [nI_eq (by omega) (by omega)]; omega), if_pos ⟨ev_inB hj (by omega), ev_inB hi (by omega)⟩]
      obtain ⟨s1, s2, s3⟩ := hok.2.1.2 i hi
      rw [nI_clamp (by omega : i < 2 ^ 31), nI_clamp (by omega : j < 2 ^ 31)]
      rcases ps_cas f (v.2.2.1 i).1 (by omega) with ⟨a, ha, rfl⟩ | hf
      · rw [bk_hasBar hR.2.1 hok.2.1 hi ha, ps_b2E, if_neg (by rw [nI_eq (by omega) (by omega)]; omega), if_pos (ev_inB (by omega) (by omega)), if_pos (ev_inB ha (by omega)), ho_tired hR.1 (hR.2.2.2.1 j (by omega)), ps_b2E, nI_clamp (by omega : a < 2 ^ 31)]
        unfold pa_bi
        by_cases ht : pa_ti v (v.2.2.2.2.1 j) = true
        · rw [if_pos ht, if_pos ht, if_neg (by rw [nI_eq (by omega) (by omega)]; omega)]
          exact ⟨M, rfl, hR, ps_Fr_rf⟩
        · rw [if_neg ht, if_neg ht, if_pos rfl]
          refine Exists.elim (ps_whR (F := fun n t (P : ps_P) M1 => fk_X1_teach_59 h n (nI j) (nI i) (nI a) (h + 14 + 2 + 6 * j) (nI t) M1) (Rel := fun t P M1 => ps_RP M1 (h + 14 + 2 + 6 * j) P ∧ ps_ok P ∧ ps_Fr (h + 14 + 2 + 6 * j) (h + 14 + 2 + 6 * j + 6) M M1 ∧ a ≤ t) (v.2.2.1 i).1 (fun _ P => !(pa_ti v P)) (fun t P => pa_hear v ((v.2.2.1 i).2.1 t) P) (fun t P M1 => ps_b2 (ff_X5_countLesson (h + 2) (nI i) M1) (fun r7 M7 => some (nI (t - a), M7))) (fun n t P M1 h1 h2 h3 => ?_) (fun n t P M1 h1 h2 h3 => ?_) ((v.2.2.1 i).1 - a) ps_fu a (v.2.2.2.2.1 j) M (by omega) (by unfold ps_fu; omega) ⟨hR.2.2.2.1 j (by omega), hok.2.2.2.1 j, ps_Fr_rf, Nat.le_refl _⟩) (fun M1 z => ?_)
          rotate_left 2
          · obtain ⟨e, z1, z2, z3, z4⟩ := z
            have hR1 := ps_RH_wP hok (by omega) z3 hR z1
            have hok1 := ps_okH_wP hok hj z2
            obtain ⟨M2, e2, B2, F2⟩ := bk_count hR1.2.1 hok1.2.1 hi
            refine ⟨M2, ?_, ho_wS hok1 hR1 F2 B2, ps_Fr_tr (ps_Fr_wd z3 (by omega) (by omega)) (ps_Fr_wd F2 (by omega) (by omega))⟩
            refine e.trans ?_
            rw [e2]
            rfl
          · obtain ⟨z1, z2, z3, z4⟩ := h2
            have hB := ps_RB_fr z3 ns (by omega) hR.2.1
            rw [fk_X1_teach_59, bk_len hB hok.2.1 hi, ps_b2E]
            by_cases c : t < (v.2.2.1 i).1
            · have c2 : pa_ti v P = true := by simpa using h3 c
              rw [if_neg (nI_ge c (by omega)), ho_tired (fun k hk => by rw [z3.1 _ (by omega)]; exact hR.1 k hk) z1, ps_b2E]
              unfold pa_bi
              rw [if_pos c2, if_neg (by rw [nI_eq (by omega) (by omega)]; omega), pk_sub z4]
            · rw [if_pos (nI_le (by omega) (by omega)), pk_sub z4]
          · obtain ⟨z1, z2, z3, z4⟩ := h2
            have hB := ps_RB_fr z3 ns (by omega) hR.2.1
            have c2 : ¬ pa_ti v P = true := by simpa using h3
            have hS : ∀ k, k < 4 → ps_rd M1 (h + 1) k = nI (v.1 k) := fun k hk => by rw [z3.1 _ (by omega)]; exact hR.1 k hk
            obtain ⟨M2, e2, R2, F2⟩ := pr_hear z1 z2 (s3 t h1) hok.1.2.2.1.1 hok.1.2.2.1.2 hok.1.1.2
            refine ⟨M2, ?_, R2, ok_hear hok z2 (s3 t h1), ps_Fr_tr z3 F2, by omega⟩
            rw [fk_X1_teach_59, bk_len hB hok.2.1 hi, ps_b2E, if_neg (nI_ge h1 (by omega)), ho_tired hS z1, ps_b2E]
            unfold pa_bi
            rw [if_neg c2, if_pos rfl, bk_bar hB hok.2.1 hi h1, ps_b2E]
            simp (disch := omega) only [ps_letE, ps_b2E, nI_add, pk_mul, nI_clamp, ev_inB, nI_leI, nI_ltI, nI_eq, if_pos, if_neg, ev_eqm, ev_eqm2, ev_ltm, ev_lem, ev_mlt, ev_mle, ev_mm, ev_subm, pk_sub, ev_true, if_true, if_false, ite_true, ite_false, Option.map, ev_rs, ev_ra, ev_rj, ev_cpO, ps_isB1, ps_isB0, hS 2, hS 0, e2]
      · rw [bk_hasBarN hR.2.1 hok.2.1 hi hf, ps_b2E, if_pos rfl, if_neg (ps_inBN hf (by omega))]
        exact ⟨M, rfl, hR, ps_Fr_rf⟩
    · rw [bk_hasN hR.2.1 hs, ps_b2E, if_pos rfl, if_neg (fun z => ps_inBN hs (by omega) z.2)]
      exact ⟨M, rfl, hR, ps_Fr_rf⟩
  · rw [ho_hasN hR hp, ps_b2E, if_pos rfl, if_neg (fun z => ps_inBN hp (by omega) z.1)]
    exact ⟨M, rfl, hR, ps_Fr_rf⟩
def pa_whl (v : ps_H) (s : ps_S) (P : ps_P) : ps_P := ps_fo (fun i P => pa_hear v (s.2.1 i) P) s.1 P
theorem ok_whl {v : ps_H} (hok : ps_okH v) {i : Nat} (hi : i < v.2.1) {P : ps_P} (hP : ps_ok P) : ps_ok (pa_whl v (v.2.2.1 i) P) := ok_wh hok _ _ _ (fun t _ b => (hok.2.1.2 i hi).2.2 t (by omega)) hP
/-- a whole song to a parrot anywhere, tired or not -/
theorem ho_whole {M : ps_M} {h q : Nat} {v : ps_H} {P : ps_P} (hS : ∀ j, j < 4 → ps_rd M (h + 1) j = nI (v.1 j)) (hB : ps_RB M (h + 2) v.2.1 v.2.2.1) (hok : ps_okH v) (hq : q + 6 ≤ h ∨ h + 40 ≤ q) {i : Nat} (hi : i < v.2.1) (hP : ps_RP M q P) (hPo : ps_ok P) : ∃ M1, ff_X1_singWholeTo h q (nI i) M = some (nI 0, M1) ∧ ps_RP M1 q (pa_whl v (v.2.2.1 i) P) ∧ ps_Fr q (q + 6) M M1 := by
  obtain ⟨s1, s2, s3⟩ := hok.2.1.2 i hi
  have ns := hok.2.1.1
  unfold ff_X1_singWholeTo
  refine Exists.elim (ps_whR (F := fun n t (P : ps_P) M1 => fk_X1_singWholeTo_2 h n q (nI i) (nI t) M1) (Rel := fun t P M1 => ps_RP M1 q P ∧ ps_ok P ∧ ps_Fr q (q + 6) M M1) (v.2.2.1 i).1 (fun _ _ => true) (fun t P => pa_hear v ((v.2.2.1 i).2.1 t) P) (fun t P M1 => some (nI 0, M1)) (fun n t P M1 h1 h2 h3 => ?_) (fun n t P M1 h1 h2 h3 => ?_) (v.2.2.1 i).1 ps_fu 0 P M (by omega) (by unfold ps_fu; omega) ⟨hP, hPo, ps_Fr_rf⟩) (fun M1 z => ⟨M1, z.1, z.2.1, z.2.2.2⟩)
  · obtain ⟨z1, z2, z3⟩ := h2
    have hB1 := ps_RB_fr z3 ns (by omega) hB
    have c : ¬ t < (v.2.2.1 i).1 := fun c => absurd (h3 c) (by simp)
    rw [fk_X1_singWholeTo_2, bk_len hB1 hok.2.1 hi, ps_b2E, if_pos (nI_le (by omega) (by omega))]
  · obtain ⟨z1, z2, z3⟩ := h2
    have hB1 := ps_RB_fr z3 ns (by omega) hB
    have hS1 : ∀ k, k < 4 → ps_rd M1 (h + 1) k = nI (v.1 k) := fun k hk => by rw [z3.1 _ (by omega)]; exact hS k hk
    obtain ⟨M2, e2, R2, F2⟩ := pr_hear z1 z2 (s3 t h1) hok.1.2.2.1.1 hok.1.2.2.1.2 hok.1.1.2
    refine ⟨M2, ?_, R2, ok_hear hok z2 (s3 t h1), ps_Fr_tr z3 F2⟩
    rw [fk_X1_singWholeTo_2, bk_len hB1 hok.2.1 hi, ps_b2E, if_neg (nI_ge h1 (by omega)), bk_bar hB1 hok.2.1 hi h1, ps_b2E]
    simp (disch := omega) only [ps_letE, ps_b2E, nI_add, pk_mul, nI_clamp, ev_inB, nI_leI, nI_ltI, nI_eq, if_pos, if_neg, ev_eqm, ev_eqm2, ev_ltm, ev_lem, ev_mlt, ev_mle, ev_mm, ev_subm, pk_sub, ev_true, if_true, if_false, ite_true, ite_false, Option.map, ev_rs, ev_ra, ev_rj, ev_cpO, ps_isB1, ps_isB0, hS1 2, hS1 0, e2]
def op_hush (p : Int32) (v : ps_H) : Int32 × ps_H := if ps_inB p v.2.2.2.1 = true then (ps_cl (v.2.2.2.2.1 p.toNatClampNeg).2.1, pa_wP v p.toNatClampNeg ((v.2.2.2.2.1 p.toNatClampNeg).1, none, (v.2.2.2.2.1 p.toNatClampNeg).2.2)) else (ps_m 1, v)
theorem ok_hush {v : ps_H} (hok : ps_okH v) (p : Int32) : ps_okH (op_hush p v).2 := by
  unfold op_hush
  by_cases h1 : ps_inB p v.2.2.2.1 = true
  · rw [if_pos h1]
    have hp := hok.2.2.2.1 p.toNatClampNeg
    exact ps_okH_wP hok (ps_inB_lt h1) ⟨hp.1, hp.2.1, fun b e => by cases e⟩
  · rw [if_neg h1]; exact hok
theorem pr_none {M : ps_M} {q : Nat} {P : ps_P} (h : ps_RP M q P) : ps_RP (ps_st M q 2 (ps_m 6)) q (P.1, none, P.2.2) := by
  obtain ⟨r1, r2, r3, r4, r5⟩ := h
  refine ⟨ps_RL_st r1 (by omega), by rw [ev_rs]; rfl, by rw [ev_rj (by omega)]; exact r3, by rw [ev_rj (by omega)]; exact r4, by rw [ev_rj (by omega)]; exact r5⟩
theorem ho_hush {M : ps_M} {h : Nat} {v : ps_H} (hR : ps_RH M h v) (hok : ps_okH v) (p : Int32) : ∃ M1, ff_X1_silence h p M = some ((op_hush p v).1, M1) ∧ ps_RH M1 h (op_hush p v).2 ∧ ps_Fr h (h + 40) M M1 := by
  have np := hok.2.2.1
  unfold ff_X1_silence op_hush
  rcases ps_cas p v.2.2.2.1 (by omega) with ⟨j, hj, rfl⟩ | hp
  · rw [ho_has hR hok hj, ps_b2E, if_neg (by rw [nI_eq (by omega) (by omega)]; omega), if_pos (ev_inB hj (by omega)), if_pos (ev_inB (by omega) (by omega))]
    simp only [ps_letE]
    rw [if_pos (ev_inB (by omega) (by omega)), nI_clamp (by omega)]
    have hP := hR.2.2.2.1 j (by omega)
    rw [hP.2.1]
    exact ⟨_, rfl, ps_RH_wP hok (by omega) (ps_Fr_st (by omega) (by omega)) hR (pr_none hP), ps_Fr_st (by omega) (by omega)⟩
  · rw [ho_hasN hR hp, ps_b2E, if_pos rfl, if_neg (ps_inBN hp (by omega))]
    exact ⟨M, rfl, hR, ps_Fr_rf⟩
