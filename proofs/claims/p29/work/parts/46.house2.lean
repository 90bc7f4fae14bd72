/-! practice -/
def pa_it (L : List ps_L) (o : Option Nat) : Nat → Option Nat
  | 0 => o
  | k + 1 => (pa_it L o k).bind (ps_nx L)
def pa_ct (L : List ps_L) (o : Option Nat) (most : Nat) : Nat := ps_sc (fun k => (pa_it L o (k + 1)).isSome) most 0
def pa_sb (L : List ps_L) (o : Option Nat) (j : Nat) : Nat := (pa_it L o (j + 1)).getD 0
theorem pa_it_lt {L : List ps_L} (hok : ps_okL L) {o : Option Nat} (ho : ∀ b, o = some b → b < 26) : ∀ (k c : Nat), pa_it L o k = some c → c < 26
  | 0, c, h => ho c h
  | k + 1, c, h => by
    unfold pa_it at h
    cases e : pa_it L o k with
    | none => rw [e] at h; cases h
    | some d => rw [e] at h; exact ps_nx_lt hok h
theorem pa_sb_lt {L : List ps_L} (hok : ps_okL L) {o : Option Nat} (ho : ∀ b, o = some b → b < 26) (j : Nat) : pa_sb L o j < 26 := by
  unfold pa_sb
  cases e : pa_it L o (j + 1) with
  | none => exact Nat.zero_lt_succ _
  | some c => exact pa_it_lt hok ho _ _ e
theorem ho_find {M : ps_M} {h q : Nat} {L : List ps_L} {o : Option Nat} {most : Nat} (hL : ps_RL M q L) (hL1 : L.length ≤ 61) (hoL : ps_okL L) (ho : ∀ b, o = some b → b < 26) (hs : o.isSome = true) (hl : ps_rd M q 2 = ps_cl o) (hm : most ≤ 40) (hq : h + 16 ≤ q ∨ q + 6 ≤ h) : ∃ M1, ff_X1_findSung h q (nI most) M = some (nI (pa_ct L o most), M1) ∧ (∀ j, j < pa_ct L o most → ps_rd M1 (h + 15) j = nI (pa_sb L o j)) ∧ ps_Fr (h + 15) (h + 16) M M1 := by
  obtain ⟨a, rfl⟩ : ∃ a, o = some a := Option.isSome_iff_exists.mp hs
  unfold ff_X1_findSung
  rw [hl]
  show ∃ M1, ps_b2 (ff_X3_nextBehind q (nI a) M) _ = _ ∧ _
  rw [pr_next hL hL1 hoL (ho a rfl), ps_b2E]
  refine Exists.elim (ps_whR (F := fun n k (_ : Unit) M1 => fk_X1_findSung_12 h n q (nI most) (nI k) (ps_cl (pa_it L (some a) (k + 1))) M1) (Rel := fun k _ M1 => (∀ j, j < k → ps_rd M1 (h + 15) j = nI (pa_sb L (some a) j)) ∧ ps_Fr (h + 15) (h + 16) M M1) most (fun k _ => (pa_it L (some a) (k + 1)).isSome) (fun _ u => u) (fun k _ M1 => some (nI k, M1)) (fun n k u M1 h1 h2 h3 => ?_) (fun n k u M1 h1 h2 h3 => ?_) most ps_fu 0 () M (by omega) (by unfold ps_fu; omega) ⟨fun j h => absurd h (Nat.not_lt_zero j), ps_Fr_rf⟩) (fun M1 z => ⟨M1, z⟩)
  · rw [fk_X1_findSung_12]
    by_cases c : k < most
    · have c2 : pa_it L (some a) (k + 1) = none := by
        have := h3 c
        cases e : pa_it L (some a) (k + 1) with
        | none => rfl
        | some d => rw [e] at this; cases this
      rw [c2, if_neg (nI_ge c (by omega)), if_neg (nI_ge (by omega) (by omega))]
      rfl
    · rw [if_pos (nI_le (by omega) (by omega))]
  · obtain ⟨d, hd⟩ : ∃ d, pa_it L (some a) (k + 1) = some d := Option.isSome_iff_exists.mp h3
    have hd2 := pa_it_lt hoL ho _ _ hd
    refine ⟨ps_st M1 (h + 15) k (nI d), ?_, fun j hj => ?_, ps_Fr_tr h2.2 (ps_Fr_st (by omega) (by omega))⟩
    · rw [fk_X1_findSung_12, hd, if_neg (nI_ge h1 (by omega)), if_neg (nI_ge (by omega) (by omega))]
      have e2 : pa_it L (some a) (k + 1 + 1) = ps_nx L d := by
        show (pa_it L (some a) (k + 1)).bind (ps_nx L) = _
        rw [hd]
        rfl
      have hL2 : ps_RL (ps_st M1 (h + 15) k (nI d)) q L := ps_RL_fr (ps_Fr_tr h2.2 (ps_Fr_st (lo := h + 15) (hi := h + 16) (by omega) (by omega))) (by omega) hL
      rw [e2]
      simp (disch := omega) only [ps_letE, ps_b2E, nI_add, pk_mul, nI_clamp, ev_inB, nI_leI, nI_ltI, nI_eq, if_pos, if_neg, ev_eqm, ev_eqm2, ev_ltm, ev_lem, ev_mlt, ev_mle, ev_mm, ev_subm, pk_sub, ev_true, if_true, if_false, ite_true, ite_false, Option.map, ev_rs, ev_ra, ev_rj, ev_cpO, ps_isB1, ps_isB0, ps_cl, pr_next hL2 hL1 hoL]
    · by_cases e : j = k
      · subst e
        rw [ev_rs]
        unfold pa_sb
        rw [hd]
        rfl
      · rw [ev_rj e]
        exact h2.1 j (by omega)
/-- bars heard until tired -/
def pa_ss (v : ps_H) (g : Nat → Nat) (n : Nat) (P : ps_P) : ps_P := (ps_wh (fun _ P => !(pa_ti v P)) (fun i P => pa_hear v (g i) P) n 0 P).2
theorem ho_sing {M : ps_M} {h q n : Nat} {v : ps_H} {P : ps_P} {g : Nat → Nat} (hS : ∀ j, j < 4 → ps_rd M (h + 1) j = nI (v.1 j)) (hok : ps_okH v) (hq : h + 16 ≤ q ∨ q + 6 ≤ h) (hn : n ≤ 40) (hg : ∀ j, j < n → ps_rd M (h + 15) j = nI (g j)) (hg2 : ∀ j, j < n → g j < 26) (hP : ps_RP M q P) (hPo : ps_ok P) : ∃ M1, ff_X1_singSungTo h q (nI n) M = some (nI 0, M1) ∧ ps_RP M1 q (pa_ss v g n P) ∧ ps_ok (pa_ss v g n P) ∧ ps_Fr q (q + 6) M M1 := by
  unfold ff_X1_singSungTo
  refine Exists.elim (ps_whR (F := fun f t (P : ps_P) M1 => fk_X1_singSungTo_2 h f q (nI n) (nI t) M1) (Rel := fun t P M1 => ps_RP M1 q P ∧ ps_ok P ∧ ps_Fr q (q + 6) M M1) n (fun _ P => !(pa_ti v P)) (fun t P => pa_hear v (g t) P) (fun t P M1 => some (nI 0, M1)) (fun f t P M1 h1 h2 h3 => ?_) (fun f t P M1 h1 h2 h3 => ?_) n ps_fu 0 P M (by omega) (by unfold ps_fu; omega) ⟨hP, hPo, ps_Fr_rf⟩) (fun M1 z => ⟨M1, z⟩)
  · obtain ⟨z1, z2, z3⟩ := h2
    have hS1 : ∀ k, k < 4 → ps_rd M1 (h + 1) k = nI (v.1 k) := fun k hk => by rw [z3.1 _ (by omega)]; exact hS k hk
    rw [fk_X1_singSungTo_2]
    by_cases c : t < n
    · have c2 : pa_ti v P = true := by simpa using h3 c
      rw [if_neg (nI_ge c (by omega)), if_neg (nI_ge (by omega) (by omega)), ho_tired hS1 z1, ps_b2E]
      unfold pa_bi
      rw [if_pos c2, if_neg (by rw [nI_eq (by omega) (by omega)]; omega)]
    · rw [if_pos (nI_le (by omega) (by omega))]
  · obtain ⟨z1, z2, z3⟩ := h2
    have hS1 : ∀ k, k < 4 → ps_rd M1 (h + 1) k = nI (v.1 k) := fun k hk => by rw [z3.1 _ (by omega)]; exact hS k hk
    have c2 : ¬ pa_ti v P = true := by simpa using h3
    obtain ⟨M2, e2, R2, F2⟩ := pr_hear z1 z2 (hg2 t h1) hok.1.2.2.1.1 hok.1.2.2.1.2 hok.1.1.2
    refine ⟨M2, ?_, R2, ok_hear hok z2 (hg2 t h1), ps_Fr_tr z3 F2⟩
    rw [fk_X1_singSungTo_2, if_neg (nI_ge h1 (by omega)), if_neg (nI_ge (by omega) (by omega)), ho_tired hS1 z1, ps_b2E]
    unfold pa_bi
    rw [if_neg c2, if_pos rfl]
    have hgt : ps_rd M1 (h + 15) t = nI (g t) := by rw [z3.1 _ (by omega)]; exact hg t h1
    simp (disch := omega) only [ps_letE, ps_b2E, nI_add, pk_mul, nI_clamp, ev_inB, nI_leI, nI_ltI, nI_eq, if_pos, if_neg, ev_eqm, ev_eqm2, ev_ltm, ev_lem, ev_mlt, ev_mle, ev_mm, ev_subm, pk_sub, ev_true, if_true, if_false, ite_true, ite_false, Option.map, ev_rs, ev_ra, ev_rj, ev_cpO, ps_isB1, ps_isB0, hgt, hS1 2, hS1 0, e2]
/-- some of the parrots, changed -/
def pa_mq (v : ps_H) (c : Nat → Bool) (g : ps_P → ps_P) : ps_H := (v.1, v.2.1, v.2.2.1, v.2.2.2.1, (fun k => if c k = true then g (v.2.2.2.2.1 k) else v.2.2.2.2.1 k), v.2.2.2.2.2)
theorem pa_mq_no {v : ps_H} {g : ps_P → ps_P} {c : Nat → Bool} (h : ∀ k, c k = false) : pa_mq v c g = v := by
  unfold pa_mq
  have : (fun k => if c k = true then g (v.2.2.2.2.1 k) else v.2.2.2.2.1 k) = v.2.2.2.2.1 := by
    funext k
    rw [if_neg (by rw [h k]; simp)]
  rw [this]
theorem pa_mq_st {v : ps_H} {g : ps_P → ps_P} {c d : Nat → Bool} {i : Nat} (h : ∀ k, d k = (c k || decide (k = i))) : pa_wP (pa_mq v c g) i (g (v.2.2.2.2.1 i)) = pa_mq v d g := by
  unfold pa_wP pa_mq
  have : pa_up (fun k => if c k = true then g (v.2.2.2.2.1 k) else v.2.2.2.2.1 k) i (g (v.2.2.2.2.1 i)) = (fun k => if d k = true then g (v.2.2.2.2.1 k) else v.2.2.2.2.1 k) := by
    funext k
    unfold pa_up
    by_cases e : k = i
    · rw [if_pos e, if_pos (by rw [h k]; simp [e]), e]
    · rw [if_neg e]
      have : d k = c k := by rw [h k]; simp [e]
      rw [this]
  dsimp only
  rw [this]
theorem ok_mq {v : ps_H} {g : ps_P → ps_P} {c : Nat → Bool} (hok : ps_okH v) (hc : ∀ k, c k = true → k < v.2.2.2.1) (hg : ∀ P, ps_ok P → ps_ok (g P)) : ps_okH (pa_mq v c g) := by
  obtain ⟨o1, o2, o3, o4, o5, o6⟩ := hok
  refine ⟨o1, o2, o3, fun k => ?_, fun k hk => ?_, o6⟩
  · show ps_ok (if c k = true then g (v.2.2.2.2.1 k) else v.2.2.2.2.1 k)
    by_cases e : c k = true
    · rw [if_pos e]; exact hg _ (o4 k)
    · rw [if_neg e]; exact o4 k
  · show (if c k = true then g (v.2.2.2.2.1 k) else v.2.2.2.2.1 k) = ps_new
    have hk' : v.2.2.2.1 ≤ k := hk
    rw [if_neg (fun e => absurd (hc k e) (Nat.not_lt.mpr hk'))]
    exact o5 k hk
theorem ok_ss {v : ps_H} (hok : ps_okH v) {g : Nat → Nat} {n : Nat} (hg : ∀ j, j < n → g j < 26) {P : ps_P} (hP : ps_ok P) : ps_ok (pa_ss v g n P) := ok_wh hok _ _ _ (fun t _ b => hg t (by omega)) hP
def op_prac (p b : Int32) (v : ps_H) : Int32 × ps_H :=
  if ps_inB p v.2.2.2.1 = true then
    (if nI 1 ≤ b ∧ b ≤ nI 40 then
      (if (v.2.2.2.2.1 p.toNatClampNeg).2.1 = none ∨ pa_ti v (v.2.2.2.2.1 p.toNatClampNeg) = true then (ps_m 5, v)
       else (nI (pa_ct (v.2.2.2.2.1 p.toNatClampNeg).1 (v.2.2.2.2.1 p.toNatClampNeg).2.1 b.toNatClampNeg), pa_mq v (fun k => decide (k < v.2.2.2.1)) (pa_ss v (pa_sb (v.2.2.2.2.1 p.toNatClampNeg).1 (v.2.2.2.2.1 p.toNatClampNeg).2.1) (pa_ct (v.2.2.2.2.1 p.toNatClampNeg).1 (v.2.2.2.2.1 p.toNatClampNeg).2.1 b.toNatClampNeg))))
     else (ps_m 2, v))
  else (ps_m 1, v)
theorem ok_prac {v : ps_H} (hok : ps_okH v) (p b : Int32) : ps_okH (op_prac p b v).2 := by
  unfold op_prac
  by_cases h1 : ps_inB p v.2.2.2.1 = true
  · rw [if_pos h1]
    by_cases h2 : nI 1 ≤ b ∧ b ≤ nI 40
    · rw [if_pos h2]
      by_cases h3 : (v.2.2.2.2.1 p.toNatClampNeg).2.1 = none ∨ pa_ti v (v.2.2.2.2.1 p.toNatClampNeg) = true
      · rw [if_pos h3]; exact hok
      · rw [if_neg h3]
        have hp := hok.2.2.2.1 p.toNatClampNeg
        exact ok_mq hok (fun k e => of_decide_eq_true e) (fun P hP => ok_ss hok (fun j _ => pa_sb_lt hp.2.1 hp.2.2 j) hP)
    · rw [if_neg h2]; exact hok
  · rw [if_neg h1]; exact hok
theorem pa_ct_le (L : List ps_L) (o : Option Nat) (m : Nat) : pa_ct L o m ≤ m := by
  have := (ps_sc_spec (fun k => (pa_it L o (k + 1)).isSome) m 0).2.1
  unfold pa_ct
  omega
theorem ps_cl_n {o : Option Nat} (h : ∀ b, o = some b → b < 26) : (ps_cl o = ps_m 6) = (o = none) := by
  cases o with
  | none => simp [ps_cl]
  | some b =>
    have := h b rfl
    show (nI b = ps_m 6) = _
    rw [ev_eqm (by omega) (by omega) (by omega)]
    simp
theorem ps_dlt (k t : Nat) : decide (k < t + 1) = (decide (k < t) || decide (k = t)) := by
  rw [Bool.eq_iff_iff]
  simp
  omega
theorem ho_prac {M : ps_M} {h : Nat} {v : ps_H} (hR : ps_RH M h v) (hok : ps_okH v) (p b : Int32) : ∃ M1, ff_X1_letPractise h p b M = some ((op_prac p b v).1, M1) ∧ ps_RH M1 h (op_prac p b v).2 ∧ ps_Fr h (h + 40) M M1 := by
  have np := hok.2.2.1
  unfold ff_X1_letPractise
  rcases ps_cas p v.2.2.2.1 (by omega) with ⟨j, hj, rfl⟩ | hp
  · rw [ho_has hR hok hj, ps_b2E, if_neg (by rw [nI_eq (by omega) (by omega)]; omega)]
    by_cases hb : nI 1 ≤ b ∧ b ≤ nI 40
    · rw [if_neg (Int32.not_lt.mpr hb.1), if_pos hb.2, if_pos (ev_inB (by omega) (by omega)), nI_clamp (by omega)]
      have hP := hR.2.2.2.1 j (by omega)
      have hPo := hok.2.2.2.1 j
      rw [hP.2.1, ho_tired hR.1 hP]
      by_cases hl : (v.2.2.2.2.1 j).2.1 = none ∨ pa_ti v (v.2.2.2.2.1 j) = true
      · have e : op_prac (nI j) b v = (ps_m 5, v) := by
          unfold op_prac
          rw [if_pos (ev_inB hj (by omega)), if_pos hb, nI_clamp (by omega), if_pos hl]
        rw [e]
        refine ⟨M, ?_, hR, ps_Fr_rf⟩
        by_cases c : ps_cl (v.2.2.2.2.1 j).2.1 = ps_m 6
        · rw [if_pos c]
        · rw [if_neg c, ps_b2E]
          have c2 := hl.resolve_left (fun z => c ((ps_cl_n hPo.2.2).mpr z))
          unfold pa_bi
          rw [if_pos c2, if_neg (by rw [nI_eq (by omega) (by omega)]; omega)]
      · have hn1 : ¬ (v.2.2.2.2.1 j).2.1 = none := fun z => hl (Or.inl z)
        have hn2 : ¬ pa_ti v (v.2.2.2.2.1 j) = true := fun z => hl (Or.inr z)
        obtain ⟨w, w1, w2, rfl⟩ := ps_btw (by omega) hb.1 hb.2 (by omega)
        have e : op_prac (nI j) (nI w) v = (nI (pa_ct (v.2.2.2.2.1 j).1 (v.2.2.2.2.1 j).2.1 w), pa_mq v (fun k => decide (k < v.2.2.2.1)) (pa_ss v (pa_sb (v.2.2.2.2.1 j).1 (v.2.2.2.2.1 j).2.1) (pa_ct (v.2.2.2.2.1 j).1 (v.2.2.2.2.1 j).2.1 w))) := by
          unfold op_prac
          rw [if_pos (ev_inB hj (by omega)), if_pos hb, nI_clamp (by omega), nI_clamp (by omega), if_neg hl]
        rw [e, if_neg (fun z => hn1 ((ps_cl_n hPo.2.2).mp z)), ps_b2E]
        unfold pa_bi
        rw [if_neg hn2, if_pos rfl]
        have hs : (v.2.2.2.2.1 j).2.1.isSome = true := by
          cases e : (v.2.2.2.2.1 j).2.1 with
          | none => exact absurd e hn1
          | some c => rfl
        have hct := pa_ct_le (v.2.2.2.2.1 j).1 (v.2.2.2.2.1 j).2.1 w
        obtain ⟨M2, e2, S2, F2⟩ := ho_find (h := h) (most := w) hP.1 (Nat.le_trans hPo.1 (by omega)) hPo.2.1 hPo.2.2 hs hP.2.1 w2 (by omega)
        rw [e2, ps_b2E]
        generalize hC : pa_ct (v.2.2.2.2.1 j).1 (v.2.2.2.2.1 j).2.1 w = C at e2 S2 hct
        generalize hG : pa_sb (v.2.2.2.2.1 j).1 (v.2.2.2.2.1 j).2.1 = G at S2
        have hG2 : ∀ i, i < C → G i < 26 := fun i _ => by rw [← hG]; exact pa_sb_lt hPo.2.1 hPo.2.2 i
        have hR2 : ps_RH M2 h v := by
          obtain ⟨r1, r2, r3, r4, r5⟩ := hR
          exact ⟨fun k hk => by rw [F2.1 _ (by omega)]; exact r1 k hk, ps_RB_fr F2 hok.2.1.1 (by omega) r2, by rw [F2.1 _ (by omega)]; exact r3, fun k hk => ps_RP_fr F2 (by omega) (r4 k hk), by rw [F2.1 _ (by omega)]; exact r5⟩
        obtain ⟨M3, e3, P3, O3, F3⟩ := ho_sing (h := h) (q := h + 14 + 2 + 6 * j) (n := C) hR2.1 hok (by omega) (by omega) S2 hG2 (hR2.2.2.2.1 j (by omega)) hPo
        rw [e3, ps_b2E]
        refine Exists.elim (ps_whR (F := fun f t (_ : Unit) M1 => fk_X1_letPractise_69 h f (nI j) (nI w) (h + 14 + 2 + 6 * j) (nI C) (nI t) M1) (Rel := fun t _ M1 => ps_RH M1 h (pa_mq v (fun k => decide (k = j) || decide (k < t)) (pa_ss v G C)) ∧ (∀ i, i < C → ps_rd M1 (h + 15) i = nI (G i)) ∧ ps_Fr h (h + 40) M M1) v.2.2.2.1 (fun _ _ => true) (fun _ u => u) (fun t _ M1 => some (nI C, M1)) (fun f t u M1 h1 h2 h3 => ?_) (fun f t u M1 h1 h2 h3 => ?_) v.2.2.2.1 ps_fu 0 () M3 (by omega) (by unfold ps_fu; omega) ⟨?_, fun i hi => by rw [F3.1 _ (by omega)]; exact S2 i hi, ps_Fr_tr (ps_Fr_wd F2 (by omega) (by omega)) (ps_Fr_wd F3 (by omega) (by omega))⟩) (fun M1 z => ?_)
        · have c : ¬ t < v.2.2.2.1 := fun c => absurd (h3 c) (by simp)
          have hc : ps_rd M1 h 3 = nI v.2.2.2.1 := h2.1.2.2.1
          rw [fk_X1_letPractise_69, hc, if_pos (nI_le (Nat.not_lt.mp c) (by omega))]
        · have hc : ps_rd M1 h 3 = nI v.2.2.2.1 := h2.1.2.2.1
          rw [fk_X1_letPractise_69, hc, if_neg (nI_ge h1 (by omega))]
          by_cases c : t = j
          · refine ⟨M1, ?_, ?_, h2.2⟩
            · rw [c, if_pos rfl, ps_letE, nI_add]
            · have : (fun k => decide (k = j) || decide (k < t + 1)) = (fun k => decide (k = j) || decide (k < t)) := by
                funext k
                rw [ps_dlt, c]
                by_cases a : k = j <;> simp [a]
              rw [this]
              exact h2.1
          · have hS1 : ∀ k, k < 4 → ps_rd M1 (h + 1) k = nI (v.1 k) := h2.1.1
            have hpt : ps_RP M1 (h + 14 + 2 + 6 * t) (v.2.2.2.2.1 t) := by
              have := h2.1.2.2.2.1 t (by omega)
              dsimp only [pa_mq] at this
              rw [if_neg (by simp [c])] at this
              exact this
            obtain ⟨M4, e4, P4, O4, F4⟩ := ho_sing (h := h) (q := h + 14 + 2 + 6 * t) (n := C) hS1 hok (by omega) (by omega) h2.2.1 hG2 hpt (hok.2.2.2.1 t)
            have hokq : ps_okH (pa_mq v (fun k => decide (k = j) || decide (k < t)) (pa_ss v G C)) := ok_mq hok (fun k ek => by simp at ek; omega) (fun P hP => ok_ss hok hG2 hP)
            refine ⟨M4, ?_, ?_, fun i hi => by rw [F4.1 _ (by omega)]; exact h2.2.1 i hi, ps_Fr_tr h2.2.2 (ps_Fr_wd F4 (by omega) (by omega))⟩
            · rw [if_neg (by rw [nI_eq (by omega) (by omega)]; exact c), if_pos (ev_inB (by omega) (by omega)), nI_clamp (by omega), e4, ps_b2E, ps_letE, nI_add]
            · have := ps_RH_wP hokq (j := t) (by omega) F4 h2.1 P4
              rw [pa_mq_st (d := fun k => decide (k = j) || decide (k < t + 1)) (fun k => by rw [ps_dlt, Bool.or_assoc])] at this
              exact this
        · have := ps_RH_wP hok (j := j) (by omega) F3 hR2 P3
          have e5 : pa_wP v j (pa_ss v G C (v.2.2.2.2.1 j)) = pa_mq v (fun k => decide (k = j) || decide (k < 0)) (pa_ss v G C) := by
            have := pa_mq_st (v := v) (g := pa_ss v G C) (c := fun _ => false) (d := fun k => decide (k = j) || decide (k < 0)) (i := j) (fun k => by simp)
            rw [pa_mq_no (fun _ => rfl)] at this
            exact this
          rw [e5] at this
          exact this
        · obtain ⟨e6, z1, z2, z3⟩ := z
          rw [ps_wh_all, Nat.zero_add] at z1
          refine ⟨M1, ?_, ?_, z3⟩
          · exact e6
          · show ps_RH M1 h (pa_mq v (fun k => decide (k < v.2.2.2.1)) (pa_ss v G C))
            have : (fun k => decide (k = j) || decide (k < v.2.2.2.1)) = (fun k => decide (k < v.2.2.2.1)) := by
              funext k
              by_cases a : k = j
              · subst a
                simp [hj]
              · simp [a]
            rw [this] at z1
            exact z1
    · have e : op_prac (nI j) b v = (ps_m 2, v) := by
        unfold op_prac
        rw [if_pos (ev_inB hj (by omega)), if_neg hb]
      rw [e]
      refine ⟨M, ?_, hR, ps_Fr_rf⟩
      by_cases c1 : b < nI 1
      · rw [if_pos c1]
      · rw [if_neg c1, if_neg (fun c2 => hb ⟨Int32.not_lt.mp c1, c2⟩)]
  · have e : op_prac p b v = (ps_m 1, v) := if_neg (ps_inBN hp (by omega))
    rw [e, ho_hasN hR hp, ps_b2E, if_pos rfl]
    exact ⟨M, rfl, hR, ps_Fr_rf⟩
/-! a night -/
def pa_gone (v : ps_H) : Int32 := ps_fo (fun j s => s + nI ((v.2.2.2.2.1 j).1.length - ((v.2.2.2.2.1 j).1.filterMap (ps_fa (v.1 1))).length)) v.2.2.2.1 (nI 0)
def pa_nt (v : ps_H) : ps_H := pa_mq v (fun k => decide (k < v.2.2.2.1)) (ps_sl (v.1 1))
def op_nt (v : ps_H) : Int32 × ps_H := if v.2.2.2.2.2 < 999 then (pa_gone v, (v.1, v.2.1, v.2.2.1, v.2.2.2.1, (pa_nt v).2.2.2.2.1, v.2.2.2.2.2 + 1)) else (ps_m 5, v)
theorem ok_nt0 {v : ps_H} (hok : ps_okH v) : ps_okH (pa_nt v) := ok_mq hok (fun k e => of_decide_eq_true e) (fun P hP => ok_sl hP _)
theorem ok_nt {v : ps_H} (hok : ps_okH v) : ps_okH (op_nt v).2 := by
  unfold op_nt
  by_cases c : v.2.2.2.2.2 < 999
  · rw [if_pos c]
    obtain ⟨o1, o2, o3, o4, o5, o6⟩ := ok_nt0 hok
    exact ⟨o1, o2, o3, o4, o5, c⟩
  · rw [if_neg c]; exact hok
theorem ho_nt {M : ps_M} {h : Nat} {v : ps_H} (hR : ps_RH M h v) (hok : ps_okH v) : ∃ M1, ff_X1_passNight h M = some ((op_nt v).1, M1) ∧ ps_RH M1 h (op_nt v).2 ∧ ps_Fr h (h + 40) M M1 := by
  have np := hok.2.2.1
  have ng := hok.2.2.2.2.2
  unfold ff_X1_passNight op_nt
  rw [hR.2.2.2.2]
  by_cases c : v.2.2.2.2.2 < 999
  · rw [if_pos c, if_pos (nI_lt c (by omega))]
    refine Exists.elim (ps_whR (F := fun f t (s : Int32) M1 => fk_X1_passNight_17 h f s (nI t) M1) (Rel := fun t _ M1 => ps_RH M1 h (pa_mq v (fun k => decide (k < t)) (ps_sl (v.1 1))) ∧ ps_Fr h (h + 40) M M1) v.2.2.2.1 (fun _ _ => true) (fun j s => s + nI ((v.2.2.2.2.1 j).1.length - ((v.2.2.2.2.1 j).1.filterMap (ps_fa (v.1 1))).length)) (fun t s M1 => some (s, ps_st M1 h 4 (nI (v.2.2.2.2.2 + 1)))) (fun f t s M1 h1 h2 h3 => ?_) (fun f t s M1 h1 h2 h3 => ?_) v.2.2.2.1 ps_fu 0 (nI 0) M (by omega) (by unfold ps_fu; omega) ⟨by rw [pa_mq_no (fun k => by simp)]; exact hR, ps_Fr_rf⟩) (fun M1 z => ?_)
    · have c2 : ¬ t < v.2.2.2.1 := fun c => absurd (h3 c) (by simp)
      have hc : ps_rd M1 h 3 = nI v.2.2.2.1 := h2.1.2.2.1
      have hg : ps_rd M1 h 4 = nI v.2.2.2.2.2 := h2.1.2.2.2.2
      rw [fk_X1_passNight_17, hc, hg, if_pos (nI_le (Nat.not_lt.mp c2) (by omega)), ps_letE, nI_add]
    · have hc : ps_rd M1 h 3 = nI v.2.2.2.1 := h2.1.2.2.1
      have hs1 : ps_rd M1 (h + 1) 1 = nI (v.1 1) := h2.1.1 1 (by omega)
      have hpt : ps_RP M1 (h + 14 + 2 + 6 * t) (v.2.2.2.2.1 t) := by
        have := h2.1.2.2.2.1 t (by omega)
        dsimp only [pa_mq] at this
        rw [if_neg (by simp)] at this
        exact this
      obtain ⟨M4, e4, P4, F4⟩ := pr_sleep hpt (hok.2.2.2.1 t) hok.1.2.1
      have hokq : ps_okH (pa_mq v (fun k => decide (k < t)) (ps_sl (v.1 1))) := ok_mq hok (fun k ek => by simp at ek; omega) (fun P hP => ok_sl hP _)
      refine ⟨M4, ?_, ?_, ps_Fr_tr h2.2 (ps_Fr_wd F4 (by omega) (by omega))⟩
      · rw [fk_X1_passNight_17, hc, if_neg (nI_ge h1 (by omega))]
        simp (disch := omega) only [ps_letE, ps_b2E, nI_add, pk_mul, nI_clamp, ev_inB, nI_leI, nI_ltI, nI_eq, if_pos, if_neg, ev_eqm, ev_eqm2, ev_ltm, ev_lem, ev_mlt, ev_mle, ev_mm, ev_subm, pk_sub, ev_true, if_true, if_false, ite_true, ite_false, Option.map, ev_rs, ev_ra, ev_rj, ev_cpO, ps_isB1, ps_isB0, hs1, e4]
      · have := ps_RH_wP hokq (j := t) (by omega) F4 h2.1 P4
        rw [pa_mq_st (d := fun k => decide (k < t + 1)) (fun k => ps_dlt k t)] at this
        exact this
    · obtain ⟨e, z1, z2⟩ := z
      rw [ps_wh_all, Nat.zero_add] at z1
      obtain ⟨r1, r2, r3, r4, r5⟩ := z1
      exact ⟨_, e, ⟨fun k hk => by rw [ev_ra (by omega)]; exact r1 k hk, ps_RB_fr (ps_Fr_st (lo := h) (hi := h + 1) (by omega) (by omega)) hok.2.1.1 (by omega) r2, by rw [ev_rj (by omega)]; exact r3, fun k hk => ps_RP_fr (ps_Fr_st (lo := h) (hi := h + 1) (by omega) (by omega)) (by omega) (r4 k hk), by rw [ev_rs]⟩, ps_Fr_tr z2 (ps_Fr_st (by omega) (by omega))⟩
  · rw [if_neg c, if_neg (nI_nlt (by omega) (by omega))]
    exact ⟨M, rfl, hR, ps_Fr_rf⟩
/-! sums and sets over the parrots -/
theorem ho_knowing {M : ps_M} {h : Nat} {v : ps_H} (hR : ps_RH M h v) (hok : ps_okH v) {i : Nat} (hi : i < v.2.1) : ff_X1_parrotsKnowing h (nI i) M = some (pa_set (fun j => pa_kn (v.2.2.2.2.1 j).1 (v.2.2.1 i)) v.2.2.2.1, M) := by
  have np := hok.2.2.1
  unfold ff_X1_parrotsKnowing
  refine (ps_whP (F := fun n t (s : Int32) => fk_X1_parrotsKnowing_4 h n (nI i) s (nI t) M) (I := fun _ _ => True) v.2.2.2.1 (fun _ _ => true) _ (fun t s => some (s, M)) (fun n t s h1 h2 h3 => ?_) (fun n t s h1 h2 h3 => ⟨?_, trivial⟩) v.2.2.2.1 ps_fu 0 (nI 0) (by omega) (by unfold ps_fu; omega) trivial).1
  · rw [fk_X1_parrotsKnowing_4, hR.2.2.1]
    have h4 : ¬ t < v.2.2.2.1 := fun q => by simp at h3; omega
    simp (disch := omega) only [ps_letE, ps_b2E, nI_add, pk_mul, nI_clamp, ev_inB, nI_leI, nI_ltI, nI_eq, if_pos, if_neg, ev_eqm, ev_eqm2, ev_ltm, ev_lem, ev_mlt, ev_mle, ev_mm, ev_subm, pk_sub, ev_true, if_true, if_false, ite_true, ite_false, Option.map, ev_rs, ev_ra, ev_rj, ev_cpO, ps_isB1, ps_isB0]
  · have hP := hR.2.2.2.1 t (by omega)
    have hPo := hok.2.2.2.1 t
    rw [fk_X1_parrotsKnowing_4, hR.2.2.1, if_neg (nI_ge h1 (by omega)), if_pos (ev_inB (by omega) (by omega)), nI_clamp (by omega), bk_known hR.2.1 hok.2.1 hP.1 (Nat.le_trans hPo.1 (by omega)) hPo.2.1 hi, ps_b2E]
    cases c : pa_kn (v.2.2.2.2.1 t).1 (v.2.2.1 i)
    · simp (disch := omega) only [ps_letE, ps_b2E, nI_add, pk_mul, nI_clamp, ev_inB, nI_leI, nI_ltI, nI_eq, if_pos, if_neg, ev_eqm, ev_eqm2, ev_ltm, ev_lem, ev_mlt, ev_mle, ev_mm, ev_subm, pk_sub, ev_true, if_true, if_false, ite_true, ite_false, Option.map, ev_rs, ev_ra, ev_rj, ev_cpO, ps_isB1, ps_isB0, pa_bi, c, Bool.false_eq_true]
    · simp (disch := omega) only [ps_letE, ps_b2E, nI_add, pk_mul, nI_clamp, ev_inB, nI_leI, nI_ltI, nI_eq, if_pos, if_neg, ev_eqm, ev_eqm2, ev_ltm, ev_lem, ev_mlt, ev_mle, ev_mm, ev_subm, pk_sub, ev_true, if_true, if_false, ite_true, ite_false, Option.map, ev_rs, ev_ra, ev_rj, ev_cpO, ps_isB1, ps_isB0, pa_bi, c]
theorem ho_tireds {M : ps_M} {h : Nat} {v : ps_H} (hR : ps_RH M h v) (hok : ps_okH v) : ff_X1_tiredParrots h M = some (pa_set (fun j => pa_ti v (v.2.2.2.2.1 j)) v.2.2.2.1, M) := by
  have np := hok.2.2.1
  unfold ff_X1_tiredParrots
  refine (ps_whP (F := fun n t (s : Int32) => fk_X1_tiredParrots_4 h n s (nI t) M) (I := fun _ _ => True) v.2.2.2.1 (fun _ _ => true) _ (fun t s => some (s, M)) (fun n t s h1 h2 h3 => ?_) (fun n t s h1 h2 h3 => ⟨?_, trivial⟩) v.2.2.2.1 ps_fu 0 (nI 0) (by omega) (by unfold ps_fu; omega) trivial).1
  · rw [fk_X1_tiredParrots_4, hR.2.2.1]
    have h4 : ¬ t < v.2.2.2.1 := fun q => by simp at h3; omega
    simp (disch := omega) only [ps_letE, ps_b2E, nI_add, pk_mul, nI_clamp, ev_inB, nI_leI, nI_ltI, nI_eq, if_pos, if_neg, ev_eqm, ev_eqm2, ev_ltm, ev_lem, ev_mlt, ev_mle, ev_mm, ev_subm, pk_sub, ev_true, if_true, if_false, ite_true, ite_false, Option.map, ev_rs, ev_ra, ev_rj, ev_cpO, ps_isB1, ps_isB0]
  · have hP := hR.2.2.2.1 t (by omega)
    rw [fk_X1_tiredParrots_4, hR.2.2.1, if_neg (nI_ge h1 (by omega)), if_pos (ev_inB (by omega) (by omega)), nI_clamp (by omega), ho_tired hR.1 hP, ps_b2E]
    cases c : pa_ti v (v.2.2.2.2.1 t)
    · simp (disch := omega) only [ps_letE, ps_b2E, nI_add, pk_mul, nI_clamp, ev_inB, nI_leI, nI_ltI, nI_eq, if_pos, if_neg, ev_eqm, ev_eqm2, ev_ltm, ev_lem, ev_mlt, ev_mle, ev_mm, ev_subm, pk_sub, ev_true, if_true, if_false, ite_true, ite_false, Option.map, ev_rs, ev_ra, ev_rj, ev_cpO, ps_isB1, ps_isB0, pa_bi, c, Bool.false_eq_true]
    · simp (disch := omega) only [ps_letE, ps_b2E, nI_add, pk_mul, nI_clamp, ev_inB, nI_leI, nI_ltI, nI_eq, if_pos, if_neg, ev_eqm, ev_eqm2, ev_ltm, ev_lem, ev_mlt, ev_mle, ev_mm, ev_subm, pk_sub, ev_true, if_true, if_false, ite_true, ite_false, Option.map, ev_rs, ev_ra, ev_rj, ev_cpO, ps_isB1, ps_isB0, pa_bi, c]
def pa_sm (f : Nat → Int32) (n : Nat) : Int32 := ps_fo (fun j s => s + f j) n (nI 0)
theorem ho_heard {M : ps_M} {h : Nat} {v : ps_H} (hR : ps_RH M h v) (hok : ps_okH v) : ff_X1_heardByAll h M = some (pa_sm (fun j => (v.2.2.2.2.1 j).2.2.2.1) v.2.2.2.1, M) := by
  have np := hok.2.2.1
  unfold ff_X1_heardByAll
  refine (ps_whP (F := fun n t (s : Int32) => fk_X1_heardByAll_4 h n s (nI t) M) (I := fun _ _ => True) v.2.2.2.1 (fun _ _ => true) _ (fun t s => some (s, M)) (fun n t s h1 h2 h3 => ?_) (fun n t s h1 h2 h3 => ⟨?_, trivial⟩) v.2.2.2.1 ps_fu 0 (nI 0) (by omega) (by unfold ps_fu; omega) trivial).1
  · rw [fk_X1_heardByAll_4, hR.2.2.1]
    have h4 : ¬ t < v.2.2.2.1 := fun q => by simp at h3; omega
    simp (disch := omega) only [ps_letE, ps_b2E, nI_add, pk_mul, nI_clamp, ev_inB, nI_leI, nI_ltI, nI_eq, if_pos, if_neg, ev_eqm, ev_eqm2, ev_ltm, ev_lem, ev_mlt, ev_mle, ev_mm, ev_subm, pk_sub, ev_true, if_true, if_false, ite_true, ite_false, Option.map, ev_rs, ev_ra, ev_rj, ev_cpO, ps_isB1, ps_isB0]
  · have hP := (hR.2.2.2.1 t (by omega)).2.2.2.1
    rw [fk_X1_heardByAll_4, hR.2.2.1, if_neg (nI_ge h1 (by omega)), if_pos (ev_inB (by omega) (by omega)), nI_clamp (by omega), hP, ps_letE, ps_letE, nI_add]
theorem ho_links {M : ps_M} {h : Nat} {v : ps_H} (hR : ps_RH M h v) (hok : ps_okH v) : ff_X1_linksOfAll h M = some (pa_sm (fun j => nI (v.2.2.2.2.1 j).1.length) v.2.2.2.1, M) := by
  have np := hok.2.2.1
  unfold ff_X1_linksOfAll
  refine (ps_whP (F := fun n t (s : Int32) => fk_X1_linksOfAll_4 h n s (nI t) M) (I := fun _ _ => True) v.2.2.2.1 (fun _ _ => true) _ (fun t s => some (s, M)) (fun n t s h1 h2 h3 => ?_) (fun n t s h1 h2 h3 => ⟨?_, trivial⟩) v.2.2.2.1 ps_fu 0 (nI 0) (by omega) (by unfold ps_fu; omega) trivial).1
  · rw [fk_X1_linksOfAll_4, hR.2.2.1]
    have h4 : ¬ t < v.2.2.2.1 := fun q => by simp at h3; omega
    simp (disch := omega) only [ps_letE, ps_b2E, nI_add, pk_mul, nI_clamp, ev_inB, nI_leI, nI_ltI, nI_eq, if_pos, if_neg, ev_eqm, ev_eqm2, ev_ltm, ev_lem, ev_mlt, ev_mle, ev_mm, ev_subm, pk_sub, ev_true, if_true, if_false, ite_true, ite_false, Option.map, ev_rs, ev_ra, ev_rj, ev_cpO, ps_isB1, ps_isB0]
  · have hP := (hR.2.2.2.1 t (by omega)).1.1
    rw [fk_X1_linksOfAll_4, hR.2.2.1, if_neg (nI_ge h1 (by omega)), if_pos (ev_inB (by omega) (by omega)), nI_clamp (by omega), hP, ps_letE, ps_letE, nI_add]
theorem ho_forg {M : ps_M} {h : Nat} {v : ps_H} (hR : ps_RH M h v) (hok : ps_okH v) : ff_X1_forgottenByAll h M = some (pa_sm (fun j => (v.2.2.2.2.1 j).2.2.2.2) v.2.2.2.1, M) := by
  have np := hok.2.2.1
  unfold ff_X1_forgottenByAll
  refine (ps_whP (F := fun n t (s : Int32) => fk_X1_forgottenByAll_4 h n s (nI t) M) (I := fun _ _ => True) v.2.2.2.1 (fun _ _ => true) _ (fun t s => some (s, M)) (fun n t s h1 h2 h3 => ?_) (fun n t s h1 h2 h3 => ⟨?_, trivial⟩) v.2.2.2.1 ps_fu 0 (nI 0) (by omega) (by unfold ps_fu; omega) trivial).1
  · rw [fk_X1_forgottenByAll_4, hR.2.2.1]
    have h4 : ¬ t < v.2.2.2.1 := fun q => by simp at h3; omega
    simp (disch := omega) only [ps_letE, ps_b2E, nI_add, pk_mul, nI_clamp, ev_inB, nI_leI, nI_ltI, nI_eq, if_pos, if_neg, ev_eqm, ev_eqm2, ev_ltm, ev_lem, ev_mlt, ev_mle, ev_mm, ev_subm, pk_sub, ev_true, if_true, if_false, ite_true, ite_false, Option.map, ev_rs, ev_ra, ev_rj, ev_cpO, ps_isB1, ps_isB0]
  · have hP := (hR.2.2.2.1 t (by omega)).2.2.2.2
    rw [fk_X1_forgottenByAll_4, hR.2.2.1, if_neg (nI_ge h1 (by omega)), if_pos (ev_inB (by omega) (by omega)), nI_clamp (by omega), hP, ps_letE, ps_letE, nI_add]
/-- a copy of a house -/
theorem ho_copy {M : ps_M} {h b : Nat} {v : ps_H} (hR : ps_RH M b v) (hok : ps_okH v) (hq : h + 40 ≤ b ∨ b + 40 ≤ h) : ∃ M1, ff_X1_copyFrom h b M = some (nI 0, M1) ∧ ps_RH M1 h v ∧ ps_Fr h (h + 40) M M1 := by
  obtain ⟨r1, r2, r3, r4, r5⟩ := hR
  unfold ff_X1_copyFrom
  rw [nI_clamp (by omega), nI_clamp (by omega), if_pos (ev_cpO (by omega) (by omega) (by omega) (by omega)), ps_letE]
  have F1 : ps_Fr (h + 1) (h + 2) M (ps_cp M (b + 1) 0 (h + 1) 0 4) := ps_Fr_cp (by omega) (by omega)
  obtain ⟨M2, e2, B2, F2⟩ := bk_copy (q := h + 2) (ps_RB_fr F1 hok.2.1.1 (by omega) r2) hok.2.1 (by omega)
  rw [e2, ps_b2E]
  have F3 : ps_Fr h (h + 40) M M2 := ps_Fr_tr (ps_Fr_wd F1 (by omega) (by omega)) (ps_Fr_wd F2 (by omega) (by omega))
  refine Exists.elim (ps_whR (F := fun n t (_ : Unit) M1 => fk_X1_copyFrom_27 h n b (nI t) M1) (Rel := fun t _ M1 => (∀ k, k < t → ps_RP M1 (h + 14 + 2 + 6 * k) (v.2.2.2.2.1 k)) ∧ ps_Fr (h + 14 + 2) (h + 40) M2 M1) 4 (fun _ _ => true) (fun _ u => u) (fun t _ M1 => some (nI 0, ps_st (ps_st M1 h 3 (nI v.2.2.2.1)) h 4 (nI v.2.2.2.2.2))) (fun n t u M1 h1 h2 h3 => ?_) (fun n t u M1 h1 h2 h3 => ?_) 4 ps_fu 0 () M2 (by omega) (by unfold ps_fu; omega) ⟨fun k hk => absurd hk (Nat.not_lt_zero k), ps_Fr_rf⟩) (fun M1 z => ?_)
  · have c : ¬ t < 4 := fun c => absurd (h3 c) (by simp)
    have e3 : ps_rd M1 b 3 = nI v.2.2.2.1 := by rw [h2.2.1 _ (by omega), F3.1 _ (by omega)]; exact r3
    have e4 : ps_rd M1 b 4 = nI v.2.2.2.2.2 := by rw [h2.2.1 _ (by omega), F3.1 _ (by omega)]; exact r5
    rw [fk_X1_copyFrom_27, if_pos (nI_le (Nat.not_lt.mp c) (by omega))]
    simp (disch := omega) only [ps_letE, ps_b2E, nI_add, pk_mul, nI_clamp, ev_inB, nI_leI, nI_ltI, nI_eq, if_pos, if_neg, ev_eqm, ev_eqm2, ev_ltm, ev_lem, ev_mlt, ev_mle, ev_mm, ev_subm, pk_sub, ev_true, if_true, if_false, ite_true, ite_false, Option.map, ev_rs, ev_ra, ev_rj, ev_cpO, ps_isB1, ps_isB0, e3, e4]
  · have hP : ps_RP M1 (b + 14 + 2 + 6 * t) (v.2.2.2.2.1 t) := ps_RP_fr (ps_Fr_wd h2.2 (by omega : h ≤ h + 14 + 2) (Nat.le_refl _)) (by omega) (ps_RP_fr F3 (by omega) (r4 t h1))
    obtain ⟨M4, e4, P4, F4⟩ := pr_copy (q := h + 14 + 2 + 6 * t) hP (Nat.le_trans (hok.2.2.2.1 t).1 (by omega)) (by omega)
    refine ⟨M4, ?_, fun k hk => ?_, ps_Fr_tr h2.2 (ps_Fr_wd F4 (by omega) (by omega))⟩
    · rw [fk_X1_copyFrom_27, if_neg (nI_ge h1 (by omega)), if_pos (ev_inB (by omega) (by omega)), if_pos (ev_inB (by omega) (by omega)), nI_clamp (by omega), e4, ps_b2E, ps_letE, nI_add]
    · by_cases e : k = t
      · rw [e]; exact P4
      · exact ps_RP_fr F4 (by omega) (h2.1 k (by omega))
  · obtain ⟨e, z1, z2⟩ := z
    rw [ps_wh_all, Nat.zero_add] at z1
    refine ⟨_, e, ⟨fun k hk => ?_, ?_, by rw [ev_rj (by omega), ev_rs], fun k hk => ?_, by rw [ev_rs]⟩, ps_Fr_tr F3 (ps_Fr_tr (ps_Fr_wd z2 (by omega) (by omega)) (ps_Fr_tr (ps_Fr_st (by omega) (by omega)) (ps_Fr_st (by omega) (by omega))))⟩
    · rw [ev_ra (by omega), ev_ra (by omega), z2.1 _ (by omega), F2.1 _ (by omega), ev_ci (by omega) (by omega)]
      rw [Nat.sub_zero, Nat.zero_add]
      exact r1 k hk
    · exact ps_RB_fr (ps_Fr_tr (ps_Fr_st (lo := h) (hi := h + 1) (by omega) (by omega)) (ps_Fr_st (by omega) (by omega))) hok.2.1.1 (by omega) (ps_RB_fr z2 hok.2.1.1 (by omega) B2)
    · exact ps_RP_fr (ps_Fr_tr (ps_Fr_st (lo := h) (hi := h + 1) (by omega) (by omega)) (ps_Fr_st (by omega) (by omega))) (by omega) (z1 k hk)
