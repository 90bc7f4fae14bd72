/-! what the law keeps to: the parrots' counts, the nights -/
def li_P (B : Nat) (P : ps_P) : Prop := ∃ t s : Nat, P.2.2.1 = nI t ∧ P.2.2.2.1 = nI s ∧ t ≤ s ∧ s ≤ B ∧ (P.2.1 ≠ none → 1 ≤ t)
def li_V (k : Nat) (v : ps_H) : Prop := 1 ≤ v.2.2.2.1 ∧ 1 ≤ v.2.1 ∧ v.2.2.2.2.2 ≤ k ∧ ∀ j, li_P (40 * k) (v.2.2.2.2.1 j)
theorem li_mo {B C : Nat} {P : ps_P} (h : li_P B P) (hBC : B ≤ C) : li_P C P := by
  obtain ⟨t, s, h1, h2, h3, h4, h5⟩ := h
  exact ⟨t, s, h1, h2, h3, Nat.le_trans h4 hBC, h5⟩
theorem li_hr {v : ps_H} {bar t s : Nat} {P : ps_P} (h1 : P.2.2.1 = nI t) (h2 : P.2.2.2.1 = nI s) : (pa_hear v bar P).2.1 = some bar ∧ (pa_hear v bar P).2.2.1 = nI (t + 1) ∧ (pa_hear v bar P).2.2.2.1 = nI (s + 1) := by
  obtain ⟨L, last, td, ia, fg⟩ := P
  have h1 : td = nI t := h1
  have h2 : ia = nI s := h2
  subst h1 h2
  unfold pa_hear ps_hr
  cases last with
  | none => exact ⟨rfl, nI_add t 1, nI_add s 1⟩
  | some a =>
    dsimp only
    split
    · exact ⟨rfl, nI_add t 1, nI_add s 1⟩
    · exact ⟨rfl, nI_add t 1, nI_add s 1⟩
theorem li_wh (v : ps_H) (go : Nat → ps_P → Bool) (g : Nat → Nat) : ∀ (k i : Nat) (P : ps_P) (t s : Nat), P.2.2.1 = nI t → P.2.2.2.1 = nI s → ∃ m, m ≤ k ∧ (ps_wh go (fun i P => pa_hear v (g i) P) k i P).1 = i + m ∧ (ps_wh go (fun i P => pa_hear v (g i) P) k i P).2.2.2.1 = nI (t + m) ∧ (ps_wh go (fun i P => pa_hear v (g i) P) k i P).2.2.2.2.1 = nI (s + m) ∧ (m = 0 → (ps_wh go (fun i P => pa_hear v (g i) P) k i P).2 = P) ∧ (0 < m → (ps_wh go (fun i P => pa_hear v (g i) P) k i P).2.2.1 = some (g (i + m - 1))) ∧ (m < k → go (i + m) (ps_wh go (fun i P => pa_hear v (g i) P) k i P).2 = false) ∧ (0 < k → go i P = true → 1 ≤ m)
  | 0, i, P, t, s, h1, h2 => ⟨0, Nat.le_refl _, rfl, h1, h2, fun _ => rfl, fun z => absurd z (by omega), fun z => absurd z (by omega), fun z => absurd z (by omega)⟩
  | k + 1, i, P, t, s, h1, h2 => by
    unfold ps_wh
    by_cases h : go i P = true
    · rw [if_pos h]
      obtain ⟨a1, a2, a3⟩ := li_hr (v := v) (bar := g i) h1 h2
      obtain ⟨m, b1, b2, b3, b4, b5, b6, b7, b8⟩ := li_wh v go g k (i + 1) (pa_hear v (g i) P) (t + 1) (s + 1) a2 a3
      refine ⟨m + 1, by omega, by rw [b2]; omega, by rw [b3, show t + 1 + m = t + (m + 1) by omega], by rw [b4, show s + 1 + m = s + (m + 1) by omega], fun z => absurd z (by omega), fun _ => ?_, fun z => ?_, fun _ _ => by omega⟩
      · by_cases e : m = 0
        · rw [b5 e, a1, e]
          rfl
        · rw [b6 (by omega), show i + 1 + m - 1 = i + (m + 1) - 1 by omega]
      · rw [show i + (m + 1) = i + 1 + m by omega]
        exact b7 (by omega)
    · rw [if_neg h]
      exact ⟨0, Nat.zero_le _, rfl, h1, h2, fun _ => rfl, fun z => absurd z (by omega), fun _ => by simpa using h, fun _ z => absurd z h⟩
theorem li_whP {v : ps_H} {go : Nat → ps_P → Bool} {g : Nat → Nat} {k i B : Nat} {P : ps_P} (h : li_P B P) : li_P (B + k) (ps_wh go (fun i P => pa_hear v (g i) P) k i P).2 := by
  obtain ⟨t, s, h1, h2, h3, h4, h5⟩ := h
  obtain ⟨m, b1, b2, b3, b4, b5, b6, b7, b8⟩ := li_wh v go g k i P t s h1 h2
  refine ⟨t + m, s + m, b3, b4, by omega, by omega, fun z => ?_⟩
  by_cases e : m = 0
  · rw [b5 e] at z
    have := h5 z
    omega
  · omega
theorem it_none {L : List ps_L} {o : Option Nat} {k : Nat} (h : pa_it L o k = none) : ∀ m, k ≤ m → pa_it L o m = none
  | 0, hm => by
    have : k = 0 := by omega
    subst this
    exact h
  | m + 1, hm => by
    by_cases e : k = m + 1
    · rw [← e]; exact h
    · show (pa_it L o m).bind (ps_nx L) = none
      rw [it_none h m (by omega)]
      rfl
theorem ct_all {L : List ps_L} {o : Option Nat} {n : Nat} (hn : 1 ≤ n) : (pa_ct L o n = n) = ((pa_it L o n).isSome = true) := by
  obtain ⟨h1, h2, h3, h4⟩ := ps_sc_spec (fun k => (pa_it L o (k + 1)).isSome) n 0
  unfold pa_ct
  refine propext ⟨fun e => ?_, fun e => ?_⟩
  · have := h3 (n - 1) (Nat.zero_le _) (by omega)
    rw [show n - 1 + 1 = n by omega] at this
    exact this
  · by_cases q : ps_sc (fun k => (pa_it L o (k + 1)).isSome) n 0 < n
    · have h5 := h4 (by omega)
      have h6 : pa_it L o (ps_sc (fun k => (pa_it L o (k + 1)).isSome) n 0 + 1) = none := by
        cases hz : pa_it L o (ps_sc (fun k => (pa_it L o (k + 1)).isSome) n 0 + 1) with
        | none => rfl
        | some x => rw [hz] at h5; cases h5
      have h7 := it_none h6 n (by omega)
      rw [h7] at e
      cases e
    · omega
theorem cl_neg {o : Option Nat} (h : ∀ b, o = some b → b < 26) : (ps_cl o < nI 0) = (o = none) := by
  cases o with
  | none => exact propext ⟨fun _ => rfl, fun _ => by decide⟩
  | some b =>
    have := h b rfl
    exact propext ⟨fun z => absurd z (nI_nlt (Nat.zero_le _) (by omega)), fun z => by cases z⟩
theorem sm_add (f g : Nat → Int32) : ∀ n, pa_sm f n + pa_sm g n = pa_sm (fun j => f j + g j) n
  | 0 => rfl
  | n + 1 => by
    rw [sm_s, sm_s, sm_s, ← sm_add f g n]
    rw [Int32.add_assoc, Int32.add_assoc, ← Int32.add_assoc (f n), Int32.add_comm (f n) (pa_sm g n), Int32.add_assoc]
theorem li_ch {k : Nat} {A : ps_U} {op : Int32 × ps_H} (h : li_V k op.2) : li_V k (pa_ch A op).1 := h
/-- the acts, each alone -/
theorem act_par {M : ps_M} {A : ps_U} (hC : ps_CL M A) (hok : ps_okU A) {k : Nat} (hI : li_V k A.1) : ∃ M1 A1, (ps_b2 (ff_X6_parrot 0 M) fun r83 M83 => if nI A.1.2.2.2.1 = (nI 4) then (if r83 = (ps_m 4) then (some ((nI 1), M83)) else (some ((nI 0), M83))) else (if r83 = nI A.1.2.2.2.1 then (ps_b2 (ff_X6_of 0 r83 (nI 0) M83) fun r84 M84 => if r84 = (nI 0) then (ps_b2 (ff_X6_of 0 r83 (nI 2) M84) fun r85 M85 => if r85 = (ps_m 6) then (some ((nI 1), M85)) else (some ((nI 0), M85))) else (some ((nI 0), M84))) else (some ((nI 0), M83)))) = some (nI 1, M1) ∧ ps_CL M1 A1 ∧ ps_okU A1 ∧ li_V (k + 1) A1.1 := by
  have h4 := hok.1.2.2.1
  obtain ⟨M1, e1, c1, -⟩ := cl_par hC hok
  have o1 : ps_okU (pa_ch A (op_par A.1)) := ok_ch hok (ok_par hok.1)
  obtain ⟨i1, i2, i3, i4⟩ := hI
  refine ⟨M1, _, ?_, c1, o1, ?_⟩
  · by_cases q : A.1.2.2.2.1 = 4
    · have ex : op_par A.1 = (ps_m 4, A.1) := by
        unfold op_par
        rw [if_neg (by omega)]
      have e2 : ff_X6_parrot 0 M = some (ps_m 4, M1) := by rw [e1, ex]
      rw [e2, ps_b2E, if_pos (by rw [q]), if_pos rfl]
    · have ex : op_par A.1 = (nI A.1.2.2.2.1, (A.1.1, A.1.2.1, A.1.2.2.1, A.1.2.2.2.1 + 1, A.1.2.2.2.2)) := by
        unfold op_par
        rw [if_pos (by omega)]
      have e2 : ff_X6_parrot 0 M = some (nI A.1.2.2.2.1, M1) := by rw [e1, ex]
      have en : A.1.2.2.2.2.1 A.1.2.2.2.1 = ps_new := hok.1.2.2.2.2.1 _ (Nat.le_refl _)
      rw [ex] at c1 o1
      have hp : A.1.2.2.2.1 < (pa_ch A (nI A.1.2.2.2.1, (A.1.1, A.1.2.1, A.1.2.2.1, A.1.2.2.2.1 + 1, A.1.2.2.2.2))).1.2.2.2.1 := Nat.lt_succ_self _
      have g0 : (pa_ch A (nI A.1.2.2.2.1, (A.1.1, A.1.2.1, A.1.2.2.1, A.1.2.2.2.1 + 1, A.1.2.2.2.2))).1.2.2.2.2.1 A.1.2.2.2.1 = ps_new := en
      rw [e2, ps_b2E, if_neg (by rw [nI_eq (by omega) (by omega)]; exact q), if_pos rfl, e_of0 c1.1 o1.1 hp, ps_b2E, g0, if_pos (show nI ps_new.1.length = nI 0 from rfl), e_of2 c1.1 o1.1 hp, ps_b2E, g0, if_pos (show ps_cl ps_new.2.1 = ps_m 6 from rfl)]
  · refine li_ch ?_
    unfold op_par
    by_cases q : A.1.2.2.2.1 < 4
    · rw [if_pos q]
      exact ⟨by show 1 ≤ A.1.2.2.2.1 + 1; omega, i2, by show A.1.2.2.2.2.2 ≤ k + 1; omega, fun j => li_mo (i4 j) (by omega)⟩
    · rw [if_neg q]
      exact ⟨i1, i2, by show A.1.2.2.2.2.2 ≤ k + 1; omega, fun j => li_mo (i4 j) (by omega)⟩
theorem act_les {M : ps_M} {A : ps_U} (hC : ps_CL M A) (hok : ps_okU A) {k p i f : Nat} (hI : li_V k A.1) (hk : k < 1000) (hp : p < A.1.2.2.2.1) (hi : i < A.1.2.1) (hf : f < (A.1.2.2.1 i).1) (a1 r6 : Int32) : ∃ M1 A1, fk_L_acts_234 0 a1 (nI A.1.2.2.2.1) (nI A.1.2.1) (nI p) (nI i) (nI (if pa_ti A.1 (A.1.2.2.2.2.1 p) = true then 1 else 0)) r6 (A.1.2.2.2.2.1 p).2.2.2.1 (nI (A.1.2.2.1 i).1) (nI f) M = some (nI 1, M1) ∧ ps_CL M1 A1 ∧ ps_okU A1 ∧ li_V (k + 1) A1.1 := by
  have h4 := hok.1.2.2.1
  have h8 := hok.1.2.1.1
  obtain ⟨l1, l2, l3⟩ := hok.1.2.1.2 i hi
  obtain ⟨M1, e1, c1, -⟩ := cl_les hC hok (nI p) (nI i) (nI f)
  have o1 : ps_okU (pa_ch A (op_les (nI p) (nI i) (nI f) A.1)) := ok_ch hok (ok_les hok.1 _ _ _)
  obtain ⟨i1, i2, i3, i4⟩ := hI
  have ex : op_les (nI p) (nI i) (nI f) A.1 = if pa_ti A.1 (A.1.2.2.2.2.1 p) = true then (ps_m 5, A.1) else (nI ((pa_les A.1 (A.1.2.2.1 i) f (A.1.2.2.2.2.1 p)).1 - f), pa_wS (pa_wP A.1 p (pa_les A.1 (A.1.2.2.1 i) f (A.1.2.2.2.2.1 p)).2) i) := by
    unfold op_les
    rw [if_pos ⟨ev_inB hp (by omega), ev_inB hi (by omega)⟩, nI_clamp (show i < 2 ^ 31 by omega), if_pos (ev_inB hf (by omega)), nI_clamp (show p < 2 ^ 31 by omega), nI_clamp (show f < 2 ^ 31 by omega)]
  have n2 : ¬ nI A.1.2.2.2.1 = nI 0 := by rw [nI_eq (by omega) (by omega)]; omega
  have n3 : ¬ nI A.1.2.1 = nI 0 := by rw [nI_eq (by omega) (by omega)]; omega
  rw [ex] at e1 c1 o1
  refine ⟨M1, _, ?_, c1, o1, ?_⟩
  · unfold fk_L_acts_234
    rw [e1, ps_b2E, if_neg n2, if_neg n3]
    by_cases t : pa_ti A.1 (A.1.2.2.2.2.1 p) = true
    · rw [if_pos t, if_neg (by decide), if_pos (by rw [if_pos t])]
    · rw [if_neg t] at c1 o1
      rw [if_neg t, if_neg t, if_pos rfl]
      obtain ⟨u, s, h1, h2, h3, h5, h6⟩ := i4 p
      obtain ⟨m, b1, b2, b3, b4, b5, b6, b7, b8⟩ := li_wh A.1 (fun _ P => !(pa_ti A.1 P)) (A.1.2.2.1 i).2.1 ((A.1.2.2.1 i).1 - f) f (A.1.2.2.2.2.1 p) u s h1 h2
      have hm : 1 ≤ m := b8 (by omega) (by simpa using t)
      generalize hw : pa_wS (pa_wP A.1 p (pa_les A.1 (A.1.2.2.1 i) f (A.1.2.2.2.2.1 p)).2) i = w at c1 o1 ⊢
      have g1 : (pa_les A.1 (A.1.2.2.1 i) f (A.1.2.2.2.2.1 p)).1 - f = m := by
        unfold pa_les
        rw [b2]
        omega
      have gp : w.2.2.2.2.1 p = (pa_les A.1 (A.1.2.2.1 i) f (A.1.2.2.2.2.1 p)).2 := by
        rw [← hw]
        exact if_pos rfl
      have gn : w.2.2.2.1 = A.1.2.2.2.1 := by rw [← hw]; rfl
      have gs : w.2.1 = A.1.2.1 := by rw [← hw]; rfl
      have gb : (w.2.2.1 i).1 = (A.1.2.2.1 i).1 ∧ (w.2.2.1 i).2.1 = (A.1.2.2.1 i).2.1 := by
        rw [← hw]
        constructor
        · show (if i = i then _ else _ : ps_S).1 = _
          rw [if_pos rfl]
          rfl
        · show (if i = i then _ else _ : ps_S).2.1 = _
          rw [if_pos rfl]
          rfl
      have g0 : w.1 = A.1.1 := by rw [← hw]; rfl
      rw [g1]
      rw [g1] at c1 o1
      have hp2 : p < (pa_ch A (nI m, w)).1.2.2.2.1 := by show p < w.2.2.2.1; omega
      have hi2 : i < (pa_ch A (nI m, w)).1.2.1 := by show i < w.2.1; omega
      have hb2 : f + m - 1 < ((pa_ch A (nI m, w)).1.2.2.1 i).1 := by show f + m - 1 < (w.2.2.1 i).1; rw [gb.1]; omega
      have q4 : ((pa_ch A (nI m, w)).1.2.2.2.2.1 p).2.2.2.1 = nI (s + m) := by
        show (w.2.2.2.2.1 p).2.2.2.1 = _
        rw [gp]
        exact b4
      have q2 : ((pa_ch A (nI m, w)).1.2.2.2.2.1 p).2.1 = some ((A.1.2.2.1 i).2.1 (f + m - 1)) := by
        show (w.2.2.2.2.1 p).2.1 = _
        rw [gp]
        exact b6 (by omega)
      have q3 : ((pa_ch A (nI m, w)).1.2.2.2.2.1 p).2.2.1 = nI (u + m) := by
        show (w.2.2.2.2.1 p).2.2.1 = _
        rw [gp]
        exact b3
      have qb : ((pa_ch A (nI m, w)).1.2.2.1 i).2.1 (f + m - 1) = (A.1.2.2.1 i).2.1 (f + m - 1) := by
        show (w.2.2.1 i).2.1 _ = _
        rw [gb.2]
      have q11 : (pa_ch A (nI m, w)).1.1 3 = A.1.1 3 := by show w.1 3 = _; rw [g0]
      rw [if_neg (nI_nlt hm (by omega)), pk_sub (by omega), if_neg (nI_nlt b1 (by omega)), e_of4 c1.1 o1.1 hp2, ps_b2E, q4, h2, if_pos (by rw [nI_add]), e_of2 c1.1 o1.1 hp2, ps_b2E, q2, nI_add, pk_sub (by omega), e_bar c1.1 o1.1 hi2 hb2, ps_b2E, qb, if_pos (show ps_cl (some ((A.1.2.2.1 i).2.1 (f + m - 1))) = nI ((A.1.2.2.1 i).2.1 (f + m - 1)) from rfl)]
      by_cases d : m = (A.1.2.2.1 i).1 - f
      · rw [if_pos (by rw [d])]
      · have ht := b7 (by omega)
        have ht2 : nI (A.1.1 3) ≤ nI (u + m) := by
          have e2 : pa_ti A.1 (ps_wh (fun _ P => !(pa_ti A.1 P)) (fun i_1 P => pa_hear A.1 ((A.1.2.2.1 i).2.1 i_1) P) ((A.1.2.2.1 i).1 - f) f (A.1.2.2.2.2.1 p)).2 = true := by simpa using ht
          unfold pa_ti at e2
          have e3 := of_decide_eq_true e2
          unfold pa_ti at b3
          rw [b3] at e3
          exact e3
        rw [if_neg (by rw [nI_eq (by omega) (by omega)]; exact d), e_of3 c1.1 o1.1 hp2, ps_b2E, e_c11 c1 o1, ps_b2E, q3, q11, if_neg (Int32.not_lt.mpr ht2)]
  · refine li_ch ?_
    by_cases t : pa_ti A.1 (A.1.2.2.2.2.1 p) = true
    · rw [if_pos t]
      exact ⟨i1, i2, by show A.1.2.2.2.2.2 ≤ k + 1; omega, fun j => li_mo (i4 j) (by omega)⟩
    · rw [if_neg t]
      refine ⟨i1, i2, by show A.1.2.2.2.2.2 ≤ k + 1; omega, fun j => ?_⟩
      show li_P (40 * (k + 1)) (if j = p then (pa_les A.1 (A.1.2.2.1 i) f (A.1.2.2.2.2.1 p)).2 else A.1.2.2.2.2.1 j)
      by_cases q : j = p
      · rw [if_pos q]
        exact li_mo (li_whP (i4 p)) (by omega)
      · rw [if_neg q]
        exact li_mo (i4 j) (by omega)
theorem act_hush {M : ps_M} {A : ps_U} (hC : ps_CL M A) (hok : ps_okU A) {k p : Nat} (hI : li_V k A.1) (hp : p < A.1.2.2.2.1) (a1 a3 a5 a6 a8 : Int32) : ∃ M1 A1, (ps_b2 (ff_X6_hush 0 (nI p) M) fun r42 M42 => if nI A.1.2.2.2.1 = (nI 0) then (fk_L_acts_401 0 a1 (nI A.1.2.2.2.1) a3 (nI p) a5 a6 (ps_cl (A.1.2.2.2.2.1 p).2.1) a8 r42 (ps_m 1) M42) else (fk_L_acts_401 0 a1 (nI A.1.2.2.2.1) a3 (nI p) a5 a6 (ps_cl (A.1.2.2.2.2.1 p).2.1) a8 r42 (ps_cl (A.1.2.2.2.2.1 p).2.1) M42)) = some (nI 1, M1) ∧ ps_CL M1 A1 ∧ ps_okU A1 ∧ li_V (k + 1) A1.1 := by
  have h4 := hok.1.2.2.1
  obtain ⟨M1, e1, c1, -⟩ := cl_hush hC hok (nI p)
  have o1 : ps_okU (pa_ch A (op_hush (nI p) A.1)) := ok_ch hok (ok_hush hok.1 _)
  obtain ⟨i1, i2, i3, i4⟩ := hI
  have ex : op_hush (nI p) A.1 = (ps_cl (A.1.2.2.2.2.1 p).2.1, pa_wP A.1 p ((A.1.2.2.2.2.1 p).1, none, (A.1.2.2.2.2.1 p).2.2)) := by
    unfold op_hush
    rw [if_pos (ev_inB hp (by omega)), nI_clamp (show p < 2 ^ 31 by omega)]
  have n2 : ¬ nI A.1.2.2.2.1 = nI 0 := by rw [nI_eq (by omega) (by omega)]; omega
  rw [ex] at e1 c1 o1
  generalize hw : pa_wP A.1 p ((A.1.2.2.2.2.1 p).1, none, (A.1.2.2.2.2.1 p).2.2) = w at e1 c1 o1
  have gp : w.2.2.2.2.1 p = ((A.1.2.2.2.2.1 p).1, none, (A.1.2.2.2.2.1 p).2.2) := by
    rw [← hw]
    exact if_pos rfl
  have gn : w.2.2.2.1 = A.1.2.2.2.1 := by rw [← hw]; rfl
  have hp2 : p < (pa_ch A (ps_cl (A.1.2.2.2.2.1 p).2.1, w)).1.2.2.2.1 := by show p < w.2.2.2.1; omega
  refine ⟨M1, _, ?_, c1, o1, ?_⟩
  · rw [e1, ps_b2E, if_neg n2]
    unfold fk_L_acts_401
    rw [if_pos rfl, if_neg n2, e_of2 c1.1 o1.1 hp2, ps_b2E, if_pos ?_]
    show ps_cl (w.2.2.2.2.1 p).2.1 = ps_m 6
    rw [gp]
    rfl
  · refine li_ch ?_
    show li_V (k + 1) w
    rw [← hw]
    refine ⟨i1, i2, by show A.1.2.2.2.2.2 ≤ k + 1; omega, fun j => ?_⟩
    show li_P (40 * (k + 1)) (if j = p then ((A.1.2.2.2.2.1 p).1, none, (A.1.2.2.2.2.1 p).2.2) else A.1.2.2.2.2.1 j)
    by_cases q : j = p
    · rw [if_pos q]
      obtain ⟨t, s, h1, h2, h3, h5, h6⟩ := i4 p
      exact ⟨t, s, h1, h2, h3, by omega, fun z => absurd rfl z⟩
    · rw [if_neg q]
      exact li_mo (i4 j) (by omega)
theorem act_prac {M : ps_M} {A : ps_U} (hC : ps_CL M A) (hok : ps_okU A) {k p n : Nat} (hI : li_V k A.1) (hp : p < A.1.2.2.2.1) (hn : 1 ≤ n) (hn2 : n ≤ 40) (a1 a3 a5 a8 s0 : Int32) (hs : ∀ b, (A.1.2.2.2.2.1 p).2.1 = some b → s0 = ps_cl (pa_it (A.1.2.2.2.2.1 p).1 (some b) n)) : ∃ M1 A1, fk_L_acts_457 0 a1 (nI A.1.2.2.2.1) a3 (nI p) a5 (nI (if pa_ti A.1 (A.1.2.2.2.2.1 p) = true then 1 else 0)) (ps_cl (A.1.2.2.2.2.1 p).2.1) a8 (nI n) s0 M = some (nI 1, M1) ∧ ps_CL M1 A1 ∧ ps_okU A1 ∧ li_V (k + 1) A1.1 := by
  have h4 := hok.1.2.2.1
  have hP := hok.1.2.2.2.1 p
  obtain ⟨M1, e1, c1, -⟩ := cl_prac hC hok (nI p) (nI n)
  have o1 : ps_okU (pa_ch A (op_prac (nI p) (nI n) A.1)) := ok_ch hok (ok_prac hok.1 _ _)
  obtain ⟨i1, i2, i3, i4⟩ := hI
  have n2 : ¬ nI A.1.2.2.2.1 = nI 0 := by rw [nI_eq (by omega) (by omega)]; omega
  have ex : op_prac (nI p) (nI n) A.1 = if (A.1.2.2.2.2.1 p).2.1 = none ∨ pa_ti A.1 (A.1.2.2.2.2.1 p) = true then (ps_m 5, A.1) else (nI (pa_ct (A.1.2.2.2.2.1 p).1 (A.1.2.2.2.2.1 p).2.1 n), pa_mq A.1 (fun k => decide (k < A.1.2.2.2.1)) (pa_ss A.1 (pa_sb (A.1.2.2.2.2.1 p).1 (A.1.2.2.2.2.1 p).2.1) (pa_ct (A.1.2.2.2.2.1 p).1 (A.1.2.2.2.2.1 p).2.1 n))) := by
    unfold op_prac
    rw [if_pos (ev_inB hp (by omega)), if_pos ⟨nI_le hn (by omega), nI_le hn2 (by omega)⟩, nI_clamp (show p < 2 ^ 31 by omega), nI_clamp (show n < 2 ^ 31 by omega)]
  have hct := pa_ct_le (A.1.2.2.2.2.1 p).1 (A.1.2.2.2.2.1 p).2.1 n
  refine ⟨M1, _, ?_, c1, o1, ?_⟩
  · unfold fk_L_acts_457
    rw [e1, ps_b2E, if_neg n2, ex]
    cases hl : (A.1.2.2.2.2.1 p).2.1 with
    | none =>
      rw [if_pos (show ps_cl none < nI 0 by decide), if_pos (Or.inl rfl), if_pos rfl]
    | some b =>
      have hb := hP.2.2 b hl
      rw [if_neg (show ¬ ps_cl (some b) < nI 0 from nI_nlt (Nat.zero_le _) (by omega))]
      by_cases t : pa_ti A.1 (A.1.2.2.2.2.1 p) = true
      · rw [if_pos t, if_neg (by decide), if_pos (Or.inr t), if_pos rfl]
      · have hno : ¬ (some b = none ∨ pa_ti A.1 (A.1.2.2.2.2.1 p) = true) := fun z => z.elim (fun y => by cases y) t
        rw [if_neg t, if_pos rfl, if_neg hno]
        rw [hl] at hct
        have hca := ct_all (L := (A.1.2.2.2.2.1 p).1) (o := some b) hn
        have hneg := cl_neg (o := pa_it (A.1.2.2.2.2.1 p).1 (some b) n) (fun x hx => pa_it_lt hP.2.1 (fun y hy => by cases hy; exact hb) n x hx)
        rw [if_neg (show ¬ nI n < nI (pa_ct (A.1.2.2.2.2.1 p).1 (some b) n) from nI_nlt hct (by omega)), hs b hl]
        by_cases q : pa_ct (A.1.2.2.2.2.1 p).1 (some b) n = n
        · have h7 : (pa_it (A.1.2.2.2.2.1 p).1 (some b) n).isSome = true := by rw [← hca]; exact q
          rw [if_pos (show nI (pa_ct (A.1.2.2.2.2.1 p).1 (some b) n) = nI n by rw [q]), if_neg (by rw [hneg]; intro z; rw [z] at h7; cases h7)]
        · have h7 : ¬ (pa_it (A.1.2.2.2.2.1 p).1 (some b) n).isSome = true := by rw [← hca]; exact q
          rw [if_neg (show ¬ nI (pa_ct (A.1.2.2.2.2.1 p).1 (some b) n) = nI n by rw [nI_eq (by omega) (by omega)]; exact q), if_pos (by rw [hneg]; cases hz : pa_it (A.1.2.2.2.2.1 p).1 (some b) n with
            | none => rfl
            | some x => rw [hz] at h7; exact absurd rfl h7)]
  · refine li_ch ?_
    rw [ex]
    by_cases t : (A.1.2.2.2.2.1 p).2.1 = none ∨ pa_ti A.1 (A.1.2.2.2.2.1 p) = true
    · rw [if_pos t]
      exact ⟨i1, i2, by show A.1.2.2.2.2.2 ≤ k + 1; omega, fun j => li_mo (i4 j) (by omega)⟩
    · rw [if_neg t]
      refine ⟨i1, i2, by show A.1.2.2.2.2.2 ≤ k + 1; omega, fun j => ?_⟩
      show li_P (40 * (k + 1)) (if decide (j < A.1.2.2.2.1) = true then pa_ss A.1 (pa_sb (A.1.2.2.2.2.1 p).1 (A.1.2.2.2.2.1 p).2.1) (pa_ct (A.1.2.2.2.2.1 p).1 (A.1.2.2.2.2.1 p).2.1 n) (A.1.2.2.2.2.1 j) else A.1.2.2.2.2.1 j)
      by_cases q : decide (j < A.1.2.2.2.1) = true
      · rw [if_pos q]
        exact li_mo (li_whP (i4 j)) (by omega)
      · rw [if_neg q]
        exact li_mo (i4 j) (by omega)
theorem act_set {M : ps_M} {A : ps_U} (hC : ps_CL M A) (hok : ps_okU A) {k w x : Nat} (hI : li_V k A.1) (hw : w < 4) (hx : x ≤ 60) (h1 : ps_least w ≤ nI x) (h2 : nI x ≤ ps_most w) (a1 a2 a3 a4 a5 a6 a7 a8 : Int32) : ∃ M1 A1, fk_L_acts_615 0 a1 a2 a3 a4 a5 a6 a7 a8 (nI w) (nI x) M = some (nI 1, M1) ∧ ps_CL M1 A1 ∧ ps_okU A1 ∧ li_V (k + 1) A1.1 := by
  obtain ⟨M1, e1, c1, -⟩ := cl_set hC hok (nI w) (nI x)
  have o1 : ps_okU (pa_ch A (op_set (nI w) (nI x) A.1)) := ok_ch hok (ok_set hok.1 _ _)
  obtain ⟨i1, i2, i3, i4⟩ := hI
  have ex : op_set (nI w) (nI x) A.1 = (nI (A.1.1 w), ((fun k => if k = w then x else A.1.1 k), A.1.2)) := by
    unfold op_set
    rw [if_pos (ev_inB hw (by omega)), nI_clamp (show w < 2 ^ 31 by omega), if_pos ⟨h1, h2⟩, nI_clamp (show x < 2 ^ 31 by omega)]
  rw [ex] at e1 c1 o1
  refine ⟨M1, _, ?_, c1, o1, ?_⟩
  · unfold fk_L_acts_615
    rw [nI_add, e_c8 hC hok hw, ps_b2E, e1, ps_b2E, if_pos rfl, e_c8 c1 o1 hw, ps_b2E, if_pos ?_]
    show nI (if w = w then x else A.1.1 w) = nI x
    rw [if_pos rfl]
  · exact ⟨i1, i2, by show A.1.2.2.2.2.2 ≤ k + 1; omega, fun j => li_mo (i4 j) (by omega)⟩
theorem act_nt {M : ps_M} {A : ps_U} (hC : ps_CL M A) (hok : ps_okU A) {k : Nat} (hI : li_V k A.1) (hk : k < 900) : ∃ M1 A1, (ps_b2 (ff_X6_count 0 (nI 0) M) fun r9 M9 => ps_b2 (ff_X6_count 0 (nI 5) M9) fun r10 M10 => ps_b2 (ff_X6_night 0 M10) fun r11 M11 => if r11 < (nI 0) then (some ((nI 0), M11)) else (ps_b2 (ff_X6_count 0 (nI 0) M11) fun r12 M12 => if r12 = (r9 + (nI 1)) then (ps_b2 (ff_X6_count 0 (nI 5) M12) fun r13 M13 => if r13 = (r10 - r11) then (ps_b2 (ff_X6_count 0 (nI 7) M13) fun r14 M14 => if r14 = (nI 0) then (some ((nI 1), M14)) else (some ((nI 0), M14))) else (some ((nI 0), M13))) else (some ((nI 0), M12)))) = some (nI 1, M1) ∧ ps_CL M1 A1 ∧ ps_okU A1 ∧ li_V (k + 1) A1.1 := by
  have h4 := hok.1.2.2.1
  obtain ⟨M1, e1, c1, -⟩ := cl_nt hC hok
  have o1 : ps_okU (pa_ch A (op_nt A.1)) := ok_ch hok (ok_nt hok.1)
  obtain ⟨i1, i2, i3, i4⟩ := hI
  have ex : op_nt A.1 = (pa_gone A.1, (A.1.1, A.1.2.1, A.1.2.2.1, A.1.2.2.2.1, (pa_nt A.1).2.2.2.2.1, A.1.2.2.2.2.2 + 1)) := by
    unfold op_nt
    rw [if_pos (by omega)]
  rw [ex] at e1 c1 o1
  obtain ⟨m, m1, m2⟩ := gone_n hok.1
  have gP : ∀ j, j < A.1.2.2.2.1 → (pa_nt A.1).2.2.2.2.1 j = ps_sl (A.1.1 1) (A.1.2.2.2.2.1 j) := fun j hj => if_pos (decide_eq_true hj)
  refine ⟨M1, _, ?_, c1, o1, ?_⟩
  · rw [e_c0 hC hok, ps_b2E, e_c5 hC hok, ps_b2E, e1, ps_b2E, m2, if_neg (nI_nlt (Nat.zero_le _) (by omega)), e_c0 c1 o1, ps_b2E, if_pos ?_, e_c5 c1 o1, ps_b2E, if_pos ?_, e_c7 c1 o1, ps_b2E, if_pos ?_]
    · show pa_set (fun j => decide (nI (A.1.1 3) ≤ ((pa_nt A.1).2.2.2.2.1 j).2.2.1)) A.1.2.2.2.1 = nI 0
      refine set_none _ _ (fun j hj => decide_eq_false ?_)
      rw [gP j hj]
      have h3 := hok.1.1.2.2.2
      exact nI_ge (show 0 < A.1.1 3 by omega) (by omega)
    · show pa_sm (fun j => nI ((pa_nt A.1).2.2.2.2.1 j).1.length) A.1.2.2.2.1 = pa_sm (fun j => nI (A.1.2.2.2.2.1 j).1.length) A.1.2.2.2.1 - nI m
      have e3 : pa_sm (fun j => nI ((pa_nt A.1).2.2.2.2.1 j).1.length) A.1.2.2.2.1 + pa_gone A.1 = pa_sm (fun j => nI (A.1.2.2.2.2.1 j).1.length) A.1.2.2.2.1 := by
        show _ + pa_sm (fun j => nI ((A.1.2.2.2.2.1 j).1.length - ((A.1.2.2.2.2.1 j).1.filterMap (ps_fa (A.1.1 1))).length)) A.1.2.2.2.1 = _
        rw [sm_add]
        refine sm_eq (fun j hj => ?_)
        rw [gP j hj]
        show nI ((A.1.2.2.2.2.1 j).1.filterMap (ps_fa (A.1.1 1))).length + _ = _
        rw [nI_add]
        have := List.length_filterMap_le (ps_fa (A.1.1 1)) (A.1.2.2.2.2.1 j).1
        rw [show ((A.1.2.2.2.2.1 j).1.filterMap (ps_fa (A.1.1 1))).length + ((A.1.2.2.2.2.1 j).1.length - ((A.1.2.2.2.2.1 j).1.filterMap (ps_fa (A.1.1 1))).length) = (A.1.2.2.2.2.1 j).1.length by omega]
      rw [← e3, m2, Int32.add_sub_cancel]
    · show nI (A.1.2.2.2.2.2 + 1) = nI A.1.2.2.2.2.2 + nI 1
      rw [nI_add]
  · refine li_ch ?_
    refine ⟨i1, i2, by show A.1.2.2.2.2.2 + 1 ≤ k + 1; omega, fun j => ?_⟩
    show li_P (40 * (k + 1)) (if decide (j < A.1.2.2.2.1) = true then ps_sl (A.1.1 1) (A.1.2.2.2.2.1 j) else A.1.2.2.2.2.1 j)
    by_cases q : decide (j < A.1.2.2.2.1) = true
    · rw [if_pos q]
      obtain ⟨t, s, h1, h2, h3, h5, h6⟩ := i4 j
      exact ⟨0, s, rfl, h2, Nat.zero_le _, by omega, fun z => absurd rfl z⟩
    · rw [if_neg q]
      exact li_mo (i4 j) (by omega)
