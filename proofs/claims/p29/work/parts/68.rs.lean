/-- an answer as they are -/
def ps_rs (r : Int32) : Prop := (∃ n, n < 2147483648 ∧ r = nI n) ∨ ∃ k, 1 ≤ k ∧ k ≤ 6 ∧ r = ps_m k
theorem rs_er {r : Int32} (h : ps_rs r) : (nI 0 ≤ r ∨ r = ps_m 6) ∧ pa_er r = false ∨ (¬ nI 0 ≤ r ∧ ¬ r = ps_m 6) ∧ pa_er r = true := by
  unfold pa_er
  rcases h with ⟨n, hn, rfl⟩ | ⟨k, h1, h2, rfl⟩
  · refine Or.inl ⟨Or.inl (nI_le (Nat.zero_le _) hn), decide_eq_false (fun z => ?_)⟩
    rw [ev_lem hn (by omega) (by omega)] at z
    exact z.1
  · by_cases c : k = 6
    · subst c
      refine Or.inl ⟨Or.inr rfl, decide_eq_false (fun z => ?_)⟩
      have := z.2
      rw [Int32.le_iff_toInt_le, ev_mt 5 (by omega), ev_mt 6 (by omega)] at this
      omega
    · refine Or.inr ⟨⟨fun z => ?_, fun z => ?_⟩, decide_eq_true ⟨?_, ?_⟩⟩
      · rw [ev_lem (by omega) (by omega) (by omega)] at z
        exact z
      · rw [ev_mm (by omega) (by omega)] at z
        exact c z
      · rw [Int32.le_iff_toInt_le, ev_mt 1 (by omega), ev_mt k (by omega)]
        omega
      · rw [Int32.le_iff_toInt_le, ev_mt 5 (by omega), ev_mt k (by omega)]
        omega
theorem rs_n {n : Nat} (h : n < 2147483648) : ps_rs (nI n) := Or.inl ⟨n, h, rfl⟩
theorem rs_m {k : Nat} (h1 : 1 ≤ k) (h2 : k ≤ 6) : ps_rs (ps_m k) := Or.inr ⟨k, h1, h2, rfl⟩
theorem rs_if {c : Prop} {d : Decidable c} {x y : Int32 × ps_H} (h1 : c → ps_rs x.1) (h2 : ¬ c → ps_rs y.1) : ps_rs (if c then x else y).1 := by
  by_cases h : c
  · rw [if_pos h]; exact h1 h
  · rw [if_neg h]; exact h2 h
theorem rs_par {v : ps_H} : ps_rs (op_par v).1 := rs_if (fun h => rs_n (by omega)) (fun _ => rs_m (by omega) (by omega))
theorem rs_les {v : ps_H} (hok : ps_okH v) (p s f : Int32) : ps_rs (op_les p s f v).1 := by
  refine rs_if (fun h1 => rs_if (fun h2 => rs_if (fun _ => rs_m (by omega) (by omega)) (fun _ => rs_n ?_)) (fun _ => rs_m (by omega) (by omega))) (fun _ => rs_m (by omega) (by omega))
  obtain ⟨s1, s2, s3⟩ := hok.2.1.2 _ (ps_inB_lt h1.2)
  have := (ps_wh_le (fun _ P => !(pa_ti v P)) (fun i P => pa_hear v ((v.2.2.1 s.toNatClampNeg).2.1 i) P) ((v.2.2.1 s.toNatClampNeg).1 - f.toNatClampNeg) f.toNatClampNeg (v.2.2.2.2.1 p.toNatClampNeg)).2
  have hf := ps_inB_lt h2
  unfold pa_les
  omega
theorem rs_hush {v : ps_H} (hok : ps_okH v) (p : Int32) : ps_rs (op_hush p v).1 := by
  refine rs_if (fun h1 => ?_) (fun _ => rs_m (by omega) (by omega))
  cases e : (v.2.2.2.2.1 p.toNatClampNeg).2.1 with
  | none => exact rs_m (by omega) (by omega)
  | some b =>
    have := (hok.2.2.2.1 _).2.2 b e
    exact rs_n (by omega)
theorem rs_prac {v : ps_H} (hok : ps_okH v) (p b : Int32) : ps_rs (op_prac p b v).1 := by
  refine rs_if (fun h1 => rs_if (fun h2 => rs_if (fun _ => rs_m (by omega) (by omega)) (fun _ => rs_n ?_)) (fun _ => rs_m (by omega) (by omega))) (fun _ => rs_m (by omega) (by omega))
  obtain ⟨w, w1, w2, rfl⟩ := ps_btw (by omega) h2.1 h2.2 (by omega)
  rw [nI_clamp (by omega)]
  have := pa_ct_le (v.2.2.2.2.1 p.toNatClampNeg).1 (v.2.2.2.2.1 p.toNatClampNeg).2.1 w
  omega
theorem rs_nt {v : ps_H} (hok : ps_okH v) : ps_rs (op_nt v).1 := by
  refine rs_if (fun h1 => ?_) (fun _ => rs_m (by omega) (by omega))
  have np := hok.2.2.1
  have key : ∀ n, n ≤ 4 → ∃ m, m ≤ 60 * n ∧ ps_fo (fun j s => s + nI ((v.2.2.2.2.1 j).1.length - ((v.2.2.2.2.1 j).1.filterMap (ps_fa (v.1 1))).length)) n (nI 0) = nI m := by
    intro n
    induction n with
    | zero => intro _; exact ⟨0, Nat.zero_le _, rfl⟩
    | succ n ih =>
      intro hn
      obtain ⟨m, hm, e⟩ := ih (by omega)
      have := (hok.2.2.2.1 n).1
      refine ⟨m + ((v.2.2.2.2.1 n).1.length - ((v.2.2.2.2.1 n).1.filterMap (ps_fa (v.1 1))).length), by omega, ?_⟩
      rw [ps_fo_s, e, nI_add]
  obtain ⟨m, hm, e⟩ := key v.2.2.2.1 np
  show ps_rs (ps_fo _ _ _)
  rw [e]
  exact rs_n (by omega)
def pa_fm (T : ps_Tx) : Int32 := match pa_flt T with
  | none => ps_m 1
  | some p => nI p
theorem fa_fm {T : ps_Tx} (hok : ps_okT T) : (pa_fm T < nI 0 ↔ pa_flt T = none) ∧ (pa_fa T = ps_m 6 ↔ pa_flt T = none) ∧ (∀ p, pa_flt T = some p → p ≤ 80) := by
  obtain ⟨n1, n2, n3⟩ := pa_n_sp hok
  obtain ⟨b1, b2⟩ := pos_b hok (pa_n T) n3
  obtain ⟨e1, e2, e3⟩ := ord_end hok b2
  have h8 := hok.1
  have h9 : ∀ p, pa_flt T = some p → p ≤ 80 := by
    intro p hp
    unfold pa_flt at hp
    by_cases c : (pa_ord T (pa_pos T (pa_n T))).1 = true ∧ T.1 ≤ (pa_ord T (pa_pos T (pa_n T))).2.1
    · rw [if_pos c] at hp; cases hp
    · rw [if_neg c] at hp; cases hp; omega
  unfold pa_fm pa_fa
  cases e : pa_flt T with
  | none =>
    refine ⟨⟨fun _ => rfl, fun _ => ?_⟩, ⟨fun _ => rfl, fun _ => rfl⟩, fun p hp => by cases hp⟩
    show ps_m 1 < nI 0
    rw [ev_mlt (by omega) (by omega) (by omega)]
    trivial
  | some p =>
    have hp := h9 p e
    refine ⟨⟨fun z => ?_, fun z => by cases z⟩, ⟨fun z => ?_, fun z => by cases z⟩, fun r hr => by cases hr; exact hp⟩
    · exact absurd z (nI_nlt (by omega) (by omega))
    · have z2 : nI p = ps_m 6 := z
      rw [ev_eqm (by omega) (by omega) (by omega)] at z2
      exact z2.elim
