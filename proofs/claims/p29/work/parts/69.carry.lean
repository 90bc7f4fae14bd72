/-! the orders are carried out: one order -/
def op_song (l : Nat) (g : Nat → Nat) (v : ps_H) : Int32 × ps_H := if v.2.1 < 8 then (nI v.2.1, (v.1, v.2.1 + 1, (fun k => if k = v.2.1 then (l, g, nI 0) else v.2.2.1 k), v.2.2.2)) else (ps_m 4, v)
theorem ok_song {v : ps_H} (hok : ps_okH v) {l : Nat} {g : Nat → Nat} (h1 : 1 ≤ l) (h2 : l ≤ 20) (hg : ∀ t, t < l → g t < 26) : ps_okH (op_song l g v).2 := by
  unfold op_song
  by_cases c : v.2.1 < 8
  · rw [if_pos c]
    obtain ⟨o1, ⟨o2, o3⟩, o4⟩ := hok
    refine ⟨o1, ⟨by show v.2.1 + 1 ≤ 8; omega, fun i hi => ?_⟩, o4⟩
    have hi2 : i < v.2.1 + 1 := hi
    show 1 ≤ (if i = v.2.1 then (l, g, nI 0) else v.2.2.1 i).1 ∧ (if i = v.2.1 then (l, g, nI 0) else v.2.2.1 i).1 ≤ 20 ∧ ∀ j, j < (if i = v.2.1 then (l, g, nI 0) else v.2.2.1 i).1 → (if i = v.2.1 then (l, g, nI 0) else v.2.2.1 i).2.1 j < 26
    by_cases e : i = v.2.1
    · rw [if_pos e]; exact ⟨h1, h2, hg⟩
    · rw [if_neg e]; exact o3 i (by omega)
  · rw [if_neg c]; exact hok
theorem ho_song {M : ps_M} {l : Nat} {g : Nat → Nat} {v : ps_H} (hR : ps_RH M 1 v) (hok : ps_okH v) (hl : l ≤ 20) (hg : ∀ t, t < l → ps_rd M 326 t = nI (g t)) : ∃ M1, ff_X5_add 3 326 (nI l) M = some ((op_song l g v).1, M1) ∧ ps_RH M1 1 (op_song l g v).2 ∧ ps_Fr 1 41 M M1 := by
  obtain ⟨r1, r2, r3, r4, r5⟩ := hR
  obtain ⟨M1, e1, R1, F1⟩ := bk_add (r := 326) r2 hok.2.1 (by omega) hl hg
  unfold op_song
  by_cases c : v.2.1 < 8
  · rw [if_pos c] at e1 R1
    rw [if_pos c]
    exact ⟨M1, e1, ⟨fun k hk => by rw [F1.1 _ (by omega)]; exact r1 k hk, R1, by rw [F1.1 _ (by omega)]; exact r3, fun k hk => ps_RP_fr F1 (by omega) (r4 k hk), by rw [F1.1 _ (by omega)]; exact r5⟩, ps_Fr_wd F1 (by omega) (by omega)⟩
  · rw [if_neg c] at e1 R1
    rw [if_neg c]
    exact ⟨M1, e1, ⟨fun k hk => by rw [F1.1 _ (by omega)]; exact r1 k hk, R1, by rw [F1.1 _ (by omega)]; exact r3, fun k hk => ps_RP_fr F1 (by omega) (r4 k hk), by rw [F1.1 _ (by omega)]; exact r5⟩, ps_Fr_wd F1 (by omega) (by omega)⟩
def op_ord (T : ps_Tx) (o : Nat × Nat × Nat × Nat) (v : ps_H) : Int32 × ps_H := if o.1 = 83 then op_song o.2.2.1 (fun t => pa_sg T (o.2.1 + t) - 97) v else if o.1 = 76 then op_les (nI o.2.1) (nI o.2.2.1) (nI o.2.2.2) v else if o.1 = 72 then op_hush (nI o.2.1) v else if o.1 = 80 then op_prac (nI o.2.1) (nI o.2.2.1) v else if o.1 = 66 then op_par v else op_nt v
/-- an order that can be carried out -/
def ps_oo (T : ps_Tx) (o : Nat × Nat × Nat × Nat) : Prop := (o.1 = 83 ∧ 1 ≤ o.2.2.1 ∧ o.2.2.1 ≤ 20 ∧ o.2.1 ≤ 81 ∧ ∀ t, t < o.2.2.1 → 97 ≤ pa_sg T (o.2.1 + t) ∧ pa_sg T (o.2.1 + t) ≤ 122) ∨ o.1 = 76 ∨ o.1 = 72 ∨ o.1 = 80 ∨ o.1 = 66 ∨ o.1 = 78
theorem ord_oo {T : ps_Tx} {i : Nat} (hi : i ≤ 80) (h : (pa_ord T i).1 = true) : ps_oo T (pa_ord T i).2.2 := by
  unfold pa_ord at h ⊢
  by_cases c1 : pa_sg T i = 83
  · rw [if_pos c1] at h ⊢
    have h2 := of_decide_eq_true h
    exact Or.inl ⟨rfl, h2, lt_le T _, by show i + 1 ≤ 81; omega, fun t ht => lt_is ht⟩
  rw [if_neg c1] at h ⊢
  by_cases c2 : pa_sg T i = 76
  · rw [if_pos c2] at h ⊢
    by_cases d1 : pa_dg T (i + 1) = true
    · rw [if_pos d1] at h ⊢
      by_cases d2 : pa_sg T (i + 2) = 46
      · rw [if_pos d2] at h ⊢
        by_cases d3 : pa_dg T (i + 3) = true
        · rw [if_pos d3] at h ⊢
          by_cases d4 : pa_sg T (i + 4) = 47
          · rw [if_pos d4] at h ⊢
            by_cases d5 : pa_dg T (i + 5) = true
            · rw [if_pos d5]; exact Or.inr (Or.inl rfl)
            · rw [if_neg d5] at h; cases h
          · rw [if_neg d4]; exact Or.inr (Or.inl rfl)
        · rw [if_neg d3] at h; cases h
      · rw [if_neg d2] at h; cases h
    · rw [if_neg d1] at h; cases h
  rw [if_neg c2] at h ⊢
  by_cases c3 : pa_sg T i = 72
  · rw [if_pos c3] at h ⊢
    by_cases d1 : pa_dg T (i + 1) = true
    · rw [if_pos d1]; exact Or.inr (Or.inr (Or.inl rfl))
    · rw [if_neg d1] at h; cases h
  rw [if_neg c3] at h ⊢
  by_cases c4 : pa_sg T i = 80
  · rw [if_pos c4] at h ⊢
    by_cases d1 : pa_dg T (i + 1) = true
    · rw [if_pos d1] at h ⊢
      by_cases d2 : pa_sg T (i + 2) = 42
      · rw [if_pos d2] at h ⊢
        by_cases d3 : pa_dg T (i + 3) = true
        · rw [if_pos d3]; exact Or.inr (Or.inr (Or.inr (Or.inl rfl)))
        · rw [if_neg d3] at h; cases h
      · rw [if_neg d2] at h; cases h
    · rw [if_neg d1] at h; cases h
  rw [if_neg c4] at h ⊢
  by_cases c5 : pa_sg T i = 66
  · rw [if_pos c5]; exact Or.inr (Or.inr (Or.inr (Or.inr (Or.inl rfl))))
  rw [if_neg c5] at h ⊢
  by_cases c6 : pa_sg T i = 78
  · rw [if_pos c6]; exact Or.inr (Or.inr (Or.inr (Or.inr (Or.inr rfl))))
  rw [if_neg c6] at h
  cases h
theorem ok_ord {T : ps_Tx} {o : Nat × Nat × Nat × Nat} {v : ps_H} (hok : ps_okH v) (ho : ps_oo T o) : ps_okH (op_ord T o v).2 := by
  unfold op_ord
  rcases ho with ⟨e, h1, h2, h3, h4⟩ | e | e | e | e | e
  · rw [if_pos e]
    exact ok_song hok h1 h2 (fun t ht => by have := h4 t ht; show pa_sg T (o.2.1 + t) - 97 < 26; omega)
  · rw [if_neg (by omega), if_pos e]; exact ok_les hok _ _ _
  · rw [if_neg (by omega), if_neg (by omega), if_pos e]; exact ok_hush hok _
  · rw [if_neg (by omega), if_neg (by omega), if_neg (by omega), if_pos e]; exact ok_prac hok _ _
  · rw [if_neg (by omega), if_neg (by omega), if_neg (by omega), if_neg (by omega), if_pos e]; exact ok_par hok
  · rw [if_neg (by omega), if_neg (by omega), if_neg (by omega), if_neg (by omega), if_neg (by omega)]; exact ok_nt hok
theorem rs_ord {T : ps_Tx} {o : Nat × Nat × Nat × Nat} {v : ps_H} (hok : ps_okH v) (ho : ps_oo T o) : ps_rs (op_ord T o v).1 := by
  unfold op_ord
  rcases ho with ⟨e, h1, h2, h3, h4⟩ | e | e | e | e | e
  · rw [if_pos e]
    exact rs_if (fun h => rs_n (by omega)) (fun _ => rs_m (by omega) (by omega))
  · rw [if_neg (by omega), if_pos e]; exact rs_les hok _ _ _
  · rw [if_neg (by omega), if_neg (by omega), if_pos e]; exact rs_hush hok _
  · rw [if_neg (by omega), if_neg (by omega), if_neg (by omega), if_pos e]; exact rs_prac hok _ _
  · rw [if_neg (by omega), if_neg (by omega), if_neg (by omega), if_neg (by omega), if_pos e]; exact rs_par
  · rw [if_neg (by omega), if_neg (by omega), if_neg (by omega), if_neg (by omega), if_neg (by omega)]; exact rs_nt hok
theorem cl_do {M : ps_M} {T : ps_Tx} {o : Nat × Nat × Nat × Nat} {v : ps_H} (hR : ps_RH M 1 v) (hok : ps_okH v) (ho : ps_oo T o) (hO : ps_OR M 323 T o) : ∃ M1, ff_X6_carryOrder 0 M = some ((op_ord T o v).1, M1) ∧ ps_RH M1 1 (op_ord T o v).2 ∧ ps_Fr 1 41 M M1 := by
  obtain ⟨h3, h83, h76, h72, h80⟩ := hO
  have ne : ∀ a b : Nat, a < 1000 → b < 1000 → a ≠ b → ¬ nI a = nI b := fun a b ha hb h => by rw [nI_eq (by omega) (by omega)]; exact h
  unfold ff_X6_carryOrder
  rw [Nat.zero_add, Nat.zero_add, h3, ps_letE]
  rcases ho with ⟨e, h1, h2, h3, h4⟩ | e | e | e | e | e
  · obtain ⟨g8, gb⟩ := h83 e
    obtain ⟨M1, e1, R1, F1⟩ := ho_song (g := fun t => pa_sg T (o.2.1 + t) - 97) hR hok h2 (fun t ht => gb t ht)
    have eo : op_ord T o v = op_song o.2.2.1 (fun t => pa_sg T (o.2.1 + t) - 97) v := by unfold op_ord; rw [if_pos e]
    rw [eo, e, if_neg (ne _ _ (by omega) (by omega) (by omega)), if_neg (ne _ _ (by omega) (by omega) (by omega)), if_neg (ne _ _ (by omega) (by omega) (by omega)), if_neg (ne _ _ (by omega) (by omega) (by omega)), if_neg (ne _ _ (by omega) (by omega) (by omega)), if_pos rfl, g8]
    exact ⟨M1, by rw [show 1 + 2 = 3 from rfl, show 323 + 3 = 326 from rfl, e1]; rfl, R1, F1⟩
  · obtain ⟨g4, g5, g6⟩ := h76 e
    obtain ⟨M1, e1, R1, F1⟩ := ho_les hR hok (nI o.2.1) (nI o.2.2.1) (nI o.2.2.2)
    have eo : op_ord T o v = op_les (nI o.2.1) (nI o.2.2.1) (nI o.2.2.2) v := by unfold op_ord; rw [if_neg (by omega), if_pos e]
    rw [eo, e, if_neg (ne _ _ (by omega) (by omega) (by omega)), if_neg (ne _ _ (by omega) (by omega) (by omega)), if_pos rfl, g4, g5, g6]
    exact ⟨M1, by rw [e1]; rfl, R1, F1⟩
  · have g4 := h72 e
    obtain ⟨M1, e1, R1, F1⟩ := ho_hush hR hok (nI o.2.1)
    have eo : op_ord T o v = op_hush (nI o.2.1) v := by unfold op_ord; rw [if_neg (by omega), if_neg (by omega), if_pos e]
    rw [eo, e, if_neg (ne _ _ (by omega) (by omega) (by omega)), if_pos rfl, g4]
    exact ⟨M1, by rw [e1]; rfl, R1, F1⟩
  · obtain ⟨g4, g6⟩ := h80 e
    obtain ⟨M1, e1, R1, F1⟩ := ho_prac hR hok (nI o.2.1) (nI o.2.2.1)
    have eo : op_ord T o v = op_prac (nI o.2.1) (nI o.2.2.1) v := by unfold op_ord; rw [if_neg (by omega), if_neg (by omega), if_neg (by omega), if_pos e]
    rw [eo, e, if_neg (ne _ _ (by omega) (by omega) (by omega)), if_neg (ne _ _ (by omega) (by omega) (by omega)), if_neg (ne _ _ (by omega) (by omega) (by omega)), if_neg (ne _ _ (by omega) (by omega) (by omega)), if_pos rfl, g4, g6]
    exact ⟨M1, by rw [e1]; rfl, R1, F1⟩
  · obtain ⟨M1, e1, R1, F1⟩ := ho_par hR hok
    have eo : op_ord T o v = op_par v := by unfold op_ord; rw [if_neg (by omega), if_neg (by omega), if_neg (by omega), if_neg (by omega), if_pos e]
    rw [eo, e, if_pos rfl]
    exact ⟨M1, by rw [e1]; rfl, R1, F1⟩
  · obtain ⟨M1, e1, R1, F1⟩ := ho_nt hR hok
    have eo : op_ord T o v = op_nt v := by unfold op_ord; rw [if_neg (by omega), if_neg (by omega), if_neg (by omega), if_neg (by omega), if_neg (by omega)]
    rw [eo, e, if_neg (ne _ _ (by omega) (by omega) (by omega)), if_neg (ne _ _ (by omega) (by omega) (by omega)), if_neg (ne _ _ (by omega) (by omega) (by omega)), if_pos rfl]
    exact ⟨M1, by rw [e1]; rfl, R1, F1⟩
theorem gone_n {v : ps_H} (hok : ps_okH v) : ∃ m, m ≤ 240 ∧ pa_gone v = nI m := by
  have np := hok.2.2.1
  have key : ∀ n, n ≤ 4 → ∃ m, m ≤ 60 * n ∧ ps_fo (fun j s => s + nI ((v.2.2.2.2.1 j).1.length - ((v.2.2.2.2.1 j).1.filterMap (ps_fa (v.1 1))).length)) n (nI 0) = nI m := by
    intro n
    induction n with
    | zero => intro _; exact ⟨0, Nat.zero_le _, rfl⟩
    | succ n ih =>
      intro hn
      obtain ⟨m, hm, e⟩ := ih (by omega)
      have := (hok.2.2.2.1 n).1
      refine ⟨m + ((v.2.2.2.2.1 n).1.length - ((v.2.2.2.2.1 n).1.filterMap (ps_fa (v.1 1))).length), by omega, ?_⟩
      rw [ps_fo_s, e, nI_add]
  obtain ⟨m, hm, e⟩ := key v.2.2.2.1 np
  exact ⟨m, by omega, e⟩
/-- an order that fails leaves all as it was -/
theorem er_n {n : Nat} (h : n < 2147483648) : pa_er (nI n) = false := by
  rcases rs_er (rs_n h) with ⟨_, e⟩ | ⟨⟨e, _⟩, _⟩
  · exact e
  · exact absurd (nI_le (Nat.zero_le _) h) e
theorem er_6 : pa_er (ps_m 6) = false := by decide
theorem er_if {c : Prop} {d : Decidable c} {x y : Int32 × ps_H} {v : ps_H} (h1 : c → pa_er x.1 = true → x.2 = v) (h2 : ¬ c → pa_er y.1 = true → y.2 = v) : pa_er (if c then x else y).1 = true → (if c then x else y).2 = v := by
  by_cases h : c
  · rw [if_pos h]; exact h1 h
  · rw [if_neg h]; exact h2 h
theorem er_same {T : ps_Tx} {o : Nat × Nat × Nat × Nat} {v : ps_H} (hok : ps_okH v) (ho : ps_oo T o) : pa_er (op_ord T o v).1 = true → (op_ord T o v).2 = v := by
  have hno : ∀ {n : Nat} {w : ps_H}, n < 2147483648 → pa_er (nI n) = true → w = v := fun h z => by rw [er_n h] at z; cases z
  unfold op_ord
  rcases ho with ⟨e, h1, h2, h3, h4⟩ | e | e | e | e | e
  · rw [if_pos e]
    exact er_if (fun h => hno (by omega)) (fun _ _ => rfl)
  · rw [if_neg (by omega), if_pos e]
    have hr := rs_les hok (nI o.2.1) (nI o.2.2.1) (nI o.2.2.2)
    unfold op_les at hr ⊢
    by_cases c1 : ps_inB (nI o.2.1) v.2.2.2.1 = true ∧ ps_inB (nI o.2.2.1) v.2.1 = true
    · rw [if_pos c1] at hr ⊢
      by_cases c2 : ps_inB (nI o.2.2.2) (v.2.2.1 (nI o.2.2.1).toNatClampNeg).1 = true
      · rw [if_pos c2] at hr ⊢
        by_cases c3 : pa_ti v (v.2.2.2.2.1 (nI o.2.1).toNatClampNeg) = true
        · rw [if_pos c3]; exact fun _ => rfl
        · rw [if_neg c3]
          refine hno ?_
          obtain ⟨s1, s2, s3⟩ := hok.2.1.2 _ (ps_inB_lt c1.2)
          have := (ps_wh_le (fun _ P => !(pa_ti v P)) (fun i P => pa_hear v ((v.2.2.1 (nI o.2.2.1).toNatClampNeg).2.1 i) P) ((v.2.2.1 (nI o.2.2.1).toNatClampNeg).1 - (nI o.2.2.2).toNatClampNeg) (nI o.2.2.2).toNatClampNeg (v.2.2.2.2.1 (nI o.2.1).toNatClampNeg)).2
          have hf := ps_inB_lt c2
          unfold pa_les
          omega
      · rw [if_neg c2]; exact fun _ => rfl
    · rw [if_neg c1]; exact fun _ => rfl
  · rw [if_neg (by omega), if_neg (by omega), if_pos e]
    refine er_if (fun h1 => ?_) (fun _ _ => rfl)
    cases e : (v.2.2.2.2.1 (nI o.2.1).toNatClampNeg).2.1 with
    | none => exact fun z => by rw [show ps_cl none = ps_m 6 from rfl, er_6] at z; cases z
    | some b =>
      have := (hok.2.2.2.1 _).2.2 b e
      exact hno (by omega)
  · rw [if_neg (by omega), if_neg (by omega), if_neg (by omega), if_pos e]
    refine er_if (fun h1 => er_if (fun h2 => er_if (fun _ _ => rfl) (fun _ => hno ?_)) (fun _ _ => rfl)) (fun _ _ => rfl)
    obtain ⟨w, w1, w2, e⟩ := ps_btw (by omega) h2.1 h2.2 (by omega)
    rw [e, nI_clamp (by omega : w < 2 ^ 31)]
    have := pa_ct_le (v.2.2.2.2.1 (nI o.2.1).toNatClampNeg).1 (v.2.2.2.2.1 (nI o.2.1).toNatClampNeg).2.1 w
    omega
  · rw [if_neg (by omega), if_neg (by omega), if_neg (by omega), if_neg (by omega), if_pos e]
    exact er_if (fun h => hno (by omega)) (fun _ _ => rfl)
  · rw [if_neg (by omega), if_neg (by omega), if_neg (by omega), if_neg (by omega), if_neg (by omega)]
    obtain ⟨m, hm, em⟩ := gone_n hok
    unfold op_nt
    refine er_if (fun h z => ?_) (fun _ _ => rfl)
    have z2 : pa_er (pa_gone v) = true := z
    rw [em, er_n (by omega)] at z2
    cases z2
