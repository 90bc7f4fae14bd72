/-! the abstract state, and what the operations do to it -/
/-- a link: from, to, strength, whether heard today -/
abbrev ps_L : Type := Nat × Nat × Nat × Nat
/-- a parrot: links (the freshest last), last bar, heard today, heard so far, forgotten -/
abbrev ps_P : Type := List ps_L × Option Nat × Int32 × Int32 × Int32
/-- a song: bars, how many; which; lessons -/
abbrev ps_S : Type := Nat × (Nat → Nat) × Int32
/-- a house: settings, songs (how many, which), parrots (how many, which), nights -/
abbrev ps_H : Type := (Nat → Nat) × Nat × (Nat → ps_S) × Nat × (Nat → ps_P) × Nat
def ps_lk (L : List ps_L) (i : Nat) : ps_L := L.getD i (0, 0, 0, 0)
def ps_cl : Option Nat → Int32
  | none => ps_m 6
  | some b => nI b
def ps_ml : Option Nat → Int32
  | none => ps_m 1
  | some b => nI b
/-- while, with a state: how far, and the state -/
def ps_wh {σ : Type} (go : Nat → σ → Bool) (step : Nat → σ → σ) : Nat → Nat → σ → Nat × σ
  | 0, i, s => (i, s)
  | k + 1, i, s => if go i s = true then ps_wh go step k (i + 1) (step i s) else (i, s)
theorem ps_wh_le {σ : Type} (go : Nat → σ → Bool) (step : Nat → σ → σ) : ∀ (k i : Nat) (s : σ), i ≤ (ps_wh go step k i s).1 ∧ (ps_wh go step k i s).1 ≤ i + k
  | 0, i, s => ⟨Nat.le_refl _, Nat.le_refl _⟩
  | k + 1, i, s => by
    unfold ps_wh
    by_cases h : go i s = true
    · rw [if_pos h]
      have := ps_wh_le go step k (i + 1) (step i s)
      omega
    · rw [if_neg h]
      exact ⟨Nat.le_refl _, Nat.le_add_right _ _⟩
theorem ps_whR {σ ρ : Type} {F : Nat → Nat → σ → ps_M → ρ} {Rel : Nat → σ → ps_M → Prop} (cnt : Nat) (go : Nat → σ → Bool) (step : Nat → σ → σ) (fin : Nat → σ → ps_M → ρ)
    (hx : ∀ n i s M, i ≤ cnt → Rel i s M → (i < cnt → go i s = false) → F (n + 1) i s M = fin i s M)
    (hs : ∀ n i s M, i < cnt → Rel i s M → go i s = true → ∃ M1, F (n + 1) i s M = F n (i + 1) (step i s) M1 ∧ Rel (i + 1) (step i s) M1) :
    ∀ (k n i : Nat) (s : σ) (M : ps_M), i + k = cnt → k < n → Rel i s M → ∃ M1, F n i s M = fin (ps_wh go step k i s).1 (ps_wh go step k i s).2 M1 ∧ Rel (ps_wh go step k i s).1 (ps_wh go step k i s).2 M1 := by
  intro k
  induction k with
  | zero =>
    intro n i s M h1 h2 h3
    obtain ⟨n, rfl⟩ : ∃ m, n = m + 1 := ⟨n - 1, by omega⟩
    exact ⟨M, hx n i s M (by omega) h3 (fun q => absurd q (by omega)), h3⟩
  | succ k ih =>
    intro n i s M h1 h2 h3
    obtain ⟨n, rfl⟩ : ∃ m, n = m + 1 := ⟨n - 1, by omega⟩
    unfold ps_wh
    by_cases h : go i s = true
    · rw [if_pos h]
      obtain ⟨M1, e1, r1⟩ := hs n i s M (by omega) h3 h
      rw [e1]
      exact ih n (i + 1) (step i s) M1 (by omega) (by omega) r1
    · rw [if_neg h]
      exact ⟨M, hx n i s M (by omega) h3 (fun _ => by simpa using h), h3⟩
/-- the same where the memory stays -/
theorem ps_whP {σ ρ : Type} {F : Nat → Nat → σ → ρ} {I : Nat → σ → Prop} (cnt : Nat) (go : Nat → σ → Bool) (step : Nat → σ → σ) (fin : Nat → σ → ρ)
    (hx : ∀ n i s, i ≤ cnt → I i s → (i < cnt → go i s = false) → F (n + 1) i s = fin i s)
    (hs : ∀ n i s, i < cnt → I i s → go i s = true → F (n + 1) i s = F n (i + 1) (step i s) ∧ I (i + 1) (step i s)) :
    ∀ (k n i : Nat) (s : σ), i + k = cnt → k < n → I i s → F n i s = fin (ps_wh go step k i s).1 (ps_wh go step k i s).2 ∧ I (ps_wh go step k i s).1 (ps_wh go step k i s).2 := by
  intro k n i s h1 h2 h3
  obtain ⟨M1, e, r⟩ := ps_whR (F := fun n i s _ => F n i s) (Rel := fun i s _ => I i s) cnt go step (fun i s _ => fin i s) (fun n i s _ a b c => hx n i s a b c) (fun n i s M a b c => ⟨M, hs n i s a b c⟩) k n i s (fun _ _ => 0, fun _ => 0) h1 h2 h3
  exact ⟨e, r⟩
/-- for: always on -/
def ps_fo {σ : Type} (step : Nat → σ → σ) (n : Nat) (s : σ) : σ := (ps_wh (fun _ _ => true) step n 0 s).2
theorem ps_wh_all {σ : Type} (step : Nat → σ → σ) : ∀ (k i : Nat) (s : σ), (ps_wh (fun _ _ => true) step k i s).1 = i + k
  | 0, i, s => rfl
  | k + 1, i, s => by
    unfold ps_wh
    rw [if_pos rfl, ps_wh_all step k (i + 1)]
    omega
theorem ps_wh_last {σ : Type} (step : Nat → σ → σ) : ∀ (k i : Nat) (s : σ), (ps_wh (fun _ _ => true) step (k + 1) i s).2 = step (i + k) (ps_wh (fun _ _ => true) step k i s).2
  | 0, i, s => rfl
  | k + 1, i, s => by
    show (ps_wh (fun _ _ => true) step (k + 1) (i + 1) (step i s)).2 = _
    rw [ps_wh_last step k (i + 1) (step i s)]
    rw [show i + 1 + k = i + (k + 1) by omega]
    rfl
theorem ps_fo_0 {σ : Type} (step : Nat → σ → σ) (s : σ) : ps_fo step 0 s = s := rfl
theorem ps_fo_s {σ : Type} (step : Nat → σ → σ) (n : Nat) (s : σ) : ps_fo step (n + 1) s = step n (ps_fo step n s) := by
  unfold ps_fo
  rw [ps_wh_last, Nat.zero_add]
/-- how far a test holds -/
def ps_sc (go : Nat → Bool) (k i : Nat) : Nat := (ps_wh (fun j (_ : Unit) => go j) (fun _ s => s) k i ()).1
theorem ps_sc_spec (go : Nat → Bool) : ∀ (k i : Nat), i ≤ ps_sc go k i ∧ ps_sc go k i ≤ i + k ∧ (∀ t, i ≤ t → t < ps_sc go k i → go t = true) ∧ (ps_sc go k i < i + k → go (ps_sc go k i) = false)
  | 0, i => ⟨Nat.le_refl _, Nat.le_refl _, fun t h1 h2 => absurd h2 (Nat.not_lt.mpr h1), fun h => absurd h (Nat.lt_irrefl _)⟩
  | k + 1, i => by
    unfold ps_sc ps_wh
    by_cases h : go i = true
    · rw [if_pos h]
      obtain ⟨h1, h2, h3, h4⟩ := ps_sc_spec go k (i + 1)
      unfold ps_sc at h1 h2 h3 h4
      refine ⟨by omega, by omega, fun t a b => ?_, fun a => h4 (by omega)⟩
      by_cases e : t = i
      · rw [e]; exact h
      · exact h3 t (by omega) b
    · rw [if_neg h]
      exact ⟨Nat.le_refl _, Nat.le_add_right _ _, fun t a b => absurd b (Nat.not_lt.mpr a), fun _ => by simpa using h⟩
theorem ps_scP {ρ : Type} {F : Nat → Nat → ρ} (cnt : Nat) (go : Nat → Bool) (fin : Nat → ρ) (hx : ∀ n i, i ≤ cnt → (i < cnt → go i = false) → F (n + 1) i = fin i) (hs : ∀ n i, i < cnt → go i = true → F (n + 1) i = F n (i + 1)) (k n i : Nat) (h1 : i + k = cnt) (h2 : k < n) : F n i = fin (ps_sc go k i) :=
  (ps_whP (F := fun n i (_ : Unit) => F n i) (I := fun _ _ => True) cnt (fun j _ => go j) (fun _ s => s) (fun i _ => fin i) (fun n i s a _ c => hx n i a c) (fun n i s a _ c => ⟨hs n i a c, trivial⟩) k n i () h1 h2 trivial).1
/-! parrots -/
def ps_fd (L : List ps_L) (a b : Nat) : Nat := ps_sc (fun i => !(decide ((ps_lk L i).1 = a ∧ (ps_lk L i).2.1 = b))) L.length 0
def pa_wk (L : List ps_L) : Nat := (ps_wh (fun _ _ => true) (fun i w => if (ps_lk L i).2.2.1 < (ps_lk L w).2.2.1 then i else w) (L.length - 1) 1 0).2
def ps_bst (L : List ps_L) (a : Nat) (n : Nat) : Option Nat := ps_fo (fun i b => if (ps_lk L i).1 = a ∧ (∀ j, b = some j → (ps_lk L j).2.2.1 ≤ (ps_lk L i).2.2.1) then some i else b) n none
def ps_nx (L : List ps_L) (a : Nat) : Option Nat := (ps_bst L a L.length).map (fun j => (ps_lk L j).2.1)
def ps_gr (gain a b : Nat) (L : List ps_L) : List ps_L :=
  if ps_fd L a b < L.length then L.eraseIdx (ps_fd L a b) ++ [(a, b, min 9 ((ps_lk L (ps_fd L a b)).2.2.1 + gain), 1)] else L ++ [(a, b, gain, 1)]
def ps_hr (span gain bar : Nat) (P : ps_P) : ps_P := match P.2.1 with
  | none => (P.1, some bar, P.2.2.1 + nI 1, P.2.2.2.1 + nI 1, P.2.2.2.2)
  | some a => if span < (ps_gr gain a bar P.1).length then ((ps_gr gain a bar P.1).eraseIdx (pa_wk (ps_gr gain a bar P.1)), some bar, P.2.2.1 + nI 1, P.2.2.2.1 + nI 1, P.2.2.2.2 + nI 1) else (ps_gr gain a bar P.1, some bar, P.2.2.1 + nI 1, P.2.2.2.1 + nI 1, P.2.2.2.2)
def ps_fa (fade : Nat) (x : ps_L) : Option ps_L := if x.2.2.2 = 1 then some (x.1, x.2.1, x.2.2.1, 0) else if x.2.2.1 < fade + 1 then none else some (x.1, x.2.1, x.2.2.1 - fade, 0)
def ps_sl (fade : Nat) (P : ps_P) : ps_P := (P.1.filterMap (ps_fa fade), none, nI 0, P.2.2.2.1, P.2.2.2.2 + nI (P.1.length - (P.1.filterMap (ps_fa fade)).length))
def ps_new : ps_P := ([], none, nI 0, nI 0, nI 0)
def ps_okL (L : List ps_L) : Prop := (∀ x ∈ L, x.1 < 26 ∧ x.2.1 < 26 ∧ 1 ≤ x.2.2.1 ∧ x.2.2.1 ≤ 9 ∧ x.2.2.2 ≤ 1) ∧ L.Pairwise (fun x y => ¬ (x.1 = y.1 ∧ x.2.1 = y.2.1))
theorem lk_in {L : List ps_L} {i : Nat} (h : i < L.length) : ps_lk L i ∈ L := by
  unfold ps_lk
  rw [List.getD_eq_getElem?_getD, List.getElem?_eq_getElem h]
  exact List.getElem_mem h
theorem okL_at {L : List ps_L} (h : ps_okL L) {i : Nat} (hi : i < L.length) : (ps_lk L i).1 < 26 ∧ (ps_lk L i).2.1 < 26 ∧ 1 ≤ (ps_lk L i).2.2.1 ∧ (ps_lk L i).2.2.1 ≤ 9 ∧ (ps_lk L i).2.2.2 ≤ 1 := h.1 _ (lk_in hi)
theorem okL_one {L : List ps_L} (h : ps_okL L) {i j : Nat} (hi : i < L.length) (hj : j < L.length) (e1 : (ps_lk L i).1 = (ps_lk L j).1) (e2 : (ps_lk L i).2.1 = (ps_lk L j).2.1) : i = j := by
  have hp := List.pairwise_iff_getElem.mp h.2
  have ei : ps_lk L i = L[i] := by unfold ps_lk; rw [List.getD_eq_getElem?_getD, List.getElem?_eq_getElem hi]; rfl
  have ej : ps_lk L j = L[j] := by unfold ps_lk; rw [List.getD_eq_getElem?_getD, List.getElem?_eq_getElem hj]; rfl
  rw [ei, ej] at e1 e2
  rcases Nat.lt_trichotomy i j with q | q | q
  · exact absurd ⟨e1, e2⟩ (hp i j hi hj q)
  · exact q
  · exact absurd ⟨e1.symm, e2.symm⟩ (hp j i hj hi q)
theorem okL_erase {L : List ps_L} (h : ps_okL L) (i : Nat) : ps_okL (L.eraseIdx i) := ⟨fun x hx => h.1 x ((List.eraseIdx_sublist L i).subset hx), h.2.sublist (List.eraseIdx_sublist L i)⟩
theorem okL_app {L : List ps_L} (h : ps_okL L) {x : ps_L} (hx : x.1 < 26 ∧ x.2.1 < 26 ∧ 1 ≤ x.2.2.1 ∧ x.2.2.1 ≤ 9 ∧ x.2.2.2 ≤ 1) (hn : ∀ y ∈ L, ¬ (y.1 = x.1 ∧ y.2.1 = x.2.1)) : ps_okL (L ++ [x]) := by
  refine ⟨fun y hy => ?_, ?_⟩
  · rcases List.mem_append.mp hy with q | q
    · exact h.1 y q
    · rw [List.mem_singleton.mp q]; exact hx
  · rw [List.pairwise_append]
    exact ⟨h.2, List.pairwise_singleton _ _, fun y hy z hz => by rw [List.mem_singleton.mp hz]; exact hn y hy⟩
def ps_ok (P : ps_P) : Prop := P.1.length ≤ 60 ∧ ps_okL P.1 ∧ ∀ b, P.2.1 = some b → b < 26
/-! how the class holds a parrot, at the cell q -/
def ps_RL (M : ps_M) (q : Nat) (L : List ps_L) : Prop := ps_rd M q 1 = nI L.length ∧ ∀ i, i < L.length → ps_rd M (q + 2) i = nI (ps_lk L i).1 ∧ ps_rd M (q + 3) i = nI (ps_lk L i).2.1 ∧ ps_rd M (q + 4) i = nI (ps_lk L i).2.2.1 ∧ ps_rd M (q + 5) i = nI (ps_lk L i).2.2.2
def ps_RP (M : ps_M) (q : Nat) (P : ps_P) : Prop := ps_RL M q P.1 ∧ ps_rd M q 2 = ps_cl P.2.1 ∧ ps_rd M q 3 = P.2.2.1 ∧ ps_rd M q 4 = P.2.2.2.1 ∧ ps_rd M q 5 = P.2.2.2.2
/-- what a method leaves as it was: all cells but lo .. hi - 1, and the history's references -/
def ps_Fr (lo hi : Nat) (M M1 : ps_M) : Prop := (∀ k, (k < lo ∨ hi ≤ k) → ∀ j, ps_rd M1 k j = ps_rd M k j) ∧ M1.2 = M.2
theorem ps_Fr_rf {lo hi : Nat} {M : ps_M} : ps_Fr lo hi M M := ⟨fun _ _ _ => rfl, rfl⟩
theorem ps_Fr_tr {lo hi : Nat} {M M1 M2 : ps_M} (h1 : ps_Fr lo hi M M1) (h2 : ps_Fr lo hi M1 M2) : ps_Fr lo hi M M2 := ⟨fun k hk j => (h2.1 k hk j).trans (h1.1 k hk j), h2.2.trans h1.2⟩
theorem ps_Fr_wd {lo hi lo2 hi2 : Nat} {M M1 : ps_M} (h : ps_Fr lo hi M M1) (h1 : lo2 ≤ lo) (h2 : hi ≤ hi2) : ps_Fr lo2 hi2 M M1 := ⟨fun k hk j => h.1 k (by omega) j, h.2⟩
theorem ps_Fr_st {lo hi : Nat} {M : ps_M} {a j : Nat} {v : Int32} (h1 : lo ≤ a) (h2 : a < hi) : ps_Fr lo hi M (ps_st M a j v) := ⟨fun k hk i => ev_ra (by omega), rfl⟩
theorem ps_Fr_cp {lo hi : Nat} {M : ps_M} {sa sp da dp n : Nat} (h1 : lo ≤ da) (h2 : da < hi) : ps_Fr lo hi M (ps_cp M sa sp da dp n) := ⟨fun k hk i => if_neg (fun z => by omega), rfl⟩
theorem ps_RL_fr {lo hi : Nat} {M M1 : ps_M} {q : Nat} {L : List ps_L} (h : ps_Fr lo hi M M1) (hq : q + 6 ≤ lo ∨ hi ≤ q) (hR : ps_RL M q L) : ps_RL M1 q L := by
  refine ⟨by rw [h.1 q (by omega)]; exact hR.1, fun i hi => ?_⟩
  rw [h.1 (q + 2) (by omega), h.1 (q + 3) (by omega), h.1 (q + 4) (by omega), h.1 (q + 5) (by omega)]
  exact hR.2 i hi
theorem ps_RP_fr {lo hi : Nat} {M M1 : ps_M} {q : Nat} {P : ps_P} (h : ps_Fr lo hi M M1) (hq : q + 6 ≤ lo ∨ hi ≤ q) (hR : ps_RP M q P) : ps_RP M1 q P := by
  refine ⟨ps_RL_fr h hq hR.1, ?_⟩
  rw [h.1 q (by omega), h.1 q (by omega), h.1 q (by omega), h.1 q (by omega)]
  exact hR.2
/-! lists of links -/
theorem lk_app (L : List ps_L) (x : ps_L) (j : Nat) : ps_lk (L ++ [x]) j = if j < L.length then ps_lk L j else if j = L.length then x else (0, 0, 0, 0) := by
  unfold ps_lk
  rw [List.getD_eq_getElem?_getD, List.getD_eq_getElem?_getD]
  by_cases h : j < L.length
  · rw [if_pos h, List.getElem?_append_left h]
  · rw [if_neg h, List.getElem?_append_right (by omega)]
    by_cases h2 : j = L.length
    · rw [if_pos h2, h2, Nat.sub_self]
      rfl
    · rw [if_neg h2, List.getElem?_eq_none (by simp; omega)]
      rfl
theorem lk_erase (L : List ps_L) (i j : Nat) : ps_lk (L.eraseIdx i) j = if j < i then ps_lk L j else ps_lk L (j + 1) := by
  unfold ps_lk
  rw [List.getD_eq_getElem?_getD, List.getElem?_eraseIdx]
  by_cases h : j < i
  · rw [if_pos h, if_pos h, List.getD_eq_getElem?_getD]
  · rw [if_neg h, if_neg h, List.getD_eq_getElem?_getD]
theorem len_erase {L : List ps_L} {i : Nat} (h : i < L.length) : (L.eraseIdx i).length = L.length - 1 := by
  rw [List.length_eraseIdx, if_pos h]
theorem nb_f {c : Prop} {d : Decidable c} (h : (!(decide c)) = false) : c := by
  by_cases q : c
  · exact q
  · simp [q] at h
theorem nb_t {c : Prop} {d : Decidable c} (h : (!(decide c)) = true) : ¬ c := by
  intro q
  simp [q] at h
theorem ps_fd_le (L : List ps_L) (a b : Nat) : ps_fd L a b ≤ L.length := by
  have := (ps_sc_spec (fun i => !(decide ((ps_lk L i).1 = a ∧ (ps_lk L i).2.1 = b))) L.length 0).2.1
  unfold ps_fd
  omega
theorem ps_fd_at {L : List ps_L} {a b : Nat} (h : ps_fd L a b < L.length) : (ps_lk L (ps_fd L a b)).1 = a ∧ (ps_lk L (ps_fd L a b)).2.1 = b := by
  have := (ps_sc_spec (fun i => !(decide ((ps_lk L i).1 = a ∧ (ps_lk L i).2.1 = b))) L.length 0).2.2.2
  rw [Nat.zero_add] at this
  exact nb_f (this h)
theorem ps_fd_no {L : List ps_L} {a b j : Nat} (h : j < ps_fd L a b) : ¬ ((ps_lk L j).1 = a ∧ (ps_lk L j).2.1 = b) := by
  have := (ps_sc_spec (fun i => !(decide ((ps_lk L i).1 = a ∧ (ps_lk L i).2.1 = b))) L.length 0).2.2.1 j (Nat.zero_le _) h
  exact nb_t this
theorem pa_wk_lt {L : List ps_L} (h : 0 < L.length) : pa_wk L < L.length := by
  unfold pa_wk
  generalize hk : L.length - 1 = k
  have key : ∀ (k i w : Nat), i + k ≤ L.length → w < L.length → (ps_wh (fun _ _ => true) (fun i w => if (ps_lk L i).2.2.1 < (ps_lk L w).2.2.1 then i else w) k i w).2 < L.length := by
    intro k
    induction k with
    | zero => intro i w h1 h2; exact h2
    | succ k ih =>
      intro i w h1 h2
      unfold ps_wh
      rw [if_pos rfl]
      refine ih (i + 1) _ (by omega) ?_
      by_cases q : (ps_lk L i).2.2.1 < (ps_lk L w).2.2.1
      · rw [if_pos q]; omega
      · rw [if_neg q]; exact h2
  exact key k 1 0 (by omega) h
/-- the strongest link from a among lo .. hi - 1, of as strong ones the last -/
def pa_best (L : List ps_L) (a lo hi : Nat) (b : Option Nat) : Prop := match b with
  | none => ∀ t, lo ≤ t → t < hi → (ps_lk L t).1 ≠ a
  | some j => (lo ≤ j ∧ j < hi ∧ (ps_lk L j).1 = a) ∧ ∀ t, lo ≤ t → t < hi → (ps_lk L t).1 = a → (ps_lk L t).2.2.1 ≤ (ps_lk L j).2.2.1 ∧ ((ps_lk L t).2.2.1 = (ps_lk L j).2.2.1 → t ≤ j)
theorem pa_best_one {L : List ps_L} {a lo hi : Nat} {b c : Option Nat} (hb : pa_best L a lo hi b) (hc : pa_best L a lo hi c) : b = c := by
  cases b with
  | none =>
    cases c with
    | none => rfl
    | some j => exact absurd hc.1.2.2 (hb j hc.1.1 hc.1.2.1)
  | some i =>
    cases c with
    | none => exact absurd hb.1.2.2 (hc i hb.1.1 hb.1.2.1)
    | some j =>
      have h1 := hb.2 j hc.1.1 hc.1.2.1 hc.1.2.2
      have h2 := hc.2 i hb.1.1 hb.1.2.1 hb.1.2.2
      have e : (ps_lk L i).2.2.1 = (ps_lk L j).2.2.1 := Nat.le_antisymm h2.1 h1.1
      have h3 := h1.2 e.symm
      have h4 := h2.2 e
      rw [Nat.le_antisymm h4 h3]
theorem pa_best_up {L : List ps_L} {a hi : Nat} {b : Option Nat} (h : pa_best L a 0 hi b) : pa_best L a 0 (hi + 1) (if (ps_lk L hi).1 = a ∧ (∀ j, b = some j → (ps_lk L j).2.2.1 ≤ (ps_lk L hi).2.2.1) then some hi else b) := by
  by_cases m : (ps_lk L hi).1 = a ∧ (∀ j, b = some j → (ps_lk L j).2.2.1 ≤ (ps_lk L hi).2.2.1)
  · rw [if_pos m]
    refine ⟨⟨Nat.zero_le _, Nat.lt_succ_self _, m.1⟩, fun t _ h2 h3 => ?_⟩
    by_cases e : t = hi
    · subst e
      exact ⟨Nat.le_refl _, fun _ => Nat.le_refl _⟩
    · have h4 : t < hi := by omega
      refine ⟨?_, fun _ => Nat.le_of_lt h4⟩
      cases b with
      | none => exact absurd h3 (h t (Nat.zero_le _) h4)
      | some j => exact Nat.le_trans (h.2 t (Nat.zero_le _) h4 h3).1 (m.2 j rfl)
  · rw [if_neg m]
    cases b with
    | none =>
      intro t _ h2 h3
      by_cases e : t = hi
      · subst e
        exact m ⟨h3, fun j q => by cases q⟩
      · exact h t (Nat.zero_le _) (by omega) h3
    | some j =>
      refine ⟨⟨Nat.zero_le _, by have := h.1.2.1; omega, h.1.2.2⟩, fun t _ h2 h3 => ?_⟩
      by_cases e : t = hi
      · subst e
        have : ¬ (ps_lk L j).2.2.1 ≤ (ps_lk L t).2.2.1 := fun q => m ⟨h3, fun i hi => by cases hi; exact q⟩
        exact ⟨by omega, fun q => by omega⟩
      · exact h.2 t (Nat.zero_le _) (by omega) h3
theorem ps_bst_best (L : List ps_L) (a : Nat) : ∀ n, pa_best L a 0 n (ps_bst L a n)
  | 0 => fun t _ h => absurd h (Nat.not_lt_zero t)
  | n + 1 => by
    have h := pa_best_up (ps_bst_best L a n)
    unfold ps_bst at h ⊢
    rw [ps_fo_s]
    exact h
theorem pa_best_dn {L : List ps_L} {a lo hi : Nat} {b : Option Nat} (hl : lo < hi) (h : pa_best L a (lo + 1) hi b) : pa_best L a lo hi (if (ps_lk L lo).1 = a ∧ (∀ j, b = some j → (ps_lk L j).2.2.1 < (ps_lk L lo).2.2.1) then some lo else b) := by
  by_cases m : (ps_lk L lo).1 = a ∧ (∀ j, b = some j → (ps_lk L j).2.2.1 < (ps_lk L lo).2.2.1)
  · rw [if_pos m]
    refine ⟨⟨Nat.le_refl _, hl, m.1⟩, fun t h1 h2 h3 => ?_⟩
    by_cases e : t = lo
    · subst e
      exact ⟨Nat.le_refl _, fun _ => Nat.le_refl _⟩
    · cases b with
      | none => exact absurd h3 (h t (by omega) h2)
      | some j =>
        have h4 := (h.2 t (by omega) h2 h3).1
        have h5 := m.2 j rfl
        exact ⟨by omega, fun q => by omega⟩
  · rw [if_neg m]
    cases b with
    | none =>
      intro t h1 h2 h3
      by_cases e : t = lo
      · subst e
        exact m ⟨h3, fun j q => by cases q⟩
      · exact h t (by omega) h2 h3
    | some j =>
      refine ⟨⟨by have := h.1.1; omega, h.1.2.1, h.1.2.2⟩, fun t h1 h2 h3 => ?_⟩
      by_cases e : t = lo
      · subst e
        have : ¬ (ps_lk L j).2.2.1 < (ps_lk L t).2.2.1 := fun q => m ⟨h3, fun i hi => by cases hi; exact q⟩
        exact ⟨by omega, fun q => by have := h.1.1; omega⟩
      · exact h.2 t (by omega) h2 h3
theorem okL_gr {L : List ps_L} (h : ps_okL L) {gain a b : Nat} (ha : a < 26) (hb : b < 26) (h1 : 1 ≤ gain) (h2 : gain ≤ 3) : ps_okL (ps_gr gain a b L) ∧ (ps_gr gain a b L).length ≤ L.length + 1 ∧ 0 < (ps_gr gain a b L).length := by
  unfold ps_gr
  by_cases k : ps_fd L a b < L.length
  · rw [if_pos k]
    obtain ⟨f1, f2⟩ := ps_fd_at k
    obtain ⟨-, -, o1, o2, -⟩ := okL_at h k
    refine ⟨okL_app (okL_erase h _) ⟨ha, hb, by show 1 ≤ min 9 _; omega, by show min 9 _ ≤ 9; omega, Nat.le_refl _⟩ (fun y hy e => ?_), by rw [List.length_append, len_erase k]; show L.length - 1 + 1 ≤ _; omega, by simp⟩
    obtain ⟨i, hi, rfl⟩ := List.getElem_of_mem hy
    have hl : i < L.length - 1 := by rw [len_erase k] at hi; exact hi
    have ey : (L.eraseIdx (ps_fd L a b))[i] = ps_lk (L.eraseIdx (ps_fd L a b)) i := by unfold ps_lk; rw [List.getD_eq_getElem?_getD, List.getElem?_eq_getElem hi]; rfl
    rw [ey, lk_erase] at e
    by_cases q : i < ps_fd L a b
    · rw [if_pos q] at e
      have := okL_one h (by omega) k (e.1.trans f1.symm) (e.2.trans f2.symm)
      omega
    · rw [if_neg q] at e
      have := okL_one h (by omega) k (e.1.trans f1.symm) (e.2.trans f2.symm)
      omega
  · rw [if_neg k]
    refine ⟨okL_app h ⟨ha, hb, h1, by show gain ≤ 9; omega, Nat.le_refl _⟩ (fun y hy e => ?_), by simp, by simp⟩
    obtain ⟨i, hi, rfl⟩ := List.getElem_of_mem hy
    have ey : L[i] = ps_lk L i := by unfold ps_lk; rw [List.getD_eq_getElem?_getD, List.getElem?_eq_getElem hi]; rfl
    rw [ey] at e
    exact ps_fd_no (a := a) (b := b) (by have := ps_fd_le L a b; omega) e
theorem ok_hr {P : ps_P} (h : ps_ok P) {span gain bar : Nat} (hb : bar < 26) (h1 : 1 ≤ gain) (h2 : gain ≤ 3) (h3 : span ≤ 60) : ps_ok (ps_hr span gain bar P) := by
  obtain ⟨L, last, td, ia, fg⟩ := P
  obtain ⟨o1, o2, o3⟩ := h
  unfold ps_hr
  cases last with
  | none => exact ⟨o1, o2, fun b e => by cases e; exact hb⟩
  | some a =>
    have ha := o3 a rfl
    obtain ⟨g1, g2, g3⟩ := okL_gr o2 ha hb h1 h2
    dsimp only at o1 g1 g2 g3 ⊢
    by_cases q : span < (ps_gr gain a bar L).length
    · rw [if_pos q]
      refine ⟨?_, okL_erase g1 _, fun b e => by cases e; exact hb⟩
      show ((ps_gr gain a bar L).eraseIdx _).length ≤ 60
      rw [len_erase (pa_wk_lt g3)]
      omega
    · rw [if_neg q]
      exact ⟨by show (ps_gr gain a bar L).length ≤ 60; omega, g1, fun b e => by cases e; exact hb⟩
theorem okL_fm {L : List ps_L} (h : ps_okL L) (fade : Nat) : ps_okL (L.filterMap (ps_fa fade)) := by
  have key : ∀ (x y : ps_L), ps_fa fade x = some y → y.1 = x.1 ∧ y.2.1 = x.2.1 ∧ y.2.2.1 ≤ x.2.2.1 ∧ (1 ≤ x.2.2.1 → 1 ≤ y.2.2.1) ∧ y.2.2.2 = 0 := by
    intro x y e
    unfold ps_fa at e
    by_cases c1 : x.2.2.2 = 1
    · rw [if_pos c1] at e
      cases e
      exact ⟨rfl, rfl, Nat.le_refl _, fun q => q, rfl⟩
    · rw [if_neg c1] at e
      by_cases c2 : x.2.2.1 < fade + 1
      · rw [if_pos c2] at e; cases e
      · rw [if_neg c2] at e
        cases e
        exact ⟨rfl, rfl, Nat.sub_le _ _, fun _ => by show 1 ≤ x.2.2.1 - fade; omega, rfl⟩
  refine ⟨fun y hy => ?_, ?_⟩
  · obtain ⟨x, hx, e⟩ := List.mem_filterMap.mp hy
    obtain ⟨k1, k2, k3, k4, k5⟩ := key x y e
    obtain ⟨r1, r2, r3, r4, r5⟩ := h.1 x hx
    exact ⟨by omega, by omega, k4 r3, by omega, by omega⟩
  · refine List.Pairwise.filterMap _ (fun x y hxy u hu v hv e => ?_) h.2
    obtain ⟨k1, k2, -⟩ := key x u hu
    obtain ⟨l1, l2, -⟩ := key y v hv
    exact hxy ⟨by rw [← k1, ← l1]; exact e.1, by rw [← k2, ← l2]; exact e.2⟩
theorem ok_sl {P : ps_P} (h : ps_ok P) (fade : Nat) : ps_ok (ps_sl fade P) := by
  refine ⟨?_, okL_fm h.2.1 fade, fun b e => by cases e⟩
  show (P.1.filterMap (ps_fa fade)).length ≤ 60
  exact Nat.le_trans (List.length_filterMap_le _ _) h.1
theorem ok_new : ps_ok ps_new := ⟨Nat.zero_le _, ⟨fun x h => (by cases h), List.Pairwise.nil⟩, fun b e => by cases e⟩
