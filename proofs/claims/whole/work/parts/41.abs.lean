/-! the abstract state, and what the operations do to it -/
/-- a link: from, to, strength, whether heard today -/
abbrev ps_L : Type := Nat × Nat × Nat × Nat
/-- a parrot: links (the freshest last), last bar, heard today, heard so far, forgotten -/
abbrev ps_P : Type := List ps_L × Option Nat × Int32 × Int32 × Int32
/-- a song: bars, how many; which; lessons -/
abbrev ps_S : Type := Nat × (Nat → Nat) × Int32
/-- a house: settings, songs (how many, which), parrots (how many, which), nights -/
abbrev ps_H : Type := (Nat → Nat) × Nat × (Nat → ps_S) × Nat × (Nat → ps_P) × Nat
def ps_lk (L : List ps_L) (i : Nat) : ps_L := L.getD i (0, 0, 0, 0)
def ps_cl : Option Nat → Int32
  | none => ps_m 6
  | some b => nI b
def ps_ml : Option Nat → Int32
  | none => ps_m 1
  | some b => nI b
/-- while, with a state: how far, and the state -/
def ps_wh {σ : Type} (go : Nat → σ → Bool) (step : Nat → σ → σ) : Nat → Nat → σ → Nat × σ
  | 0, i, s => (i, s)
  | k + 1, i, s => if go i s = true then ps_wh go step k (i + 1) (step i s) else (i, s)
theorem ps_wh_le {σ : Type} (go : Nat → σ → Bool) (step : Nat → σ → σ) : ∀ (k i : Nat) (s : σ), i ≤ (ps_wh go step k i s).1 ∧ (ps_wh go step k i s).1 ≤ i + k
  | 0, i, s => ⟨Nat.le_refl _, Nat.le_refl _⟩
  | k + 1, i, s => by
    unfold ps_wh
    by_cases h : go i s = true
    · rw [if_pos h]
      have := ps_wh_le go step k (i + 1) (step i s)
      omega
    · rw [if_neg h]
      exact ⟨Nat.le_refl _, Nat.le_add_right _ _⟩
theorem ps_whR {σ ρ : Type} {F : Nat → Nat → σ → ps_M → ρ} {Rel : Nat → σ → ps_M → Prop} (cnt : Nat) (go : Nat → σ → Bool) (step : Nat → σ → σ) (fin : Nat → σ → ps_M → ρ)
    (hx : ∀ n i s M, i ≤ cnt → Rel i s M → (i < cnt → go i s = false) → F (n + 1) i s M = fin i s M)
    (hs : ∀ n i s M, i < cnt → Rel i s M → go i s = true → ∃ M1, F (n + 1) i s M = F n (i + 1) (step i s) M1 ∧ Rel (i + 1) (step i s) M1) :
    ∀ (k n i : Nat) (s : σ) (M : ps_M), i + k = cnt → k < n → Rel i s M → ∃ M1, F n i s M = fin (ps_wh go step k i s).1 (ps_wh go step k i s).2 M1 ∧ Rel (ps_wh go step k i s).1 (ps_wh go step k i s).2 M1 := by
  intro k
  induction k with
  | zero =>
    intro n i s M h1 h2 h3
    obtain ⟨n, rfl⟩ : ∃ m, n = m + 1 := ⟨n - 1, by omega⟩
    exact ⟨M, hx n i s M (by omega) h3 (fun q => absurd q (by omega)), h3⟩
  | succ k ih =>
    intro n i s M h1 h2 h3
    obtain ⟨n, rfl⟩ : ∃ m, n = m + 1 := ⟨n - 1, by omega⟩
    unfold ps_wh
    by_cases h : go i s = true
    · rw [if_pos h]
      obtain ⟨M1, e1, r1⟩ := hs n i s M (by omega) h3 h
      rw [e1]
      exact ih n (i + 1) (step i s) M1 (by omega) (by omega) r1
    · rw [if_neg h]
      exact ⟨M, hx n i s M (by omega) h3 (fun _ => by simpa using h), h3⟩
/-- the same where the memory stays -/
theorem ps_whP {σ ρ : Type} {F : Nat → Nat → σ → ρ} {I : Nat → σ → Prop} (cnt : Nat) (go : Nat → σ → Bool) (step : Nat → σ → σ) (fin : Nat → σ → ρ)
    (hx : ∀ n i s, i ≤ cnt → I i s → (i < cnt → go i s = false) → F (n + 1) i s = fin i s)
    (hs : ∀ n i s, i < cnt → I i s → go i s = true → F (n + 1) i s = F n (i + 1) (step i s) ∧ I (i + 1) (step i s)) :
    ∀ (k n i : Nat) (s : σ), i + k = cnt → k < n → I i s → F n i s = fin (ps_wh go step k i s).1 (ps_wh go step k i s).2 ∧ I (ps_wh go step k i s).1 (ps_wh go step k i s).2 := by
  intro k n i s h1 h2 h3
  obtain ⟨M1, e, r⟩ := ps_whR (F := fun n i s _ => F n i s) (Rel := fun i s _ => I i s) cnt go step (fun i s _ => fin i s) (fun n i s _ a b c => hx n i s a b c) (fun n i s M a b c => ⟨M, hs n i s a b c⟩) k n i s (fun _ _ => 0, fun _ => 0) h1 h2 h3
  exact ⟨e, r⟩
/-- for: always on -/
def ps_fo {σ : Type} (step : Nat → σ → σ) (n : Nat) (s : σ) : σ := (ps_wh (fun _ _ => true) step n 0 s).2
theorem ps_wh_all {σ : Type} (step : Nat → σ → σ) : ∀ (k i : Nat) (s : σ), (ps_wh (fun _ _ => true) step k i s).1 = i + k
  | 0, i, s => rfl
  | k + 1, i, s => by
    unfold ps_wh
    rw [if_pos rfl, ps_wh_all step k (i + 1)]
    omega
theorem ps_wh_last {σ : Type} (step : Nat → σ → σ) : ∀ (k i : Nat) (s : σ), (ps_wh (fun _ _ => true) step (k + 1) i s).2 = step (i + k) (ps_wh (fun _ _ => true) step k i s).2
  | 0, i, s => rfl
  | k + 1, i, s => by
    show (ps_wh (fun _ _ => true) step (k + 1) (i + 1) (step i s)).2 = _
    rw [ps_wh_last step k (i + 1) (step i s)]
    rw [show i + 1 + k = i + (k + 1) by omega]
    rfl
theorem ps_fo_0 {σ : Type} (step : Nat → σ → σ) (s : σ) : ps_fo step 0 s = s := rfl
theorem ps_fo_s {σ : Type} (step : Nat → σ → σ) (n : Nat) (s : σ) : ps_fo step (n + 1) s = step n (ps_fo step n s) := by
  unfold ps_fo
  rw [ps_wh_last, Nat.zero_add]
/-- how far a test holds -/
def ps_sc (go : Nat → Bool) (k i : Nat) : Nat := (ps_wh (fun j (_ : Unit) => go j) (fun _ s => s) k i ()).1
theorem ps_sc_spec (go : Nat → Bool) : ∀ (k i : Nat), i ≤ ps_sc go k i ∧ ps_sc go k i ≤ i + k ∧ (∀ t, i ≤ t → t < ps_sc go k i → go t = true) ∧ (ps_sc go k i < i + k → go (ps_sc go k i) = false)
  | 0, i => ⟨Nat.le_refl _, Nat.le_refl _, fun t h1 h2 => absurd h2 (Nat.not_lt.mpr h1), fun h => absurd h (Nat.lt_irrefl _)⟩
  | k + 1, i => by
    unfold ps_sc ps_wh
    by_cases h : go i = true
    · rw [if_pos h]
      obtain ⟨h1, h2, h3, h4⟩ := ps_sc_spec go k (i + 1)
      unfold ps_sc at h1 h2 h3 h4
      refine ⟨by omega, by omega, fun t a b => ?_, fun a => h4 (by omega)⟩
      by_cases e : t = i
      · rw [e]; exact h
      · exact h3 t (by omega) b
    · rw [if_neg h]
      exact ⟨Nat.le_refl _, Nat.le_add_right _ _, fun t a b => absurd b (Nat.not_lt.mpr a), fun _ => by simpa using h⟩
theorem ps_scP {ρ : Type} {F : Nat → Nat → ρ} (cnt : Nat) (go : Nat → Bool) (fin : Nat → ρ) (hx : ∀ n i, i ≤ cnt → (i < cnt → go i = false) → F (n + 1) i = fin i) (hs : ∀ n i, i < cnt → go i = true → F (n + 1) i = F n (i + 1)) (k n i : Nat) (h1 : i + k = cnt) (h2 : k < n) : F n i = fin (ps_sc go k i) :=
  (ps_whP (F := fun n i (_ : Unit) => F n i) (I := fun _ _ => True) cnt (fun j _ => go j) (fun _ s => s) (fun i _ => fin i) (fun n i s a _ c => hx n i a c) (fun n i s a _ c => ⟨hs n i a c, trivial⟩) k n i () h1 h2 trivial).1
/-! parrots -/
def ps_fd (L : List ps_L) (a b : Nat) : Nat := ps_sc (fun i => !(decide ((ps_lk L i).1 = a ∧ (ps_lk L i).2.1 = b))) L.length 0
def pa_wk (L : List ps_L) : Nat := (ps_wh (fun _ _ => true) (fun i w => if (ps_lk L i).2.2.1 < (ps_lk L w).2.2.1 then i else w) (L.length - 1) 1 0).2
def ps_bst (L : List ps_L) (a : Nat) (n : Nat) : Option Nat := ps_fo (fun i b => if (ps_lk L i).1 = a ∧ (∀ j, b = some j → (ps_lk L j).2.2.1 ≤ (ps_lk L i).2.2.1) then some i else b) n none
def ps_nx (L : List ps_L) (a : Nat) : Option Nat := (ps_bst L a L.length).map (fun j => (ps_lk L j).2.1)
def ps_gr (gain a b : Nat) (L : List ps_L) : List ps_L :=
  if ps_fd L a b < L.length then L.eraseIdx (ps_fd L a b) ++ [(a, b, min 9 ((ps_lk L (ps_fd L a b)).2.2.1 + gain), 1)] else L ++ [(a, b, gain, 1)]
def ps_hr (span gain bar : Nat) (P : ps_P) : ps_P := match P.2.1 with
  | none => (P.1, some bar, P.2.2.1 + nI 1, P.2.2.2.1 + nI 1, P.2.2.2.2)
  | some a => if span < (ps_gr gain a bar P.1).length then ((ps_gr gain a bar P.1).eraseIdx (pa_wk (ps_gr gain a bar P.1)), some bar, P.2.2.1 + nI 1, P.2.2.2.1 + nI 1, P.2.2.2.2 + nI 1) else (ps_gr gain a bar P.1, some bar, P.2.2.1 + nI 1, P.2.2.2.1 + nI 1, P.2.2.2.2)
def ps_fa (fade : Nat) (x : ps_L) : Option ps_L := if x.2.2.2 = 1 then some (x.1, x.2.1, x.2.2.1, 0) else if x.2.2.1 < fade + 1 then none else some (x.1, x.2.1, x.2.2.1 - fade, 0)
def ps_sl (fade : Nat) (P : ps_P) : ps_P := (P.1.filterMap (ps_fa fade), none, nI 0, P.2.2.2.1, P.2.2.2.2 + nI (P.1.length - (P.1.filterMap (ps_fa fade)).length))
def ps_new : ps_P := ([], none, nI 0, nI 0, nI 0)
def ps_okL (L : List ps_L) : Prop := (∀ i, i < L.length → (ps_lk L i).1 < 26 ∧ (ps_lk L i).2.1 < 26 ∧ 1 ≤ (ps_lk L i).2.2.1 ∧ (ps_lk L i).2.2.1 ≤ 9 ∧ (ps_lk L i).2.2.2 ≤ 1) ∧ (∀ i j, i < L.length → j < L.length → (ps_lk L i).1 = (ps_lk L j).1 → (ps_lk L i).2.1 = (ps_lk L j).2.1 → i = j)
def ps_ok (P : ps_P) : Prop := P.1.length ≤ 60 ∧ ps_okL P.1 ∧ ∀ b, P.2.1 = some b → b < 26
/-! how the class holds a parrot, at the cell q -/
def ps_RL (M : ps_M) (q : Nat) (L : List ps_L) : Prop := ps_rd M q 1 = nI L.length ∧ ∀ i, i < L.length → ps_rd M (q + 2) i = nI (ps_lk L i).1 ∧ ps_rd M (q + 3) i = nI (ps_lk L i).2.1 ∧ ps_rd M (q + 4) i = nI (ps_lk L i).2.2.1 ∧ ps_rd M (q + 5) i = nI (ps_lk L i).2.2.2
def ps_RP (M : ps_M) (q : Nat) (P : ps_P) : Prop := ps_RL M q P.1 ∧ ps_rd M q 2 = ps_cl P.2.1 ∧ ps_rd M q 3 = P.2.2.1 ∧ ps_rd M q 4 = P.2.2.2.1 ∧ ps_rd M q 5 = P.2.2.2.2
/-- what a method leaves as it was: all cells but lo .. hi - 1, and the history's references -/
def ps_Fr (lo hi : Nat) (M M1 : ps_M) : Prop := (∀ k, (k < lo ∨ hi ≤ k) → ∀ j, ps_rd M1 k j = ps_rd M k j) ∧ M1.2 = M.2
theorem ps_Fr_rf {lo hi : Nat} {M : ps_M} : ps_Fr lo hi M M := ⟨fun _ _ _ => rfl, rfl⟩
theorem ps_Fr_tr {lo hi : Nat} {M M1 M2 : ps_M} (h1 : ps_Fr lo hi M M1) (h2 : ps_Fr lo hi M1 M2) : ps_Fr lo hi M M2 := ⟨fun k hk j => (h2.1 k hk j).trans (h1.1 k hk j), h2.2.trans h1.2⟩
theorem ps_Fr_wd {lo hi lo2 hi2 : Nat} {M M1 : ps_M} (h : ps_Fr lo hi M M1) (h1 : lo2 ≤ lo) (h2 : hi ≤ hi2) : ps_Fr lo2 hi2 M M1 := ⟨fun k hk j => h.1 k (by omega) j, h.2⟩
theorem ps_Fr_st {lo hi : Nat} {M : ps_M} {a j : Nat} {v : Int32} (h1 : lo ≤ a) (h2 : a < hi) : ps_Fr lo hi M (ps_st M a j v) := ⟨fun k hk i => ev_ra (by omega), rfl⟩
theorem ps_Fr_cp {lo hi : Nat} {M : ps_M} {sa sp da dp n : Nat} (h1 : lo ≤ da) (h2 : da < hi) : ps_Fr lo hi M (ps_cp M sa sp da dp n) := ⟨fun k hk i => if_neg (fun z => by omega), rfl⟩
theorem ps_RL_fr {lo hi : Nat} {M M1 : ps_M} {q : Nat} {L : List ps_L} (h : ps_Fr lo hi M M1) (hq : q + 6 ≤ lo ∨ hi ≤ q) (hR : ps_RL M q L) : ps_RL M1 q L := by
  refine ⟨by rw [h.1 q (by omega)]; exact hR.1, fun i hi => ?_⟩
  rw [h.1 (q + 2) (by omega), h.1 (q + 3) (by omega), h.1 (q + 4) (by omega), h.1 (q + 5) (by omega)]
  exact hR.2 i hi
theorem ps_RP_fr {lo hi : Nat} {M M1 : ps_M} {q : Nat} {P : ps_P} (h : ps_Fr lo hi M M1) (hq : q + 6 ≤ lo ∨ hi ≤ q) (hR : ps_RP M q P) : ps_RP M1 q P := by
  refine ⟨ps_RL_fr h hq hR.1, ?_⟩
  rw [h.1 q (by omega), h.1 q (by omega), h.1 q (by omega), h.1 q (by omega)]
  exact hR.2
