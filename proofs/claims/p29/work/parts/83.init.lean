/-! the start: the memory that the constructor leaves, and the state that it stands for -/
def pc_f (j : Nat) : Nat := match j with | 0 => 24 | 1 => 1 | 2 => 1 | _ => 20
def pc_H0 : ps_H := (pc_f, 0, fun _ => (0, fun _ => 0, nI 0), 0, fun _ => ps_new, 0)
def pc_A0 : ps_U := (pc_H0, (0, fun _ => pc_H0), fun _ => none, (0, fun _ => 0))
def pc_M0 : ps_M := (fun k => pc_i (ps_kn k), pc_r0)
theorem ini_ok : ps_okU pc_A0 := by
  have h0 : ps_okH pc_H0 := ⟨⟨by decide, by decide, by decide, by decide⟩, ⟨by decide, fun i hi => absurd hi (Nat.not_lt_zero _)⟩, by decide, fun j => by
    show ps_ok ps_new
    exact ok_new, fun j _ => rfl, by decide⟩
  exact ⟨h0, ⟨by decide, fun i hi => absurd hi (Nat.not_lt_zero _)⟩, (fun s v _ h => by cases h), by decide, fun j hj => absurd hj (Nat.not_lt_zero _)⟩
theorem ini_ro : ps_ro pc_M0 := (by decide +kernel : ∀ j, j < 7 → ps_ck 1 (pc_r0 j) = true)
theorem ini_CL : ps_CL pc_M0 pc_A0 := by
  refine ⟨⟨fun j hj => ?_, ⟨rfl, fun i hi => absurd hi (Nat.not_lt_zero _)⟩, rfl, fun j hj => ?_, rfl⟩, ⟨fun i hi => ?_, fun i j hi hj h => ?_⟩, ⟨rfl, fun i hi => absurd hi (Nat.not_lt_zero _)⟩, fun s hs => ?_, rfl, fun i hi => absurd hi (Nat.not_lt_zero _)⟩
  · rcases (show j = 0 ∨ j = 1 ∨ j = 2 ∨ j = 3 by omega) with rfl | rfl | rfl | rfl <;> rfl
  · rcases (show j = 0 ∨ j = 1 ∨ j = 2 ∨ j = 3 by omega) with rfl | rfl | rfl | rfl <;> exact ⟨⟨rfl, fun i hi => absurd hi (Nat.not_lt_zero _)⟩, rfl, rfl, rfl, rfl⟩
  · show ∃ k, k < 7 ∧ pc_r0 i = 43 + 40 * k
    unfold pc_r0
    by_cases c : i < 6
    · exact ⟨i + 1, by omega, by rw [if_pos c]; omega⟩
    · exact ⟨0, by omega, by rw [if_neg c]⟩
  · have h : pc_r0 i = pc_r0 j := h
    unfold pc_r0 at h
    by_cases c : i < 6 <;> by_cases d : j < 6
    · rw [if_pos c, if_pos d] at h
      omega
    · rw [if_pos c, if_neg d] at h
      omega
    · rw [if_neg c, if_pos d] at h
      omega
    · omega
  · rcases (show s = 0 ∨ s = 1 by omega) with rfl | rfl <;> rfl
/-- the law's frame at 8: the object stands -/
theorem ini_wl {b : Nat} {D : va_G} {H : Heap} {g : Nat → va_E} (h : va_P D vwCl (pw b 415 (pc_cut b D 0 g)) H) : va_P D vwCl (ps_wl b D pc_M0) H := by
  have e : ps_wl b D pc_M0 = pw b 415 (fun k => ps_cel b D (ps_kn k) k (pc_M0.1 k) pc_M0.2) := rfl
  rw [e]
  rw [pw_congr (g := fun k => ps_cel b D (ps_kn k) k (pc_M0.1 k) pc_M0.2) (g1 := pc_cut b D 0 g) (fun k hk => ?_)]
  · exact h
  · rw [cut_g0 (Nat.zero_le _)]
    rfl
