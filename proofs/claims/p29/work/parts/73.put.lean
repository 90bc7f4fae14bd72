/-! put: how many characters -/
def pa_by (u i : Nat) : Nat := u / 2 ^ (8 * i) % 256
/-- the size as the class finds it, from the byte c on -/
def pa_sz (u : Nat) : Nat → Nat → Nat → Nat
  | 0, c, w => if w = 0 then c else 0
  | k + 1, c, w => if w % 256 = 0 then (if w = 0 then c else 0) else if w % 256 < 33 then 0 else if w % 256 ≤ 126 then pa_sz u k (c + 1) (w / 256) else 0
theorem cl_size (a : Int64) (M : ps_M) : ∀ (k c n : Nat) (x : Int64), c + k = 8 → k + 1 ≤ n → fk_X2_sizeOf_5 n a x (nI c) M = some (nI (pa_sz (pa_w a) k c (pa_w x)), M)
  | 0, c, n, x, h1, h2 => by
    obtain ⟨n, rfl⟩ : ∃ m, n = m + 1 := ⟨n - 1, by omega⟩
    rw [fk_X2_sizeOf_5, if_pos (nI_le (by omega) (by omega))]
    simp only [cmp_0]
    unfold pa_sz
    by_cases c0 : pa_w x = 0
    · rw [if_pos c0, if_pos c0]
    · rw [if_neg c0, if_neg c0]
  | k + 1, c, n, x, h1, h2 => by
    obtain ⟨n, rfl⟩ : ∃ m, n = m + 1 := ⟨n - 1, by omega⟩
    have hb : pa_w x % 256 < 256 := Nat.mod_lt _ (by omega)
    rw [fk_X2_sizeOf_5, if_neg (nI_ge (by omega) (by omega)), and_lN]
    simp only [cmp_0, ps_letE, cmp_33 _ hb, cmp_126 _ hb]
    rw [w_lN (by omega)]
    unfold pa_sz
    by_cases c1 : pa_w x % 256 = 0
    · rw [if_pos c1, if_pos c1]
      by_cases c0 : pa_w x = 0
      · rw [if_pos c0, if_pos c0]
      · rw [if_neg c0, if_neg c0]
    · rw [if_neg c1, if_neg c1]
      by_cases c2 : pa_w x % 256 < 33
      · rw [if_pos c2, if_pos c2]
      · rw [if_neg c2, if_neg c2]
        by_cases c3 : pa_w x % 256 ≤ 126
        · rw [if_pos c3, if_pos c3, nI_add, cl_size a M k (c + 1) n _ (by omega) (by omega), w_sh8]
        · rw [if_neg c3, if_neg c3]
/-- what is known of the size -/
theorem sz_sp (u : Nat) (hu : u < 18446744073709551616) : ∀ (k c w : Nat), c + k = 8 → w = u / 2 ^ (8 * c) → (∀ i, i < c → 33 ≤ pa_by u i ∧ pa_by u i ≤ 126) → pa_sz u k c w ≤ 8 ∧ ∀ i, i < pa_sz u k c w → 33 ≤ pa_by u i ∧ pa_by u i ≤ 126
  | 0, c, w, h1, h2, h3 => by
    unfold pa_sz
    by_cases c0 : w = 0
    · rw [if_pos c0]; exact ⟨by omega, h3⟩
    · rw [if_neg c0]; exact ⟨by omega, fun i hi => absurd hi (Nat.not_lt_zero i)⟩
  | k + 1, c, w, h1, h2, h3 => by
    unfold pa_sz
    by_cases c1 : w % 256 = 0
    · rw [if_pos c1]
      by_cases c0 : w = 0
      · rw [if_pos c0]; exact ⟨by omega, h3⟩
      · rw [if_neg c0]; exact ⟨by omega, fun i hi => absurd hi (Nat.not_lt_zero i)⟩
    · rw [if_neg c1]
      by_cases c2 : w % 256 < 33
      · rw [if_pos c2]; exact ⟨by omega, fun i hi => absurd hi (Nat.not_lt_zero i)⟩
      · rw [if_neg c2]
        by_cases c3 : w % 256 ≤ 126
        · rw [if_pos c3]
          refine sz_sp u hu k (c + 1) (w / 256) (by omega) ?_ (fun i hi => ?_)
          · rw [h2, Nat.div_div_eq_div_mul, show 8 * (c + 1) = 8 * c + 8 by omega, Nat.pow_add]
          · by_cases e : i < c
            · exact h3 i e
            · have e2 : i = c := by omega
              unfold pa_by
              rw [e2, ← h2]
              omega
        · rw [if_neg c3]; exact ⟨by omega, fun i hi => absurd hi (Nat.not_lt_zero i)⟩
/-! put: the characters -/
def op_put (a : Int64) (A : ps_U) : Int32 × ps_U := if pa_sz (pa_w a) 8 0 (pa_w a) = 0 then (ps_m 2, A) else if A.2.2.2.1 + pa_sz (pa_w a) 8 0 (pa_w a) ≤ 80 then (nI (A.2.2.2.1 + pa_sz (pa_w a) 8 0 (pa_w a)), (A.1, A.2.1, A.2.2.1, (A.2.2.2.1 + pa_sz (pa_w a) 8 0 (pa_w a), fun j => if j < A.2.2.2.1 then A.2.2.2.2 j else pa_by (pa_w a) (A.2.2.2.1 + pa_sz (pa_w a) 8 0 (pa_w a) - 1 - j)))) else (ps_m 4, A)
theorem ok_put {A : ps_U} (hok : ps_okU A) (a : Int64) : ps_okU (op_put a A).2 := by
  unfold op_put
  obtain ⟨z1, z2⟩ := sz_sp (pa_w a) (w_lt a) 8 0 (pa_w a) (by omega) (by simp) (fun i hi => absurd hi (Nat.not_lt_zero i))
  by_cases c1 : pa_sz (pa_w a) 8 0 (pa_w a) = 0
  · rw [if_pos c1]; exact hok
  · rw [if_neg c1]
    by_cases c2 : A.2.2.2.1 + pa_sz (pa_w a) 8 0 (pa_w a) ≤ 80
    · rw [if_pos c2]
      refine ⟨hok.1, hok.2.1, hok.2.2.1, ⟨c2, fun j hj => ?_⟩⟩
      have hj2 : j < A.2.2.2.1 + pa_sz (pa_w a) 8 0 (pa_w a) := hj
      show 33 ≤ (if j < A.2.2.2.1 then A.2.2.2.2 j else pa_by (pa_w a) (A.2.2.2.1 + pa_sz (pa_w a) 8 0 (pa_w a) - 1 - j)) ∧ (if j < A.2.2.2.1 then A.2.2.2.2 j else pa_by (pa_w a) (A.2.2.2.1 + pa_sz (pa_w a) 8 0 (pa_w a) - 1 - j)) ≤ 126
      by_cases c3 : j < A.2.2.2.1
      · rw [if_pos c3]; exact hok.2.2.2.2 j c3
      · rw [if_neg c3]; exact z2 _ (by omega)
    · rw [if_neg c2]; exact hok

