/-! the bytes of a long -/
def pa_w (x : Int64) : Nat := x.toUInt64.toNat
theorem w_inj {x y : Int64} (h : pa_w x = pa_w y) : x = y := by
  unfold pa_w at h
  have h1 := UInt64.toNat_inj.mp h
  have h2 := congrArg UInt64.toInt64 h1
  simpa using h2
theorem w_lt (x : Int64) : pa_w x < 18446744073709551616 := by
  have := x.toUInt64.toNat_lt
  unfold pa_w
  omega
theorem w_lN {n : Nat} (h : n < 1000) : pa_w (lN n) = n := by
  unfold pa_w lN
  simp
  omega
theorem w_and (x : Int64) : pa_w (x &&& lN 255) = pa_w x % 256 := by
  have e : (x &&& lN 255).toUInt64 = x.toUInt64 &&& (lN 255).toUInt64 := rfl
  have e2 : (lN 255).toUInt64.toNat = 2 ^ 8 - 1 := w_lN (n := 255) (by omega)
  unfold pa_w
  rw [e, UInt64.toNat_and, e2, Nat.and_two_pow_sub_one_eq_mod]
theorem and_lN (x : Int64) : x &&& lN 255 = lN (pa_w x % 256) := w_inj (by rw [w_and, w_lN (by omega)])
theorem sh_am : ∀ i, i < 8 → (((nI 8) * (nI i)).toInt64.toUInt64 &&& Int64.toUInt64 63).toNat = 8 * i := by decide
theorem w_shr (x : Int64) {i : Nat} (hi : i < 8) : pa_w ((x.toUInt64 >>> (((nI 8) * (nI i)).toInt64.toUInt64 &&& Int64.toUInt64 63)).toInt64) = pa_w x / 2 ^ (8 * i) := by
  unfold pa_w
  rw [UInt64.toUInt64_toInt64, UInt64.toNat_shiftRight, sh_am i hi, Nat.shiftRight_eq_div_pow, Nat.mod_eq_of_lt (by omega)]
theorem sh_8 : ((nI 8).toInt64.toUInt64 &&& Int64.toUInt64 63).toNat = 8 := by decide
theorem w_sh8 (x : Int64) : pa_w ((x.toUInt64 >>> ((nI 8).toInt64.toUInt64 &&& Int64.toUInt64 63)).toInt64) = pa_w x / 256 := by
  unfold pa_w
  rw [UInt64.toUInt64_toInt64, UInt64.toNat_shiftRight, sh_8, Nat.shiftRight_eq_div_pow]
set_option maxRecDepth 100000 in
theorem lN_ch : ∀ n, n < 256 → (((lN n).toInt32).toUInt32 % 65536).toInt32 = nI n := by decide
theorem ch_is (x : Int64) {i : Nat} (hi : i < 8) : (((((x.toUInt64 >>> (((nI 8) * (nI i)).toInt64.toUInt64 &&& Int64.toUInt64 63)).toInt64) &&& (lN 255)).toInt32).toUInt32 % 65536).toInt32 = nI (pa_w x / 2 ^ (8 * i) % 256) := by
  rw [and_lN, w_shr x hi, lN_ch _ (by omega)]
theorem cmp_0 (x : Int64) : (lg_cmp x (lN 0) = nI 0) = (pa_w x = 0) := by
  refine propext ⟨fun h => ?_, fun h => ?_⟩
  · unfold lg_cmp at h
    by_cases c1 : x > lN 0
    · rw [if_pos c1] at h; exact absurd h (by decide)
    · rw [if_neg c1] at h
      by_cases c2 : x = lN 0
      · rw [c2, w_lN (by omega)]
      · rw [if_neg c2] at h; exact absurd h (by decide)
  · have e : x = lN 0 := w_inj (by rw [h, w_lN (by omega)])
    rw [e]
    decide
theorem lN_tI {n : Nat} (h : n < 1000) : (lN n).toInt = n := lg_ofNat_toInt (by omega)
theorem cmp_33 : ∀ n, n < 256 → ((lg_cmp (lN n) (lN 33) < nI 0) = (n < 33)) := by
  intro n hn
  refine propext ?_
  have h1 := lg_cmp_ge (lN n) (lN 33)
  rw [Int64.le_iff_toInt_le, lN_tI (by omega), lN_tI (by omega)] at h1
  refine ⟨fun z => ?_, fun z => ?_⟩
  · by_cases c : n < 33
    · exact c
    · exact absurd (h1.mpr (by omega)) (Int32.not_le.mpr z)
  · exact Int32.not_le.mp (fun y => by have := h1.mp y; omega)
theorem cmp_126 : ∀ n, n < 256 → ((lg_cmp (lN n) (lN 126) ≤ nI 0) = (n ≤ 126)) := by
  intro n hn
  refine propext ?_
  have h1 := lg_cmp_le (lN n) (lN 126)
  rw [Int64.le_iff_toInt_le, lN_tI (by omega), lN_tI (by omega)] at h1
  exact ⟨fun z => by have := h1.mp z; omega, fun z => h1.mpr (by omega)⟩
