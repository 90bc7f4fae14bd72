/-! how many bits -/
def pa_pn (S : Nat) (n : Nat) : Nat := ps_fo (fun i c => c + (if S.testBit i = true then 1 else 0)) n 0
def pa_pop (S : Nat) : Nat := pa_pn S 26
theorem pn_or {S b : Nat} : ∀ n, pa_pn (S ||| 2 ^ b) n = pa_pn S n + (if b < n ∧ ¬ S.testBit b = true then 1 else 0)
  | 0 => by rw [if_neg (fun z => absurd z.1 (Nat.not_lt_zero b))]; rfl
  | n + 1 => by
    have e1 : pa_pn (S ||| 2 ^ b) (n + 1) = pa_pn (S ||| 2 ^ b) n + (if (S ||| 2 ^ b).testBit n = true then 1 else 0) := by unfold pa_pn; rw [ps_fo_s]
    have e2 : pa_pn S (n + 1) = pa_pn S n + (if S.testBit n = true then 1 else 0) := by unfold pa_pn; rw [ps_fo_s]
    rw [e1, e2, pn_or n, Nat.testBit_or, Nat.testBit_two_pow]
    by_cases c : b = n
    · subst c
      by_cases t : S.testBit b = true
      · simp [t]
      · simp [t]
    · by_cases c2 : b < n
      · by_cases t : S.testBit b = true
        · simp [t, c]
        · have h3 : b < n + 1 := by omega
          simp [t, c, c2, h3]
          omega
      · have h3 : ¬ b < n + 1 := by omega
        simp [c, c2, h3]
theorem pop_or {S b : Nat} (hb : b < 26) : pa_pop (S ||| 2 ^ b) = pa_pop S + (if S.testBit b = true then 0 else 1) := by
  unfold pa_pop
  rw [pn_or]
  by_cases t : S.testBit b = true
  · rw [if_neg (fun z => z.2 t), if_pos t]
  · rw [if_pos ⟨hb, t⟩, if_neg t]
theorem bc_ff {S : Nat} (h : S < 67108864) (M : ps_M) : ff_J6_bitCount_0f7a4 (nI S) M = some (nI (pa_pop S), M) := by
  sorry
theorem sh_1 : ∀ b, b < 26 → (nI 1) <<< ((nI b) &&& 31) = nI (2 ^ b) := by decide
theorem nI_bv (n : Nat) : (nI n).toBitVec = BitVec.ofNat 32 n := rfl
theorem or_nI {S T : Nat} (hS : S < 67108864) (hT : T < 67108864) : nI S ||| nI T = nI (S ||| T) := by
  refine Int32.toBitVec_inj.mp ?_
  rw [Int32.toBitVec_or, nI_bv, nI_bv, nI_bv]
  refine BitVec.eq_of_toNat_eq ?_
  have h1 : S ||| T < 2 ^ 26 := Nat.or_lt_two_pow hS hT
  rw [BitVec.toNat_or, BitVec.toNat_ofNat, BitVec.toNat_ofNat, BitVec.toNat_ofNat, Nat.mod_eq_of_lt (by omega), Nat.mod_eq_of_lt (by omega), Nat.mod_eq_of_lt (by omega)]
theorem am_b : ∀ b, b < 26 → ((nI b) &&& 31) = nI b := by decide
theorem sm_b : ∀ b, b < 26 → ((nI b).toBitVec.smod 32).toNat = b := by decide
theorem shr_b {S b : Nat} (hS : S < 67108864) (hb : b < 26) : ((nI S >>> ((nI b) &&& 31)) &&& nI 1) = nI (if S.testBit b = true then 1 else 0) := by
  rw [am_b b hb]
  refine Int32.toBitVec_inj.mp ?_
  have hm : (nI S).toBitVec.msb = false := by
    rw [nI_bv, BitVec.msb_eq_false_iff_two_mul_lt, BitVec.toNat_ofNat, Nat.mod_eq_of_lt (by omega)]
    omega
  have hs : ((nI b).toBitVec.smod 32).toNat = b := sm_b b hb
  rw [Int32.toBitVec_and, Int32.toBitVec_shiftRight]
  show (nI S).toBitVec.sshiftRight (((nI b).toBitVec.smod 32).toNat) &&& (nI 1).toBitVec = _
  rw [hs, BitVec.sshiftRight_eq_of_msb_false hm, nI_bv, nI_bv, nI_bv]
  refine BitVec.eq_of_toNat_eq ?_
  rw [BitVec.toNat_and, BitVec.toNat_ushiftRight, BitVec.toNat_ofNat, BitVec.toNat_ofNat, BitVec.toNat_ofNat, Nat.mod_eq_of_lt (by omega : S < 2 ^ 32), Nat.mod_eq_of_lt (by omega : 1 < 2 ^ 32), Nat.and_one_is_mod, Nat.shiftRight_eq_div_pow, Nat.testBit_eq_decide_div_mod_eq]
  by_cases c : S / 2 ^ b % 2 = 1
  · rw [c]
    simp
  · have c0 : S / 2 ^ b % 2 = 0 := by omega
    rw [c0]
    simp
