/-! evaluating the functions: small numbers, bounds, memory -/
theorem ps_letE {α β : Type} (x : α) (f : α → β) : ps_let x f = f x := rfl
theorem ps_b2E {β : Type} (v : Int32) (M : ps_M) (f : Int32 → ps_M → Option β) : ps_b2 (some (v, M)) f = f v M := rfl
theorem ev_true : (true = true) = True := eq_self true
theorem ev_inB {i n : Nat} (h : i < n) (hn : n ≤ 1000000) : ps_inB (nI i) n = true := by
  unfold ps_inB
  rw [nI_toInt (by omega)]
  simp
  omega
theorem ev_mt (n : Nat) (h : n < 1000) : (ps_m n).toInt = -(n : Int) := by
  unfold ps_m
  exact sb_negT (by omega)
theorem ev_eqm {a b : Nat} (ha : a < 2147483648) (hb : 0 < b) (h : b < 1000) : (nI a = ps_m b) = False := by
  refine eq_false (fun e => ?_)
  have h1 := congrArg Int32.toInt e
  rw [ev_mt b h, nI_toInt ha] at h1
  omega
theorem ev_eqm2 {a b : Nat} (ha : a < 2147483648) (hb : 0 < b) (h : b < 1000) : (ps_m b = nI a) = False := by
  refine eq_false (fun e => ?_)
  have := ev_eqm ha hb h
  rw [← e] at this
  simp at this
theorem ev_ltm {a b : Nat} (ha : a < 2147483648) (hb : 0 < b) (h : b < 1000) : (nI a < ps_m b) = False := by
  refine eq_false (fun e => ?_)
  rw [Int32.lt_iff_toInt_lt, ev_mt b h, nI_toInt ha] at e
  omega
theorem ev_lem {a b : Nat} (ha : a < 2147483648) (hb : 0 < b) (h : b < 1000) : (nI a ≤ ps_m b) = False := by
  refine eq_false (fun e => ?_)
  rw [Int32.le_iff_toInt_le, ev_mt b h, nI_toInt ha] at e
  omega
theorem ev_mlt {a b : Nat} (ha : a < 2147483648) (hb : 0 < b) (h : b < 1000) : (ps_m b < nI a) = True := by
  refine eq_true ?_
  rw [Int32.lt_iff_toInt_lt, ev_mt b h, nI_toInt ha]
  omega
theorem ev_mle {a b : Nat} (ha : a < 2147483648) (hb : 0 < b) (h : b < 1000) : (ps_m b ≤ nI a) = True := by
  refine eq_true ?_
  rw [Int32.le_iff_toInt_le, ev_mt b h, nI_toInt ha]
  omega
theorem ev_mm {a b : Nat} (ha : a < 1000) (hb : b < 1000) : (ps_m a = ps_m b) = (a = b) := by
  refine propext ⟨fun e => ?_, fun e => by rw [e]⟩
  have h1 := congrArg Int32.toInt e
  rw [ev_mt b hb, ev_mt a ha] at h1
  omega
theorem ev_subm {a b : Nat} (h : b ≤ a) : nI a + ps_m b = nI (a - b) := by
  unfold ps_m
  rw [← Int32.sub_eq_add_neg, pk_sub h]
theorem ev_rs {M : ps_M} {a j : Nat} {v : Int32} : ps_rd (ps_st M a j v) a j = v := if_pos ⟨rfl, rfl⟩
theorem ev_ra {M : ps_M} {a j b k : Nat} {v : Int32} (h : b ≠ a) : ps_rd (ps_st M a j v) b k = ps_rd M b k := if_neg (fun z => h z.1)
theorem ev_rj {M : ps_M} {a j b k : Nat} {v : Int32} (h : k ≠ j) : ps_rd (ps_st M a j v) b k = ps_rd M b k := if_neg (fun z => h z.2)
theorem ev_ca {M : ps_M} {sa sp da dp n b k : Nat} (h : b ≠ da) : ps_rd (ps_cp M sa sp da dp n) b k = ps_rd M b k := if_neg (fun z => h z.1)
theorem ev_ci {M : ps_M} {sa sp da dp n k : Nat} (h1 : dp ≤ k) (h2 : k < dp + n) : ps_rd (ps_cp M sa sp da dp n) da k = ps_rd M sa (sp + (k - dp)) := if_pos ⟨rfl, h1, h2⟩
theorem ev_co {M : ps_M} {sa sp da dp n b k : Nat} (h : k < dp ∨ dp + n ≤ k) : ps_rd (ps_cp M sa sp da dp n) b k = ps_rd M b k := if_neg (fun z => by omega)
theorem ev_cpO {sp dp n n0 n1 : Nat} (h1 : sp + n ≤ n0) (h2 : dp + n ≤ n1) (h3 : n0 ≤ 1000000) (h4 : n1 ≤ 1000000) : ps_cpO (nI sp) (nI dp) (nI n) n0 n1 = true := by
  unfold ps_cpO
  rw [nI_toInt (by omega), nI_toInt (by omega), nI_toInt (by omega)]
  simp
  omega
theorem ps_isB0 : ps_isB (nI 0) = true := by decide
theorem ps_isB1 : ps_isB (nI 1) = true := by decide
def ps_dn (k : Nat) : Int32 := nI k - nI 1
theorem ps_dn_m (k : Nat) : nI k + ps_m 1 = ps_dn k := by
  unfold ps_dn ps_m
  rw [Int32.sub_eq_add_neg]
theorem ps_dn_s (k : Nat) : ps_dn (k + 1) = nI k := by
  unfold ps_dn
  rw [pk_sub (by omega)]
  rfl
theorem ps_dn_0 : ps_dn 0 = ps_m 1 := by
  unfold ps_dn ps_m
  decide
