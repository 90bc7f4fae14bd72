/-! sums, and the class's answers one by one -/
theorem sm_s (f : Nat → Int32) (n : Nat) : pa_sm f (n + 1) = pa_sm f n + f n := by
  unfold pa_sm
  rw [ps_fo_s]
theorem sm_0 (f : Nat → Int32) : pa_sm f 0 = nI 0 := rfl
theorem sm_front (f : Nat → Int32) : ∀ n, pa_sm f (n + 1) = f 0 + pa_sm (fun j => f (j + 1)) n
  | 0 => by
    rw [sm_s, sm_0, sm_0]
    exact Int32.add_comm _ _
  | n + 1 => by
    rw [sm_s, sm_front f n, sm_s, Int32.add_assoc]
theorem sm_rev : ∀ (n : Nat) (f : Nat → Int32), pa_sm (fun j => f (n - 1 - j)) n = pa_sm f n
  | 0, f => rfl
  | n + 1, f => by
    rw [sm_front, sm_s]
    have e : (fun j => f (n + 1 - 1 - (j + 1))) = (fun j => f (n - 1 - j)) := by
      funext j
      rw [show n + 1 - 1 - (j + 1) = n - 1 - j by omega]
    show f (n + 1 - 1 - 0) + pa_sm (fun j => f (n + 1 - 1 - (j + 1))) n = _
    rw [e, sm_rev n f, show n + 1 - 1 - 0 = n by omega]
    exact Int32.add_comm _ _
theorem sm_eq {f g : Nat → Int32} : ∀ {n : Nat}, (∀ j, j < n → f j = g j) → pa_sm f n = pa_sm g n
  | 0, _ => rfl
  | n + 1, h => by rw [sm_s, sm_s, h n (by omega), sm_eq (fun j hj => h j (by omega))]
theorem set_s (p : Nat → Bool) (n : Nat) : pa_set p (n + 1) = if p n = true then pa_set p n ||| ((nI 1) <<< ((nI n) &&& 31)) else pa_set p n := by
  unfold pa_set
  rw [ps_fo_s]
theorem set_0 (p : Nat → Bool) : pa_set p 0 = nI 0 := rfl
theorem set_nat (p : Nat → Bool) : ∀ n, n ≤ 26 → ∃ m, m < 2 ^ n ∧ pa_set p n = nI m ∧ ∀ i, m.testBit i = (decide (i < n) && p i)
  | 0, _ => ⟨0, by decide, rfl, fun i => by simp⟩
  | n + 1, h => by
    obtain ⟨m, h1, h2, h3⟩ := set_nat p n (by omega)
    have hp : 2 ^ (n + 1) ≤ 2 ^ 26 := Nat.pow_le_pow_right (by omega) h
    have e2 : 2 ^ (n + 1) = 2 * 2 ^ n := by rw [Nat.pow_succ]; omega
    rw [set_s, h2]
    by_cases c : p n = true
    · rw [if_pos c, sh_1 n (by omega), or_nI (by have : (2:Nat) ^ 26 = 67108864 := by decide
                                                 omega) (by have : (2:Nat) ^ 26 = 67108864 := by decide
                                                            omega)]
      refine ⟨m ||| 2 ^ n, Nat.or_lt_two_pow (by omega) (by omega), rfl, fun i => ?_⟩
      rw [Nat.testBit_or, h3, Nat.testBit_two_pow]
      by_cases e : i = n
      · subst e
        simp [c]
      · have e1 : ¬ n = i := fun z => e z.symm
        by_cases e3 : i < n
        · have e4 : i < n + 1 := by omega
          simp [e1, e3, e4]
        · have e4 : ¬ i < n + 1 := by omega
          simp [e1, e3, e4]
    · rw [if_neg c]
      refine ⟨m, by omega, rfl, fun i => ?_⟩
      rw [h3]
      by_cases e : i = n
      · subst e
        simp [c]
      · by_cases e3 : i < n
        · have e4 : i < n + 1 := by omega
          simp [e3, e4]
        · have e4 : ¬ i < n + 1 := by omega
          simp [e3, e4]
/-- the bit of one -/
theorem set_bit (p : Nat → Bool) {n i : Nat} (hn : n ≤ 8) (hi : i < n) : ((pa_set p n >>> ((nI i) &&& 31)) &&& nI 1) = nI (if p i = true then 1 else 0) := by
  obtain ⟨m, h1, h2, h3⟩ := set_nat p n (by omega)
  have hp : (2:Nat) ^ n ≤ 2 ^ 8 := Nat.pow_le_pow_right (by omega) hn
  have h8 : (2:Nat) ^ 8 = 256 := by decide
  rw [h2, shr_b (by omega) (by omega), h3]
  simp [hi]
theorem set_eq {p q : Nat → Bool} : ∀ {n : Nat}, (∀ j, j < n → p j = q j) → pa_set p n = pa_set q n
  | 0, _ => rfl
  | n + 1, h => by rw [set_s, set_s, h n (by omega), set_eq (fun j hj => h j (by omega))]
theorem set_none : ∀ (n : Nat) (p : Nat → Bool), (∀ j, j < n → p j = false) → pa_set p n = nI 0
  | 0, _, _ => rfl
  | n + 1, p, h => by rw [set_s, h n (by omega), if_neg (by decide), set_none n p (fun j hj => h j (by omega))]
theorem e_of0 {M : ps_M} {v : ps_H} (hR : ps_RH M 1 v) (hok : ps_okH v) {p : Nat} (hp : p < v.2.2.2.1) : ff_X6_of 0 (nI p) (nI 0) M = some (nI (v.2.2.2.2.1 p).1.length, M) := by
  have h4 := hok.2.2.1
  rw [cq_of hR hok]
  unfold qa_of
  rw [if_pos (ev_inB hp (by omega)), nI_clamp (by omega), if_pos rfl]
theorem e_of1 {M : ps_M} {v : ps_H} (hR : ps_RH M 1 v) (hok : ps_okH v) {p : Nat} (hp : p < v.2.2.2.1) : ff_X6_of 0 (nI p) (nI 1) M = some (pa_sum (v.2.2.2.2.1 p).1, M) := by
  have h4 := hok.2.2.1
  rw [cq_of hR hok]
  unfold qa_of
  rw [if_pos (ev_inB hp (by omega)), nI_clamp (by omega), if_neg (by decide), if_pos rfl]
theorem e_of2 {M : ps_M} {v : ps_H} (hR : ps_RH M 1 v) (hok : ps_okH v) {p : Nat} (hp : p < v.2.2.2.1) : ff_X6_of 0 (nI p) (nI 2) M = some (ps_cl (v.2.2.2.2.1 p).2.1, M) := by
  have h4 := hok.2.2.1
  rw [cq_of hR hok]
  unfold qa_of
  rw [if_pos (ev_inB hp (by omega)), nI_clamp (by omega), if_neg (by decide), if_neg (by decide), if_pos rfl]
theorem e_of3 {M : ps_M} {v : ps_H} (hR : ps_RH M 1 v) (hok : ps_okH v) {p : Nat} (hp : p < v.2.2.2.1) : ff_X6_of 0 (nI p) (nI 3) M = some ((v.2.2.2.2.1 p).2.2.1, M) := by
  have h4 := hok.2.2.1
  rw [cq_of hR hok]
  unfold qa_of
  rw [if_pos (ev_inB hp (by omega)), nI_clamp (by omega), if_neg (by decide), if_neg (by decide), if_neg (by decide), if_pos rfl]
theorem e_of4 {M : ps_M} {v : ps_H} (hR : ps_RH M 1 v) (hok : ps_okH v) {p : Nat} (hp : p < v.2.2.2.1) : ff_X6_of 0 (nI p) (nI 4) M = some ((v.2.2.2.2.1 p).2.2.2.1, M) := by
  have h4 := hok.2.2.1
  rw [cq_of hR hok]
  unfold qa_of
  rw [if_pos (ev_inB hp (by omega)), nI_clamp (by omega), if_neg (by decide), if_neg (by decide), if_neg (by decide), if_neg (by decide), if_pos rfl]
theorem e_of5 {M : ps_M} {v : ps_H} (hR : ps_RH M 1 v) (hok : ps_okH v) {p : Nat} (hp : p < v.2.2.2.1) : ff_X6_of 0 (nI p) (nI 5) M = some ((v.2.2.2.2.1 p).2.2.2.2, M) := by
  have h4 := hok.2.2.1
  rw [cq_of hR hok]
  unfold qa_of
  rw [if_pos (ev_inB hp (by omega)), nI_clamp (by omega), if_neg (by decide), if_neg (by decide), if_neg (by decide), if_neg (by decide), if_neg (by decide), if_pos rfl]
theorem e_of6 {M : ps_M} {v : ps_H} (hR : ps_RH M 1 v) (hok : ps_okH v) {p : Nat} (hp : p < v.2.2.2.1) : ff_X6_of 0 (nI p) (nI 6) M = some (pa_set (fun i => pa_kn (v.2.2.2.2.1 p).1 (v.2.2.1 i)) v.2.1, M) := by
  have h4 := hok.2.2.1
  rw [cq_of hR hok]
  unfold qa_of
  rw [if_pos (ev_inB hp (by omega)), nI_clamp (by omega), if_neg (by decide), if_neg (by decide), if_neg (by decide), if_neg (by decide), if_neg (by decide), if_neg (by decide), if_pos rfl]
theorem e_ofN {M : ps_M} {v : ps_H} (hR : ps_RH M 1 v) (hok : ps_okH v) : ff_X6_of 0 (nI v.2.2.2.1) (nI 0) M = some (ps_m 1, M) := by
  have h4 := hok.2.2.1
  rw [cq_of hR hok]
  unfold qa_of
  rw [if_neg (ps_inBN (ps_noI (Nat.le_refl _) (by omega)) (by omega))]
theorem e_link0 {M : ps_M} {v : ps_H} (hR : ps_RH M 1 v) (hok : ps_okH v) {p k : Nat} (hp : p < v.2.2.2.1) (hk : k < (v.2.2.2.2.1 p).1.length) : ff_X6_link 0 (nI p) (nI k) (nI 0) M = some (nI (ps_lk (v.2.2.2.2.1 p).1 ((v.2.2.2.2.1 p).1.length - 1 - k)).1, M) := by
  have h4 := hok.2.2.1
  have h6 := (hok.2.2.2.1 p).1
  rw [cq_link hR hok]
  unfold qa_link
  rw [nI_clamp (show p < 2 ^ 31 by omega), nI_clamp (show k < 2 ^ 31 by omega), if_pos ⟨ev_inB hp (by omega), ev_inB hk (by omega)⟩]
  rfl
theorem e_link1 {M : ps_M} {v : ps_H} (hR : ps_RH M 1 v) (hok : ps_okH v) {p k : Nat} (hp : p < v.2.2.2.1) (hk : k < (v.2.2.2.2.1 p).1.length) : ff_X6_link 0 (nI p) (nI k) (nI 1) M = some (nI (ps_lk (v.2.2.2.2.1 p).1 ((v.2.2.2.2.1 p).1.length - 1 - k)).2.1, M) := by
  have h4 := hok.2.2.1
  have h6 := (hok.2.2.2.1 p).1
  rw [cq_link hR hok]
  unfold qa_link
  rw [nI_clamp (show p < 2 ^ 31 by omega), nI_clamp (show k < 2 ^ 31 by omega), if_pos ⟨ev_inB hp (by omega), ev_inB hk (by omega)⟩]
  rfl
theorem e_link2 {M : ps_M} {v : ps_H} (hR : ps_RH M 1 v) (hok : ps_okH v) {p k : Nat} (hp : p < v.2.2.2.1) (hk : k < (v.2.2.2.2.1 p).1.length) : ff_X6_link 0 (nI p) (nI k) (nI 2) M = some (nI (ps_lk (v.2.2.2.2.1 p).1 ((v.2.2.2.2.1 p).1.length - 1 - k)).2.2.1, M) := by
  have h4 := hok.2.2.1
  have h6 := (hok.2.2.2.1 p).1
  rw [cq_link hR hok]
  unfold qa_link
  rw [nI_clamp (show p < 2 ^ 31 by omega), nI_clamp (show k < 2 ^ 31 by omega), if_pos ⟨ev_inB hp (by omega), ev_inB hk (by omega)⟩]
  rfl
theorem e_linkN {M : ps_M} {v : ps_H} (hR : ps_RH M 1 v) (hok : ps_okH v) {p : Nat} (hp : p < v.2.2.2.1) {x : Int32} (hx : ps_no x (v.2.2.2.2.1 p).1.length) : ff_X6_link 0 (nI p) x (nI 0) M = some (ps_m 1, M) := by
  have h4 := hok.2.2.1
  have h6 := (hok.2.2.2.1 p).1
  rw [cq_link hR hok]
  unfold qa_link
  rw [nI_clamp (show p < 2 ^ 31 by omega), if_neg (fun z => ps_inBN hx (by omega) z.2)]
theorem e_sings {M : ps_M} {v : ps_H} (hR : ps_RH M 1 v) (hok : ps_okH v) {p a t : Nat} (hp : p < v.2.2.2.1) (ha : a < 26) (ht : t < 100) : ff_X6_sings 0 (nI p) (nI a) (nI t) M = some (ps_cl (pa_it (v.2.2.2.2.1 p).1 (some a) t), M) := by
  have h4 := hok.2.2.1
  rw [cq_sings hR hok]
  unfold qa_sings
  rw [if_pos (ev_inB hp (by omega)), if_pos ⟨ev_inB ha (by omega), ev_inB ht (by omega)⟩, nI_clamp (show p < 2 ^ 31 by omega), nI_clamp (show a < 2 ^ 31 by omega), nI_clamp (show t < 2 ^ 31 by omega)]
theorem e_bar {M : ps_M} {v : ps_H} (hR : ps_RH M 1 v) (hok : ps_okH v) {i j : Nat} (hi : i < v.2.1) (hj : j < (v.2.2.1 i).1) : ff_X6_bar 0 (nI i) (nI j) M = some (nI ((v.2.2.1 i).2.1 j), M) := by
  have h8 := hok.2.1.1
  have h20 := (hok.2.1.2 i hi).2.1
  rw [cq_bar hR hok]
  unfold qa_bar
  rw [nI_clamp (show i < 2 ^ 31 by omega), nI_clamp (show j < 2 ^ 31 by omega), if_pos ⟨ev_inB hi (by omega), ev_inB hj (by omega)⟩]
theorem e_barN {M : ps_M} {v : ps_H} (hR : ps_RH M 1 v) (hok : ps_okH v) {i : Nat} (hi : i < v.2.1) {x : Int32} (hx : ps_no x (v.2.2.1 i).1) : ff_X6_bar 0 (nI i) x M = some (ps_m 1, M) := by
  have h8 := hok.2.1.1
  have h20 := (hok.2.1.2 i hi).2.1
  rw [cq_bar hR hok]
  unfold qa_bar
  rw [nI_clamp (show i < 2 ^ 31 by omega), if_neg (fun z => ps_inBN hx (by omega) z.2)]
theorem e_s0 {M : ps_M} {v : ps_H} (hR : ps_RH M 1 v) (hok : ps_okH v) {i : Nat} (hi : i < v.2.1) : ff_X6_ofSong 0 (nI i) (nI 0) M = some (nI (v.2.2.1 i).1, M) := by
  have h8 := hok.2.1.1
  rw [cq_ofSong hR hok]
  unfold qa_ofSong
  rw [if_pos (ev_inB hi (by omega)), nI_clamp (by omega), if_pos rfl]
theorem e_s1 {M : ps_M} {v : ps_H} (hR : ps_RH M 1 v) (hok : ps_okH v) {i : Nat} (hi : i < v.2.1) : ff_X6_ofSong 0 (nI i) (nI 1) M = some (nI (pa_un (v.2.2.1 i)).1, M) := by
  have h8 := hok.2.1.1
  rw [cq_ofSong hR hok]
  unfold qa_ofSong
  rw [if_pos (ev_inB hi (by omega)), nI_clamp (by omega), if_neg (by decide), if_pos rfl]
theorem e_s2 {M : ps_M} {v : ps_H} (hR : ps_RH M 1 v) (hok : ps_okH v) {i : Nat} (hi : i < v.2.1) : ff_X6_ofSong 0 (nI i) (nI 2) M = some (nI ((v.2.2.1 i).2.1 0), M) := by
  have h8 := hok.2.1.1
  rw [cq_ofSong hR hok]
  unfold qa_ofSong
  rw [if_pos (ev_inB hi (by omega)), nI_clamp (by omega), if_neg (by decide), if_neg (by decide), if_pos rfl]
theorem e_s3 {M : ps_M} {v : ps_H} (hR : ps_RH M 1 v) (hok : ps_okH v) {i : Nat} (hi : i < v.2.1) : ff_X6_ofSong 0 (nI i) (nI 3) M = some (nI ((v.2.2.1 i).2.1 ((v.2.2.1 i).1 - 1)), M) := by
  have h8 := hok.2.1.1
  rw [cq_ofSong hR hok]
  unfold qa_ofSong
  rw [if_pos (ev_inB hi (by omega)), nI_clamp (by omega), if_neg (by decide), if_neg (by decide), if_neg (by decide), if_pos rfl]
theorem e_s4 {M : ps_M} {v : ps_H} (hR : ps_RH M 1 v) (hok : ps_okH v) {i : Nat} (hi : i < v.2.1) : ff_X6_ofSong 0 (nI i) (nI 4) M = some ((v.2.2.1 i).2.2, M) := by
  have h8 := hok.2.1.1
  rw [cq_ofSong hR hok]
  unfold qa_ofSong
  rw [if_pos (ev_inB hi (by omega)), nI_clamp (by omega), if_neg (by decide), if_neg (by decide), if_neg (by decide), if_neg (by decide), if_pos rfl]
theorem e_s5 {M : ps_M} {v : ps_H} (hR : ps_RH M 1 v) (hok : ps_okH v) {i : Nat} (hi : i < v.2.1) : ff_X6_ofSong 0 (nI i) (nI 5) M = some (pa_set (fun j => pa_kn (v.2.2.2.2.1 j).1 (v.2.2.1 i)) v.2.2.2.1, M) := by
  have h8 := hok.2.1.1
  rw [cq_ofSong hR hok]
  unfold qa_ofSong
  rw [if_pos (ev_inB hi (by omega)), nI_clamp (by omega), if_neg (by decide), if_neg (by decide), if_neg (by decide), if_neg (by decide), if_neg (by decide), if_pos rfl]
theorem e_sN {M : ps_M} {v : ps_H} (hR : ps_RH M 1 v) (hok : ps_okH v) : ff_X6_ofSong 0 (nI v.2.1) (nI 0) M = some (ps_m 1, M) := by
  have h8 := hok.2.1.1
  rw [cq_ofSong hR hok]
  unfold qa_ofSong
  rw [if_neg (ps_inBN (ps_noI (Nat.le_refl _) (by omega)) (by omega))]
theorem e_knows {M : ps_M} {v : ps_H} (hR : ps_RH M 1 v) (hok : ps_okH v) {p i : Nat} (hp : p < v.2.2.2.1) (hi : i < v.2.1) : ff_X6_knows 0 (nI p) (nI i) M = some (nI (pa_hu (v.2.2.2.2.1 p).1 (v.2.2.1 i)), M) := by
  have h4 := hok.2.2.1
  have h8 := hok.2.1.1
  rw [cq_knows hR hok]
  unfold qa_knows
  rw [if_pos ⟨ev_inB hp (by omega), ev_inB hi (by omega)⟩, nI_clamp (show p < 2 ^ 31 by omega), nI_clamp (show i < 2 ^ 31 by omega)]
theorem e_mist0 {M : ps_M} {v : ps_H} (hR : ps_RH M 1 v) (hok : ps_okH v) {p i : Nat} (hp : p < v.2.2.2.1) (hi : i < v.2.1) : ff_X6_mistake 0 (nI p) (nI i) (nI 0) M = some (if (v.2.2.1 i).1 ≤ pa_rt (v.2.2.2.2.1 p).1 (v.2.2.1 i) + 1 then ps_m 5 else nI (pa_rt (v.2.2.2.2.1 p).1 (v.2.2.1 i) + 1), M) := by
  have h4 := hok.2.2.1
  have h8 := hok.2.1.1
  rw [cq_mist hR hok]
  unfold qa_mist
  rw [if_pos ⟨ev_inB hp (by omega), ev_inB hi (by omega)⟩, if_pos (ev_inB (by omega) (by omega)), nI_clamp (show p < 2 ^ 31 by omega), nI_clamp (show i < 2 ^ 31 by omega), if_pos (rfl : nI 0 = nI 0)]
theorem e_mist1 {M : ps_M} {v : ps_H} (hR : ps_RH M 1 v) (hok : ps_okH v) {p i : Nat} (hp : p < v.2.2.2.1) (hi : i < v.2.1) (hn : ¬ (v.2.2.1 i).1 ≤ pa_rt (v.2.2.2.2.1 p).1 (v.2.2.1 i) + 1) : ff_X6_mistake 0 (nI p) (nI i) (nI 1) M = some (ps_cl (ps_nx (v.2.2.2.2.1 p).1 ((v.2.2.1 i).2.1 (pa_rt (v.2.2.2.2.1 p).1 (v.2.2.1 i)))), M) := by
  have h4 := hok.2.2.1
  have h8 := hok.2.1.1
  rw [cq_mist hR hok]
  unfold qa_mist
  rw [if_pos ⟨ev_inB hp (by omega), ev_inB hi (by omega)⟩, if_pos (ev_inB (by omega) (by omega)), nI_clamp (show p < 2 ^ 31 by omega), nI_clamp (show i < 2 ^ 31 by omega), if_neg hn, if_neg (by decide), if_pos (rfl : nI 1 = nI 1)]
theorem e_rh {M : ps_M} {v : ps_H} (hR : ps_RH M 1 v) (hok : ps_okH v) {i k : Nat} (hi : i < v.2.1) (hk : k < v.2.1) : ff_X6_rhymes 0 (nI i) (nI k) M = some (nI (pa_rh (v.2.2.1 i) (v.2.2.1 k)), M) := by
  have h8 := hok.2.1.1
  rw [cq_rh hR hok]
  unfold qa_rh
  rw [if_pos ⟨ev_inB hi (by omega), ev_inB hk (by omega)⟩, nI_clamp (show i < 2 ^ 31 by omega), nI_clamp (show k < 2 ^ 31 by omega)]
theorem e_fol {M : ps_M} {v : ps_H} (hR : ps_RH M 1 v) (hok : ps_okH v) {p i : Nat} (hp : p < v.2.2.2.1) (hi : i < v.2.1) : ff_X6_follows 0 (nI p) (nI i) M = some (pa_set (fun k => decide (ps_nx (v.2.2.2.2.1 p).1 ((v.2.2.1 i).2.1 ((v.2.2.1 i).1 - 1)) = some ((v.2.2.1 k).2.1 0))) v.2.1, M) := by
  have h4 := hok.2.2.1
  have h8 := hok.2.1.1
  rw [cq_fol hR hok]
  unfold qa_fol
  rw [if_pos ⟨ev_inB hp (by omega), ev_inB hi (by omega)⟩, nI_clamp (show p < 2 ^ 31 by omega), nI_clamp (show i < 2 ^ 31 by omega)]
theorem e_c0 {M : ps_M} {A : ps_U} (hC : ps_CL M A) (hok : ps_okU A) : ff_X6_count 0 (nI 0) M = some (nI A.1.2.2.2.2.2, M) := by
  rw [cq_count hC hok]
  unfold qa_count
  rw [if_pos rfl]
theorem e_c1 {M : ps_M} {A : ps_U} (hC : ps_CL M A) (hok : ps_okU A) : ff_X6_count 0 (nI 1) M = some (nI A.1.2.1, M) := by
  rw [cq_count hC hok]
  unfold qa_count
  rw [if_neg (by decide), if_pos rfl]
theorem e_c2 {M : ps_M} {A : ps_U} (hC : ps_CL M A) (hok : ps_okU A) : ff_X6_count 0 (nI 2) M = some (nI A.1.2.2.2.1, M) := by
  rw [cq_count hC hok]
  unfold qa_count
  rw [if_neg (by decide), if_neg (by decide), if_pos rfl]
theorem e_c3 {M : ps_M} {A : ps_U} (hC : ps_CL M A) (hok : ps_okU A) : ff_X6_count 0 (nI 3) M = some (pa_sm (fun i => (A.1.2.2.1 i).2.2) A.1.2.1, M) := by
  rw [cq_count hC hok]
  unfold qa_count
  rw [if_neg (by decide), if_neg (by decide), if_neg (by decide), if_pos rfl]
  rfl
theorem e_c4 {M : ps_M} {A : ps_U} (hC : ps_CL M A) (hok : ps_okU A) : ff_X6_count 0 (nI 4) M = some (pa_sm (fun j => (A.1.2.2.2.2.1 j).2.2.2.1) A.1.2.2.2.1, M) := by
  rw [cq_count hC hok]
  unfold qa_count
  rw [if_neg (by decide), if_neg (by decide), if_neg (by decide), if_neg (by decide), if_pos rfl]
theorem e_c5 {M : ps_M} {A : ps_U} (hC : ps_CL M A) (hok : ps_okU A) : ff_X6_count 0 (nI 5) M = some (pa_sm (fun j => nI (A.1.2.2.2.2.1 j).1.length) A.1.2.2.2.1, M) := by
  rw [cq_count hC hok]
  unfold qa_count
  rw [if_neg (by decide), if_neg (by decide), if_neg (by decide), if_neg (by decide), if_neg (by decide), if_pos rfl]
theorem e_c6 {M : ps_M} {A : ps_U} (hC : ps_CL M A) (hok : ps_okU A) : ff_X6_count 0 (nI 6) M = some (pa_sm (fun j => (A.1.2.2.2.2.1 j).2.2.2.2) A.1.2.2.2.1, M) := by
  rw [cq_count hC hok]
  unfold qa_count
  rw [if_neg (by decide), if_neg (by decide), if_neg (by decide), if_neg (by decide), if_neg (by decide), if_neg (by decide), if_pos rfl]
theorem e_c7 {M : ps_M} {A : ps_U} (hC : ps_CL M A) (hok : ps_okU A) : ff_X6_count 0 (nI 7) M = some (pa_set (fun j => pa_ti A.1 (A.1.2.2.2.2.1 j)) A.1.2.2.2.1, M) := by
  rw [cq_count hC hok]
  unfold qa_count
  rw [if_neg (by decide), if_neg (by decide), if_neg (by decide), if_neg (by decide), if_neg (by decide), if_neg (by decide), if_neg (by decide), if_pos rfl]
theorem e_c8 {M : ps_M} {A : ps_U} (hC : ps_CL M A) (hok : ps_okU A) {w : Nat} (hw : w < 4) : ff_X6_count 0 (nI (8 + w)) M = some (nI (A.1.1 w), M) := by
  rw [cq_count hC hok]
  unfold qa_count
  rcases (show w = 0 ∨ w = 1 ∨ w = 2 ∨ w = 3 by omega) with rfl | rfl | rfl | rfl
  · rw [if_neg (by decide), if_neg (by decide), if_neg (by decide), if_neg (by decide), if_neg (by decide), if_neg (by decide), if_neg (by decide), if_neg (by decide), if_pos rfl]
  · rw [if_neg (by decide), if_neg (by decide), if_neg (by decide), if_neg (by decide), if_neg (by decide), if_neg (by decide), if_neg (by decide), if_neg (by decide), if_neg (by decide), if_pos rfl]
  · rw [if_neg (by decide), if_neg (by decide), if_neg (by decide), if_neg (by decide), if_neg (by decide), if_neg (by decide), if_neg (by decide), if_neg (by decide), if_neg (by decide), if_neg (by decide), if_pos rfl]
  · rw [if_neg (by decide), if_neg (by decide), if_neg (by decide), if_neg (by decide), if_neg (by decide), if_neg (by decide), if_neg (by decide), if_neg (by decide), if_neg (by decide), if_neg (by decide), if_neg (by decide), if_pos rfl]
theorem e_c9 {M : ps_M} {A : ps_U} (hC : ps_CL M A) (hok : ps_okU A) : ff_X6_count 0 (nI 9) M = some (nI (A.1.1 1), M) := e_c8 hC hok (w := 1) (by omega)
theorem e_c11 {M : ps_M} {A : ps_U} (hC : ps_CL M A) (hok : ps_okU A) : ff_X6_count 0 (nI 11) M = some (nI (A.1.1 3), M) := e_c8 hC hok (w := 3) (by omega)
