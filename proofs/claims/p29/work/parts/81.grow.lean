/-! the growing world: the first n cells that the law makes, cell k at b + k -/
def pw (b n : Nat) (g : Nat → va_E) : va_W := (List.range n).map (fun k => (b + k, g k))
theorem pw_get {b n k : Nat} {g : Nat → va_E} (h : k < n) : (pw b n g)[k]? = some (b + k, g k) := by
  unfold pw
  rw [List.getElem?_map, List.getElem?_range h]
  rfl
theorem pw_at {b n i : Nat} {g : Nat → va_E} {q : Nat × va_E} (h : (pw b n g)[i]? = some q) : i < n ∧ q = (b + i, g i) := by
  unfold pw at h
  rw [List.getElem?_map] at h
  by_cases hi : i < n
  · rw [List.getElem?_range hi] at h
    cases h
    exact ⟨hi, rfl⟩
  · rw [List.getElem?_eq_none (by rw [List.length_range]; omega)] at h
    cases h
theorem pw_D {b n : Nat} {g : Nat → va_E} : va_D (ps_A b) (pw b n g) := by
  refine ⟨fun i j p q hi hj h => ?_, fun k q hk => ?_⟩
  · obtain ⟨-, rfl⟩ := pw_at hi
    obtain ⟨-, rfl⟩ := pw_at hj
    have h : b + i = b + j := h
    omega
  · obtain ⟨-, rfl⟩ := pw_at hk
    show b ≤ b + k
    omega
theorem up_eq {α : Type} {g : Nat → α} {a : Nat} {x : α} : va_up g a x a = x := if_pos rfl
theorem up_ne {α : Type} {g : Nat → α} {a k : Nat} {x : α} (h : k ≠ a) : va_up g a x k = g k := if_neg h
theorem pw_congr {b n : Nat} {g g1 : Nat → va_E} (h : ∀ k, k < n → g k = g1 k) : pw b n g = pw b n g1 := by
  unfold pw
  refine List.map_congr_left (fun k hk => ?_)
  rw [h k (List.mem_range.mp hk)]
theorem pw_push {b n : Nat} {g : Nat → va_E} {x : va_E} : pw b n g ++ [(b + n, x)] = pw b (n + 1) (va_up g n x) := by
  rw [pw_congr (n := n) (g := g) (g1 := va_up g n x) (fun k hk => (up_ne (by omega)).symm)]
  unfold pw
  rw [List.range_succ, List.map_append, List.map_singleton, up_eq]
theorem pw_set {b n a : Nat} {g : Nat → va_E} {x : va_E} (h : a < n) : (pw b n g).set a (b + a, x) = pw b n (va_up g a x) := by
  apply List.ext_getElem?
  intro i
  have hl : (pw b n g).length = n := by simp [pw]
  by_cases hi : i = a
  · subst hi
    rw [List.getElem?_set_self (by rw [hl]; exact h), pw_get h, up_eq]
  · rw [List.getElem?_set_ne (Ne.symm hi)]
    by_cases h4 : i < n
    · rw [pw_get h4, pw_get h4, up_ne hi]
    · rw [List.getElem?_eq_none (by rw [hl]; omega), List.getElem?_eq_none (by simp [pw]; omega)]
/-- what a constructor's frame knows of the launch, beside ps_K -/
def pc_nest (U : State) : Prop := va_Nw (.methodLinkNest RX6 25 yX4_init RX6) U ∧ va_Nw (.methodLinkNest RX6 40 yX3_init RX6) U ∧ va_Nw (.methodLinkNest RX1 17 yX5_init RX6) U ∧ va_Nw (.methodLinkNest RX1 47 yX3_init RX6) U ∧ va_Nw (.methodLinkNest RX4 11 yX2_init RX6) U ∧ va_Nw (.fieldLinkNest RX1 38 RX6 "FIRST_VALUES" "[I" RX6) U
def pc_K (b : Nat) (D : va_G) (U : State) : Prop := ps_K b D U ∧ pc_nest U ∧ va_AO RX1 U ∧ va_AO RX3 U ∧ mn_AA U
theorem pc_K_warm {b : Nat} {D : va_G} {s U : State} {H : Heap} {locs : List Loc} (hW : s.WarmedH U.vm) (hU : U.heap = H) (hS : va_S (ps_A b) s.heap H locs) (h : pc_K b D s) : pc_K b D U := by
  obtain ⟨h1, ⟨n1, n2, n3, n4, n5, n6⟩, h3, h4, h5⟩ := h
  exact ⟨ps_K_warm hW hU hS h1, ⟨va_Nw.warmM hW n1, va_Nw.warmM hW n2, va_Nw.warmM hW n3, va_Nw.warmM hW n4, va_Nw.warmM hW n5, va_Nw.warmF hW n6⟩, va_AO.moved hW.alike h3, va_AO.moved hW.alike h4, mn_AA.moved hW.alike h5⟩
abbrev pc_Pc (b : Nat) (D : va_G) (n : Nat) (g : Nat → va_E) : State → Prop := fun U => U.heap.size = b + n ∧ va_P D vwCl (pw b n g) U.heap ∧ pc_K b D U
theorem pc_blind {As : List Value} {b n : Nat} {D : va_G} {g : Nat → va_E} : FrameBlind (va_Pc As (pc_Pc b D n g)) := fun a U g mk q => by
  obtain ⟨q0, q1, q2, ⟨q3, ⟨q4, q5, q6⟩, q7⟩, ⟨n1, n2, n3, n4, n5, n6⟩, q8, q9, q10⟩ := q
  exact ⟨q0, q1, q2, ⟨va_K.moved (u := U) (U := U.calling g mk a) (Vm.Alike.refl U.vm) q3, ⟨va_Nw.same rfl (rfl : U.vm = (U.calling g mk a).vm) q4, va_Nw.same rfl (rfl : U.vm = (U.calling g mk a).vm) q5, va_Nw.same rfl (rfl : U.vm = (U.calling g mk a).vm) q6⟩, ps_Z_kept (Vm.Alike.refl U.vm) q7 (fun _ _ _ => rfl)⟩,
    ⟨va_Nw.same rfl (rfl : U.vm = (U.calling g mk a).vm) n1, va_Nw.same rfl (rfl : U.vm = (U.calling g mk a).vm) n2, va_Nw.same rfl (rfl : U.vm = (U.calling g mk a).vm) n3, va_Nw.same rfl (rfl : U.vm = (U.calling g mk a).vm) n4, va_Nw.same rfl (rfl : U.vm = (U.calling g mk a).vm) n5, va_Nw.same rfl (rfl : U.vm = (U.calling g mk a).vm) n6⟩,
    va_AO.moved (u := U) (U := U.calling g mk a) (Vm.Alike.refl U.vm) q8, va_AO.moved (u := U) (U := U.calling g mk a) (Vm.Alike.refl U.vm) q9, mn_AA.moved (u := U) (U := U.calling g mk a) (Vm.Alike.refl U.vm) q10⟩
/-- a frame that makes cells: n0 stood at its start; its room -/
def pc_C (X : ps_X) (own : String) (cc : ByteArray) (n0 : Nat) (rm : Room) : Prop := ps_C X own cc ∧ pc_K (xb X) (xD X) (xs X) ∧ (xs X).heap.size = xb X + n0 ∧ xR X = rm
/-- n cells stand, with these contents; this frame has made kc cells of ks slots -/
def pg (X : ps_X) (n kc ks : Nat) (g : Nat → va_E) (pc : Nat) (lv : List (Option Value)) (stk : List Value) : Prop :=
  ∀ (H : Heap) (locs : List Loc) (ls : Array Slot), va_P (xD X) vwCl (pw (xb X) n g) H → va_S (ps_A (xb X)) (xs X).heap H locs → ps_lv ls (xn X) lv →
    W (xp X) (xl X) (xe X) (xR X) (xs X) (xm X) (xa X) (xw X) (xh X) (xc X) H locs kc ks (xQ X) (F0 (xm X) pc ls stk)
theorem pw_size {p : Program} {l : Launch} {e : Env} {R : Room} {s : State} {m : MethodId} {args : Array Value} {below : List Frame} {meth : Method} {c : Code} {H : Heap} {locs : List Loc} {kc ks : Nat} {Q : State → Prop} {f : JFrame} (h : H.size ≤ s.heap.size + kc → W p l e R s m args below meth c H locs kc ks Q f) : W p l e R s m args below meth c H locs kc ks Q f := fun T hT X => h (by rw [← hT]; exact X.heapSize) T hT X
theorem pw_eq {b n n0 kc : Nat} {D : va_G} {g : Nat → va_E} {H0 H : Heap} {locs : List Loc} (hP : va_P D vwCl (pw b n g) H) (hS : va_S (ps_A b) H0 H locs) (h0 : H0.size = b + n0) (hn : n = n0 + kc) (hz : H.size ≤ H0.size + kc) : H.size = b + n := by
  have h1 := hS.1
  by_cases e : n = 0
  · omega
  · have h2 := (hP (n - 1) _ (pw_get (by omega))).lt
    have h2 : b + (n - 1) < H.size := h2
    omega
section PG
variable {X : ps_X} {own : String} {cc : ByteArray} {n0 : Nat} {rm : Room} {n kc ks pc : Nat} {g : Nat → va_E} {lv : List (Option Value)} {stk : List Value}
theorem pg_iconst (C : pc_C X own cc n0 rm) {i : Int} {v : Int32} (hd : decode cc pc = .ok (.iconst i, 1)) (hv : Int32.ofInt i = v) (k : pg X n kc ks g (pc + 1) lv (.int v :: stk)) : pg X n kc ks g pc lv stk := fun H locs ls hP hS hl => lv_iconst C.1.1 C.1.2.1 hd hv (k H locs ls hP hS hl)
theorem pg_bipush (C : pc_C X own cc n0 rm) {i : Int} {v : Int32} (hd : decode cc pc = .ok (.bipush i, 2)) (hv : (Int8.ofInt i).toInt32 = v) (k : pg X n kc ks g (pc + 2) lv (.int v :: stk)) : pg X n kc ks g pc lv stk := fun H locs ls hP hS hl => lv_bipush C.1.1 C.1.2.1 hd hv (k H locs ls hP hS hl)
theorem pg_sipush (C : pc_C X own cc n0 rm) {i : Int} {v : Int32} (hd : decode cc pc = .ok (.sipush i, 3)) (hv : (Int16.ofInt i).toInt32 = v) (k : pg X n kc ks g (pc + 3) lv (.int v :: stk)) : pg X n kc ks g pc lv stk := fun H locs ls hP hS hl => lv_sipush C.1.1 C.1.2.1 hd hv (k H locs ls hP hS hl)
theorem pg_dup (C : pc_C X own cc n0 rm) {v : Value} (hc : v.category = 1) (hd : decode cc pc = .ok (.dup, 1)) (k : pg X n kc ks g (pc + 1) lv (v :: v :: stk)) : pg X n kc ks g pc lv (v :: stk) := fun H locs ls hP hS hl => lv_dup C.1.1 C.1.2.1 hd hc (k H locs ls hP hS hl)
theorem pg_goto (C : pc_C X own cc n0 rm) {off : Int} (tgt : Nat) (hd : decode cc pc = .ok (.goto off, 3)) (ht : (pc : Int) + off = (tgt : Int)) (k : pg X n kc ks g tgt lv stk) : pg X n kc ks g pc lv stk := fun H locs ls hP hS hl => lv_goto C.1.1 C.1.2.1 hd ht (k H locs ls hP hS hl)
theorem pg_icge (C : pc_C X own cc n0 rm) {x y : Int32} {off : Int} (tgt : Nat) (hd : decode cc pc = .ok (.if_icmp .ge off, 3)) (ht : (pc : Int) + off = (tgt : Int)) (kt : y ≤ x → pg X n kc ks g tgt lv stk) (kf : ¬ (y ≤ x) → pg X n kc ks g (pc + 3) lv stk) : pg X n kc ks g pc lv (.int y :: .int x :: stk) := fun H locs ls hP hS hl => lv_icmp_ge C.1.1 C.1.2.1 hd ht (fun c => kt c H locs ls hP hS hl) (fun c => kf c H locs ls hP hS hl)
theorem pg_aload0 (C : pc_C X own cc n0 rm) {l : List (Option Value)} {x : Nat} (hd : decode cc pc = .ok (.aload_n 0, 1)) (k : pg X n kc ks g (pc + 1) (some (.ref x) :: l) (.ref x :: stk)) : pg X n kc ks g pc (some (.ref x) :: l) stk := fun H locs ls hP hS hl => lv_aload_n C.1.1 C.1.2.1 hd rfl (hl.2.2.2 0 _ rfl) (k H locs ls hP hS hl)
theorem pg_iload1 (C : pc_C X own cc n0 rm) {l : List (Option Value)} {l0 : Option Value} {x : Int32} (hd : decode cc pc = .ok (.iload_n 1, 1)) (k : pg X n kc ks g (pc + 1) (l0 :: some (.int x) :: l) (.int x :: stk)) : pg X n kc ks g pc (l0 :: some (.int x) :: l) stk := fun H locs ls hP hS hl => lv_iload_n C.1.1 C.1.2.1 hd rfl (hl.2.2.2 1 _ rfl) (k H locs ls hP hS hl)
theorem pg_istore1 (C : pc_C X own cc n0 rm) {l : List (Option Value)} {l0 z : Option Value} {x : Int32} (hp : ps_n2 l0 = true) (hd : decode cc pc = .ok (.istore_n 1, 1)) (k : pg X n kc ks g (pc + 1) (l0 :: some (.int x) :: l) stk) : pg X n kc ks g pc (l0 :: z :: l) (.int x :: stk) := fun H locs ls hP hS hl => lv_istore_n C.1.1 C.1.2.1 hd rfl (ps_lv_has hl) (by have := hl.1; simp only [List.length_cons] at this; omega) rfl (fun ls1 hl1 => k H locs ls1 hP hS (ps_lv_set hl (by have := hl.1; simp only [List.length_cons] at this; omega) (fun x h0 hx => by cases hx; exact hp) hl1))
theorem pg_istore3 (C : pc_C X own cc n0 rm) {l : List (Option Value)} {l0 l1 l2 z : Option Value} {x : Int32} (hp : ps_n2 l2 = true) (hd : decode cc pc = .ok (.istore_n 3, 1)) (k : pg X n kc ks g (pc + 1) (l0 :: l1 :: l2 :: some (.int x) :: l) stk) : pg X n kc ks g pc (l0 :: l1 :: l2 :: z :: l) (.int x :: stk) := fun H locs ls hP hS hl => lv_istore_n C.1.1 C.1.2.1 hd rfl (ps_lv_has hl) (by have := hl.1; simp only [List.length_cons] at this; omega) rfl (fun ls1 hl1 => k H locs ls1 hP hS (ps_lv_set hl (by have := hl.1; simp only [List.length_cons] at this; omega) (fun x h0 hx => by cases hx; exact hp) hl1))
theorem pg_astore1 (C : pc_C X own cc n0 rm) {l : List (Option Value)} {l0 z : Option Value} {x : Nat} (hp : ps_n2 l0 = true) (hd : decode cc pc = .ok (.astore_n 1, 1)) (k : pg X n kc ks g (pc + 1) (l0 :: some (.ref x) :: l) stk) : pg X n kc ks g pc (l0 :: z :: l) (.ref x :: stk) := fun H locs ls hP hS hl => lv_astore_n C.1.1 C.1.2.1 hd rfl (ps_lv_has hl) (by have := hl.1; simp only [List.length_cons] at this; omega) rfl (fun ls1 hl1 => k H locs ls1 hP hS (ps_lv_set hl (by have := hl.1; simp only [List.length_cons] at this; omega) (fun x h0 hx => by cases hx; exact hp) hl1))
theorem pg_astore2 (C : pc_C X own cc n0 rm) {l : List (Option Value)} {l0 l1 z : Option Value} {x : Nat} (hp : ps_n2 l1 = true) (hd : decode cc pc = .ok (.astore_n 2, 1)) (k : pg X n kc ks g (pc + 1) (l0 :: l1 :: some (.ref x) :: l) stk) : pg X n kc ks g pc (l0 :: l1 :: z :: l) (.ref x :: stk) := fun H locs ls hP hS hl => lv_astore_n C.1.1 C.1.2.1 hd rfl (ps_lv_has hl) (by have := hl.1; simp only [List.length_cons] at this; omega) rfl (fun ls1 hl1 => k H locs ls1 hP hS (ps_lv_set hl (by have := hl.1; simp only [List.length_cons] at this; omega) (fun x h0 hx => by cases hx; exact hp) hl1))
theorem pg_iinc1 (C : pc_C X own cc n0 rm) {l : List (Option Value)} {l0 : Option Value} {x y : Int32} (hp : ps_n2 l0 = true) (hy : x + nI 1 = y) (hd : decode cc pc = .ok (.iinc 1 1, 3)) (k : pg X n kc ks g (pc + 3) (l0 :: some (.int y) :: l) stk) : pg X n kc ks g pc (l0 :: some (.int x) :: l) stk := fun H locs ls hP hS hl => by
  subst hy
  obtain ⟨q, hq⟩ := List.getElem?_of_mem (ps_pairs_in _ 0 1 (.int x) (show (l0 :: some (Value.int x) :: l : List (Option Value))[1]? = some (some (.int x)) from rfl))
  exact lv_iinc C.1.1 C.1.2.1 hd (ps_lv_has hl) hq (v := x + nI 1) rfl (by have := hl.1; simp only [List.length_cons] at this; omega) rfl (fun ls1 hl1 => k H locs ls1 hP hS (ps_lv_set hl (by have := hl.1; simp only [List.length_cons] at this; omega) (fun x h0 hx => by cases hx; exact hp) hl1))
theorem pg_obj (C : pc_C X own cc n0 rm) {idx x : Nat} (h1 : Cond.methodLink own idx objectInit ∈ ps_T) (h2 : Cond.instanceMethod objectInit ∈ ps_T) (h3 : Cond.code objectInit ⟨#[0xb1]⟩ 1 none ∈ ps_T) (hf : 1 ≤ rm.frames) (ho : (stk.map fun v => v.category).sum + 12 ≤ rm.locals) (hd : decode cc pc = .ok (.invokespecial idx, 3)) (k : pg X n kc ks g (pc + 3) lv stk) : pg X n kc ks g pc lv (.ref x :: stk) := fun H locs ls hP hS hl => by
  refine W.objInit C.1.1 C.1.2.1 C.1.2.2.2.1 (C.1.2.2.2.2.1 _ h1) (C.1.2.2.2.2.1 _ h2) (C.1.2.2.2.2.1 _ h3) rfl (hl.2.1.trans C.1.2.2.1.symm) rfl hd (by rw [C.2.2.2]; exact hf) (by rw [C.2.2.2]; show 2 * 0 + _ + 12 ≤ _; omega) ?_
  exact k H locs ls hP hS hl
theorem pg_new (C : pc_C X own cc n0 rm) {ci idx N : Nat} {CN : String} {T : u_T} {ty : Nat → FieldType} (fs : List Value) (hty : ∀ k, k < N → parseFieldDescriptor (T k).2.2.1 = some (ty k)) (hin : ∀ w ∈ u_ws CN T N, w ∈ ps_T) (h1 : Cond.classLink own idx CN ∈ ps_T) (h2 : Cond.instantiable CN N ∈ ps_T) (h3 : Cond.initialized CN ∈ ps_T) (hc : vwCl[ci]? = some (CN, T, N)) (hfs : ∀ j, j < N → defaultValue (ty j) = vp_V fs j) (hn : n = n0 + kc) (hcl : kc + 1 ≤ rm.cells) (hsl : ks + N ≤ rm.slots) (hd : decode cc pc = .ok (.new idx, 3)) (k : pg X (n + 1) (kc + 1) (ks + N) (va_up g n (.inr (ci, fs))) (pc + 3) lv (.ref (xb X + n) :: stk)) : pg X n kc ks g pc lv stk := fun H locs ls hP hS hl => by
  refine pw_size (fun hz => ?_)
  have hH := pw_eq hP hS C.2.2.1 hn hz
  have hKn := C.2.1.1.1.1 ci _ hc
  have hcl2 : kc + 1 ≤ (xR X).cells := by rw [C.2.2.2]; exact hcl
  have hsl2 : ks + N ≤ (xR X).slots := by rw [C.2.2.2]; exact hsl
  refine W.newcK C.1.1 C.1.2.1 C.1.2.2.2.1 (C.1.2.2.2.2.1 _ h1) (C.1.2.2.2.2.1 _ h2) (C.1.2.2.2.2.1 _ h3) rfl hd hcl2 hsl2 hKn.2.1 hH (fun H1 kC hkC e1 z1 o1 => ?_)
  have hP1 : va_P (xD X) vwCl (pw (xb X) n g ++ [(xb X + n, .inr (ci, fs))]) H1 := (hP.kept (fun j x hx => o1 x.1 (by rw [← hH]; exact (hP j x hx).lt))).app (fun j x hx => by
    have hj : j < 1 := (List.getElem?_eq_some_iff.mp hx).1
    rw [show j = 0 by omega] at hx
    cases hx
    exact ⟨_, hc, (u_born ty C.1.2.2.2.2.1 hin hKn hkC e1 hty).to hfs⟩)
  rw [pw_push] at hP1
  exact k H1 locs ls hP1 ⟨by have := hS.1; omega, fun x h1 h2 => (o1 x (by have := hS.1; omega)).trans (hS.2.1 x h1 h2), hS.2.2⟩ hl
theorem pg_newa (C : pc_C X own cc n0 rm) {atype : ArrayType} {ty : FieldType} {t0 c N : Nat} {i : Int32} (hty : newarray.typeOf atype = ty) (hv : defaultValue ty = .int 0) (hw : Cond.arrayClass ty ∈ ps_T) (ht : (ps_tys (xD X))[t0]? = some ((xD X).1 c, ty)) (hra : ∀ (U : State) (cA : ClassId), va_RA U cA ty → U.vm.findClass ("[" ++ ty.toString) = some cA) (hi : ¬ i < 0) (hN : i.toNatClampNeg = N) (hby : N * componentBytes ty ≤ 536870912) (hn : n = n0 + kc) (hcl : kc + 1 ≤ rm.cells) (hsl : ks + N ≤ rm.slots) (hd : decode cc pc = .ok (.newarray atype, 2)) (k : pg X (n + 1) (kc + 1) (ks + N) (va_up g n (.inl ((xD X).1 c, N, .inl (fun _ => 0)))) (pc + 2) lv (.ref (xb X + n) :: stk)) : pg X n kc ks g pc lv (.int i :: stk) := fun H locs ls hP hS hl => by
  subst hty
  refine pw_size (fun hz => ?_)
  have hH := pw_eq hP hS C.2.2.1 hn hz
  have hcl2 : kc + 1 ≤ (xR X).cells := by rw [C.2.2.2]; exact hcl
  have hsl2 : ks + N ≤ (xR X).slots := by rw [C.2.2.2]; exact hsl
  refine va_newaK C.1.1 C.1.2.1 (C.1.2.2.2.2.1 _ hw) rfl hd rfl hi hN hby hcl2 hsl2 hH (fun H1 cA e1 z1 o1 hAr hNm => ?_)
  have hcA : cA = (xD X).1 c := Option.some.inj (hNm.symm.trans (hra _ _ (C.2.1.1.1.2 t0 _ ht).2))
  have hP1 : va_P (xD X) vwCl (pw (xb X) n g ++ [(xb X + n, .inl ((xD X).1 c, N, .inl (fun _ => 0)))]) H1 := (hP.kept (fun j x hx => o1 x.1 (by rw [← hH]; exact (hP j x hx).lt))).app (fun j x hx => by
    have hj : j < 1 := (List.getElem?_eq_some_iff.mp hx).1
    rw [show j = 0 by omega] at hx
    cases hx
    show H1[xb X + n]? = some (vp_cell ((xD X).1 c) (N, .inl (fun _ => 0)))
    rw [vp_cell_i, ← hcA, e1, hv])
  rw [pw_push] at hP1
  exact k H1 locs ls hP1 ⟨by have := hS.1; omega, fun x h1 h2 => (o1 x (by have := hS.1; omega)).trans (hS.2.1 x h1 h2), hS.2.2⟩ hl
theorem pg_newq (C : pc_C X own cc n0 rm) {CN : String} {idx t0 c N : Nat} {i : Int32} (h1 : Cond.classLink own idx CN ∈ ps_T) (hao : va_AO CN (xs X)) (ht : (ps_tys (xD X))[t0]? = some ((xD X).1 c, .object CN)) (hi : ¬ i < 0) (hN : i.toNatClampNeg = N) (hby : N * 4 ≤ 536870912) (hn : n = n0 + kc) (hcl : kc + 1 ≤ rm.cells) (hsl : ks + N ≤ rm.slots) (hd : decode cc pc = .ok (.anewarray idx, 3)) (k : pg X (n + 1) (kc + 1) (ks + N) (va_up g n (.inl ((xD X).1 c, N, .inr (.inr (.inr (.inr (fun _ => none))))))) (pc + 3) lv (.ref (xb X + n) :: stk)) : pg X n kc ks g pc lv (.int i :: stk) := fun H locs ls hP hS hl => by
  subst hN
  refine pw_size (fun hz => ?_)
  have hH := pw_eq hP hS C.2.2.1 hn hz
  have hcl2 : kc + 1 ≤ (xR X).cells := by rw [C.2.2.2]; exact hcl
  have hsl2 : ks + i.toNatClampNeg ≤ (xR X).slots := by rw [C.2.2.2]; exact hsl
  refine W.anew C.1.1 C.1.2.1 C.1.2.2.2.1 (C.1.2.2.2.2.1 _ h1) (va_AO.use hao) rfl hd rfl hi hby hcl2 hsl2 (fun cA kA comp f1 f2 f3 f4 => ?_)
  have hRA := (C.2.1.1.1.2 t0 _ ht).2
  obtain ⟨kA9, comp9, -, -, -, hnm⟩ := hRA
  have hcA : cA = (xD X).1 c := Option.some.inj (f1.symm.trans hnm)
  generalize hH1 : H.push ({ cls := cA, slots := Array.replicate i.toNatClampNeg .null, vm := .none } : Cell) = H1
  have z1 : H1.size = H.size + 1 := by rw [← hH1, Array.size_push]
  have e1 : H1[H.size]? = some (arrV cA i.toNatClampNeg (fun _ => .null)) := by rw [← hH1, Array.getElem?_push_size, ← arrV_new]
  have o1 : ∀ q : Nat, q < H.size → H1[q]? = H[q]? := fun q hq => by rw [← hH1, Array.getElem?_push, if_neg (Nat.ne_of_lt hq)]
  have hP1 : va_P (xD X) vwCl (pw (xb X) n g ++ [(xb X + n, .inl ((xD X).1 c, i.toNatClampNeg, .inr (.inr (.inr (.inr (fun _ => none))))))]) H1 := (hP.kept (fun j x hx => o1 x.1 ((hP j x hx).lt))).app (fun j x hx => by
    have hj : j < 1 := (List.getElem?_eq_some_iff.mp hx).1
    rw [show j = 0 by omega] at hx
    cases hx
    show H1[xb X + n]? = some (vp_cell ((xD X).1 c) (i.toNatClampNeg, .inr (.inr (.inr (.inr (fun _ => none))))))
    rw [vp_cell_q, ← hcA, ← hH]
    exact e1)
  rw [pw_push] at hP1
  rw [hH]
  exact k H1 locs ls hP1 ⟨by have := hS.1; omega, fun x h1 h2 => (o1 x (by have := hS.1; omega)).trans (hS.2.1 x h1 h2), hS.2.2⟩ hl
/-- a row of rows, and its rows -/
def pc_mu (b : Nat) (D : va_G) (n N K : Nat) (g : Nat → va_E) : Nat → va_E := fun k => if k < n then g k else if k = n then .inl (D.1 13, N, .inr (.inr (.inr (.inr (fun j => some (b + (n + 1 + j))))))) else .inl (D.1 10, K, .inl (fun _ => 0))
theorem pc_mu_lt {b : Nat} {D : va_G} {n N K k : Nat} {g : Nat → va_E} (h : k < n) : pc_mu b D n N K g k = g k := if_pos h
theorem pc_mu_eq {b : Nat} {D : va_G} {n N K : Nat} {g : Nat → va_E} : pc_mu b D n N K g n = .inl (D.1 13, N, .inr (.inr (.inr (.inr (fun j => some (b + (n + 1 + j))))))) := by
  unfold pc_mu
  rw [if_neg (Nat.lt_irrefl _), if_pos rfl]
theorem pc_mu_gt {b : Nat} {D : va_G} {n N K k : Nat} {g : Nat → va_E} (h : n < k) : pc_mu b D n N K g k = .inl (D.1 10, K, .inl (fun _ => 0)) := by
  unfold pc_mu
  rw [if_neg (by omega), if_neg (by omega)]
theorem mn_cell {c : ClassId} {N h : Nat} : mn_out c N h N = vp_cell c (N, .inr (.inr (.inr (.inr (fun j => some (h + 1 + j)))))) := by
  rw [vp_cell_q]
  unfold mn_out arrV
  congr 1
  apply Array.ext
  · simp
  · intro j h1 h2
    have h3 : j < N := by simpa using h1
    simp [h3, va_rf]
theorem pg_multi (C : pc_C X own cc n0 rm) {idx N K : Nat} {i j : Int32} (h1 : Cond.classLink own idx "[[I" ∈ ps_T) (hi : ¬ i < 0) (hj : ¬ j < 0) (hN : i.toNatClampNeg = N) (hK : j.toNatClampNeg = K) (hb1 : N * 4 ≤ 536870912) (hb2 : K * 4 ≤ 536870912) (hn : n = n0 + kc) (hcl : kc + (1 + N) ≤ rm.cells) (hsl : ks + (N + N * K) ≤ rm.slots) (hd : decode cc pc = .ok (.multianewarray idx 2, 4)) (k : pg X (n + 1 + N) (kc + 1 + N) (ks + N + N * K) (pc_mu (xb X) (xD X) n N K g) (pc + 4) lv (.ref (xb X + n) :: stk)) : pg X n kc ks g pc lv (.int j :: .int i :: stk) := fun H locs ls hP hS hl => by
  refine pw_size (fun hz => ?_)
  have hH := pw_eq hP hS C.2.2.1 hn hz
  have hcl2 : kc + (1 + N) ≤ (xR X).cells := by rw [C.2.2.2]; exact hcl
  have hsl2 : ks + (N + N * K) ≤ (xR X).slots := by rw [C.2.2.2]; exact hsl
  refine mn_go C.1.1 C.1.2.1 C.1.2.2.2.1 (C.1.2.2.2.2.1 _ h1) C.2.1.2.2.2.2 hi hj hN hK hb1 hb2 hcl2 hsl2 hd (fun cA cB H1 f1 f2 z1 e1 o1 r1 => ?_)
  have hA : cA = (xD X).1 13 := Option.some.inj (f1.symm.trans (C.2.1.1.1.2 3 _ rfl).2)
  have hB : cB = (xD X).1 10 := Option.some.inj (f2.symm.trans (C.2.1.1.1.2 0 _ rfl).2)
  have hP1 : va_P (xD X) vwCl (pw (xb X) (n + 1 + N) (pc_mu (xb X) (xD X) n N K g)) H1 := fun q x hx => by
    obtain ⟨hq, rfl⟩ := pw_at hx
    by_cases c1 : q < n
    · rw [pc_mu_lt c1]
      exact (hP q _ (pw_get c1)).kept (o1 _ (by show xb X + q < _; omega))
    · by_cases c2 : q = n
      · subst c2
        rw [pc_mu_eq]
        show H1[xb X + q]? = some (vp_cell _ _)
        rw [← hH, e1, mn_cell, hA, hH]
        refine congrArg (fun f => some (vp_cell ((xD X).1 13) (N, .inr (.inr (.inr (.inr f)))))) (funext fun z => ?_)
        rw [show xb X + q + 1 + z = xb X + (q + 1 + z) by omega]
      · rw [pc_mu_gt (by omega)]
        show H1[xb X + q]? = some (vp_cell _ _)
        have := r1 (q - (n + 1)) (by omega)
        rw [show H.size + 1 + (q - (n + 1)) = xb X + q by omega] at this
        rw [this, hB]
        rfl
  rw [hH]
  exact k H1 locs ls hP1 ⟨by have := hS.1; omega, fun x h1 h2 => (o1 x (by have := hS.1; omega)).trans (hS.2.1 x h1 h2), hS.2.2⟩ hl
theorem pg_putF (C : pc_C X own cc n0 rm) (hin2 : (xh X).name = "<init>") {a ci idx slot N : Nat} {CN : String} {T : u_T} {ty0 : Nat → FieldType} {v : Value} {ty : FieldType} (fs fs1 : List Value) (ha : a < n) (hg : g a = .inr (ci, fs)) (hset : fs.set slot v = fs1) (hc : vwCl[ci]? = some (CN, T, N)) (hin : ∀ w ∈ u_ws CN T N, w ∈ ps_T) (hty : ∀ k, k < N → parseFieldDescriptor (T k).2.2.1 = some (ty0 k)) (hnm : ∀ a, a < N → ∀ b, b < N → a ≠ b → (T a).2.1 ≠ (T b).2.1) (hs : slot < N) (hm : Cond.fieldLink own idx CN (T slot).2.1 (T slot).2.2.1 ∈ ps_T) (hx : (T slot).1 = CN) (hfin : (T slot).2.2.2 = true) (hdecl : (T slot).1 = own) (hpd : parseFieldDescriptor (T slot).2.2.1 = some ty) (hn : narrow ty v = v) (hf : fits ty v = true) (hl : slot < fs.length) (hd : decode cc pc = .ok (.putfield idx, 3)) (k : pg X n kc ks (va_up g a (.inr (ci, fs1))) (pc + 3) lv stk) : pg X n kc ks g pc lv (v :: .ref (xb X + a) :: stk) := fun H locs ls hP hS hls => by
  subst hset
  refine va_putF C.1.1 C.1.2.1 (Ts := ps_T) C.1.2.2.2.2.1 hin ty0 hty hnm C.1.2.2.2.1 C.2.1.1.1 hP pw_D hS a (by rw [pw_get ha, hg]) hc slot hs (C.1.2.2.2.2.1 _ hm) (fun x h => hx ▸ h) hfin hin2 hdecl hpd hn hf hl hd (fun H1 locs1 hP1 hD1 hS1 => k H1 locs1 ls ?_ hS1 hls)
  rw [pw_set ha] at hP1
  exact hP1
theorem pg_put (C : pc_C X own cc n0 rm) {a ci idx slot N : Nat} {CN : String} {T : u_T} {ty0 : Nat → FieldType} {v : Value} {ty : FieldType} (fs fs1 : List Value) (ha : a < n) (hg : g a = .inr (ci, fs)) (hset : fs.set slot v = fs1) (hc : vwCl[ci]? = some (CN, T, N)) (hin : ∀ w ∈ u_ws CN T N, w ∈ ps_T) (hty : ∀ k, k < N → parseFieldDescriptor (T k).2.2.1 = some (ty0 k)) (hnm : ∀ a, a < N → ∀ b, b < N → a ≠ b → (T a).2.1 ≠ (T b).2.1) (hs : slot < N) (hm : Cond.fieldLink own idx CN (T slot).2.1 (T slot).2.2.1 ∈ ps_T) (hx : (T slot).1 = CN) (hfin : (T slot).2.2.2 = false) (hpd : parseFieldDescriptor (T slot).2.2.1 = some ty) (hn : narrow ty v = v) (hf : fits ty v = true) (hl : slot < fs.length) (hd : decode cc pc = .ok (.putfield idx, 3)) (k : pg X n kc ks (va_up g a (.inr (ci, fs1))) (pc + 3) lv stk) : pg X n kc ks g pc lv (v :: .ref (xb X + a) :: stk) := fun H locs ls hP hS hls => by
  subst hset
  refine va_put C.1.1 C.1.2.1 (Ts := ps_T) C.1.2.2.2.2.1 hin ty0 hty hnm C.1.2.2.2.1 C.2.1.1.1 hP pw_D hS a (by rw [pw_get ha, hg]) hc slot hs (C.1.2.2.2.2.1 _ hm) (fun x h => hx ▸ h) hfin hpd hn hf hl hd (fun H1 locs1 hP1 hD1 hS1 => k H1 locs1 ls ?_ hS1 hls)
  rw [pw_set ha] at hP1
  exact hP1
theorem pg_get (C : pc_C X own cc n0 rm) {a ci idx slot N : Nat} {CN : String} {T : u_T} {v : Value} (fs : List Value) (ha : a < n) (hg : g a = .inr (ci, fs)) (hc : vwCl[ci]? = some (CN, T, N)) (hin : ∀ w ∈ u_ws CN T N, w ∈ ps_T) (hs : slot < N) (hm : Cond.fieldLink own idx CN (T slot).2.1 (T slot).2.2.1 ∈ ps_T) (hx : (T slot).1 = CN) (hv : fs[slot]? = some v) (hd : decode cc pc = .ok (.getfield idx, 3)) (k : pg X n kc ks g (pc + 3) lv (v :: stk)) : pg X n kc ks g pc lv (.ref (xb X + a) :: stk) := fun H locs ls hP hS hl => va_get C.1.1 C.1.2.1 (Ts := ps_T) C.1.2.2.2.2.1 hin C.1.2.2.2.1 C.2.1.1.1 hP a (by rw [pw_get ha, hg]) hc slot hs (C.1.2.2.2.2.1 _ hm) (fun x h => hx ▸ h) hv hd (k H locs ls hP hS hl)
theorem pg_iast (C : pc_C X own cc n0 rm) {a N j : Nat} {f : Nat → Int32} {i x : Int32} (ha : a < n) (hg : g a = .inl ((xD X).1 10, N, .inl f)) (hi : ps_inB i N = true) (hj : i.toNatClampNeg = j) (hd : decode cc pc = .ok (.iastore, 1)) (k : pg X n kc ks (va_up g a (.inl ((xD X).1 10, N, .inl (upd f j x)))) (pc + 1) lv stk) : pg X n kc ks g pc lv (.int x :: .int i :: .ref (xb X + a) :: stk) := fun H locs ls hP hS hls => by
  subst hj
  refine va_iast C.1.1 C.1.2.1 C.2.1.1.1 hP pw_D hS a 0 (by rw [pw_get ha, hg]) rfl (ps_inB_in hi) hd (fun H1 locs1 hP1 hD1 hS1 => k H1 locs1 ls ?_ hS1 hls)
  rw [pw_set ha] at hP1
  exact hP1
theorem pg_astq (C : pc_C X own cc n0 rm) {a q c t0 ci N j : Nat} {r : vw_C} {vs : List Value} {f : Nat → Option Nat} {i : Int32} (ha : a < n) (hg : g a = .inl ((xD X).1 c, N, .inr (.inr (.inr (.inr f))))) (ht : (ps_tys (xD X))[t0]? = some ((xD X).1 c, .object r.1)) (hq : q < n) (hgq : g q = .inr (ci, vs)) (hc : vwCl[ci]? = some r) (hi : ps_inB i N = true) (hj : i.toNatClampNeg = j) (hd : decode cc pc = .ok (.aastore, 1)) (k : pg X n kc ks (va_up g a (.inl ((xD X).1 c, N, .inr (.inr (.inr (.inr (va_up f j (some (xb X + q)))))))) ) (pc + 1) lv stk) : pg X n kc ks g pc lv (.ref (xb X + q) :: .int i :: .ref (xb X + a) :: stk) := fun H locs ls hP hS hls => by
  subst hj
  refine va_astq (r := r) C.1.1 C.1.2.1 C.2.1.1.1 hP pw_D hS a t0 q ci (by rw [pw_get ha, hg]) ht (by rw [pw_get hq, hgq]) hc (ps_inB_in hi) hd (fun H1 locs1 hP1 hD1 hS1 => k H1 locs1 ls ?_ hS1 hls)
  rw [pw_set ha] at hP1
  exact hP1
theorem pg_conv {g1 : Nat → va_E} (h : ∀ k, k < n → ∀ (q : Nat) (H : Heap), va_at (xD X) vwCl (q, g k) H → va_at (xD X) vwCl (q, g1 k) H) (k : pg X n kc ks g1 pc lv stk) : pg X n kc ks g pc lv stk := fun H locs ls hP hS hl => k H locs ls (fun j x hx => by
  obtain ⟨hj, rfl⟩ := pw_at hx
  exact h j hj _ _ (hP j _ (pw_get hj))) hS hl
/-- a constructor's contract: its object is the last cell, a; it makes mc cells -/
abbrev pc_T (l : Launch) (b : Nat) (D : va_G) (y : MethodName) (cc : ByteArray) (maxL j a mc ms : Nat) (g g1 : Nat → va_E) : Prop := Met l y (ps_ws y cc maxL none) { frames := j, cells := mc, slots := ms, locals := 30 * j } (va_Pc [.ref (b + a)] (pc_Pc b D (a + 1) g)) (va_Qv (fun (_ : Unit) => True) (fun _ U => va_P D vwCl (pw b (a + 1 + mc) g1) U.heap) (ps_A b)) mc ms (ps_A b)
theorem pg_goI (C : pc_C X own cc n0 rm) {a mc ms j maxL idx : Nat} {y : MethodName} {bytes : ByteArray} {g1 : Nat → va_E} (hM : pc_T (xl X) (xb X) (xD X) y bytes maxL j a mc ms g g1) (h1 : Cond.methodLink own idx y ∈ ps_T) (h2 : Cond.initialized y.cls ∈ ps_T) (h3 : Cond.code y bytes maxL none ∈ ps_T) (h4 : Cond.instanceMethod y ∈ ps_T) (h5 : (y.cls ≠ "java/lang/invoke/MethodHandle" ∧ y.cls ≠ "java/lang/invoke/VarHandle") ∧ (parseMethodDescriptor y.desc).map (fun d => d.parameters.length) = some 0 ∧ y.name = "<init>") (hn : a + 1 = n0 + kc) (hR : j + 1 ≤ rm.frames ∧ 8 + (maxL + 11) + 30 * j ≤ rm.locals) (hk : kc + mc ≤ rm.cells ∧ ks + ms ≤ rm.slots) (hcat : (stk.map fun v => v.category).sum ≤ 8) (hd : decode cc pc = .ok (.invokespecial idx, 3)) (k : pg X (a + 1 + mc) (kc + mc) (ks + ms) g1 (pc + 3) lv stk) : pg X (a + 1) kc ks g pc lv (.ref (xb X + a) :: stk) := fun H locs ls hP hS hl => by
  refine pw_size (fun hz => ?_)
  have hH := pw_eq hP hS C.2.2.1 hn hz
  have hR2 : j + 1 ≤ (xR X).frames ∧ 8 + (maxL + 11) + 30 * j ≤ (xR X).locals := by rw [C.2.2.2]; exact hR
  have hk2 : kc + mc ≤ (xR X).cells ∧ ks + ms ≤ (xR X).slots := by rw [C.2.2.2]; exact hk
  refine va_callv (va_runI (As := []) (rest := stk) ⟨C.1.1, C.1.2.1, C.1.2.2.1, C.1.2.2.2.1, C.1.2.2.2.2.1⟩ hM ⟨callB_of 0 C.1.2.2.2.2.1 (ps_good h3) rfl rfl rfl (C.1.2.2.2.2.1 _ h2) (C.1.2.2.2.2.1 _ h1) ⟨h5.1.1, h5.1.2, h5.2.1⟩ hR2, h5.2.2, C.1.2.2.2.2.1 _ h4⟩ ⟨pc_blind, fun U hU hW => ⟨rfl, by rw [hU]; exact hH, by rw [hU]; exact hP, pc_K_warm hW hU hS C.2.1⟩⟩ rfl rfl hl.2.1 rfl (lv_room hcat) hd hk2) hS (fun q _ h => h) (fun q h => h) (fun u t H1 locs1 ht hvm hw' hB hz1 hk1 hS1 => ?_)
  exact k H1 locs1 ls (by rw [← ht]; exact hB) hS1 hl
theorem pg_goN (C : pc_C X own cc n0 rm) {a mc ms j maxL idx : Nat} {y : MethodName} {bytes : ByteArray} {host : String} {g1 : Nat → va_E} (hM : pc_T (xl X) (xb X) (xD X) y bytes maxL j a mc ms g g1) (h1 : va_Nw (.methodLinkNest own idx y host) (xs X)) (h2 : Cond.initialized y.cls ∈ ps_T) (h3 : Cond.code y bytes maxL none ∈ ps_T) (h4 : Cond.instanceMethod y ∈ ps_T) (h5 : (y.cls ≠ "java/lang/invoke/MethodHandle" ∧ y.cls ≠ "java/lang/invoke/VarHandle") ∧ (parseMethodDescriptor y.desc).map (fun d => d.parameters.length) = some 0 ∧ y.name = "<init>") (hn : a + 1 = n0 + kc) (hR : j + 1 ≤ rm.frames ∧ 8 + (maxL + 11) + 30 * j ≤ rm.locals) (hk : kc + mc ≤ rm.cells ∧ ks + ms ≤ rm.slots) (hcat : (stk.map fun v => v.category).sum ≤ 8) (hd : decode cc pc = .ok (.invokespecial idx, 3)) (k : pg X (a + 1 + mc) (kc + mc) (ks + ms) g1 (pc + 3) lv stk) : pg X (a + 1) kc ks g pc lv (.ref (xb X + a) :: stk) := fun H locs ls hP hS hl => by
  refine pw_size (fun hz => ?_)
  have hH := pw_eq hP hS C.2.2.1 hn hz
  have hR2 : j + 1 ≤ (xR X).frames ∧ 8 + (maxL + 11) + 30 * j ≤ (xR X).locals := by rw [C.2.2.2]; exact hR
  have hk2 : kc + mc ≤ (xR X).cells ∧ ks + ms ≤ (xR X).slots := by rw [C.2.2.2]; exact hk
  refine va_callv (va_runIN (As := []) (rest := stk) (host := host) ⟨C.1.1, C.1.2.1, C.1.2.2.1, C.1.2.2.2.1, C.1.2.2.2.2.1⟩ hM ⟨va_cnB 0 C.1.2.2.2.2.1 (ps_good h3) rfl rfl rfl h1 (C.1.2.2.2.2.1 _ h2) ⟨h5.1.1, h5.1.2, h5.2.1⟩ hR2, h5.2.2, C.1.2.2.2.2.1 _ h4⟩ ⟨pc_blind, fun U hU hW => ⟨rfl, by rw [hU]; exact hH, by rw [hU]; exact hP, pc_K_warm hW hU hS C.2.1⟩⟩ rfl rfl hl.2.1 rfl (lv_room hcat) hd hk2) hS (fun q _ h => h) (fun q h => h) (fun u t H1 locs1 ht hvm hw' hB hz1 hk1 hS1 => ?_)
  exact k H1 locs1 ls (by rw [← ht]; exact hB) hS1 hl
end PG
theorem pc_met {l : Launch} {b : Nat} {D : va_G} {y : MethodName} {own : String} {cc : ByteArray} {maxL j a mc ms : Nat} {lv : List (Option Value)} {g g1 : Nat → va_E} (hy : plainName y.cls = true) (ho : y.cls = own) (hyn : y.name = "<init>") (hn : lv.length = maxL) (ha : (lg_sl [Value.ref (b + a)]).length ≤ maxL) (hp : ps_pairs 0 lv = lv_args 0 [.ref (b + a)])
    (hb : ∀ X : ps_X, xl X = l → xb X = b → xD X = D → xn X = maxL → pc_C X own cc (a + 1) { frames := j, cells := mc, slots := ms, locals := 30 * j } → (xh X).name = "<init>" → (∀ pc lv, decode cc pc = .ok (.return_, 1) → pg X (a + 1 + mc) mc ms g1 pc lv []) → pg X (a + 1) 0 0 g 0 lv []) : pc_T l b D y cc maxL j a mc ms g g1 := by
  refine Met.ofW (cc := cc) (maxL := maxL) (ret := none) hy rfl ?_
  intro p e s m args below meth c s₁ B hml hv
  obtain ⟨rfl, hsz, hP, hK⟩ := hv
  have hts := atoms_spec (ws := ps_ws y cc maxL none) B.pre
  have hown : s.vm.findClass own = some m.cls := by rw [← ho]; exact findClass_of_methodNamed B.named
  have hlocks := B.notSynchronized
  have hr := B.returns
  have hin : meth.name = "<init>" := (name_of_methodNamed B.named B.method).1.trans hyn
  let X : ps_X := (p, l, e, { frames := j, cells := mc, slots := ms, locals := 30 * j }, s, m, #[.ref (b + a)], below, meth, c, 0, 0, maxL, b, D, MQ below (va_Qv (fun (_ : Unit) => True) (fun _ U => va_P D vwCl (pw b (a + 1 + mc) g1) U.heap) (ps_A b)) #[.ref (b + a)] s mc ms (ps_A b))
  have hC : ps_C X own cc := ⟨B.exec, B.bytes, hml, hown, fun w hw => hts w (List.mem_cons_of_mem _ hw), hK.1, hlocks, Nat.zero_le _, Nat.zero_le _⟩
  have hG := hb X rfl rfl rfl rfl ⟨hC, hK, hsz, rfl⟩ hin (fun pc lv' hd H locs ls hP' hS hl => W.vret B.exec B.bytes hr (fun t ht hW => ⟨⟨(), rfl, trivial, by show va_P D vwCl (pw b (a + 1 + mc) g1) t.heap; rw [ht]; exact hP'⟩, hS.F ht⟩) hS.2.2 hd hlocks)
  rw [lg_entry_eq]
  exact hG s.heap [] _ hP va_S.rf (ps_entry hn ha hp)
