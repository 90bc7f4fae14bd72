/-! new int[n][k] in one order: a row of rows; its cell, then the inner ones, one behind another -/
def mn_out (c : ClassId) (N h i : Nat) : Cell := arrV c N (fun j => if j < i then .ref (h + 1 + j) else .null)
def mn_in (c : ClassId) (K : Nat) : Cell := arrV c K (fun _ => .int 0)
/-- the state when i inner rows stand -/
def mn_st (U : State) (cA cB : ClassId) (N K : Nat) : Nat → State
  | 0 => U.pushCell (mn_out cA N U.heap.size 0)
  | i + 1 => ((mn_st U cA cB N K i).pushCell (mn_in cB K)).setCell U.heap.size (mn_out cA N U.heap.size (i + 1))
theorem mn_next {c : ClassId} {N h i : Nat} : (mn_out c N h i).setSlot i (.ref (h + 1 + i)) = mn_out c N h (i + 1) := by
  unfold mn_out
  rw [arrV_store]
  refine congrArg (arrV c N) (funext fun j => ?_)
  unfold updV
  by_cases e : j = i
  · rw [if_pos e, if_pos (by omega), e]
  · rw [if_neg e]
    show (if j < i then Value.ref (h + 1 + j) else Value.null) = _
    by_cases g : j < i
    · rw [if_pos g, if_pos (by omega)]
    · rw [if_neg g, if_neg (by omega)]
theorem mn_lt {U : State} {cA cB : ClassId} {N K a : Nat} (i : Nat) (h : ∀ {i : Nat}, (mn_st U cA cB N K i).heap.size = U.heap.size + 1 + i) (ha : a < U.heap.size + 1 + i) : a < (mn_st U cA cB N K i).heap.size := by
  rw [h]
  exact ha
theorem mn_sz {c : ClassId} {N h i : Nat} : (mn_out c N h i).slots.size = N := arrV_size _ _ _
theorem mn_szi {c : ClassId} {K : Nat} : (mn_in c K).slots.size = K := arrV_size _ _ _
theorem mn_size {U : State} {cA cB : ClassId} {N K : Nat} : ∀ i, (mn_st U cA cB N K i).heap.size = U.heap.size + 1 + i
  | 0 => by simp [mn_st]
  | i + 1 => by
    have h := mn_size (U := U) (cA := cA) (cB := cB) (N := N) (K := K) i
    simp [mn_st, State.setCell, h]
    omega
theorem mn_used {U : State} {cA cB : ClassId} {N K : Nat} : ∀ i, (mn_st U cA cB N K i).slotsUsed = U.slotsUsed + N + i * K
  | 0 => by simp [mn_st, mn_sz]
  | i + 1 => by
    have h := mn_used (U := U) (cA := cA) (cB := cB) (N := N) (K := K) i
    simp [mn_st, h, mn_szi, Nat.succ_mul]
    omega
theorem mn_vm {U : State} {cA cB : ClassId} {N K : Nat} : ∀ i, (mn_st U cA cB N K i).vm = U.vm
  | 0 => rfl
  | i + 1 => mn_vm (U := U) (cA := cA) (cB := cB) (N := N) (K := K) i
theorem mn_head {U : State} {cA cB : ClassId} {N K : Nat} : ∀ i, (mn_st U cA cB N K i).heap[U.heap.size]? = some (mn_out cA N U.heap.size i)
  | 0 => by
    show (U.pushCell (mn_out cA N U.heap.size 0)).heap[U.heap.size]? = _
    exact State.heap_pushCell_size _ _
  | i + 1 => by
    refine State.heap_setCell_self (c := mn_out cA N U.heap.size i) ?_
    rw [State.heap_pushCell_of_lt (h := mn_lt i (fun {i} => mn_size i) (by omega))]
    exact mn_head i
theorem mn_old {U : State} {cA cB : ClassId} {N K a : Nat} (ha : a < U.heap.size) : ∀ i, (mn_st U cA cB N K i).heap[a]? = U.heap[a]?
  | 0 => State.heap_pushCell_of_lt _ _ ha
  | i + 1 => by
    show (((mn_st U cA cB N K i).pushCell (mn_in cB K)).setCell U.heap.size _).heap[a]? = _
    rw [State.heap_setCell_other (Nat.ne_of_gt ha), State.heap_pushCell_of_lt (h := mn_lt i (fun {i} => mn_size i) (by omega))]
    exact mn_old ha i
theorem mn_row {U : State} {cA cB : ClassId} {N K j : Nat} : ∀ i, j < i → (mn_st U cA cB N K i).heap[U.heap.size + 1 + j]? = some (mn_in cB K)
  | 0, h => absurd h (Nat.not_lt_zero _)
  | i + 1, h => by
    show (((mn_st U cA cB N K i).pushCell (mn_in cB K)).setCell U.heap.size _).heap[U.heap.size + 1 + j]? = _
    rw [State.heap_setCell_other (show U.heap.size ≠ U.heap.size + 1 + j by omega)]
    by_cases e : j < i
    · rw [State.heap_pushCell_of_lt (h := mn_lt i (fun {i} => mn_size i) (by omega))]
      exact mn_row i e
    · have e2 : U.heap.size + 1 + j = (mn_st U cA cB N K i).heap.size := by rw [mn_size]; omega
      rw [e2]
      exact State.heap_pushCell_size _ _
theorem mn_top {U : State} {f : JFrame} {cA cB : ClassId} {N K : Nat} : ∀ i, mn_st (U.setTop f) cA cB N K i = (mn_st U cA cB N K i).setTop f
  | 0 => rfl
  | i + 1 => by
    show ((mn_st (U.setTop f) cA cB N K i).pushCell (mn_in cB K)).setCell (U.setTop f).heap.size _ = _
    rw [mn_top i]
    rfl
section MNW
variable {E : CtlPost} {e : Env} {d : Bool} {acts : List Action} {s : State}
theorem mn_wp1 {comp cc : ClassId} {kc : Class} {k : Int32} (hkc : s.vm.classes[comp]? = some kc) (hkd : kc.kind = .array cc .int) (hk : ¬ k < 0) (hl : ¬ k.toNatClampNeg > e.platform.arrayLengthLimit) (hh : ¬ k.toNatClampNeg * componentBytes .int > e.platform.maxHeapBytes)
    (h1 : s.heap.size < e.platform.maxCells) (h2 : s.slotsUsed + k.toNatClampNeg ≤ e.platform.maxSlots) {Q : Addr → Pre} (hq : ∀ acts', Q s.heap.size d acts' (s.pushCell (mn_in comp k.toNatClampNeg))) : wp (multianewarray.make comp [k]) Q E e d acts s := by
  rw [multianewarray.make]
  simp only [wp_bind', W.ite, hk, if_false, wp_pure', W.theClass, hkc, hkd, Option.some.injEq, exists_eq_left']
  refine W.newArray_of hkc hkd hl hh h1 h2 rfl (fun acts' => ?_)
  have := hq acts'
  rw [show mn_in comp k.toNatClampNeg = { cls := comp, slots := Array.replicate k.toNatClampNeg (.int 0), vm := .none } from (arrV_new _ _ _).symm] at this
  exact this
theorem mn_wp2 {cA comp cc : ClassId} {kA kc : Class} {n k : Int32} (hkA : s.vm.classes[cA]? = some kA) (hdA : kA.kind = .array comp (.array .int)) (hkc : s.vm.classes[comp]? = some kc) (hkd : kc.kind = .array cc .int) (hn : ¬ n < 0) (hk : ¬ k < 0)
    (hl1 : ¬ n.toNatClampNeg > e.platform.arrayLengthLimit) (hh1 : ¬ n.toNatClampNeg * componentBytes (.array .int) > e.platform.maxHeapBytes) (hl2 : ¬ k.toNatClampNeg > e.platform.arrayLengthLimit) (hh2 : ¬ k.toNatClampNeg * componentBytes .int > e.platform.maxHeapBytes)
    (h1 : s.heap.size + 1 + n.toNatClampNeg ≤ e.platform.maxCells) (h2 : s.slotsUsed + n.toNatClampNeg + n.toNatClampNeg * k.toNatClampNeg ≤ e.platform.maxSlots)
    {Q : Addr → Pre} (hq : ∀ d' acts', Q s.heap.size d' acts' (mn_st s cA comp n.toNatClampNeg k.toNatClampNeg n.toNatClampNeg)) : wp (multianewarray.make cA [n, k]) Q E e d acts s := by
  have hfind : ([k].find? (· < 0)) = none := by simp [hk]
  rw [multianewarray.make]
  simp only [wp_bind', W.ite, hn, if_false, wp_pure', W.theClass, hkA, hdA, Option.some.injEq, exists_eq_left']
  refine W.newArray_of hkA hdA hl1 hh1 (by omega) (by omega) rfl (fun acts' => ?_)
  rw [show s.pushCell { cls := cA, slots := Array.replicate n.toNatClampNeg .null, vm := .none } = mn_st s cA comp n.toNatClampNeg k.toNatClampNeg 0 from by
    show _ = s.pushCell (mn_out cA n.toNatClampNeg s.heap.size 0)
    rw [arrV_new]
    unfold mn_out
    simp]
  simp only [hfind]
  rw [ite_self, wp_bind', Std.Legacy.Range.forIn_eq_forIn_range']
  have hsz : ([:n.toNatClampNeg] : Std.Legacy.Range).size = n.toNatClampNeg := by simp [Std.Legacy.Range.size]
  rw [hsz]
  show wp (forIn (List.range' 0 n.toNatClampNeg 1) PUnit.unit _) _ E e d _ _
  refine wp_forIn_inv (fun rest s' => ∃ i, i + rest.length = n.toNatClampNeg ∧ rest = List.range' i rest.length ∧ s' = mn_st s cA comp n.toNatClampNeg k.toNatClampNeg i) _ _ ⟨0, by simp, by simp, rfl⟩ ?_ ?_
  · rintro x rest s' d' acts'' Q' ⟨i, hi, hl, rfl⟩ hnext
    rw [List.length_cons] at hi hl
    rw [List.range'_succ] at hl
    obtain ⟨rfl, hrest⟩ : x = i ∧ rest = List.range' (i + 1) rest.length := ⟨(List.cons.inj hl).1, (List.cons.inj hl).2⟩
    have hmul : x * k.toNatClampNeg + k.toNatClampNeg ≤ n.toNatClampNeg * k.toNatClampNeg := by
      have := Nat.mul_le_mul_right k.toNatClampNeg (show x + 1 ≤ n.toNatClampNeg by omega)
      rw [Nat.succ_mul] at this
      exact this
    simp only [wp_bind']
    refine mn_wp1 (by rw [mn_vm]; exact hkc) hkd hk hl2 hh2 (by rw [mn_size]; omega) (by rw [mn_used]; omega) (fun acts3 => ?_)
    simp only [wp_bind', W.writeLoc, wp_pure']
    have hc : ((mn_st s cA comp n.toNatClampNeg k.toNatClampNeg x).pushCell (mn_in comp k.toNatClampNeg)).heap[s.heap.size]? = some (mn_out cA n.toNatClampNeg s.heap.size x) := by
      rw [State.heap_pushCell_of_lt (h := mn_lt x (fun {i} => mn_size i) (by omega))]
      exact mn_head x
    refine ⟨mn_out cA n.toNatClampNeg s.heap.size x, hc, by simp [mn_out, arrV], by rw [mn_sz]; omega, ?_, hnext _ _ _ ⟨x + 1, by omega, hrest, ?_⟩⟩
    · show State.fitsSlot _ cA .none x _ = true
      simp [State.fitsSlot, State.slotType?, mn_vm, hkA, hdA, fits]
    · rw [mn_size, mn_next]
      rfl
  · rintro s' d' acts'' ⟨i, hi, hl, rfl⟩
    have hi2 : i = n.toNatClampNeg := by simpa using hi
    subst hi2
    simp only [wp_pure']
    exact hq _ _
end MNW
section MNS
variable {p : Program} {l : Launch} {e : Env} {R : Room} {s : State} {m : MethodId} {args : Array Value} {below : List Frame} {meth : Method} {c : Code} {T : State} {locs : List Loc} {cells slots : Nat}
theorem mn_stand (X : Stand p l e R s m args below meth c T locs cells slots) (cA cB : ClassId) (N K : Nat) : ∀ i, Stand p l e R s m args below meth c (mn_st T cA cB N K i) locs (cells + 1 + i) (slots + N + i * K)
  | 0 => by
    have h := X.pushed (mn_out cA N T.heap.size 0)
    rw [mn_sz] at h
    simpa [mn_st] using h
  | i + 1 => by
    have Xi := mn_stand X cA cB N K i
    have hc : ((mn_st T cA cB N K i).pushCell (mn_in cB K)).heap[T.heap.size]? = some (mn_out cA N T.heap.size i) := by
      rw [State.heap_pushCell_of_lt (h := mn_lt i (fun {i} => mn_size i) (by omega))]
      exact mn_head i
    have h := ((Xi.pushed (mn_in cB K)).stored hc i (.ref (T.heap.size + 1 + i))).forget (fun y hy => by
      rw [List.mem_singleton] at hy
      subst hy
      exact X.heapGrown)
    rw [mn_next, mn_szi] at h
    rw [show slots + N + (i + 1) * K = slots + N + i * K + K by rw [Nat.succ_mul]; omega]
    exact h
/-- what the launch's tables say of int[][] and int[] -/
def mn_AA (U : State) : Prop := ∃ (cA cB cc : ClassId) (kA kB : Class), U.vm.findClass "[[I" = some cA ∧ U.vm.classes[cA]? = some kA ∧ kA.kind = .array cB (.array .int) ∧ U.vm.findClass "[I" = some cB ∧ U.vm.classes[cB]? = some kB ∧ kB.kind = .array cc .int
theorem mn_AA.moved {u U : State} (hvm : u.vm.Alike U.vm) (h : mn_AA u) : mn_AA U := by
  obtain ⟨cA, cB, cc, kA, kB, h1, h2, h3, h4, h5, h6⟩ := h
  obtain ⟨kA', g2, eA⟩ := hvm.2.2 _ _ h2
  obtain ⟨kB', g5, eB⟩ := hvm.2.2 _ _ h5
  exact ⟨cA, cB, cc, kA', kB', by rw [hvm.findClass]; exact h1, g2, by rw [eA]; exact h3, by rw [hvm.findClass]; exact h4, g5, by rw [eB]; exact h6⟩
theorem mn_AA.of {A : Array Value} {U : State} (h1 : (Cond.arrayOver (.array .int)).before A U = true) (h2 : (Cond.arrayClass .int).before A U = true) : mn_AA U := by
  obtain ⟨comp, cA, kA, f1, -, f3, f4, f5⟩ := arrayOverA_spec h1
  obtain ⟨comp', kB, cc, g1, g2, g3⟩ := Cond.arrayClass_spec h2
  have e9 : comp' = comp := Option.some.inj (g1.symm.trans f1)
  subst e9
  exact ⟨cA, comp', cc, kA, kB, f5, f3, f4, f1, g2, g3⟩
theorem mn_go {H : Heap} {Q : State → Prop} {cc : ByteArray} {pc : Nat} {ls : Array Slot} {rest : List Value} (hexec : p.tables.exec = Jvm.exec) (hb : c.code = cc) {own : String} {index : Nat} (hown : s.vm.findClass own = some m.cls) (hclink : (Cond.classLink own index "[[I").before args s = true) (hAA : mn_AA s) {n k : Int32} {N K : Nat} (hn : ¬ n < 0) (hk : ¬ k < 0) (hN : n.toNatClampNeg = N) (hK : k.toNatClampNeg = K) (hb1 : N * 4 ≤ 536870912) (hb2 : K * 4 ≤ 536870912) (hcells : cells + (1 + N) ≤ R.cells) (hslots : slots + (N + N * K) ≤ R.slots) (hdg : decode cc pc = .ok (.multianewarray index 2, 4))
    (kk : ∀ (cA cB : ClassId) (H1 : Heap), s.vm.findClass "[[I" = some cA → s.vm.findClass "[I" = some cB → H1.size = H.size + 1 + N → H1[H.size]? = some (mn_out cA N H.size N) → (∀ q, q < H.size → H1[q]? = H[q]?) → (∀ j, j < N → H1[H.size + 1 + j]? = some (mn_in cB K)) →
      W p l e R s m args below meth c H1 locs (cells + 1 + N) (slots + N + N * K) Q (F0 m (pc + 4) ls (.ref H.size :: rest))) : W p l e R s m args below meth c H locs cells slots Q (F0 m pc ls (.int k :: .int n :: rest)) := by
  subst hN
  subst hK
  subst hb
  intro T hT X
  obtain ⟨cA, cB, cc, kA, kB, h1, h2, h3, h4, h5, h6⟩ := hAA
  have hpl : e.platform.magicAccessors = ({} : Platform).magicAccessors := by rw [X.admits.platform]
  obtain ⟨c0, hfc0, hcl⟩ := Cond.classLink_spec hown hclink e.platform hpl
  cases h1.symm.trans hfc0
  obtain ⟨hg1, hwarm1, hready1⟩ := State.classEntry (e := e) X.warmed hcl
  generalize T.vm.noted m.cls index (.cls cA) = vm1 at hg1 hwarm1 hready1
  have hal : s.vm.Alike vm1 := hwarm1.alike
  obtain ⟨kA', g2, eA⟩ := hal.2.2 _ _ h2
  obtain ⟨kB', g5, eB⟩ := hal.2.2 _ _ h5
  have g3 : kA'.kind = .array cB (.array .int) := by rw [eA]; exact h3
  have g6 : kB'.kind = .array cc .int := by rw [eB]; exact h6
  have X1 := X.noted hwarm1
  obtain ⟨r1, r2⟩ := X.roomAbove hcells hslots
  have XF := mn_stand X1 cA cB n.toNatClampNeg k.toNatClampNeg n.toNatClampNeg
  have hTh : (T.setVm vm1).heap = H := hT
  have hsz : (T.setVm vm1).heap.size = H.size := by rw [hTh]
  have a1 := mn_size (U := T.setVm vm1) (cA := cA) (cB := cB) (N := n.toNatClampNeg) (K := k.toNatClampNeg) n.toNatClampNeg
  have a2 := mn_head (U := T.setVm vm1) (cA := cA) (cB := cB) (N := n.toNatClampNeg) (K := k.toNatClampNeg) n.toNatClampNeg
  have a3 := fun q (hq : q < (T.setVm vm1).heap.size) => mn_old (U := T.setVm vm1) (cA := cA) (cB := cB) (N := n.toNatClampNeg) (K := k.toNatClampNeg) hq n.toNatClampNeg
  have a4 := fun j (hj : j < n.toNatClampNeg) => mn_row (U := T.setVm vm1) (cA := cA) (cB := cB) (N := n.toNatClampNeg) (K := k.toNatClampNeg) n.toNatClampNeg hj
  rw [hTh] at a1 a2 a3 a4
  obtain ⟨t, b1, b2⟩ := kk cA cB _ h1 h4 a1 a2 a3 a4 _ rfl XF
  refine ⟨t, ?_, b2⟩
  have hl1 : ¬ n.toNatClampNeg > e.platform.arrayLengthLimit := by rw [Launch.admits_arrayLengthLimit X.admits]; omega
  have hh1 : ¬ n.toNatClampNeg * componentBytes (.array .int) > e.platform.maxHeapBytes := by
    rw [Launch.admits_maxHeapBytes X.admits]
    show ¬ n.toNatClampNeg * 4 > 536870912
    omega
  have hl2 : ¬ k.toNatClampNeg > e.platform.arrayLengthLimit := by rw [Launch.admits_arrayLengthLimit X.admits]; omega
  have hh2 : ¬ k.toNatClampNeg * componentBytes .int > e.platform.maxHeapBytes := by
    rw [Launch.admits_maxHeapBytes X.admits]
    show ¬ k.toNatClampNeg * 4 > 536870912
    omega
  jvm_step X.here [hexec, hdg]
  simp only [multianewarray.sem, wp_bind', W.resolveClassAt_links (State.method?_setTop (F0 m pc ls (.int k :: .int n :: rest)) X.here.top) hg1]
  rw [W.popN, if_neg (by decide)]
  refine ⟨F0 m pc ls (.int k :: .int n :: rest), State.topJava?_setTop' (s := T.setVm vm1) _ X.here.top, [.int n, .int k], rest, rfl, rfl, ?_⟩
  simp only [List.mapM_cons, List.mapM_nil, wp_bind', wp_pure']
  refine mn_wp2 (kA := kA') (kc := kB') (comp := cB) (cc := cc) g2 g3 g5 g6 hn hk hl1 hh1 hl2 hh2 (by show T.heap.size + 1 + _ ≤ _; omega) (by show T.slotsUsed + _ + _ ≤ _; omega) (fun d' acts' => ?_)
  have eS : ((T.setTop (F0 m pc ls (.int k :: .int n :: rest))).setVm vm1).setTop (F0 m pc ls rest) = (T.setVm vm1).setTop (F0 m pc ls rest) := by
    show ((T.setVm vm1).setTop (F0 m pc ls (.int k :: .int n :: rest))).setTop _ = _
    rw [State.setTop_setTop]
  have eS2 : ({ F0 m pc ls (.int k :: .int n :: rest) with stack := rest } : JFrame) = F0 m pc ls rest := rfl
  rw [eS2, eS, mn_top]
  simp only [wp_bind', W.mark, W.pushRef, State.topJava?_setTop' _ XF.here.top, Option.some.injEq, exists_eq_left', State.setTop_setTop, State.heap_setTop]
  intro acts
  simp [jvm, XF.here.top]
  rw [hT]
  exact b1
end MNS
