/-! A NEW ARRAY OF ARRAYS: four rows of forty ints -/
section MN
variable {E : CtlPost} {e : Env} {d : Bool} {acts : List Action} {s : State}
theorem mn_newArray {c comp : ClassId} {k : Class} {ty : FieldType} {N : Nat} {v : Value} {Q : Addr → Pre} (hk : s.vm.classes[c]? = some k) (hkind : k.kind = .array comp ty) (hfit : fits ty v = true) (hlim : ¬ N > e.platform.arrayLengthLimit) (hheap : ¬ N * componentBytes ty > e.platform.maxHeapBytes) (h1 : s.heap.size < e.platform.maxCells) (h2 : s.slotsUsed + N ≤ e.platform.maxSlots) (hq : ∀ d' acts', Q s.heap.size d' acts' (s.pushCell { cls := c, slots := Array.replicate N v, vm := .none })) : wp (Jvm.newArray c N v) Q E e d acts s := by
  have hf : ∀ i x, (Array.replicate N v)[i]? = some x → s.fitsSlot c .none i x = true := by
    intro i x hx
    simp only [Array.getElem?_replicate] at hx
    split at hx
    · cases hx
      simp [State.fitsSlot, State.slotType?, hk, hkind, hfit]
    · cases hx
  simp only [Jvm.newArray, Jvm.arrayFits, wp_bind', Jvm.W.ask, Jvm.W.ite, hlim, if_false, wp_pure', Jvm.W.theClass, hk, Option.some.injEq, exists_eq_left', hkind, hheap, Jvm.W.alloc, Jvm.W.stop, Array.size_replicate]
  rw [if_neg (by omega)]
  exact ⟨h1, h2, hf, hq _ _⟩
theorem mn_make1 {c comp : ClassId} {k : Class} {Q : Addr → Pre} (hk : s.vm.classes[c]? = some k) (hkind : k.kind = .array comp .int) (hlim : ¬ 40 > e.platform.arrayLengthLimit) (hheap : ¬ 160 > e.platform.maxHeapBytes) (h1 : s.heap.size < e.platform.maxCells) (h2 : s.slotsUsed + 40 ≤ e.platform.maxSlots) (hq : ∀ d' acts', Q s.heap.size d' acts' (s.pushCell { cls := c, slots := Array.replicate 40 (.int 0), vm := .none })) : wp (multianewarray.make c [40]) Q E e d acts s := by
  simp only [multianewarray.make, wp_bind', Jvm.W.ite, show ¬ (40 : Int32) < 0 by decide, if_false, wp_pure', Jvm.W.theClass, hk, Option.some.injEq, exists_eq_left', hkind]
  exact mn_newArray (N := 40) hk hkind rfl hlim hheap h1 h2 hq
def mnI (comp : ClassId) : Cell := { cls := comp, slots := Array.replicate 40 (.int 0), vm := .none }
def mnA (c : ClassId) : Cell := { cls := c, slots := Array.replicate 4 .null, vm := .none }
def mnN (comp : ClassId) (a : Addr) (i : Nat) (t : State) (C : Cell) : State := (t.pushCell (mnI comp)).setCell a (C.setSlot i (.ref t.heap.size))
def mnC (i : Nat) (t : State) (C : Cell) : Cell := C.setSlot i (.ref t.heap.size)
/-- what holds of the array that is being filled -/
def mnK (s : State) (c comp : ClassId) (a j : Nat) (t : State) (C : Cell) : Prop := t.vm = s.vm ∧ t.heap[a]? = some C ∧ t.heap.size = s.heap.size + 1 + j ∧ t.slotsUsed = s.slotsUsed + 4 + 40 * j ∧ C.cls = c ∧ C.vm = .none ∧ C.slots.size = 4
theorem mnK_0 {c comp : ClassId} : mnK s c comp s.heap.size 0 (s.pushCell (mnA c)) (mnA c) := ⟨rfl, State.heap_pushCell_size _ _, by show (s.heap.push _).size = _; rw [Array.size_push], by show s.slotsUsed + (mnA c).slots.size = _; simp [mnA], rfl, rfl, by simp [mnA]⟩
theorem mnK_pc {c comp : ClassId} {a j : Nat} {t : State} {C : Cell} (h : mnK s c comp a j t C) : (t.pushCell (mnI comp)).heap[a]? = some C := by
  obtain ⟨h1, h2, h3, h4, h5, h6, h7⟩ := h
  have hlt : a < t.heap.size := (Array.getElem?_eq_some_iff.mp h2).1
  rw [State.heap_pushCell_of_lt _ _ hlt]
  exact h2
theorem mnK_s {c comp : ClassId} {a i j : Nat} {t : State} {C : Cell} (h : mnK s c comp a j t C) : mnK s c comp a (j + 1) (mnN comp a i t C) (mnC i t C) := by
  have hp := mnK_pc h
  obtain ⟨h1, h2, h3, h4, h5, h6, h7⟩ := h
  have hlt : a < (t.pushCell (mnI comp)).heap.size := (Array.getElem?_eq_some_iff.mp hp).1
  refine ⟨h1, ?_, ?_, ?_, h5, h6, ?_⟩
  · show ((t.pushCell (mnI comp)).heap.setIfInBounds a _)[a]? = _
    rw [Array.getElem?_setIfInBounds_self, if_pos hlt]
    rfl
  · show ((t.heap.push _).setIfInBounds a _).size = _
    simp only [Array.size_setIfInBounds, Array.size_push]
    omega
  · show t.slotsUsed + (mnI comp).slots.size = _
    simp only [mnI, Array.size_replicate]
    omega
  · simp [mnC, Cell.setSlot, h7]
theorem mn_row {c comp x : ClassId} {k kc : Class} {a i j : Nat} {t : State} {C : Cell} {Q : ForInStep PUnit → Pre} (hk : s.vm.classes[c]? = some k) (hkind : k.kind = .array comp (.array .int)) (hkc : s.vm.classes[comp]? = some kc) (hkindc : kc.kind = .array x .int) (hlim : ¬ 40 > e.platform.arrayLengthLimit) (hheap : ¬ 160 > e.platform.maxHeapBytes) (h1 : s.heap.size + 5 ≤ e.platform.maxCells) (h2 : s.slotsUsed + 164 ≤ e.platform.maxSlots) (hj : j < 4) (hi : i < 4) (hK : mnK s c comp a j t C) (hq : ∀ d' acts', Q (ForInStep.yield PUnit.unit) d' acts' (mnN comp a i t C)) : wp (multianewarray.make comp [40]) (fun r => wp (do
      Jvm.writeLoc a i (.ref r)
      Pure.pure (ForInStep.yield PUnit.unit)) Q E e) E e d acts t := by
  have hp := mnK_pc hK
  obtain ⟨g1, g2, g3, g4, g5, g6, g7⟩ := hK
  refine mn_make1 (c := comp) (k := kc) (by rw [g1]; exact hkc) hkindc hlim hheap (by omega) (by omega) (fun d' acts' => ?_)
  simp only [wp_bind', wp_pure', Jvm.W.writeLoc]
  refine ⟨C, hp, by rw [g6]; decide, by omega, ?_, hq _ _⟩
  rw [g5, g6]
  have e1 : t.vm.classes[c]? = some k := by rw [g1]; exact hk
  show (t.pushCell (mnI comp)).fitsSlot c .none i _ = true
  simp [State.fitsSlot, State.slotType?, hkind, e1]
  rfl
def mnT (s : State) (c comp : ClassId) : Nat → State × Cell
  | 0 => (s.pushCell (mnA c), mnA c)
  | j + 1 => (mnN comp s.heap.size j (mnT s c comp j).1 (mnT s c comp j).2, mnC j (mnT s c comp j).1 (mnT s c comp j).2)
theorem mnT_K (s : State) (c comp : ClassId) : ∀ j, mnK s c comp s.heap.size j (mnT s c comp j).1 (mnT s c comp j).2
  | 0 => mnK_0
  | j + 1 => mnK_s (mnT_K s c comp j)
theorem mn_make2 {c comp x : ClassId} {k kc : Class} {Q : Addr → Pre} (hk : s.vm.classes[c]? = some k) (hkind : k.kind = .array comp (.array .int)) (hkc : s.vm.classes[comp]? = some kc) (hkindc : kc.kind = .array x .int) (hlim : ¬ 40 > e.platform.arrayLengthLimit) (hheap : ¬ 160 > e.platform.maxHeapBytes) (h1 : s.heap.size + 5 ≤ e.platform.maxCells) (h2 : s.slotsUsed + 164 ≤ e.platform.maxSlots)
    (hq : ∀ d' acts', Q s.heap.size d' acts' (mnT s c comp 4).1) : wp (multianewarray.make c [4, 40]) Q E e d acts s := by
  rw [multianewarray.make]
  simp only [wp_bind', Jvm.W.ite, show ¬ (4 : Int32) < 0 by decide, if_false, wp_pure', Jvm.W.theClass, hk, Option.some.injEq, exists_eq_left', hkind, show ((4 : Int32) == 0) = false by decide, Bool.false_eq_true]
  refine mn_newArray (N := 4) hk hkind rfl (by omega) (show ¬ 16 > e.platform.maxHeapBytes by omega) (by omega) (by omega) (fun d' acts' => ?_)
  rw [show (Int32.toNatClampNeg 4) = 4 from rfl]
  simp only [Std.Legacy.Range.forIn_eq_forIn_range', Std.Legacy.Range.size, List.range', List.forIn_cons, List.forIn_nil, wp_bind', wp_pure']
  refine mn_row (j := 0) (i := 0) hk hkind hkc hkindc hlim hheap h1 h2 (by decide) (by decide) (mnT_K s c comp 0) (fun d1 a1 => ?_)
  simp only [wp_bind']
  refine mn_row (j := 1) (i := 1) hk hkind hkc hkindc hlim hheap h1 h2 (by decide) (by decide) (mnT_K s c comp 1) (fun d2 a2 => ?_)
  simp only [wp_bind']
  refine mn_row (j := 2) (i := 2) hk hkind hkc hkindc hlim hheap h1 h2 (by decide) (by decide) (mnT_K s c comp 2) (fun d3 a3 => ?_)
  simp only [wp_bind']
  refine mn_row (j := 3) (i := 3) hk hkind hkc hkindc hlim hheap h1 h2 (by decide) (by decide) (mnT_K s c comp 3) (fun d4 a4 => ?_)
  simp only [wp_pure']
  exact hq _ _
theorem mnN_top {comp : ClassId} {a i : Nat} {t : State} {C : Cell} {f : JFrame} : mnN comp a i (t.setTop f) C = (mnN comp a i t C).setTop f := rfl
theorem mnT_top {c comp : ClassId} {f : JFrame} : ∀ j, mnT (s.setTop f) c comp j = ((mnT s c comp j).1.setTop f, (mnT s c comp j).2)
  | 0 => rfl
  | j + 1 => by
    rw [mnT, mnT_top j]
    rfl
theorem mnT_is {c comp : ClassId} (hs : s.topJava?.isSome) : ∀ j, (mnT s c comp j).1.topJava?.isSome
  | 0 => hs
  | j + 1 => mnT_is hs j
theorem mn_sem {c comp x : ClassId} {k kc : Class} {index : Nat} {f : JFrame} {rest : List Value} {Q : Unit → Pre} (hs : s.topJava?.isSome) (hr : s.vm.classReady f.method.cls index c) (hk : s.vm.classes[c]? = some k) (hkind : k.kind = .array comp (.array .int)) (hkc : s.vm.classes[comp]? = some kc) (hkindc : kc.kind = .array x .int) (hstack : f.stack = .int 40 :: .int 4 :: rest) (hlim : ¬ 40 > e.platform.arrayLengthLimit) (hheap : ¬ 160 > e.platform.maxHeapBytes) (h1 : s.heap.size + 5 ≤ e.platform.maxCells) (h2 : s.slotsUsed + 164 ≤ e.platform.maxSlots)
    (hq : ∀ d' acts', Q () d' acts' ((mnT s c comp 4).1.setTop { f with stack := .ref s.heap.size :: rest })) : wp (multianewarray.sem index 2) Q E e d acts (s.setTop f) := by
  simp only [multianewarray.sem, wp_bind', Jvm.W.resolveClassAt_ready (State.method?_setTop f hs) hr, Jvm.popN, Jvm.W.pop, State.topJava?_setTop' _ hs, Option.some.injEq, exists_eq_left', hstack, List.cons.injEq, exists_cons_eq, State.setTop_setTop, wp_pure', List.nil_append, List.cons_append, List.mapM_cons, List.mapM_nil]
  refine mn_make2 (s := s.setTop { f with stack := rest }) hk hkind hkc hkindc hlim hheap h1 h2 (fun d' acts' => ?_)
  simp only [wp_bind', Jvm.W.mark, Jvm.W.pushRef, mnT_top, State.topJava?_setTop' _ (mnT_is hs 4), Option.some.injEq, exists_eq_left', State.setTop_setTop]
  exact hq _ _
end MN
