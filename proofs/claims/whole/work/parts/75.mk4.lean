/-! MAKING: four rows of forty ints -/
theorem mnT_old {s : State} {c comp : ClassId} : ∀ (j q : Nat), q < s.heap.size → (mnT s c comp j).1.heap[q]? = s.heap[q]?
  | 0, q, hq => State.heap_pushCell_of_lt _ _ hq
  | j + 1, q, hq => by
    have hK := mnT_K s c comp j
    show ((mnT s c comp j).1.heap.push _ |>.setIfInBounds s.heap.size _)[q]? = _
    have hs := hK.2.2.1
    rw [Array.getElem?_setIfInBounds_ne (by omega), Array.getElem?_push, if_neg (by omega)]
    exact mnT_old j q hq
theorem mnT_row {s : State} {c comp : ClassId} : ∀ (j i : Nat), i < j → (mnT s c comp j).1.heap[s.heap.size + 1 + i]? = some (mnI comp)
  | j + 1, i, hi => by
    have hK := mnT_K s c comp j
    have hs := hK.2.2.1
    show ((mnT s c comp j).1.heap.push (mnI comp) |>.setIfInBounds s.heap.size _)[s.heap.size + 1 + i]? = _
    rw [Array.getElem?_setIfInBounds_ne (by omega)]
    by_cases e : i = j
    · subst e
      rw [← hs, Array.getElem?_push_size]
    · rw [Array.getElem?_push, if_neg (by omega)]
      exact mnT_row j i (by omega)
theorem mnT_cell {s : State} {c comp : ClassId} : (mnT s c comp 4).2 = ((((mnA c).setSlot 0 (.ref (s.heap.size + 1))).setSlot 1 (.ref (s.heap.size + 2))).setSlot 2 (.ref (s.heap.size + 3))).setSlot 3 (.ref (s.heap.size + 4)) := by
  have e : ∀ j, (mnT s c comp (j + 1)).2 = (mnT s c comp j).2.setSlot j (.ref (s.heap.size + 1 + j)) := fun j => by
    show (mnT s c comp j).2.setSlot j (.ref (mnT s c comp j).1.heap.size) = _
    rw [(mnT_K s c comp j).2.2.1]
  rw [e 3, e 2, e 1, e 0]
  rfl
def mnL (a : Nat) : Nat → List Loc
  | 0 => []
  | j + 1 => mnL a j ++ [⟨a, j⟩]
theorem mnL_base {a : Nat} : ∀ (j : Nat) (x : Loc), x ∈ mnL a j → x.base = a
  | j + 1, x, h => by
    rcases List.mem_append.mp h with h | h
    · exact mnL_base j x h
    · simp at h
      rw [h]
theorem mn_cold {Q : Unit → Pre} {E : CtlPost} {e : Env} {d : Bool} {acts : List Action} {s : State} {f : JFrame} {index c dims : Nat} {vm' : Vm} (hs : s.topJava?.isSome) (hg : (Jvm.resolveClass f.method.cls index).Gives e.toSetting s.vm (.ok c) vm') (hr : vm'.classReady f.method.cls index c) (hsz : vm'.classes.size ≤ s.vm.classes.size := by no_record) : wp (multianewarray.sem index dims) Q E e d acts (s.setTop f) ↔ wp (multianewarray.sem index dims) Q E e d acts ((s.setVm vm').setTop f) := by
  simp only [multianewarray.sem, wp_bind']
  exact Jvm.W.resolveClassAt_transfer (s := s.setTop f) (State.method?_setTop f hs) hg hr
section CB
variable {p : Program} {l : Launch} {e : Env} {R : Room} {s : State} {m : MethodId} {args : Array Value} {below : List Frame} {meth : Method} {c : Code} {H : Heap} {locs : List Loc} {cells slots : Nat} {Q : State → Prop}
variable {cc : ByteArray} {pc : Nat} {ls : Array Slot} {rest : List Value} {D : va_G} {A : Nat → Prop} {own : String} {h0 : Nat} {fs : List Value} {wr ws : va_W} {cs : FieldType → ClassId} {G0 : wd_G} {N0 : Nat}
theorem mn_stand {T : State} {cA comp : ClassId} (X : Stand p l e R s m args below meth c T locs cells slots) : ∀ j, Stand p l e R s m args below meth c (mnT T cA comp j).1 (locs ++ mnL T.heap.size j) (cells + 1 + j) (slots + 4 + 40 * j)
  | 0 => by
    have h := X.pushed (mnA cA)
    have e1 : (mnA cA).slots.size = 4 := by simp [mnA]
    rw [e1] at h
    rw [mnL, List.append_nil]
    exact h
  | j + 1 => by
    have h := (mn_stand X (cA := cA) (comp := comp) j).pushed (mnI comp)
    have e1 : (mnI comp).slots.size = 40 := by simp [mnI]
    rw [e1] at h
    have h2 := h.stored (mnK_pc (mnT_K T cA comp j)) j (.ref (mnT T cA comp j).1.heap.size)
    rw [mnL, ← List.append_assoc]
    have e2 : cells + 1 + (j + 1) = cells + 1 + j + 1 := by omega
    have e3 : slots + 4 + 40 * (j + 1) = slots + 4 + 40 * j + 40 := by omega
    rw [e2, e3]
    exact h2
set_option maxHeartbeats 4000000 in
theorem W_mna {own : String} {index : Nat} (hexec : p.tables.exec = Jvm.exec) (hb : c.code = cc) (hown : s.vm.findClass own = some m.cls) (hclink : (Cond.classLink own index "[[I").before args s = true) (hover : (Cond.arrayOver (.array .int)).before args s = true) (harr : (Cond.arrayClass .int).before args s = true) (hdg : decode cc pc = .ok (.multianewarray index 2, 4)) (hcells : cells + 5 ≤ R.cells) (hslots : slots + 164 ≤ R.slots)
    (kk : ∀ (T : State) (cA comp : ClassId) (kA : Class), T.heap = H → s.vm.findClass "[[I" = some cA → s.vm.findClass "[I" = some comp → s.vm.classes[cA]? = some kA → kA.kind = .array comp (.array .int) → W p l e R s m args below meth c (mnT T cA comp 4).1.heap (locs ++ mnL H.size 4) (cells + 5) (slots + 164) Q (F0 m (pc + 4) ls (.ref H.size :: rest))) : W p l e R s m args below meth c H locs cells slots Q (F0 m pc ls (.int 40 :: .int 4 :: rest)) := by
  intro T hT X
  subst hT; subst hb
  have hpl : e.platform.magicAccessors = ({} : Platform).magicAccessors := by rw [X.admits.platform]
  obtain ⟨comp, cA, kA, hcomp, hidx, hkA, hkindA, hnameA⟩ := arrayOverA_spec hover
  obtain ⟨cC, kC, x, hnC, hkC, hkindC⟩ := Cond.arrayClass_spec harr
  have hcc : comp = cC := Option.some.inj (hcomp.symm.trans hnC)
  subst hcc
  obtain ⟨cc', hfcc, hcl⟩ := Cond.classLink_spec hown hclink e.platform hpl
  have hcA : cA = cc' := Option.some.inj (hnameA.symm.trans hfcc)
  subst hcA
  obtain ⟨hg₁, hwarm₁, hready₁⟩ := State.classEntry (e := e) X.warmed hcl
  generalize T.vm.noted m.cls index (.cls cA) = vm₁ at hg₁ hwarm₁ hready₁
  have hal : s.vm.Alike vm₁ := hwarm₁.alike
  obtain ⟨kC₁, hkC₁, heC⟩ := hal.2.2 _ _ hkC
  obtain ⟨kA₁, hkA₁, heA⟩ := hal.2.2 _ _ hkA
  have hkindA₁ : kA₁.kind = .array comp (.array .int) := by rw [heA]; exact hkindA
  have hkindC₁ : kC₁.kind = .array x .int := by rw [heC]; exact hkindC
  have hlimit : ¬ 40 > e.platform.arrayLengthLimit := by rw [Launch.admits_arrayLengthLimit X.admits]; omega
  have hheap : ¬ 160 > e.platform.maxHeapBytes := by rw [Launch.admits_maxHeapBytes X.admits]; omega
  have X₁ := X.noted hwarm₁
  obtain ⟨hr1, hr2⟩ := X.roomAbove hcells hslots
  have X₂ := mn_stand (cA := cA) (comp := comp) X₁ 4
  obtain ⟨t', a1, b1⟩ := kk (T.setVm vm₁) cA comp kA rfl hnameA hcomp hkA hkindA (mnT (T.setVm vm₁) cA comp 4).1 rfl X₂
  refine ⟨t', ?_, b1⟩
  refine Steps.instr (c := _) (by simpa using X.here) ?_
  simp [jvm, wpRun, exec, X.here.top, hexec, hdg]
  rw [mn_cold (s := T) (f := F0 m pc ls (Value.int 40 :: Value.int 4 :: rest)) X.here.top hg₁ hready₁]
  refine mn_sem (s := T.setVm vm₁) (f := F0 m pc ls (Value.int 40 :: Value.int 4 :: rest)) (c := cA) (comp := comp) (x := x) (k := kA₁) (kc := kC₁) X.here.top hready₁ hkA₁ hkindA₁ hkC₁ hkindC₁ rfl hlimit hheap hr1 hr2 (fun d' acts' => ?_)
  intro acts2
  rw [afterInstr_ok]
  exact a1
theorem mn_arrV {c : ClassId} {a : Nat} : ((((mnA c).setSlot 0 (.ref (a + 1))).setSlot 1 (.ref (a + 2))).setSlot 2 (.ref (a + 3))).setSlot 3 (.ref (a + 4)) = vp_cell c (4, .inr (.inr (.inr (.inr (fun i => some (a + 1 + i)))))) := by
  rfl
theorem mn_arrI {c : ClassId} : mnI c = vp_cell c (40, .inl (fun _ => 0)) := by
  rw [vp_cell_i, ← arrV_new]
  rfl
def wfM (cs : FieldType → ClassId) (a : Nat) : va_W := [(a, .inl (cs (.array .int), 4, .inr (.inr (.inr (.inr (fun i => some (a + 1 + i))))))), (a + 1, .inl (cs .int, 40, .inl (fun _ => 0))), (a + 2, .inl (cs .int, 40, .inl (fun _ => 0))), (a + 3, .inl (cs .int, 40, .inl (fun _ => 0))), (a + 4, .inl (cs .int, 40, .inl (fun _ => 0)))]
set_option maxHeartbeats 4000000 in
theorem cb_mna {idx q q3 : Nat} (X : cbX p s m args meth c cc own) (hK : va_K D vwCl (cbY cs) s) (hA : ∀ q, s.heap.size ≤ q → A q) (hw : cbH D A s H locs ws) (e1 : wd_at q (.classLink own idx "[[I") = true) (e2 : va_AOA s) (e3 : wd_at q3 (.arrayClass .int) = true) (hcells : cells + 5 ≤ R.cells) (hslots : slots + 164 ≤ R.slots) (hd : decode cc pc = .ok (.multianewarray idx 2, 4))
    (kk : ∀ (a : Nat) (H1 : Heap) (locs1 : List Loc), cbH D A s H1 locs1 (ws ++ wfM cs a) → W p l e R s m args below meth c H1 locs1 (cells + 5) (slots + 164) Q (F0 m (pc + 4) ls (.ref a :: rest))) : W p l e R s m args below meth c H locs cells slots Q (F0 m pc ls (.int 40 :: .int 4 :: rest)) := by
  obtain ⟨hP, hD, hS⟩ := hw
  refine W_mna X.1 X.2.1 X.2.2.2.1 (X.2.2.1 _ (wd_at_mem e1)) e2 (X.2.2.1 _ (wd_at_mem e3)) hd hcells hslots (fun T cA comp kA hT n1 n2 k1 k2 => ?_)
  subst hT
  have rI : va_RA s (cs .int) .int := (hK.2 0 (cs .int, .int) rfl).2
  have rA : va_RA s (cs (.array .int)) (.array .int) := (hK.2 4 (cs (.array .int), .array .int) rfl).2
  have c1 : comp = cs .int := Option.some.inj (n2.symm.trans rI)
  have c2 : cA = cs (.array .int) := Option.some.inj (n1.symm.trans rA)
  subst c1
  subst c2
  have hsz := (mnT_K T (cs (.array .int)) (cs .int) 4).2.2.1
  have hcell := (mnT_K T (cs (.array .int)) (cs .int) 4).2.1
  rw [mnT_cell, mn_arrV] at hcell
  have hrow : ∀ i, i < 4 → (mnT T (cs (.array .int)) (cs .int) 4).1.heap[T.heap.size + 1 + i]? = some (vp_cell (cs .int) (40, .inl (fun _ => 0))) := fun i hi => by
    rw [mnT_row 4 i hi, mn_arrI]
  have hold : ∀ q, q < T.heap.size → (mnT T (cs (.array .int)) (cs .int) 4).1.heap[q]? = T.heap[q]? := fun q hq => mnT_old 4 q hq
  generalize (mnT T (cs (.array .int)) (cs .int) 4).1.heap = H1 at hsz hcell hrow hold ⊢
  have at_ : ∀ (k : Nat) (x : Nat × va_E), (wfM cs T.heap.size)[k]? = some x → va_at D vwCl x H1 ∧ x.1 = T.heap.size + k := fun k x hx => by
    match k, hx with
    | 0, hx =>
      cases hx
      exact ⟨hcell, rfl⟩
    | 1, hx =>
      cases hx
      exact ⟨hrow 0 (by decide), rfl⟩
    | 2, hx =>
      cases hx
      exact ⟨hrow 1 (by decide), rfl⟩
    | 3, hx =>
      cases hx
      exact ⟨hrow 2 (by decide), rfl⟩
    | 4, hx =>
      cases hx
      exact ⟨hrow 3 (by decide), rfl⟩
    | k + 5, hx => simp [wfM] at hx
  refine kk T.heap.size H1 _ ⟨(hP.kept (fun k x hx => hold _ ((hP k x hx).lt))).app (fun k x hx => (at_ k x hx).1), hD.app ⟨fun i j x y hi hj he => ?_, fun k x hx => ?_⟩ (fun i j x y hi hj he => ?_), ?_, fun x h1 h2 => ?_, fun x hx => ?_⟩
  · have := (at_ i x hi).2
    have := (at_ j y hj).2
    omega
  · rw [(at_ k x hx).2]
    exact hA _ (Nat.le_trans hS.1 (Nat.le_add_right _ _))
  · have := (hP i x hi).lt
    have := (at_ j y hj).2
    omega
  · have := hS.1
    omega
  · rw [hold _ (Nat.lt_of_lt_of_le h1 hS.1)]
    exact hS.2.1 x h1 h2
  · rcases List.mem_append.mp hx with h | h
    · exact hS.2.2 x h
    · rw [mnL_base 4 x h]
      exact hA _ hS.1
end CB
