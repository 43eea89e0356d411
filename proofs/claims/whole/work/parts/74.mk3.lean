/-! MAKING: Trial, Tape -/
section CB
variable {p : Program} {l : Launch} {e : Env} {R : Room} {s : State} {m : MethodId} {args : Array Value} {below : List Frame} {meth : Method} {c : Code} {H : Heap} {locs : List Loc} {cells slots : Nat} {Q : State → Prop}
variable {cc : ByteArray} {pc : Nat} {ls : Array Slot} {D : va_G} {A : Nat → Prop} {own : String} {h0 : Nat} {fs : List Value} {wr ws : va_W} {cs : FieldType → ClassId} {G0 : wd_G} {N0 : Nat}
theorem cb_link {own : String} {idx q : Nat} {y : MethodName} {host : String} {s : State} {args : Array Value} (h : decide (lw_tbl[q]? = some (.methodLinkNest own idx y host)) = true) : cbL own idx y s args := Or.inl ⟨host, List.mem_filter.mpr ⟨List.mem_of_getElem? (of_decide_eq_true h), rfl⟩⟩
set_option maxHeartbeats 4000000 in
/-- an object is made by its constructor -/
theorem cb_mk {y : MethodName} {bytes : ByteArray} {maxL c2 i1 i2 q1 q2 q3 qc qi : Nat} {rm : Room} {wf : (Nat → Nat) → va_W} {rest : List Value} (hM : Ctr l D cs G0 y bytes maxL rm c2 wf) (X : cbX p s m args meth c cc own) (hKc : cbK D cs G0 N0 s) (hAN : ∀ q, A q → N0 ≤ q) (hA : ∀ q, s.heap.size ≤ q → A q) (hsz : N0 ≤ s.heap.size) (hml : c.maxLocals = ls.size) (hw : cbH D A s H locs ws) (h6 : c2 < 6) (e1 : wd_at q1 (.classLink own i1 (wd_cl c2).1) = true) (e2 : wd_at q2 (.instantiable (wd_cl c2).1 (wd_nf c2)) = true) (e3 : wd_at q3 (.initialized (wd_cl c2).1) = true) (hlk : cbL own i2 y s args) (hcode : wd_at qc (.code y bytes maxL none) = true) (hycls : y.cls = (wd_cl c2).1) (hinst : wd_at qi (.instanceMethod y) = true) (hy : y.name = "<init>") (hdesc : y.cls ≠ "java/lang/invoke/MethodHandle" ∧ y.cls ≠ "java/lang/invoke/VarHandle" ∧ (parseMethodDescriptor y.desc).map (fun d => d.parameters.length) = some 0) (hroom : rm.frames + 1 ≤ R.frames ∧ 8 + (maxL + 11) + rm.locals ≤ R.locals) (hrest : (rest.map fun v => v.category).sum ≤ 7) (hc1 : cells + 1 + rm.cells ≤ R.cells) (hc2 : slots + wd_nf c2 + rm.slots ≤ R.slots) (d0 : decode cc pc = .ok (.new i1, 3)) (d1 : decode cc (pc + 3) = .ok (.dup, 1)) (d2 : decode cc (pc + 4) = .ok (.invokespecial i2, 3))
    (kk : ∀ (h : Nat → Nat) (H1 : Heap) (locs1 : List Loc), cbH D A s H1 locs1 (ws ++ wf h) → W p l e R s m args below meth c H1 locs1 (cells + 1 + rm.cells) (slots + wd_nf c2 + rm.slots) Q (F0 m (pc + 7) ls (.ref (h 0) :: rest))) : W p l e R s m args below meth c H locs cells slots Q (F0 m pc ls rest) := by
  refine cb_new X hKc.1 hA hw h6 e1 e2 e3 (by omega) (by omega) d0 (fun a H1 hw1 => ?_)
  refine lv_dup X.1 X.2.1 d1 rfl ?_
  refine cb_ctor (rest := .ref a :: rest) hM X hKc hAN hA hsz hw1 hlk (wd_at_mem hcode) (by rw [hycls]; exact wd_at_mem e3) (wd_at_mem hinst) hy hdesc hroom hml (by rw [List.map_cons, List.sum_cons]; show 1 + _ ≤ 8; omega) ⟨hc1, hc2⟩ d2 (fun h H2 locs2 hh hw2 => ?_)
  subst hh
  exact kk h H2 locs2 hw2
set_option maxHeartbeats 4000000 in
/-- an object is made by its constructor, and kept in a final field -/
theorem cb_mkF {y : MethodName} {bytes : ByteArray} {maxL c2 i1 i2 q1 q2 q3 qc qi ci k idx q : Nat} {rm : Room} {wf : (Nat → Nat) → va_W} {nm : String} (hM : Ctr l D cs G0 y bytes maxL rm c2 wf) (X : cbX p s m args meth c cc own) (hKc : cbK D cs G0 N0 s) (hAN : ∀ q, A q → N0 ≤ q) (hA : ∀ q, s.heap.size ≤ q → A q) (hsz : N0 ≤ s.heap.size) (hml : c.maxLocals = ls.size) (hl0 : ls[0]? = some (.val (.ref h0))) (hw : cbH D A s H locs ((h0, .inr (ci, fs)) :: wr)) (h6 : c2 < 6) (e1 : wd_at q1 (.classLink own i1 (wd_cl c2).1) = true) (e2 : wd_at q2 (.instantiable (wd_cl c2).1 (wd_nf c2)) = true) (e3 : wd_at q3 (.initialized (wd_cl c2).1) = true) (hlk : cbL own i2 y s args) (hcode : wd_at qc (.code y bytes maxL none) = true) (hycls : y.cls = (wd_cl c2).1) (hinst : wd_at qi (.instanceMethod y) = true) (hy : y.name = "<init>") (hdesc : y.cls ≠ "java/lang/invoke/MethodHandle" ∧ y.cls ≠ "java/lang/invoke/VarHandle" ∧ (parseMethodDescriptor y.desc).map (fun d => d.parameters.length) = some 0) (hroom : rm.frames + 1 ≤ R.frames ∧ 8 + (maxL + 11) + rm.locals ≤ R.locals) (hc1 : cells + 1 + rm.cells ≤ R.cells) (hc2 : slots + wd_nf c2 + rm.slots ≤ R.slots) (da : decode cc pc = .ok (.aload_n 0, 1)) (d0 : decode cc (pc + 1) = .ok (.new i1, 3)) (d1 : decode cc (pc + 4) = .ok (.dup, 1)) (d2 : decode cc (pc + 5) = .ok (.invokespecial i2, 3)) (d3 : decode cc (pc + 8) = .ok (.putfield idx, 3)) (hf : cbF own ci k idx q true = true) (ht : wd_ty ci k = .object nm) (hl : k < fs.length)
    (kk : ∀ (h : Nat → Nat) (H1 : Heap) (locs1 : List Loc), cbH D A s H1 locs1 ((h0, .inr (ci, fs.set k (.ref (h 0)))) :: (wr ++ wf h)) → W p l e R s m args below meth c H1 locs1 (cells + 1 + rm.cells) (slots + wd_nf c2 + rm.slots) Q (F0 m (pc + 11) ls [])) : W p l e R s m args below meth c H locs cells slots Q (F0 m pc ls []) := by
  refine lv_aload_n X.1 X.2.1 da rfl hl0 ?_
  refine cb_mk hM X hKc hAN hA hsz hml hw h6 e1 e2 e3 hlk hcode hycls hinst hy hdesc hroom (Nat.le_of_ble_eq_true rfl) hc1 hc2 d0 d1 d2 (fun h H1 locs1 hw1 => ?_)
  exact cb_putF X hKc.1 hw1 hf (by rw [ht]; rfl) (by rw [ht]; rfl) hl d3 (fun H2 locs2 hw2 => kk h H2 locs2 hw2)
end CB
def wfT (cs : FieldType → ClassId) (h : Nat → Nat) : va_W := (h 0, .inr (3, [.ref (h 1), .ref (h 11), .ref (h 12), .int 0, .int 0, .int 0, .int 0, .int 0])) :: (wfP cs (fun k => h (k + 1)) ++ [(h 11, .inl (cs .int, 4, .inl (fun _ => 0))), (h 12, .inl (cs .int, 41, .inl (fun _ => 0)))])
def rmT : Room := { frames := 2, cells := 12, slots := 115, locals := 32 }
def fnT (a0 : Nat) (h : Nat → Nat) (a11 a12 : Nat) : Nat → Nat := fun k => match k with
  | 0 => a0
  | 11 => a11
  | 12 => a12
  | k + 1 => h k
set_option maxHeartbeats 4000000 in
theorem c_Trial (l : Launch) (D : va_G) (cs : FieldType → ClassId) (G0 : wd_G) : Ctr l D cs G0 yX3_init cX3_init 1 rmT 3 (wfT cs) := by
  refine Ctr.of (idx := 3) (q := 169) (by decide) rfl (by decide) (by decide +kernel) (by decide +kernel) (by decide +kernel) (by decide) (by decide) ?_
  intro p e s m below meth c ls h0 N0 X hKc hN1 hN2 hml hr hlk hls hA hAN hw
  have hl0 : ls[0]? = some (.val (.ref h0)) := lv_at hls 0 rfl
  refine cb_mkF (ci := 3) (k := 0) (idx := 12) (q := 172) (c2 := 0) (i1 := 9) (i2 := 11) (q1 := 170) (q2 := 80) (q3 := 58) (qc := 83) (qi := 82) (nm := "WatchDogs$Pack") (c_Pack l D cs G0) X hKc hAN hA hN2 hml hl0 hw (by decide) (by decide +kernel) (by decide +kernel) (by decide +kernel) (cb_link (q := 171) (host := "WatchDogs") (by decide +kernel)) (by decide +kernel) rfl (by decide +kernel) rfl (by decide +kernel) ⟨by decide, by decide⟩ (by decide) (by decide) (by decide +kernel) (by decide +kernel) (by decide +kernel) (by decide +kernel) (by decide +kernel) (by decide +kernel) rfl (by decide) (fun h H1 locs1 hw => ?_)
  refine cb_arrF (ci := 3) (k := 1) (idx := 18) (q := 174) (n := 4) (t0 := 0) (qa := 163) (pcA := 17) (atype := .int) (ty := .int) X hKc.1 hA hl0 hw (by decide +kernel) (by decide +kernel) (by decide +kernel) (by decide +kernel) (by decide +kernel) rfl rfl rfl ra_int (by decide +kernel) rfl (by decide) (by decide) (Nat.le_of_ble_eq_true rfl) (Nat.le_of_ble_eq_true rfl) (Nat.le_of_ble_eq_true rfl) (fun a11 H2 locs2 hw => ?_)
  refine cb_arrF (ci := 3) (k := 2) (idx := 22) (q := 176) (n := 41) (t0 := 0) (qa := 163) (pcA := 25) (atype := .int) (ty := .int) X hKc.1 hA hl0 hw (by decide +kernel) (by decide +kernel) (by decide +kernel) (by decide +kernel) (by decide +kernel) rfl rfl rfl ra_int (by decide +kernel) rfl (by decide) (by decide) (Nat.le_of_ble_eq_true rfl) (Nat.le_of_ble_eq_true rfl) (Nat.le_of_ble_eq_true rfl) (fun a12 H3 locs3 hw => ?_)
  refine W.widen (k := 12) (n := 115) (Nat.le_of_ble_eq_true rfl) (Nat.le_of_ble_eq_true rfl) ?_
  exact cb_ret (wf := wfT cs) (h := fnT h0 h a11 a12) X hr hlk rfl hw (by decide +kernel)
def wfA (cs : FieldType → ClassId) (h : Nat → Nat) : va_W := (h 0, .inr (2, [.ref (h 1), .ref (h 2), .int 0, .int 0, .int 0, .int 0, .int 0, .int 0, .int 0, .int 0])) :: ((h 1, .inl (cs .byte, 160, .inl (fun _ => 0))) :: wfP cs (fun k => h (k + 2)))
def rmA : Room := { frames := 2, cells := 11, slots := 230, locals := 32 }
def fnA (a0 a1 : Nat) (h : Nat → Nat) : Nat → Nat := fun k => match k with
  | 0 => a0
  | 1 => a1
  | k + 2 => h k
set_option maxHeartbeats 4000000 in
theorem c_Tape (l : Launch) (D : va_G) (cs : FieldType → ClassId) (G0 : wd_G) : Ctr l D cs G0 yX2_init cX2_init 1 rmA 2 (wfA cs) := by
  refine Ctr.of (idx := 3) (q := 210) (by decide) rfl (by decide) (by decide +kernel) (by decide +kernel) (by decide +kernel) (by decide) (by decide) ?_
  intro p e s m below meth c ls h0 N0 X hKc hN1 hN2 hml hr hlk hls hA hAN hw
  have hl0 : ls[0]? = some (.val (.ref h0)) := lv_at hls 0 rfl
  refine cb_arrF (ci := 2) (k := 0) (idx := 9) (q := 213) (n := 160) (t0 := 1) (qa := 250) (pcA := 8) (atype := .byte) (ty := .byte) X hKc.1 hA hl0 hw (by decide +kernel) (by decide +kernel) (by decide +kernel) (by decide +kernel) (by decide +kernel) rfl rfl rfl ra_byte (by decide +kernel) rfl (by decide) (by decide) (Nat.le_of_ble_eq_true rfl) (Nat.le_of_ble_eq_true rfl) (Nat.le_of_ble_eq_true rfl) (fun a1 H1 locs1 hw => ?_)
  refine cb_mkF (ci := 2) (k := 1) (idx := 18) (q := 215) (c2 := 0) (i1 := 15) (i2 := 17) (q1 := 211) (q2 := 80) (q3 := 58) (qc := 83) (qi := 82) (nm := "WatchDogs$Pack") (c_Pack l D cs G0) X hKc hAN hA hN2 hml hl0 hw (by decide) (by decide +kernel) (by decide +kernel) (by decide +kernel) (cb_link (q := 212) (host := "WatchDogs") (by decide +kernel)) (by decide +kernel) rfl (by decide +kernel) rfl (by decide +kernel) ⟨by decide, by decide⟩ (by decide) (by decide) (by decide +kernel) (by decide +kernel) (by decide +kernel) (by decide +kernel) (by decide +kernel) (by decide +kernel) rfl (Nat.le_of_ble_eq_true rfl) (fun h H2 locs2 hw => ?_)
  refine W.widen (k := 11) (n := 230) (Nat.le_of_ble_eq_true rfl) (Nat.le_of_ble_eq_true rfl) ?_
  exact cb_ret (wf := wfA cs) (h := fnA h0 a1 h) X hr hlk rfl hw (by decide +kernel)
