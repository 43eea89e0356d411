/-! MAKING, out of the law (as in the parts 72 and 74) -/
def cbX0 (p : Program) (s : State) (m : MethodId) (args : Array Value) (c : Code) (cc : ByteArray) (own : String) : Prop := p.tables.exec = Jvm.exec ∧ c.code = cc ∧ (∀ w ∈ wd_gw, w.before args s = true) ∧ s.vm.findClass own = some m.cls ∧ True
section CB
variable {p : Program} {l : Launch} {e : Env} {R : Room} {s : State} {m : MethodId} {args : Array Value} {below : List Frame} {meth : Method} {c : Code} {H : Heap} {locs : List Loc} {cells slots : Nat} {Q : State → Prop}
variable {cc : ByteArray} {pc : Nat} {ls : Array Slot} {rest : List Value} {D : va_G} {A : Nat → Prop} {own : String} {h0 : Nat} {fs : List Value} {wr ws : va_W} {cs : FieldType → ClassId} {G0 : wd_G} {N0 : Nat}
theorem lb_new {ci idx q q2 q3 : Nat} (X : cbX0 p s m args c cc own) (hK : va_K D vwCl (cbY cs) s) (hA : ∀ q, s.heap.size ≤ q → A q) (hw : cbH D A s H locs ws) (h6 : ci < 6) (h1 : wd_at q (.classLink own idx (wd_cl ci).1) = true) (h2 : wd_at q2 (.instantiable (wd_cl ci).1 (wd_nf ci)) = true) (h3 : wd_at q3 (.initialized (wd_cl ci).1) = true) (hcells : cells + 1 ≤ R.cells) (hslots : slots + wd_nf ci ≤ R.slots) (hd : decode cc pc = .ok (.new idx, 3))
    (kk : ∀ (a : Nat) (H1 : Heap), cbH D A s H1 locs (ws ++ [(a, .inr (ci, cbD ci))]) → W p l e R s m args below meth c H1 locs (cells + 1) (slots + wd_nf ci) Q (F0 m (pc + 3) ls (.ref a :: rest))) : W p l e R s m args below meth c H locs cells slots Q (F0 m pc ls rest) := by
  refine va_new (D := D) (cl := vwCl) (A := A) (ci := ci) (fs := cbD ci) X.1 X.2.1 X.2.2.1 (wd_in h6) _ (wd_ty_ok h6) X.2.2.2.1 (X.2.2.1 _ (wd_at_mem h1)) (X.2.2.1 _ (wd_at_mem h2)) (X.2.2.1 _ (wd_at_mem h3)) hK hw.1 hw.2.1 hw.2.2 hA (wd_cl_at h6) (fun j hj => ?_) hcells hslots hd (fun a H1 hP1 hD1 hS1 => kk a H1 ⟨hP1, hD1, hS1⟩)
  show _ = (cbD ci).getD j .null
  unfold cbD
  rw [List.getD_eq_getElem?_getD, List.getElem?_map, List.getElem?_range (show j < wd_nf ci from hj)]
  rfl
set_option maxHeartbeats 4000000 in
theorem lb_ctor {y : MethodName} {bytes : ByteArray} {maxL ci a idx : Nat} {rm : Room} {wf : (Nat → Nat) → va_W} (hM : Ctr l D cs G0 y bytes maxL rm ci wf) (X : cbX0 p s m args c cc own) (hKc : cbK D cs G0 N0 s) (hAN : ∀ q, A q → N0 ≤ q) (hA : ∀ q, s.heap.size ≤ q → A q) (hsz : N0 ≤ s.heap.size) (hw : cbH D A s H locs (ws ++ [(a, .inr (ci, cbD ci))])) (hlk : cbL own idx y s args) (hcode : Cond.code y bytes maxL none ∈ wd_gw) (hini : Cond.initialized y.cls ∈ wd_gw) (hinst : Cond.instanceMethod y ∈ wd_gw) (hy : y.name = "<init>") (hdesc : y.cls ≠ "java/lang/invoke/MethodHandle" ∧ y.cls ≠ "java/lang/invoke/VarHandle" ∧ (parseMethodDescriptor y.desc).map (fun d => d.parameters.length) = some 0) (hroom : rm.frames + 1 ≤ R.frames ∧ 8 + (maxL + 11) + rm.locals ≤ R.locals) (hml : c.maxLocals = ls.size) (hrest : (rest.map fun v => v.category).sum ≤ 8) (hc : cells + rm.cells ≤ R.cells ∧ slots + rm.slots ≤ R.slots) (hd : decode cc pc = .ok (.invokespecial idx, 3))
    (kk : ∀ (h : Nat → Nat) (H1 : Heap) (locs1 : List Loc), h 0 = a → cbH D A s H1 locs1 (ws ++ wf h) → W p l e R s m args below meth c H1 locs1 (cells + rm.cells) (slots + rm.slots) Q (F0 m (pc + 3) ls rest)) : W p l e R s m args below meth c H locs cells slots Q (F0 m pc ls (.ref a :: rest)) := by
  obtain ⟨hP, hD, hS⟩ := hw
  have hxl : (ws ++ [(a, (.inr (ci, cbD ci) : va_E))])[ws.length]? = some (a, .inr (ci, cbD ci)) := by simp
  have haN : N0 ≤ a := hAN _ (hD.2 _ _ hxl)
  have hPc : va_P D vwCl [(a, .inr (ci, cbD ci))] H := fun k q hq => by
    match k, hq with
    | 0, hq =>
      cases hq
      exact hP _ _ hxl
    | k + 1, hq => simp at hq
  have hBA : ∀ q, va_A [(a, (.inr (ci, cbD ci) : va_E))] H.size q → A q := fun q h => by
    rcases cb_A.mp h with h | h
    · rw [h]
      exact hD.2 _ _ hxl
    · exact hA _ (Nat.le_trans hS.1 h)
  have hpre : PreS s H (va_Pc [.ref a] (fun U => U.heap.size = H.size ∧ va_P D vwCl [(a, .inr (ci, cbD ci))] U.heap ∧ cbK D cs G0 N0 U)) [.ref a] :=
    ⟨fun b U g mk q => by obtain ⟨q0, q1, qP, qK⟩ := q; exact ⟨q0, q1, qP, cbK.same (s := U) (U := U.calling g mk b) rfl rfl qK⟩, fun U hU hW => ⟨rfl, by rw [hU], by rw [hU]; exact hPc, cbK.warm hW (by rw [hU]; exact hKc.2.2.1.kept (fun b h1 h2 => hS.2.1 b h1 (fun h => h2 (hAN b h)))) hKc⟩⟩
  have hmet := hM a H.size N0 haN (Nat.le_trans hsz hS.1)
  have hrun : va_Run p l e R s m args below meth c H locs cells slots rm.cells rm.slots (F0 m pc ls (.ref a :: rest)) rest (va_Qv (S := Nat → Nat) (fun h => h 0 = a) (fun h t => va_P D vwCl (wf h) t.heap ∧ va_D (va_A [(a, .inr (ci, cbD ci))] H.size) (wf h)) (va_A [(a, .inr (ci, cbD ci))] H.size) (Value.ref a :: []).toArray) (va_A [(a, .inr (ci, cbD ci))] H.size) := by
    rcases hlk with ⟨host, hlk⟩ | hlk
    · exact va_runIN (As := []) (rest := rest) (b := a) ⟨X.1, X.2.1, hml, X.2.2.2.1, X.2.2.1⟩ hmet ⟨va_cnB 0 X.2.2.1 (wd_good hcode) rfl rfl rfl (hKc.2.1 _ hlk) (X.2.2.1 _ hini) hdesc hroom, hy, X.2.2.1 _ hinst⟩ hpre rfl rfl rfl rfl (lv_room hrest) hd hc
    · exact va_runI (As := []) (rest := rest) (b := a) ⟨X.1, X.2.1, hml, X.2.2.2.1, X.2.2.1⟩ hmet ⟨callB_of 0 X.2.2.1 (wd_good hcode) rfl rfl rfl (X.2.2.1 _ hini) hlk hdesc hroom, hy, X.2.2.1 _ hinst⟩ hpre rfl rfl rfl rfl (lv_room hrest) hd hc
  refine va_callv hrun hS (fun q _ h => hBA q h) hBA (fun h t H1 locs1 ht hal h0 hB hz hk hS1 => ?_)
  obtain ⟨b1, b2⟩ := hB
  rw [ht] at b1
  obtain ⟨j1, j2⟩ := cb_join hP hD (fun q => cb_A) hBA hk b1 b2
  exact kk h H1 locs1 h0 ⟨j1, j2, hS1⟩
set_option maxHeartbeats 4000000 in
theorem lb_mk {y : MethodName} {bytes : ByteArray} {maxL c2 i1 i2 q1 q2 q3 qc qi : Nat} {rm : Room} {wf : (Nat → Nat) → va_W} (hM : Ctr l D cs G0 y bytes maxL rm c2 wf) (X : cbX0 p s m args c cc own) (hKc : cbK D cs G0 N0 s) (hAN : ∀ q, A q → N0 ≤ q) (hA : ∀ q, s.heap.size ≤ q → A q) (hsz : N0 ≤ s.heap.size) (hml : c.maxLocals = ls.size) (hw : cbH D A s H locs ws) (h6 : c2 < 6) (e1 : wd_at q1 (.classLink own i1 (wd_cl c2).1) = true) (e2 : wd_at q2 (.instantiable (wd_cl c2).1 (wd_nf c2)) = true) (e3 : wd_at q3 (.initialized (wd_cl c2).1) = true) (hlk : cbL own i2 y s args) (hcode : wd_at qc (.code y bytes maxL none) = true) (hycls : y.cls = (wd_cl c2).1) (hinst : wd_at qi (.instanceMethod y) = true) (hy : y.name = "<init>") (hdesc : y.cls ≠ "java/lang/invoke/MethodHandle" ∧ y.cls ≠ "java/lang/invoke/VarHandle" ∧ (parseMethodDescriptor y.desc).map (fun d => d.parameters.length) = some 0) (hroom : rm.frames + 1 ≤ R.frames ∧ 8 + (maxL + 11) + rm.locals ≤ R.locals) (hrest : (rest.map fun v => v.category).sum ≤ 7) (hc1 : cells + 1 + rm.cells ≤ R.cells) (hc2 : slots + wd_nf c2 + rm.slots ≤ R.slots) (d0 : decode cc pc = .ok (.new i1, 3)) (d1 : decode cc (pc + 3) = .ok (.dup, 1)) (d2 : decode cc (pc + 4) = .ok (.invokespecial i2, 3))
    (kk : ∀ (h : Nat → Nat) (H1 : Heap) (locs1 : List Loc), cbH D A s H1 locs1 (ws ++ wf h) → W p l e R s m args below meth c H1 locs1 (cells + 1 + rm.cells) (slots + wd_nf c2 + rm.slots) Q (F0 m (pc + 7) ls (.ref (h 0) :: rest))) : W p l e R s m args below meth c H locs cells slots Q (F0 m pc ls rest) := by
  refine lb_new X hKc.1 hA hw h6 e1 e2 e3 (by omega) (by omega) d0 (fun a H1 hw1 => ?_)
  refine lv_dup X.1 X.2.1 d1 rfl ?_
  refine lb_ctor (rest := .ref a :: rest) hM X hKc hAN hA hsz hw1 hlk (wd_at_mem hcode) (by rw [hycls]; exact wd_at_mem e3) (wd_at_mem hinst) hy hdesc hroom hml (by rw [List.map_cons, List.sum_cons]; show 1 + _ ≤ 8; omega) ⟨hc1, hc2⟩ d2 (fun h H2 locs2 hh hw2 => ?_)
  subst hh
  exact kk h H2 locs2 hw2
end CB
