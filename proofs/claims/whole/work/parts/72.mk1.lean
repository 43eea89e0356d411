/-! MAKING: the rows of a constructor -/
def cbT : List FieldType := [.int, .byte, .boolean, .object "WatchDogs$Pack", .array .int]
def cbY (cs : FieldType → ClassId) : List (ClassId × FieldType) := cbT.map (fun t => (cs t, t))
def va_AOA (U : State) : Prop := (Cond.arrayOver (.array .int)).before #[] U = true
theorem va_AOA.moved {u U : State} (hvm : u.vm.Alike U.vm) (h : va_AOA u) : va_AOA U := by
  obtain ⟨comp, c, k, h1, h2, h3, h4, h5⟩ := arrayOverA_spec h
  obtain ⟨k', hk', he⟩ := hvm.2.2 _ _ h3
  have hi : (U.vm.classes.findIdx? fun (x : Class) => match x.kind with | .array component _ => component == comp | _ => false) = some c := by
    rw [hvm.findIdx?_eq _ (fun _ => rfl)]
    exact h2
  have hkind : k'.kind = .array comp (.array .int) := by rw [he]; exact h4
  have f1 : U.vm.findClass (FieldType.array .int).toString = some comp := by rw [hvm.findClass]; exact h1
  have f2 : U.vm.findClass ("[" ++ (FieldType.array .int).toString) = some c := by rw [hvm.findClass]; exact h5
  unfold va_AOA Cond.before Cond.holds
  simp only [Cond.value]
  rw [f1, Option.bind_some]
  refine (congrArg (fun o : Option Nat => (o.bind (fun c => (U.vm.classes[c]?).map fun (k : Class) => match k.kind with | .array _ ty => decide (ty = FieldType.array .int) && decide (U.vm.findClass ("[" ++ (FieldType.array .int).toString) = some c) | _ => false) == some true)) hi).trans ?_
  simp [hk', hkind, f2]
/-- what is known of the tables, of the strings -/
def cbK (D : va_G) (cs : FieldType → ClassId) (G0 : wd_G) (N0 : Nat) (U : State) : Prop := va_K D vwCl (cbY cs) U ∧ (∀ n ∈ wd_nest, va_Nw n U) ∧ wd_X G0 (fun q => N0 ≤ q) U U.heap ∧ va_AO "WatchDogs$Pack" U ∧ va_AOA U
theorem cbK.same {D : va_G} {cs : FieldType → ClassId} {G0 : wd_G} {N0 : Nat} {s U : State} (hv : U.vm = s.vm) (hh : U.heap = s.heap) (h : cbK D cs G0 N0 s) : cbK D cs G0 N0 U := by
  have ha : s.vm.Alike U.vm := by rw [hv]; exact Vm.Alike.refl s.vm
  refine ⟨h.1.moved ha, fun n hn => ?_, by rw [hh]; exact h.2.2.1.same hv, h.2.2.2.1.moved ha, h.2.2.2.2.moved ha⟩
  have h1 := h.2.1 n hn
  obtain ⟨a, i, x, b, rfl⟩ := wd_nest_is hn
  exact va_Nw.same rfl hv.symm h1
theorem cbK.warm {D : va_G} {cs : FieldType → ClassId} {G0 : wd_G} {N0 : Nat} {s U : State} (hW : s.WarmedH U.vm) (hX : wd_X G0 (fun q => N0 ≤ q) s U.heap) (h : cbK D cs G0 N0 s) : cbK D cs G0 N0 U := by
  refine ⟨h.1.moved hW.alike, fun n hn => ?_, hX.warm hW, h.2.2.2.1.moved hW.alike, h.2.2.2.2.moved hW.alike⟩
  have h1 := h.2.1 n hn
  obtain ⟨a, i, x, b, rfl⟩ := wd_nest_is hn
  exact va_Nw.warmM hW h1
def cbD (ci : Nat) : List Value := (List.range (wd_nf ci)).map (fun k => defaultValue (wd_ty ci k))
def cbX (p : Program) (s : State) (m : MethodId) (args : Array Value) (meth : Method) (c : Code) (cc : ByteArray) (own : String) : Prop := p.tables.exec = Jvm.exec ∧ c.code = cc ∧ (∀ w ∈ wd_gw, w.before args s = true) ∧ s.vm.findClass own = some m.cls ∧ meth.name = "<init>"
def cbH (D : va_G) (A : Nat → Prop) (s : State) (H : Heap) (locs : List Loc) (ws : va_W) : Prop := va_P D vwCl ws H ∧ va_D A ws ∧ va_S A s.heap H locs
/-- a field of the class ci, at place k of its table, by the link idx: a word of the tables at the place q -/
def cbF (own : String) (ci k idx q : Nat) (fin : Bool) : Bool := Nat.blt ci 6 && (Nat.blt k (wd_nf ci) && (decide (((wd_cl ci).2.1 k).2.2.2 = fin) && (decide (((wd_cl ci).2.1 k).1 = own) && (decide ((wd_cl ci).1 = own) && wd_at q (.fieldLink own idx own ((wd_cl ci).2.1 k).2.1 ((wd_cl ci).2.1 k).2.2.1)))))
theorem cbF_of {own : String} {ci k idx q : Nat} {fin : Bool} (h : cbF own ci k idx q fin = true) : ci < 6 ∧ k < wd_nf ci ∧ ((wd_cl ci).2.1 k).2.2.2 = fin ∧ ((wd_cl ci).2.1 k).1 = own ∧ (wd_cl ci).1 = own ∧ Cond.fieldLink own idx own ((wd_cl ci).2.1 k).2.1 ((wd_cl ci).2.1 k).2.2.1 ∈ wd_gw := by
  unfold cbF at h
  simp only [Bool.and_eq_true, decide_eq_true_eq] at h
  obtain ⟨h1, h2, h3, h4, h5, h6⟩ := h
  exact ⟨wd_blt h1, wd_blt h2, h3, h4, h5, wd_at_mem h6⟩
section CB
variable {p : Program} {l : Launch} {e : Env} {R : Room} {s : State} {m : MethodId} {args : Array Value} {below : List Frame} {meth : Method} {c : Code} {H : Heap} {locs : List Loc} {cells slots : Nat} {Q : State → Prop}
variable {cc : ByteArray} {pc : Nat} {ls : Array Slot} {rest : List Value} {D : va_G} {A : Nat → Prop} {own : String} {h0 : Nat} {fs : List Value} {wr ws : va_W} {cs : FieldType → ClassId}
theorem cb_putF {ci k idx q : Nat} {v : Value} (X : cbX p s m args meth c cc own) (hK : va_K D vwCl (cbY cs) s) (hw : cbH D A s H locs ((h0, .inr (ci, fs)) :: wr)) (hf : cbF own ci k idx q true = true) (hn : narrow (wd_ty ci k) v = v) (hfit : fits (wd_ty ci k) v = true) (hl : k < fs.length) (hd : decode cc pc = .ok (.putfield idx, 3))
    (kk : ∀ (H1 : Heap) (locs1 : List Loc), cbH D A s H1 locs1 ((h0, .inr (ci, fs.set k v)) :: wr) → W p l e R s m args below meth c H1 locs1 cells slots Q (F0 m (pc + 3) ls rest)) : W p l e R s m args below meth c H locs cells slots Q (F0 m pc ls (v :: .ref h0 :: rest)) := by
  obtain ⟨h6, hk, hfin, hdecl, hown, hlink⟩ := cbF_of hf
  exact va_putF (D := D) (cl := vwCl) (A := A) (ci := ci) (q0 := 0) X.1 X.2.1 X.2.2.1 (wd_in h6) _ (wd_ty_ok h6) (wd_nm_ok h6) X.2.2.2.1 hK hw.1 hw.2.1 hw.2.2 rfl (wd_cl_at h6) k hk (X.2.2.1 _ hlink) (fun _ z => by rw [hdecl] at z; exact z) hfin X.2.2.2.2 hdecl (wd_ty_ok h6 k hk) hn hfit hl hd (fun H1 locs1 a b d => kk H1 locs1 ⟨a, b, d⟩)
theorem cb_put {ci k idx q : Nat} {v : Value} (X : cbX p s m args meth c cc own) (hK : va_K D vwCl (cbY cs) s) (hw : cbH D A s H locs ((h0, .inr (ci, fs)) :: wr)) (hf : cbF own ci k idx q false = true) (hn : narrow (wd_ty ci k) v = v) (hfit : fits (wd_ty ci k) v = true) (hl : k < fs.length) (hd : decode cc pc = .ok (.putfield idx, 3))
    (kk : ∀ (H1 : Heap) (locs1 : List Loc), cbH D A s H1 locs1 ((h0, .inr (ci, fs.set k v)) :: wr) → W p l e R s m args below meth c H1 locs1 cells slots Q (F0 m (pc + 3) ls rest)) : W p l e R s m args below meth c H locs cells slots Q (F0 m pc ls (v :: .ref h0 :: rest)) := by
  obtain ⟨h6, hk, hfin, hdecl, hown, hlink⟩ := cbF_of hf
  exact va_put (D := D) (cl := vwCl) (A := A) (ci := ci) (q0 := 0) X.1 X.2.1 X.2.2.1 (wd_in h6) _ (wd_ty_ok h6) (wd_nm_ok h6) X.2.2.2.1 hK hw.1 hw.2.1 hw.2.2 rfl (wd_cl_at h6) k hk (X.2.2.1 _ hlink) (fun _ z => by rw [hdecl] at z; exact z) hfin (wd_ty_ok h6 k hk) hn hfit hl hd (fun H1 locs1 a b d => kk H1 locs1 ⟨a, b, d⟩)
/-- a new array of ints, bytes or booleans -/
theorem cb_newa {atype : ArrayType} {ty : FieldType} {q n t0 : Nat} (X : cbX p s m args meth c cc own) (hK : va_K D vwCl (cbY cs) s) (hA : ∀ q, s.heap.size ≤ q → A q) (hw : cbH D A s H locs ws) (hty : newarray.typeOf atype = ty) (ht0 : cbT[t0]? = some ty) (hprim : ∀ x y, va_RA s x ty → va_RA s y ty → x = y) (harr : wd_at q (.arrayClass ty) = true) (hdef : defaultValue ty = .int 0) (hn : n < 1000) (hby : componentBytes ty ≤ 8) (hcells : cells + 1 ≤ R.cells) (hslots : slots + n ≤ R.slots) (hd : decode cc pc = .ok (.newarray atype, 2))
    (kk : ∀ (a : Nat) (H1 : Heap), cbH D A s H1 locs (ws ++ [(a, .inl (cs ty, n, .inl (fun _ => 0)))]) → W p l e R s m args below meth c H1 locs (cells + 1) (slots + n) Q (F0 m (pc + 2) ls (.ref a :: rest))) : W p l e R s m args below meth c H locs cells slots Q (F0 m pc ls (.int (nI n) :: rest)) := by
  refine va_newa (D := D) (cl := vwCl) (A := A) (atype := atype) (a0 := (n, .inl (fun _ => 0))) X.1 X.2.1 (by rw [hty]; exact X.2.2.1 _ (wd_at_mem harr)) hty hK hw.1 hw.2.1 hw.2.2 hA (fun cA => by rw [vp_cell_i, hdef]) (nI_nlt (b := 0) (Nat.zero_le n) (by omega)) (nI_clamp (by omega)) (by have : n * componentBytes ty ≤ 1000 * 8 := Nat.mul_le_mul (by omega) hby; omega) hcells hslots hd (fun a cA H1 hK1 hP1 hD1 hS1 => ?_)
  have e1 : va_RA s cA ty := (hK1.2 (cbY cs).length (cA, ty) (by simp)).2
  have e2 : va_RA s (cs ty) ty := (hK.2 t0 (cs ty, ty) (by rw [cbY, List.getElem?_map, ht0]; rfl)).2
  rw [hprim _ _ e1 e2] at hP1 hD1
  exact kk a H1 ⟨hP1, hD1, hS1⟩
/-- an object is new, its constructor still to come -/
theorem cb_new {ci idx q q2 q3 : Nat} (X : cbX p s m args meth c cc own) (hK : va_K D vwCl (cbY cs) s) (hA : ∀ q, s.heap.size ≤ q → A q) (hw : cbH D A s H locs ws) (h6 : ci < 6) (h1 : wd_at q (.classLink own idx (wd_cl ci).1) = true) (h2 : wd_at q2 (.instantiable (wd_cl ci).1 (wd_nf ci)) = true) (h3 : wd_at q3 (.initialized (wd_cl ci).1) = true) (hcells : cells + 1 ≤ R.cells) (hslots : slots + wd_nf ci ≤ R.slots) (hd : decode cc pc = .ok (.new idx, 3))
    (kk : ∀ (a : Nat) (H1 : Heap), cbH D A s H1 locs (ws ++ [(a, .inr (ci, cbD ci))]) → W p l e R s m args below meth c H1 locs (cells + 1) (slots + wd_nf ci) Q (F0 m (pc + 3) ls (.ref a :: rest))) : W p l e R s m args below meth c H locs cells slots Q (F0 m pc ls rest) := by
  refine va_new (D := D) (cl := vwCl) (A := A) (ci := ci) (fs := cbD ci) X.1 X.2.1 X.2.2.1 (wd_in h6) _ (wd_ty_ok h6) X.2.2.2.1 (X.2.2.1 _ (wd_at_mem h1)) (X.2.2.1 _ (wd_at_mem h2)) (X.2.2.1 _ (wd_at_mem h3)) hK hw.1 hw.2.1 hw.2.2 hA (wd_cl_at h6) (fun j hj => ?_) hcells hslots hd (fun a H1 hP1 hD1 hS1 => kk a H1 ⟨hP1, hD1, hS1⟩)
  show _ = (cbD ci).getD j .null
  unfold cbD
  rw [List.getD_eq_getElem?_getD, List.getElem?_map, List.getElem?_range (show j < wd_nf ci from hj)]
  rfl
end CB
/-- a constructor: from the new object to the worlds wf h, h 0 the object -/
def Ctr (l : Launch) (D : va_G) (cs : FieldType → ClassId) (G0 : wd_G) (y : MethodName) (bytes : ByteArray) (maxL : Nat) (rm : Room) (ci : Nat) (wf : (Nat → Nat) → va_W) : Prop :=
  ∀ (h0 sz N0 : Nat), N0 ≤ h0 → N0 ≤ sz → Met l y (.code y bytes maxL none :: wd_gw) rm (va_Pc [.ref h0] (fun U => U.heap.size = sz ∧ va_P D vwCl [(h0, .inr (ci, cbD ci))] U.heap ∧ cbK D cs G0 N0 U)) (va_Qv (S := Nat → Nat) (fun h => h 0 = h0) (fun h t => va_P D vwCl (wf h) t.heap ∧ va_D (va_A [(h0, .inr (ci, cbD ci))] sz) (wf h)) (va_A [(h0, .inr (ci, cbD ci))] sz)) rm.cells rm.slots (va_A [(h0, .inr (ci, cbD ci))] sz)
theorem cb_join {D : va_G} {A B : Nat → Prop} {ws w1 : va_W} {x : Nat × va_E} {H H1 : Heap} (hP : va_P D vwCl (ws ++ [x]) H) (hD : va_D A (ws ++ [x])) (hB : ∀ q, B q ↔ q = x.1 ∨ H.size ≤ q) (hBA : ∀ q, B q → A q) (hk : ∀ q : Nat, q < H.size → ¬ B q → H1[q]? = H[q]?) (hP1 : va_P D vwCl w1 H1) (hD1 : va_D B w1) : va_P D vwCl (ws ++ w1) H1 ∧ va_D A (ws ++ w1) := by
  have hxl : (ws ++ [x])[ws.length]? = some x := by simp
  have hin : ∀ (k : Nat) (q : Nat × va_E), ws[k]? = some q → (ws ++ [x])[k]? = some q ∧ k < ws.length := fun k q hq => by
    have hk : k < ws.length := (List.getElem?_eq_some_iff.mp hq).1
    exact ⟨by rw [List.getElem?_append_left hk]; exact hq, hk⟩
  have hnB : ∀ (k : Nat) (q : Nat × va_E), ws[k]? = some q → q.1 < H.size ∧ ¬ B q.1 := fun k q hq => by
    obtain ⟨h1, h2⟩ := hin k q hq
    have hlt := (hP k q h1).lt
    refine ⟨hlt, fun hb => ?_⟩
    rcases (hB _).mp hb with h | h
    · have := hD.1 k ws.length q x h1 hxl h
      omega
    · omega
  have hPw : va_P D vwCl ws H1 := fun k q hq => by
    obtain ⟨h1, h2⟩ := hnB k q hq
    exact (hP k q (hin k q hq).1).kept (hk _ h1 h2)
  refine ⟨hPw.app hP1, va_D.app ⟨fun i j p q hi hj e => hD.1 i j p q (hin i p hi).1 (hin j q hj).1 e, fun k q hq => hD.2 k q (hin k q hq).1⟩ (hD1.weaken (fun k q _ h => hBA _ h)) (fun i j p q hi hj e => ?_)⟩
  exact (hnB i p hi).2 (by rw [e]; exact hD1.2 j q hj)
theorem cb_A {a sz q : Nat} {x : va_E} : va_A [(a, x)] sz q ↔ q = a ∨ sz ≤ q := by
  constructor
  · intro h
    rcases h with ⟨k, e, h⟩ | h
    · match k, h with
      | 0, h =>
        cases h
        exact Or.inl rfl
      | k + 1, h => simp at h
    · exact Or.inr h
  · intro h
    rcases h with h | h
    · exact Or.inl ⟨0, x, by rw [h]; rfl⟩
    · exact Or.inr h
/-- the link of a constructor: among nest mates, or not -/
def cbL (own : String) (idx : Nat) (y : MethodName) (s : State) (args : Array Value) : Prop := (∃ host, Cond.methodLinkNest own idx y host ∈ wd_nest) ∨ (Cond.methodLink own idx y).before args s = true
section CB
variable {p : Program} {l : Launch} {e : Env} {R : Room} {s : State} {m : MethodId} {args : Array Value} {below : List Frame} {meth : Method} {c : Code} {H : Heap} {locs : List Loc} {cells slots : Nat} {Q : State → Prop}
variable {cc : ByteArray} {pc : Nat} {ls : Array Slot} {rest : List Value} {D : va_G} {A : Nat → Prop} {own : String} {h0 : Nat} {fs : List Value} {wr ws : va_W} {cs : FieldType → ClassId} {G0 : wd_G} {N0 : Nat}
set_option maxHeartbeats 4000000 in
theorem cb_ctor {y : MethodName} {bytes : ByteArray} {maxL ci a idx : Nat} {rm : Room} {wf : (Nat → Nat) → va_W} (hM : Ctr l D cs G0 y bytes maxL rm ci wf) (X : cbX p s m args meth c cc own) (hKc : cbK D cs G0 N0 s) (hAN : ∀ q, A q → N0 ≤ q) (hA : ∀ q, s.heap.size ≤ q → A q) (hsz : N0 ≤ s.heap.size) (hw : cbH D A s H locs (ws ++ [(a, .inr (ci, cbD ci))])) (hlk : cbL own idx y s args) (hcode : Cond.code y bytes maxL none ∈ wd_gw) (hini : Cond.initialized y.cls ∈ wd_gw) (hinst : Cond.instanceMethod y ∈ wd_gw) (hy : y.name = "<init>") (hdesc : y.cls ≠ "java/lang/invoke/MethodHandle" ∧ y.cls ≠ "java/lang/invoke/VarHandle" ∧ (parseMethodDescriptor y.desc).map (fun d => d.parameters.length) = some 0) (hroom : rm.frames + 1 ≤ R.frames ∧ 8 + (maxL + 11) + rm.locals ≤ R.locals) (hml : c.maxLocals = ls.size) (hrest : (rest.map fun v => v.category).sum ≤ 8) (hc : cells + rm.cells ≤ R.cells ∧ slots + rm.slots ≤ R.slots) (hd : decode cc pc = .ok (.invokespecial idx, 3))
    (kk : ∀ (h : Nat → Nat) (H1 : Heap) (locs1 : List Loc), h 0 = a → cbH D A s H1 locs1 (ws ++ wf h) → W p l e R s m args below meth c H1 locs1 (cells + rm.cells) (slots + rm.slots) Q (F0 m (pc + 3) ls rest)) : W p l e R s m args below meth c H locs cells slots Q (F0 m pc ls (.ref a :: rest)) := by
  obtain ⟨hP, hD, hS⟩ := hw
  have hxl : (ws ++ [(a, (.inr (ci, cbD ci) : va_E))])[ws.length]? = some (a, .inr (ci, cbD ci)) := by simp
  have haN : N0 ≤ a := hAN _ (hD.2 _ _ hxl)
  have hPc : va_P D vwCl [(a, .inr (ci, cbD ci))] H := fun k q hq => by
    match k, hq with
    | 0, hq =>
      cases hq
      exact hP _ _ hxl
    | k + 1, hq => simp at hq
  have hBA : ∀ q, va_A [(a, (.inr (ci, cbD ci) : va_E))] H.size q → A q := fun q h => by
    rcases cb_A.mp h with h | h
    · rw [h]
      exact hD.2 _ _ hxl
    · exact hA _ (Nat.le_trans hS.1 h)
  have hpre : PreS s H (va_Pc [.ref a] (fun U => U.heap.size = H.size ∧ va_P D vwCl [(a, .inr (ci, cbD ci))] U.heap ∧ cbK D cs G0 N0 U)) [.ref a] :=
    ⟨fun b U g mk q => by obtain ⟨q0, q1, qP, qK⟩ := q; exact ⟨q0, q1, qP, cbK.same (s := U) (U := U.calling g mk b) rfl rfl qK⟩, fun U hU hW => ⟨rfl, by rw [hU], by rw [hU]; exact hPc, cbK.warm hW (by rw [hU]; exact hKc.2.2.1.kept (fun b h1 h2 => hS.2.1 b h1 (fun h => h2 (hAN b h)))) hKc⟩⟩
  have hmet := hM a H.size N0 haN (Nat.le_trans hsz hS.1)
  have hrun : va_Run p l e R s m args below meth c H locs cells slots rm.cells rm.slots (F0 m pc ls (.ref a :: rest)) rest (va_Qv (S := Nat → Nat) (fun h => h 0 = a) (fun h t => va_P D vwCl (wf h) t.heap ∧ va_D (va_A [(a, .inr (ci, cbD ci))] H.size) (wf h)) (va_A [(a, .inr (ci, cbD ci))] H.size) (Value.ref a :: []).toArray) (va_A [(a, .inr (ci, cbD ci))] H.size) := by
    rcases hlk with ⟨host, hlk⟩ | hlk
    · exact va_runIN (As := []) (rest := rest) (b := a) ⟨X.1, X.2.1, hml, X.2.2.2.1, X.2.2.1⟩ hmet ⟨va_cnB 0 X.2.2.1 (wd_good hcode) rfl rfl rfl (hKc.2.1 _ hlk) (X.2.2.1 _ hini) hdesc hroom, hy, X.2.2.1 _ hinst⟩ hpre rfl rfl rfl rfl (lv_room hrest) hd hc
    · exact va_runI (As := []) (rest := rest) (b := a) ⟨X.1, X.2.1, hml, X.2.2.2.1, X.2.2.1⟩ hmet ⟨callB_of 0 X.2.2.1 (wd_good hcode) rfl rfl rfl (X.2.2.1 _ hini) hlk hdesc hroom, hy, X.2.2.1 _ hinst⟩ hpre rfl rfl rfl rfl (lv_room hrest) hd hc
  refine va_callv hrun hS (fun q _ h => hBA q h) hBA (fun h t H1 locs1 ht hal h0 hB hz hk hS1 => ?_)
  obtain ⟨b1, b2⟩ := hB
  rw [ht] at b1
  obtain ⟨j1, j2⟩ := cb_join hP hD (fun q => cb_A) hBA hk b1 b2
  exact kk h H1 locs1 h0 ⟨j1, j2, hS1⟩
end CB
