/-! MAKING: Pack -/
def cbB (h0 : Nat) (ci sz : Nat) : Nat → Prop := va_A [(h0, .inr (ci, cbD ci))] sz
theorem cbB_is {h0 ci sz q : Nat} : cbB h0 ci sz q ↔ q = h0 ∨ sz ≤ q := cb_A
def cbQ (D : va_G) (wf : (Nat → Nat) → va_W) (h0 ci sz : Nat) : Array Value → State → Outcome → State → Prop := va_Qv (S := Nat → Nat) (fun h => h 0 = h0) (fun h t => va_P D vwCl (wf h) t.heap ∧ va_D (cbB h0 ci sz) (wf h)) (cbB h0 ci sz)
set_option maxHeartbeats 4000000 in
/-- a constructor out of its walk, which begins behind that of Object -/
theorem Ctr.of {l : Launch} {D : va_G} {cs : FieldType → ClassId} {G0 : wd_G} {y : MethodName} {bytes : ByteArray} {maxL ci idx q : Nat} {rm : Room} {wf : (Nat → Nat) → va_W} (hy : plainName y.cls = true) (hn : y.name = "<init>") (hm1 : 1 ≤ maxL) (hl : wd_at q (.methodLink y.cls idx objectInit) = true) (d0 : decode bytes 0 = .ok (.aload_n 0, 1)) (d1 : decode bytes 1 = .ok (.invokespecial idx, 3)) (hf : 1 ≤ rm.frames) (hlo : 12 ≤ rm.locals)
    (h : ∀ (p : Program) (e : Env) (s : State) (m : MethodId) (below : List Frame) (meth : Method) (c : Code) (ls : Array Slot) (h0 N0 : Nat), cbX p s m #[.ref h0] meth c bytes y.cls → cbK D cs G0 N0 s → N0 ≤ h0 → N0 ≤ s.heap.size → c.maxLocals = ls.size → meth.sig.returnType = none → meth.locks = false → lv_has ls maxL [(0, .ref h0)] → (∀ q, s.heap.size ≤ q → cbB h0 ci s.heap.size q) → (∀ q, cbB h0 ci s.heap.size q → N0 ≤ q) → cbH D (cbB h0 ci s.heap.size) s s.heap [] [(h0, .inr (ci, cbD ci))] →
      W p l e rm s m #[.ref h0] below meth c s.heap [] 0 0 (MQ below (cbQ D wf h0 ci s.heap.size) #[.ref h0] s rm.cells rm.slots (cbB h0 ci s.heap.size)) (F0 m 4 ls [])) : Ctr l D cs G0 y bytes maxL rm ci wf := by
  intro h0 sz N0 hN1 hN2
  refine Met.ofW (cc := bytes) (maxL := maxL) (ret := none) hy rfl ?_
  intro p e s m args below meth c s₁ B hml hv
  obtain ⟨rfl, hsz, hP, hK⟩ := hv
  subst hsz
  have hts : ∀ w ∈ wd_gw, w.before #[Value.ref h0] s = true := fun x hx => atoms_spec (ws := .code y bytes maxL none :: wd_gw) B.pre x (List.mem_cons_of_mem _ hx)
  have hin : meth.name = "<init>" := (name_of_methodNamed B.named B.method).1.trans hn
  have hown := findClass_of_methodNamed B.named
  have hlen : (lg_sl ([.ref h0] : List Value)).length ≤ maxL := hm1
  have hls := lv_entry ([.ref h0] : List Value) (n := maxL) hlen
  rw [lg_entry_eq]
  generalize (lg_sl ([.ref h0] : List Value) ++ List.replicate (maxL - (lg_sl ([.ref h0] : List Value)).length) Slot.unset).toArray = ls at hls ⊢
  have hls : lv_has ls maxL [(0, .ref h0)] := hls
  refine lv_aload_n B.exec B.bytes d0 rfl (lv_at hls 0 rfl) ?_
  refine W.objInit (idx := idx) B.exec B.bytes hown (hts _ (wd_at_mem hl)) (hts _ (wd_at_mem (p := 77) (by decide +kernel))) (hts _ (wd_at_mem (p := 78) (by decide +kernel))) rfl (by rw [hml]; exact hls.1) rfl d1 hf (by show 2 * 0 + 0 + 12 ≤ rm.locals; omega) ?_
  refine W.eq (g2 := F0 m 4 ls []) rfl ?_
  have hD : va_D (cbB h0 ci s.heap.size) [(h0, .inr (ci, cbD ci))] := by
    refine ⟨fun i j p q hi hj _ => ?_, fun k q hk => ?_⟩
    · have h1 := (List.getElem?_eq_some_iff.mp hi).1
      have h2 := (List.getElem?_eq_some_iff.mp hj).1
      simp at h1 h2
      omega
    · have h1 := (List.getElem?_eq_some_iff.mp hk).1
      simp at h1
      subst h1
      cases hk
      exact cbB_is.mpr (Or.inl rfl)
  exact h p e s m below meth c ls h0 N0 ⟨B.exec, B.bytes, hts, hown, hin⟩ hK hN1 hN2 (hml.trans hls.1.symm) B.returns B.notSynchronized hls (fun q hq => cbB_is.mpr (Or.inr hq)) (fun q hq => by rcases cbB_is.mp hq with z | z <;> omega) ⟨hP, hD, va_S.rf⟩
def cbP (cc : ByteArray) (pc n pcA : Nat) : Bool := (decide (decode cc pc = .ok (.iconst n, 1)) && (Nat.beq pcA (pc + 1) && decide (Int32.ofInt n = nI n))) || ((decide (decode cc pc = .ok (.bipush n, 2)) && (Nat.beq pcA (pc + 2) && decide ((Int8.ofInt n).toInt32 = nI n))) || (decide (decode cc pc = .ok (.sipush n, 3)) && (Nat.beq pcA (pc + 3) && decide ((Int16.ofInt n).toInt32 = nI n))))
section CB
variable {p : Program} {l : Launch} {e : Env} {R : Room} {s : State} {m : MethodId} {args : Array Value} {below : List Frame} {meth : Method} {c : Code} {H : Heap} {locs : List Loc} {cells slots : Nat} {Q : State → Prop}
variable {cc : ByteArray} {pc : Nat} {ls : Array Slot} {rest : List Value} {D : va_G} {A : Nat → Prop} {own : String} {h0 : Nat} {fs : List Value} {wr ws : va_W} {cs : FieldType → ClassId} {G0 : wd_G} {N0 : Nat}
theorem cb_ret {wf : (Nat → Nat) → va_W} {ci : Nat} {h : Nat → Nat} (X : cbX p s m args meth c cc own) (hr : meth.sig.returnType = none) (hlk : meth.locks = false) (hh : h 0 = h0) (hw : cbH D (cbB h0 ci s.heap.size) s H locs (wf h)) (hd : decode cc pc = .ok (.return_, 1)) : W p l e R s m args below meth c H locs cells slots (MQ below (cbQ D wf h0 ci s.heap.size) args s cells slots (cbB h0 ci s.heap.size)) (F0 m pc ls []) :=
  W.vret X.1 X.2.1 hr (fun t ht hW => ⟨⟨h, rfl, hh, by rw [ht]; exact hw.1, hw.2.1⟩, hw.2.2.F ht⟩) hw.2.2.2.2 hd hlk
theorem cb_push {n pcA : Nat} (X : cbX p s m args meth c cc own) (hp : cbP cc pc n pcA = true) (k : W p l e R s m args below meth c H locs cells slots Q (F0 m pcA ls (.int (nI n) :: rest))) : W p l e R s m args below meth c H locs cells slots Q (F0 m pc ls rest) := by
  unfold cbP at hp
  simp only [Bool.or_eq_true, Bool.and_eq_true, decide_eq_true_eq] at hp
  rcases hp with ⟨h1, h2, h3⟩ | ⟨h1, h2, h3⟩ | ⟨h1, h2, h3⟩
  · rw [Nat.eq_of_beq_eq_true h2] at k
    exact lv_iconst X.1 X.2.1 h1 h3 k
  · rw [Nat.eq_of_beq_eq_true h2] at k
    exact lv_bipush X.1 X.2.1 h1 h3 k
  · rw [Nat.eq_of_beq_eq_true h2] at k
    exact lv_sipush X.1 X.2.1 h1 h3 k
/-- an array is made, and kept in a final field -/
theorem cb_arrF {ci k idx q n t0 qa pcA : Nat} {atype : ArrayType} {ty : FieldType} (X : cbX p s m args meth c cc own) (hK : va_K D vwCl (cbY cs) s) (hA : ∀ q, s.heap.size ≤ q → A q) (hl0 : ls[0]? = some (.val (.ref h0))) (hw : cbH D A s H locs ((h0, .inr (ci, fs)) :: wr)) (d0 : decode cc pc = .ok (.aload_n 0, 1)) (hp : cbP cc (pc + 1) n pcA = true) (da : decode cc pcA = .ok (.newarray atype, 2)) (dp : decode cc (pcA + 2) = .ok (.putfield idx, 3)) (hf : cbF own ci k idx q true = true) (ht : wd_ty ci k = .array ty) (hty : newarray.typeOf atype = ty) (ht0 : cbT[t0]? = some ty) (hprim : ∀ x y, va_RA s x ty → va_RA s y ty → x = y) (harr : wd_at qa (.arrayClass ty) = true) (hdef : defaultValue ty = .int 0) (hn : n < 1000) (hby : componentBytes ty ≤ 8) (hl : k < fs.length) (hcells : cells + 1 ≤ R.cells) (hslots : slots + n ≤ R.slots)
    (kk : ∀ (a : Nat) (H1 : Heap) (locs1 : List Loc), cbH D A s H1 locs1 ((h0, .inr (ci, fs.set k (.ref a))) :: (wr ++ [(a, .inl (cs ty, n, .inl (fun _ => 0)))])) → W p l e R s m args below meth c H1 locs1 (cells + 1) (slots + n) Q (F0 m (pcA + 5) ls rest)) : W p l e R s m args below meth c H locs cells slots Q (F0 m pc ls rest) := by
  refine lv_aload_n X.1 X.2.1 d0 rfl hl0 ?_
  refine cb_push X hp ?_
  refine cb_newa X hK hA hw hty ht0 hprim harr hdef hn hby hcells hslots da (fun a H1 hw1 => ?_)
  exact cb_putF X hK hw1 hf (by rw [ht]; rfl) (by rw [ht]; rfl) hl dp (fun H2 locs2 hw2 => kk a H2 locs2 hw2)
end CB
theorem ra_int {s : State} : ∀ x y, va_RA s x .int → va_RA s y .int → x = y := fun _ _ h1 h2 => Option.some.inj (h1.symm.trans h2)
theorem ra_byte {s : State} : ∀ x y, va_RA s x .byte → va_RA s y .byte → x = y := fun _ _ h1 h2 => Option.some.inj (h1.symm.trans h2)
theorem ra_bool {s : State} : ∀ x y, va_RA s x .boolean → va_RA s y .boolean → x = y := fun _ _ h1 h2 => Option.some.inj (h1.symm.trans h2)
def wfP (cs : FieldType → ClassId) (h : Nat → Nat) : va_W := [(h 0, .inr (0, [.ref (h 1), .ref (h 2), .ref (h 3), .ref (h 4), .ref (h 5), .ref (h 6), .ref (h 7), .ref (h 8), .ref (h 9), .int 0, .int 0, .int 0, .int 0, .int 0, .int 0, .int 0, .int 0, .int (-4)])), (h 1, .inl (cs .int, 4, .inl (fun _ => 0))), (h 2, .inl (cs .int, 4, .inl (fun _ => 0))), (h 3, .inl (cs .int, 4, .inl (fun _ => 0))), (h 4, .inl (cs .int, 4, .inl (fun _ => 0))), (h 5, .inl (cs .int, 16, .inl (fun _ => 0))), (h 6, .inl (cs .int, 4, .inl (fun _ => 0))), (h 7, .inl (cs .int, 4, .inl (fun _ => 0))), (h 8, .inl (cs .int, 6, .inl (fun _ => 0))), (h 9, .inl (cs .int, 6, .inl (fun _ => 0)))]
def fn10 (a0 a1 a2 a3 a4 a5 a6 a7 a8 a9 : Nat) : Nat → Nat := fun k => match k with
  | 0 => a0
  | 1 => a1
  | 2 => a2
  | 3 => a3
  | 4 => a4
  | 5 => a5
  | 6 => a6
  | 7 => a7
  | 8 => a8
  | _ => a9
def rmP : Room := { frames := 1, cells := 9, slots := 52, locals := 12 }
set_option maxHeartbeats 4000000 in
theorem c_Pack (l : Launch) (D : va_G) (cs : FieldType → ClassId) (G0 : wd_G) : Ctr l D cs G0 yX0_init cX0_init 1 rmP 0 (wfP cs) := by
  refine Ctr.of (idx := 3) (q := 84) (by decide) rfl (by decide) (by decide +kernel) (by decide +kernel) (by decide +kernel) (by decide) (by decide) ?_
  intro p e s m below meth c ls h0 N0 X hKc hN1 hN2 hml hr hlk hls hA hAN hw
  have hK := hKc.1
  have hl0 : ls[0]? = some (.val (.ref h0)) := lv_at hls 0 rfl
  refine cb_arrF (ci := 0) (k := 0) (idx := 9) (q := 85) (n := 4) (t0 := 0) (qa := 163) (pcA := 6) (atype := .int) (ty := .int) X hK hA hl0 hw (by decide +kernel) (by decide +kernel) (by decide +kernel) (by decide +kernel) (by decide +kernel) rfl rfl rfl ra_int (by decide +kernel) rfl (by decide) (by decide) (Nat.le_of_ble_eq_true rfl) (Nat.le_of_ble_eq_true rfl) (Nat.le_of_ble_eq_true rfl) (fun a1 H1 locs1 hw => ?_)
  refine cb_arrF (ci := 0) (k := 1) (idx := 15) (q := 87) (n := 4) (t0 := 0) (qa := 163) (pcA := 13) (atype := .int) (ty := .int) X hK hA hl0 hw (by decide +kernel) (by decide +kernel) (by decide +kernel) (by decide +kernel) (by decide +kernel) rfl rfl rfl ra_int (by decide +kernel) rfl (by decide) (by decide) (Nat.le_of_ble_eq_true rfl) (Nat.le_of_ble_eq_true rfl) (Nat.le_of_ble_eq_true rfl) (fun a2 H2 locs2 hw => ?_)
  refine cb_arrF (ci := 0) (k := 2) (idx := 18) (q := 90) (n := 4) (t0 := 0) (qa := 163) (pcA := 20) (atype := .int) (ty := .int) X hK hA hl0 hw (by decide +kernel) (by decide +kernel) (by decide +kernel) (by decide +kernel) (by decide +kernel) rfl rfl rfl ra_int (by decide +kernel) rfl (by decide) (by decide) (Nat.le_of_ble_eq_true rfl) (Nat.le_of_ble_eq_true rfl) (Nat.le_of_ble_eq_true rfl) (fun a3 H3 locs3 hw => ?_)
  refine cb_arrF (ci := 0) (k := 3) (idx := 21) (q := 92) (n := 4) (t0 := 0) (qa := 163) (pcA := 27) (atype := .int) (ty := .int) X hK hA hl0 hw (by decide +kernel) (by decide +kernel) (by decide +kernel) (by decide +kernel) (by decide +kernel) rfl rfl rfl ra_int (by decide +kernel) rfl (by decide) (by decide) (Nat.le_of_ble_eq_true rfl) (Nat.le_of_ble_eq_true rfl) (Nat.le_of_ble_eq_true rfl) (fun a4 H4 locs4 hw => ?_)
  refine cb_arrF (ci := 0) (k := 4) (idx := 24) (q := 95) (n := 16) (t0 := 0) (qa := 163) (pcA := 35) (atype := .int) (ty := .int) X hK hA hl0 hw (by decide +kernel) (by decide +kernel) (by decide +kernel) (by decide +kernel) (by decide +kernel) rfl rfl rfl ra_int (by decide +kernel) rfl (by decide) (by decide) (Nat.le_of_ble_eq_true rfl) (Nat.le_of_ble_eq_true rfl) (Nat.le_of_ble_eq_true rfl) (fun a5 H5 locs5 hw => ?_)
  refine cb_arrF (ci := 0) (k := 5) (idx := 27) (q := 97) (n := 4) (t0 := 0) (qa := 163) (pcA := 42) (atype := .int) (ty := .int) X hK hA hl0 hw (by decide +kernel) (by decide +kernel) (by decide +kernel) (by decide +kernel) (by decide +kernel) rfl rfl rfl ra_int (by decide +kernel) rfl (by decide) (by decide) (Nat.le_of_ble_eq_true rfl) (Nat.le_of_ble_eq_true rfl) (Nat.le_of_ble_eq_true rfl) (fun a6 H6 locs6 hw => ?_)
  refine cb_arrF (ci := 0) (k := 6) (idx := 30) (q := 99) (n := 4) (t0 := 0) (qa := 163) (pcA := 49) (atype := .int) (ty := .int) X hK hA hl0 hw (by decide +kernel) (by decide +kernel) (by decide +kernel) (by decide +kernel) (by decide +kernel) rfl rfl rfl ra_int (by decide +kernel) rfl (by decide) (by decide) (Nat.le_of_ble_eq_true rfl) (Nat.le_of_ble_eq_true rfl) (Nat.le_of_ble_eq_true rfl) (fun a7 H7 locs7 hw => ?_)
  refine cb_arrF (ci := 0) (k := 7) (idx := 33) (q := 101) (n := 6) (t0 := 0) (qa := 163) (pcA := 57) (atype := .int) (ty := .int) X hK hA hl0 hw (by decide +kernel) (by decide +kernel) (by decide +kernel) (by decide +kernel) (by decide +kernel) rfl rfl rfl ra_int (by decide +kernel) rfl (by decide) (by decide) (Nat.le_of_ble_eq_true rfl) (Nat.le_of_ble_eq_true rfl) (Nat.le_of_ble_eq_true rfl) (fun a8 H8 locs8 hw => ?_)
  refine cb_arrF (ci := 0) (k := 8) (idx := 36) (q := 102) (n := 6) (t0 := 0) (qa := 163) (pcA := 65) (atype := .int) (ty := .int) X hK hA hl0 hw (by decide +kernel) (by decide +kernel) (by decide +kernel) (by decide +kernel) (by decide +kernel) rfl rfl rfl ra_int (by decide +kernel) rfl (by decide) (by decide) (Nat.le_of_ble_eq_true rfl) (Nat.le_of_ble_eq_true rfl) (Nat.le_of_ble_eq_true rfl) (fun a9 H9 locs9 hw => ?_)
  refine lv_aload_n X.1 X.2.1 (show decode cX0_init 70 = .ok (.aload_n 0, 1) by decide +kernel) rfl hl0 ?_
  refine lv_bipush X.1 X.2.1 (show decode cX0_init 71 = .ok (.bipush (-4), 2) by decide +kernel) (v := -4) rfl ?_
  refine cb_put (ci := 0) (k := 17) (idx := 39) (q := 124) X hK hw (by decide +kernel) rfl rfl (Nat.le_of_ble_eq_true rfl) (by decide +kernel) (fun H10 locs10 hw => ?_)
  refine W.widen (k := 9) (n := 52) (Nat.le_of_ble_eq_true rfl) (Nat.le_of_ble_eq_true rfl) ?_
  exact cb_ret (wf := wfP cs) (h := fn10 h0 a1 a2 a3 a4 a5 a6 a7 a8 a9) X hr hlk rfl hw (by decide +kernel)
