/-! MAKING: Sheets -/
def w1 : wd_Wd := (1, (fun _ => .inl (.int, 4)), fun _ _ => none)
section F
variable {G : wd_G} {τ : wd_T} {Q : wd_P} {σ : wd_S}
theorem l_fill_1 {v : Int32} (h : Q none (wd_uc σ 0 (fil (fun _ => v) (σ 0) 4)) τ) : ∀ (m i : Nat), 4 = i + m → Run w1 G M_J7_fill 5 [some (.ref 0), some (.int v), some (.int (nI i)), some (.int (nI 4))] [] (wd_uc σ 0 (fil (fun _ => v) (σ 0) i)) τ Q := by
  intro m
  induction m with
  | zero =>
    intro i hi
    have e : i = 4 := by omega
    subst e
    refine wd_go ok_J7_fill [5] 20 (fun R hR => ?_)
    conv => whnf
    try dsimp only
    refine br_t (by decide) ?_
    conv => whnf
    try dsimp only
    exact ⟨rfl, h⟩
  | succ m ih =>
    intro i hi
    refine wd_go ok_J7_fill [5] 20 (fun R hR => ?_)
    conv => whnf
    try dsimp only
    refine br_f (nI_ge (by omega) (by decide)) ?_
    conv => whnf
    try dsimp only
    refine ⟨vp_in_nI (by first | decide | omega) (by first | decide | omega), ?_⟩
    conv => whnf
    try dsimp only
    refine hR ?_
    rw [nI_clamp (by omega), uc_uc, uc_s]
    have e : upd (fil (fun _ => v) (σ 0) i) i v = fil (fun _ => v) (σ 0) (i + 1) := fil_s (fun _ => v) (σ 0) i
    rw [e]
    have := ih (i + 1) (by omega)
    rw [nI_succ] at this
    exact this
theorem s_fill_1 {v : Int32} (h : Q none (wd_uc σ 0 (fil (fun _ => v) (σ 0) 4)) τ) : Run w1 G M_J7_fill 0 [some (.ref 0), some (.int v), none, none] [] σ τ Q := by
  refine wd_go ok_J7_fill [5] 20 (fun R hR => ?_)
  conv => whnf
  try dsimp only
  refine hR ?_
  have := l_fill_1 (G := G) (τ := τ) (Q := Q) (σ := σ) (v := v) h 4 0 (by omega)
  rw [fil_0, uc_self] at this
  exact this
end F
theorem cb_set {D : va_G} {A : Nat → Prop} {ws : va_W} {i a : Nat} {e0 e : va_E} {H H1 : Heap} (hP : va_P D vwCl ws H) (hD : va_D A ws) (hi : ws[i]? = some (a, e0)) (he : va_at D vwCl (a, e) H1) (hk : ∀ q : Nat, q < H.size → q ≠ a → H1[q]? = H[q]?) : va_P D vwCl (ws.set i (a, e)) H1 := by
  have hlt := (List.getElem?_eq_some_iff.mp hi).1
  intro k q hq
  by_cases e1 : k = i
  · subst e1
    rw [List.getElem?_set_self hlt] at hq
    cases hq
    exact he
  · rw [List.getElem?_set_ne (Ne.symm e1)] at hq
    have h1 := hP k q hq
    refine h1.kept (hk _ h1.lt (fun z => e1 ?_))
    exact hD.1 k i q (a, e0) hq hi z
section CB
variable {p : Program} {l : Launch} {e : Env} {R : Room} {s : State} {m : MethodId} {args : Array Value} {below : List Frame} {meth : Method} {c : Code} {H : Heap} {locs : List Loc} {cells slots : Nat} {Q : State → Prop}
variable {cc : ByteArray} {pc : Nat} {ls : Array Slot} {rest : List Value} {D : va_G} {A : Nat → Prop} {own : String} {h0 : Nat} {fs : List Value} {wr ws : va_W} {cs : FieldType → ClassId} {G0 : wd_G} {N0 : Nat}
theorem cb_get {ci k idx q : Nat} {fin : Bool} {v : Value} (X : cbX p s m args meth c cc own) (hK : va_K D vwCl (cbY cs) s) (hw : cbH D A s H locs ((h0, .inr (ci, fs)) :: wr)) (hf : cbF own ci k idx q fin = true) (hv : fs[k]? = some v) (hd : decode cc pc = .ok (.getfield idx, 3))
    (kk : W p l e R s m args below meth c H locs cells slots Q (F0 m (pc + 3) ls (v :: rest))) : W p l e R s m args below meth c H locs cells slots Q (F0 m pc ls (.ref h0 :: rest)) := by
  obtain ⟨h6, hk, hfin, hdecl, hown, hlink⟩ := cbF_of hf
  exact va_get (D := D) (cl := vwCl) (ci := ci) X.1 X.2.1 X.2.2.1 (wd_in h6) X.2.2.2.1 hK hw.1 0 rfl (wd_cl_at h6) k hk (X.2.2.1 _ hlink) (fun _ z => by rw [hdecl] at z; exact z) hv hd kk
theorem cb_X (hKc : cbK D cs G0 N0 s) (hAN : ∀ q, A q → N0 ≤ q) (hS : va_S A s.heap H locs) : wd_X G0 (fun q => N0 ≤ q) s H   := hKc.2.2.1.kept (fun b h1 h2 => hS.2.1 b h1 (fun h => h2 (hAN b h)))
set_option maxHeartbeats 4000000 in
/-- a row of four ints is filled -/
theorem cb_fill {i a idx : Nat} {f : Nat → Int32} {v : Int32} {ps : List Nat} (X : cbX p s m args meth c cc own) (hKc : cbK D cs G0 N0 s) (hAN : ∀ q, A q → N0 ≤ q) (hml : c.maxLocals = ls.size) (hw : cbH D A s H locs ws) (hi : ws[i]? = some (a, .inl (cs .int, 4, .inl f))) (hl : wl_S own M_J7_fill idx 2 ps = true) (hf : 1 ≤ R.frames) (hlo : 23 ≤ R.locals) (hcs : cells ≤ R.cells ∧ slots ≤ R.slots) (hd : decode cc pc = .ok (.invokestatic idx, 3))
    (kk : ∀ (H1 : Heap) (locs1 : List Loc), cbH D A s H1 locs1 (ws.set i (a, .inl (cs .int, 4, .inl (fil (fun _ => v) f 4)))) → W p l e R s m args below meth c H1 locs1 cells slots Q (F0 m (pc + 3) ls [])) : W p l e R s m args below meth c H locs cells slots Q (F0 m pc ls [.int v, .ref a]) := by
  obtain ⟨hP, hD, hS⟩ := hw
  have hAa : A a := hD.2 _ _ hi
  have hwA : ∀ q, wd_A w1 (mkG G0 D (fun _ => a) (fun _ => cs .int)) q → q = a := fun q h => by
    obtain ⟨j, hj, e⟩ := h
    have : j = 0 := Nat.lt_one_iff.mp hj
    subst this
    exact e
  have hBA : ∀ q, wd_A w1 (mkG G0 D (fun _ => a) (fun _ => cs .int)) q → A q := fun q h => by rw [hwA q h]; exact hAa
  have hBN : ∀ q, wd_A w1 (mkG G0 D (fun _ => a) (fun _ => cs .int)) q → N0 ≤ q := fun q h => hAN _ (hBA q h)
  have hK : wd_K w1 (mkG G0 D (fun _ => a) (fun _ => cs .int)) (wd_A w1 (mkG G0 D (fun _ => a) (fun _ => cs .int))) s := mk_K hKc (fun i j h1 h2 _ => by have := Nat.lt_one_iff.mp h1; have := Nat.lt_one_iff.mp h2; omega) (fun c ty hc ht => by
    have : ty = .int := (Option.some.inj ht).symm
    subst this
    exact ⟨List.mem_cons_self, rfl⟩) hBN
  have hP1 : va_P (mkG G0 D (fun _ => a) (fun _ => cs .int)).1 vwCl (wd_ws w1 (mkG G0 D (fun _ => a) (fun _ => cs .int)) (fun _ => f) (fun _ _ => 0)) H := fun k x hx => by
    match k, hx with
    | 0, hx =>
      cases hx
      exact hP i _ hi
    | k + 1, hx => simp [wd_ws, w1] at hx
  refine wl_callS (M' := M_J7_fill) (w := w1) (G := mkG G0 D (fun _ => a) (fun _ => cs .int)) (σ := fun _ => f) (τ := fun _ _ => 0) (As := [.ref 0, .int v]) (rest := []) (Q := fun r σ' _ => r = none ∧ σ' = wd_uc (fun _ => f) 0 (fil (fun _ => v) f 4)) X.1 X.2.1 X.2.2.1 X.2.2.2.1 hml hl ⟨hf, hlo⟩ hd rfl (Nat.le_of_ble_eq_true rfl) (Nat.zero_le _) hcs hK hBA (((cb_X hKc hAN hS).narrow hBN).mk) hP1 hS (s_fill_1 ⟨rfl, rfl⟩) (fun r σ' τ' H1 locs1 hq hP2 hz hk hS1 => ?_)
  obtain ⟨rfl, rfl⟩ := hq
  have h0 := hP2 0 (a, .inl (cs .int, 4, .inl (fil (fun _ => v) f 4))) rfl
  exact kk H1 locs1 ⟨cb_set hP hD hi h0 (fun q h1 h2 => hk q h1 (fun z => h2 (hwA q z))), hD.set hi, hS1⟩
end CB
def wfS (cs : FieldType → ClassId) (h : Nat → Nat) : va_W := (h 0, .inr (1, [.ref (h 1), .ref (h 2), .ref (h 3)])) :: (wfM cs (h 1) ++ [(h 2, .inl (cs .int, 4, .inl (fil (fun _ => -4) (fun _ => 0) 4))), (h 3, .inl (cs .int, 4, .inl (fun _ => 0)))])
def rmS : Room := { frames := 1, cells := 7, slots := 172, locals := 23 }
def fnS (a0 a1 a2 a3 : Nat) : Nat → Nat := fun k => match k with
  | 0 => a0
  | 1 => a1
  | 2 => a2
  | _ => a3
set_option maxHeartbeats 4000000 in
theorem c_Sheets (l : Launch) (D : va_G) (cs : FieldType → ClassId) (G0 : wd_G) : Ctr l D cs G0 yX1_init cX1_init 1 rmS 1 (wfS cs) := by
  refine Ctr.of (idx := 3) (q := 256) (by decide) rfl (by decide) (by decide +kernel) (by decide +kernel) (by decide +kernel) (by decide) (by decide) ?_
  intro p e s m below meth c ls h0 N0 X hKc hN1 hN2 hml hr hlk hls hA hAN hw
  have hl0 : ls[0]? = some (.val (.ref h0)) := lv_at hls 0 rfl
  refine lv_aload_n X.1 X.2.1 (show decode cX1_init 4 = .ok (.aload_n 0, 1) by decide +kernel) rfl hl0 ?_
  refine cb_push (n := 4) (pcA := 6) X (by decide +kernel) ?_
  refine cb_push (n := 40) (pcA := 8) X (by decide +kernel) ?_
  refine cb_mna (idx := 9) (q := 257) (q3 := 163) X hKc.1 hA hw (by decide +kernel) hKc.2.2.2.2 (by decide +kernel) (Nat.le_of_ble_eq_true rfl) (Nat.le_of_ble_eq_true rfl) (by decide +kernel) (fun a1 H1 locs1 hw => ?_)
  refine cb_putF (ci := 1) (k := 0) (idx := 11) (q := 262) X hKc.1 hw (by decide +kernel) rfl rfl (Nat.le_of_ble_eq_true rfl) (by decide +kernel) (fun H2 locs2 hw => ?_)
  refine cb_arrF (ci := 1) (k := 1) (idx := 16) (q := 264) (n := 4) (t0 := 0) (qa := 163) (pcA := 17) (atype := .int) (ty := .int) X hKc.1 hA hl0 hw (by decide +kernel) (by decide +kernel) (by decide +kernel) (by decide +kernel) (by decide +kernel) rfl rfl rfl ra_int (by decide +kernel) rfl (by decide) (by decide) (Nat.le_of_ble_eq_true rfl) (Nat.le_of_ble_eq_true rfl) (Nat.le_of_ble_eq_true rfl) (fun a2 H3 locs3 hw => ?_)
  refine cb_arrF (ci := 1) (k := 2) (idx := 20) (q := 266) (n := 4) (t0 := 0) (qa := 163) (pcA := 24) (atype := .int) (ty := .int) X hKc.1 hA hl0 hw (by decide +kernel) (by decide +kernel) (by decide +kernel) (by decide +kernel) (by decide +kernel) rfl rfl rfl ra_int (by decide +kernel) rfl (by decide) (by decide) (Nat.le_of_ble_eq_true rfl) (Nat.le_of_ble_eq_true rfl) (Nat.le_of_ble_eq_true rfl) (fun a3 H4 locs4 hw => ?_)
  refine lv_aload_n X.1 X.2.1 (show decode cX1_init 29 = .ok (.aload_n 0, 1) by decide +kernel) rfl hl0 ?_
  refine cb_get (ci := 1) (k := 1) (idx := 16) (q := 264) (fin := true) (v := .ref a2) X hKc.1 hw (by decide +kernel) rfl (by decide +kernel) ?_
  refine lv_bipush X.1 X.2.1 (show decode cX1_init 33 = .ok (.bipush (-4), 2) by decide +kernel) (v := -4) rfl ?_
  refine cb_fill (i := 6) (idx := 23) (f := fun _ => 0) (v := -4) (ps := [259, 261, 62, 260]) X hKc hAN hml hw rfl (by decide +kernel) (by decide) (by decide) ⟨Nat.le_of_ble_eq_true rfl, Nat.le_of_ble_eq_true rfl⟩ (by decide +kernel) (fun H5 locs5 hw => ?_)
  refine W.widen (k := 7) (n := 172) (Nat.le_of_ble_eq_true rfl) (Nat.le_of_ble_eq_true rfl) ?_
  exact cb_ret (wf := wfS cs) (h := fnS h0 a1 a2 a3) X hr hlk rfl hw (by decide +kernel)
