/-! MAKING: WatchDogsModel -/
section R
variable {G : wd_G} {τ : wd_T} {Q : wd_P} {σ : wd_S}
theorem s_R_firstDraftE (h : Q none (wd_uc (wd_uc σ 4 (upd (fil (fun _ => 0) (σ 4) 61) 47 (-4))) 0 (upd (σ 0) 4 0)) τ) : Run wR G M_R_firstDraft 0 [some (.ref 0), none] [] σ τ Q := by
  refine wd_go ok_R_firstDraft [2] 20 (fun R hR => ?_)
  conv => whnf
  try dsimp only
  refine hR ?_
  have key := l_R_draft0 (G := G) (τ := τ) (Q := Q) (σ := σ) ?_ 61 0 (by omega)
  · rw [fil_0, uc_self] at key
    exact key
  · refine wd_go ok_R_firstDraft [] 20 (fun R hR => ?_)
    conv => whnf
    try dsimp only
    refine ⟨vp_in_nI (by first | decide | omega) (by first | decide | omega), ?_⟩
    conv => whnf
    try dsimp only
    refine ⟨Or.inl rfl, ?_⟩
    conv => whnf
    try dsimp only
    refine ⟨rfl, ?_⟩
    rw [uc_uc, uc_s, cl47]
    exact h
end R
def lnR : wRow := upd (upd (upd (upd (fun _ => 0) 0 (-4)) 1 (-4)) 2 (-4)) 3 (-4)
def σ0R : wd_S := fun c => match c with
  | 9 => lnR
  | _ => fun _ => 0
def σaR : wd_S := wd_uc (wd_uc σ0R 4 (upd (fil (fun _ => 0) (σ0R 4) 61) 47 (-4))) 0 (upd (σ0R 0) 4 0)
def σ1R : wd_S := wd_uc (wd_uc σaR 1 (fil (σaR 4) (σaR 1) 61)) 3 (upd (upd (σaR 3) 0 0) 1 0)
def clR (cs : FieldType → ClassId) : Nat → ClassId := fun c => cond (Nat.beq c 3) (cs .boolean) (cs .int)
def wfR (D : va_G) (cs : FieldType → ClassId) (G0 : wd_G) (h : Nat → Nat) : va_W := wd_ws wR (mkG G0 D h (clR cs)) σ1R (fun _ _ => 0)
theorem wd_D2 {w : wd_Wd} {G : wd_G} {σ σ' : wd_S} {τ τ' : wd_T} {A : Nat → Prop} (h : va_D A (wd_ws w G σ τ)) : va_D A (wd_ws w G σ' τ') := by
  have key : ∀ (k : Nat) (q : Nat × va_E), (wd_ws w G σ' τ')[k]? = some q → ∃ q0, (wd_ws w G σ τ)[k]? = some q0 ∧ q0.1 = q.1 := fun k q hk => by
    have hl : k < w.1 := by
      have := (List.getElem?_eq_some_iff.mp hk).1
      simpa [wd_ws] using this
    rw [wd_ws_at hl] at hk
    cases hk
    exact ⟨_, wd_ws_at hl, rfl⟩
  refine ⟨fun i j p q hi hj e => ?_, fun k q hk => ?_⟩
  · obtain ⟨p0, a1, a2⟩ := key i p hi
    obtain ⟨q0, b1, b2⟩ := key j q hj
    exact h.1 i j p0 q0 a1 b1 (by rw [a2, b2, e])
  · obtain ⟨q0, a1, a2⟩ := key k q hk
    rw [← a2]
    exact h.2 k q0 a1
theorem wd_injD {w : wd_Wd} {G : wd_G} {σ : wd_S} {τ : wd_T} {A : Nat → Prop} (h : va_D A (wd_ws w G σ τ)) : wd_inj w G := fun i j hi hj e => h.1 i j _ _ (wd_ws_at hi) (wd_ws_at hj) e
theorem wd_AD {w : wd_Wd} {G : wd_G} {σ : wd_S} {τ : wd_T} {A : Nat → Prop} (h : va_D A (wd_ws w G σ τ)) : ∀ q, wd_A w G q → A q := fun q hq => by
  obtain ⟨c, hc, rfl⟩ := hq
  exact h.2 c _ (wd_ws_at hc)
theorem wR_cl {cs : FieldType → ClassId} : ∀ c ty, c < wR.1 → wd_arr (wR.2.1 c) = some ty → ty ∈ cbT ∧ clR cs c = cs ty := fun c ty hc ht => by
  match c, hc, ht with
  | 0, _, ht => cases ht
  | 3, _, ht =>
    cases ht
    exact ⟨by decide, rfl⟩
  | 1, _, ht =>
    cases ht
    exact ⟨by decide, rfl⟩
  | 2, _, ht =>
    cases ht
    exact ⟨by decide, rfl⟩
  | 4, _, ht =>
    cases ht
    exact ⟨by decide, rfl⟩
  | 5, _, ht =>
    cases ht
    exact ⟨by decide, rfl⟩
  | 6, _, ht =>
    cases ht
    exact ⟨by decide, rfl⟩
  | 7, _, ht =>
    cases ht
    exact ⟨by decide, rfl⟩
  | 8, _, ht =>
    cases ht
    exact ⟨by decide, rfl⟩
  | 9, _, ht =>
    cases ht
    exact ⟨by decide, rfl⟩
  | 10, _, ht =>
    cases ht
    exact ⟨by decide, rfl⟩
  | 11, _, ht =>
    cases ht
    exact ⟨by decide, rfl⟩
  | 12, _, ht =>
    cases ht
    exact ⟨by decide, rfl⟩
  | k + 13, hc, _ => exact absurd hc (by show ¬ k + 13 < 13; omega)
def fn13 (a0 a1 a2 a3 a4 a5 a6 a7 a8 a9 a10 a11 a12 : Nat) : Nat → Nat := fun k => match k with
  | 0 => a0
  | 1 => a1
  | 2 => a2
  | 3 => a3
  | 4 => a4
  | 5 => a5
  | 6 => a6
  | 7 => a7
  | 8 => a8
  | 9 => a9
  | 10 => a10
  | 11 => a11
  | _ => a12
def rmR : Room := { frames := 1, cells := 12, slots := 782, locals := 21 }
section CB
variable {p : Program} {l : Launch} {e : Env} {R : Room} {s : State} {m : MethodId} {args : Array Value} {below : List Frame} {meth : Method} {c : Code} {H : Heap} {locs : List Loc} {cells slots : Nat} {Q : State → Prop}
variable {cc : ByteArray} {pc : Nat} {ls : Array Slot} {rest : List Value} {D : va_G} {A : Nat → Prop} {own : String} {h0 : Nat} {fs : List Value} {wr ws : va_W} {cs : FieldType → ClassId} {G0 : wd_G} {N0 : Nat}
theorem cb_ist {i n q0 a : Nat} {x : Int32} {f : Nat → Int32} (X : cbX p s m args meth c cc own) (hK : va_K D vwCl (cbY cs) s) (hw : cbH D A s H locs ws) (ha : ws[q0]? = some (a, .inl (cs .int, n, .inl f))) (hi : i < n) (hn : n < 1000) (hd : decode cc pc = .ok (.iastore, 1))
    (kk : ∀ (H1 : Heap) (locs1 : List Loc), cbH D A s H1 locs1 (ws.set q0 (a, .inl (cs .int, n, .inl (upd f i x)))) → W p l e R s m args below meth c H1 locs1 cells slots Q (F0 m (pc + 1) ls rest)) : W p l e R s m args below meth c H locs cells slots Q (F0 m pc ls (.int x :: .int (nI i) :: .ref a :: rest)) := by
  refine va_iast (D := D) (cl := vwCl) (A := A) X.1 X.2.1 hK hw.1 hw.2.1 hw.2.2 q0 0 ha rfl (vp_in_nI hi (by omega)) hd (fun H1 locs1 hP1 hD1 hS1 => ?_)
  rw [nI_clamp (by omega)] at hP1 hD1
  exact kk H1 locs1 ⟨hP1, hD1, hS1⟩
set_option maxHeartbeats 4000000 in
theorem cb_callR {h : Nat → Nat} {M' : wd_M} {idx : Nat} {ps : List Nat} {σ σ' : wd_S} (X : cbX p s m args meth c cc own) (hKc : cbK D cs G0 N0 s) (hAN : ∀ q, A q → N0 ≤ q) (hml : c.maxLocals = ls.size) (hw : cbH D A s H locs (wd_ws wR (mkG G0 D h (clR cs)) σ (fun _ _ => 0))) (hl : wl_V own M' idx 0 ps = true) (hroom : M'.2.1.1 + 1 ≤ R.frames ∧ 8 + (M'.1.2.2.1 + 11) + M'.2.1.2 ≤ R.locals) (hd : decode cc pc = .ok (.invokevirtual idx, 3)) (hci : (wd_cl 5).1 = M'.1.1.cls) (hfit : 1 ≤ M'.1.2.2.1) (hcs : cells ≤ R.cells ∧ slots ≤ R.slots)
    (hrun : ∀ (G : wd_G) (τ : wd_T) (Q : wd_P), Q none σ' τ → Run wR G M' 0 (wd_ent [.ref 0] M'.1.2.2.1) [] σ τ Q)
    (kk : ∀ (H1 : Heap) (locs1 : List Loc), cbH D A s H1 locs1 (wd_ws wR (mkG G0 D h (clR cs)) σ' (fun _ _ => 0)) → W p l e R s m args below meth c H1 locs1 cells slots Q (F0 m (pc + 3) ls [])) : W p l e R s m args below meth c H locs cells slots Q (F0 m pc ls [.ref (h 0)]) := by
  obtain ⟨hP, hD, hS⟩ := hw
  have hBA := wd_AD hD
  have hBN : ∀ q, wd_A wR (mkG G0 D h (clR cs)) q → N0 ≤ q := fun q z => hAN q (hBA q z)
  refine wl_callV (M' := M') (w := wR) (G := mkG G0 D h (clR cs)) (σ := σ) (τ := fun _ _ => 0) (As := []) (rest := []) (d := 0) (ci := 5) (Q := fun r σ1 τ1 => r = none ∧ σ1 = σ' ∧ τ1 = fun _ _ => 0) X.1 X.2.1 X.2.2.1 X.2.2.2.1 hml hl hroom hd rfl hci (by decide) rfl hfit (Nat.zero_le _) hcs (mk_K hKc (wd_injD hD) wR_cl hBN) hBA (((cb_X hKc hAN hS).narrow hBN).mk) hP hS (hrun _ _ _ ⟨rfl, rfl, rfl⟩) (fun r σ1 τ1 H1 locs1 hq hP1 hz hk hS1 => ?_)
  obtain ⟨rfl, rfl, rfl⟩ := hq
  exact kk H1 locs1 ⟨hP1, wd_D2 hD, hS1⟩
end CB
set_option maxHeartbeats 8000000 in
theorem c_Model (l : Launch) (D : va_G) (cs : FieldType → ClassId) (G0 : wd_G) : Ctr l D cs G0 yX5_init cX5_init 2 rmR 5 (wfR D cs G0) := by
  refine Ctr.of (idx := 1) (q := 768) (by decide) rfl (by decide) (by decide +kernel) (by decide +kernel) (by decide +kernel) (by decide) (by decide) ?_
  intro p e s m below meth c ls h0 N0 X hKc hN1 hN2 hml hr hlk hls hA hAN hw
  have hl0 : ls[0]? = some (.val (.ref h0)) := lv_at hls 0 rfl
  refine cb_arrF (ci := 5) (k := 0) (idx := 7) (q := 777) (n := 183) (t0 := 0) (qa := 163) (pcA := 8) (atype := .int) (ty := .int) X hKc.1 hA hl0 hw (by decide +kernel) (by decide +kernel) (by decide +kernel) (by decide +kernel) (by decide +kernel) rfl rfl rfl ra_int (by decide +kernel) rfl (by decide) (by decide) (Nat.le_of_ble_eq_true rfl) (Nat.le_of_ble_eq_true rfl) (Nat.le_of_ble_eq_true rfl) (fun a1 H1 locs1 hw => ?_)
  refine cb_arrF (ci := 5) (k := 1) (idx := 13) (q := 778) (n := 61) (t0 := 0) (qa := 163) (pcA := 16) (atype := .int) (ty := .int) X hKc.1 hA hl0 hw (by decide +kernel) (by decide +kernel) (by decide +kernel) (by decide +kernel) (by decide +kernel) rfl rfl rfl ra_int (by decide +kernel) rfl (by decide) (by decide) (Nat.le_of_ble_eq_true rfl) (Nat.le_of_ble_eq_true rfl) (Nat.le_of_ble_eq_true rfl) (fun a2 H2 locs2 hw => ?_)
  refine cb_arrF (ci := 5) (k := 2) (idx := 16) (q := 779) (n := 2) (t0 := 2) (qa := 298) (pcA := 23) (atype := .boolean) (ty := .boolean) X hKc.1 hA hl0 hw (by decide +kernel) (by decide +kernel) (by decide +kernel) (by decide +kernel) (by decide +kernel) rfl rfl rfl ra_bool (by decide +kernel) rfl (by decide) (by decide) (Nat.le_of_ble_eq_true rfl) (Nat.le_of_ble_eq_true rfl) (Nat.le_of_ble_eq_true rfl) (fun a3 H3 locs3 hw => ?_)
  refine cb_arrF (ci := 5) (k := 3) (idx := 20) (q := 780) (n := 61) (t0 := 0) (qa := 163) (pcA := 31) (atype := .int) (ty := .int) X hKc.1 hA hl0 hw (by decide +kernel) (by decide +kernel) (by decide +kernel) (by decide +kernel) (by decide +kernel) rfl rfl rfl ra_int (by decide +kernel) rfl (by decide) (by decide) (Nat.le_of_ble_eq_true rfl) (Nat.le_of_ble_eq_true rfl) (Nat.le_of_ble_eq_true rfl) (fun a4 H4 locs4 hw => ?_)
  refine cb_arrF (ci := 5) (k := 5) (idx := 23) (q := 782) (n := 160) (t0 := 0) (qa := 163) (pcA := 40) (atype := .int) (ty := .int) X hKc.1 hA hl0 hw (by decide +kernel) (by decide +kernel) (by decide +kernel) (by decide +kernel) (by decide +kernel) rfl rfl rfl ra_int (by decide +kernel) rfl (by decide) (by decide) (Nat.le_of_ble_eq_true rfl) (Nat.le_of_ble_eq_true rfl) (Nat.le_of_ble_eq_true rfl) (fun a5 H5 locs5 hw => ?_)
  refine cb_arrF (ci := 5) (k := 19) (idx := 26) (q := 796) (n := 4) (t0 := 0) (qa := 163) (pcA := 47) (atype := .int) (ty := .int) X hKc.1 hA hl0 hw (by decide +kernel) (by decide +kernel) (by decide +kernel) (by decide +kernel) (by decide +kernel) rfl rfl rfl ra_int (by decide +kernel) rfl (by decide) (by decide) (Nat.le_of_ble_eq_true rfl) (Nat.le_of_ble_eq_true rfl) (Nat.le_of_ble_eq_true rfl) (fun a6 H6 locs6 hw => ?_)
  refine cb_arrF (ci := 5) (k := 25) (idx := 29) (q := 802) (n := 41) (t0 := 0) (qa := 163) (pcA := 55) (atype := .int) (ty := .int) X hKc.1 hA hl0 hw (by decide +kernel) (by decide +kernel) (by decide +kernel) (by decide +kernel) (by decide +kernel) rfl rfl rfl ra_int (by decide +kernel) rfl (by decide) (by decide) (Nat.le_of_ble_eq_true rfl) (Nat.le_of_ble_eq_true rfl) (Nat.le_of_ble_eq_true rfl) (fun a7 H7 locs7 hw => ?_)
  refine cb_arrF (ci := 5) (k := 26) (idx := 32) (q := 803) (n := 41) (t0 := 0) (qa := 163) (pcA := 63) (atype := .int) (ty := .int) X hKc.1 hA hl0 hw (by decide +kernel) (by decide +kernel) (by decide +kernel) (by decide +kernel) (by decide +kernel) rfl rfl rfl ra_int (by decide +kernel) rfl (by decide) (by decide) (Nat.le_of_ble_eq_true rfl) (Nat.le_of_ble_eq_true rfl) (Nat.le_of_ble_eq_true rfl) (fun a8 H8 locs8 hw => ?_)
  refine cb_arrF (ci := 5) (k := 27) (idx := 35) (q := 804) (n := 4) (t0 := 0) (qa := 163) (pcA := 70) (atype := .int) (ty := .int) X hKc.1 hA hl0 hw (by decide +kernel) (by decide +kernel) (by decide +kernel) (by decide +kernel) (by decide +kernel) rfl rfl rfl ra_int (by decide +kernel) rfl (by decide) (by decide) (Nat.le_of_ble_eq_true rfl) (Nat.le_of_ble_eq_true rfl) (Nat.le_of_ble_eq_true rfl) (fun a9 H9 locs9 hw => ?_)
  refine cb_arrF (ci := 5) (k := 28) (idx := 38) (q := 805) (n := 4) (t0 := 0) (qa := 163) (pcA := 77) (atype := .int) (ty := .int) X hKc.1 hA hl0 hw (by decide +kernel) (by decide +kernel) (by decide +kernel) (by decide +kernel) (by decide +kernel) rfl rfl rfl ra_int (by decide +kernel) rfl (by decide) (by decide) (Nat.le_of_ble_eq_true rfl) (Nat.le_of_ble_eq_true rfl) (Nat.le_of_ble_eq_true rfl) (fun a10 H10 locs10 hw => ?_)
  refine cb_arrF (ci := 5) (k := 29) (idx := 41) (q := 806) (n := 160) (t0 := 0) (qa := 163) (pcA := 86) (atype := .int) (ty := .int) X hKc.1 hA hl0 hw (by decide +kernel) (by decide +kernel) (by decide +kernel) (by decide +kernel) (by decide +kernel) rfl rfl rfl ra_int (by decide +kernel) rfl (by decide) (by decide) (Nat.le_of_ble_eq_true rfl) (Nat.le_of_ble_eq_true rfl) (Nat.le_of_ble_eq_true rfl) (fun a11 H11 locs11 hw => ?_)
  refine cb_arrF (ci := 5) (k := 31) (idx := 44) (q := 808) (n := 61) (t0 := 0) (qa := 163) (pcA := 94) (atype := .int) (ty := .int) X hKc.1 hA hl0 hw (by decide +kernel) (by decide +kernel) (by decide +kernel) (by decide +kernel) (by decide +kernel) rfl rfl rfl ra_int (by decide +kernel) rfl (by decide) (by decide) (Nat.le_of_ble_eq_true rfl) (Nat.le_of_ble_eq_true rfl) (Nat.le_of_ble_eq_true rfl) (fun a12 H12 locs12 hw => ?_)
  refine lv_iconst X.1 X.2.1 (show decode cX5_init 99 = .ok (.iconst 0, 1) by decide +kernel) (v := nI 0) rfl ?_
  refine lv_istore_n X.1 X.2.1 (show decode cX5_init 100 = .ok (.istore_n 1, 1) by decide +kernel) rfl hls (by decide) rfl (fun ls0 hls0 => ?_)
  refine lv_iload_n X.1 X.2.1 (show decode cX5_init 101 = .ok (.iload_n 1, 1) by decide +kernel) rfl (lv_at hls0 0 rfl) ?_
  refine lv_iconst X.1 X.2.1 (show decode cX5_init 102 = .ok (.iconst 4, 1) by decide +kernel) (v := 4) rfl ?_
  refine lv_icmp_ge (tgt := 120) X.1 X.2.1 (show decode cX5_init 103 = .ok (.if_icmp .ge 17, 3) by decide +kernel) rfl (fun z => absurd z (by decide)) (fun _ => ?_)
  refine lv_aload_n X.1 X.2.1 (show decode cX5_init 106 = .ok (.aload_n 0, 1) by decide +kernel) rfl (lv_at hls0 1 rfl) ?_
  refine cb_get (ci := 5) (k := 27) (idx := 35) (q := 804) (fin := true) (v := .ref a9) X hKc.1 hw (by decide +kernel) rfl (by decide +kernel) ?_
  refine lv_iload_n X.1 X.2.1 (show decode cX5_init 110 = .ok (.iload_n 1, 1) by decide +kernel) rfl (lv_at hls0 0 rfl) ?_
  refine lv_bipush X.1 X.2.1 (show decode cX5_init 111 = .ok (.bipush (-4), 2) by decide +kernel) (v := -4) rfl ?_
  refine cb_ist (i := 0) (n := 4) (q0 := 9) X hKc.1 hw rfl (by decide) (by decide) (by decide +kernel) (fun H20 locs20 hw => ?_)
  refine lv_iinc X.1 X.2.1 (show decode cX5_init 114 = .ok (.iinc 1 1, 3) by decide +kernel) hls0 (k := 0) rfl (v := nI 1) rfl (by decide) rfl (fun ls1 hls1 => ?_)
  refine lv_goto (tgt := 101) X.1 X.2.1 (show decode cX5_init 117 = .ok (.goto (-16), 3) by decide +kernel) rfl ?_
  refine lv_iload_n X.1 X.2.1 (show decode cX5_init 101 = .ok (.iload_n 1, 1) by decide +kernel) rfl (lv_at hls1 0 rfl) ?_
  refine lv_iconst X.1 X.2.1 (show decode cX5_init 102 = .ok (.iconst 4, 1) by decide +kernel) (v := 4) rfl ?_
  refine lv_icmp_ge (tgt := 120) X.1 X.2.1 (show decode cX5_init 103 = .ok (.if_icmp .ge 17, 3) by decide +kernel) rfl (fun z => absurd z (by decide)) (fun _ => ?_)
  refine lv_aload_n X.1 X.2.1 (show decode cX5_init 106 = .ok (.aload_n 0, 1) by decide +kernel) rfl (lv_at hls1 1 rfl) ?_
  refine cb_get (ci := 5) (k := 27) (idx := 35) (q := 804) (fin := true) (v := .ref a9) X hKc.1 hw (by decide +kernel) rfl (by decide +kernel) ?_
  refine lv_iload_n X.1 X.2.1 (show decode cX5_init 110 = .ok (.iload_n 1, 1) by decide +kernel) rfl (lv_at hls1 0 rfl) ?_
  refine lv_bipush X.1 X.2.1 (show decode cX5_init 111 = .ok (.bipush (-4), 2) by decide +kernel) (v := -4) rfl ?_
  refine cb_ist (i := 1) (n := 4) (q0 := 9) X hKc.1 hw rfl (by decide) (by decide) (by decide +kernel) (fun H21 locs21 hw => ?_)
  refine lv_iinc X.1 X.2.1 (show decode cX5_init 114 = .ok (.iinc 1 1, 3) by decide +kernel) hls1 (k := 0) rfl (v := nI 2) rfl (by decide) rfl (fun ls2 hls2 => ?_)
  refine lv_goto (tgt := 101) X.1 X.2.1 (show decode cX5_init 117 = .ok (.goto (-16), 3) by decide +kernel) rfl ?_
  refine lv_iload_n X.1 X.2.1 (show decode cX5_init 101 = .ok (.iload_n 1, 1) by decide +kernel) rfl (lv_at hls2 0 rfl) ?_
  refine lv_iconst X.1 X.2.1 (show decode cX5_init 102 = .ok (.iconst 4, 1) by decide +kernel) (v := 4) rfl ?_
  refine lv_icmp_ge (tgt := 120) X.1 X.2.1 (show decode cX5_init 103 = .ok (.if_icmp .ge 17, 3) by decide +kernel) rfl (fun z => absurd z (by decide)) (fun _ => ?_)
  refine lv_aload_n X.1 X.2.1 (show decode cX5_init 106 = .ok (.aload_n 0, 1) by decide +kernel) rfl (lv_at hls2 1 rfl) ?_
  refine cb_get (ci := 5) (k := 27) (idx := 35) (q := 804) (fin := true) (v := .ref a9) X hKc.1 hw (by decide +kernel) rfl (by decide +kernel) ?_
  refine lv_iload_n X.1 X.2.1 (show decode cX5_init 110 = .ok (.iload_n 1, 1) by decide +kernel) rfl (lv_at hls2 0 rfl) ?_
  refine lv_bipush X.1 X.2.1 (show decode cX5_init 111 = .ok (.bipush (-4), 2) by decide +kernel) (v := -4) rfl ?_
  refine cb_ist (i := 2) (n := 4) (q0 := 9) X hKc.1 hw rfl (by decide) (by decide) (by decide +kernel) (fun H22 locs22 hw => ?_)
  refine lv_iinc X.1 X.2.1 (show decode cX5_init 114 = .ok (.iinc 1 1, 3) by decide +kernel) hls2 (k := 0) rfl (v := nI 3) rfl (by decide) rfl (fun ls3 hls3 => ?_)
  refine lv_goto (tgt := 101) X.1 X.2.1 (show decode cX5_init 117 = .ok (.goto (-16), 3) by decide +kernel) rfl ?_
  refine lv_iload_n X.1 X.2.1 (show decode cX5_init 101 = .ok (.iload_n 1, 1) by decide +kernel) rfl (lv_at hls3 0 rfl) ?_
  refine lv_iconst X.1 X.2.1 (show decode cX5_init 102 = .ok (.iconst 4, 1) by decide +kernel) (v := 4) rfl ?_
  refine lv_icmp_ge (tgt := 120) X.1 X.2.1 (show decode cX5_init 103 = .ok (.if_icmp .ge 17, 3) by decide +kernel) rfl (fun z => absurd z (by decide)) (fun _ => ?_)
  refine lv_aload_n X.1 X.2.1 (show decode cX5_init 106 = .ok (.aload_n 0, 1) by decide +kernel) rfl (lv_at hls3 1 rfl) ?_
  refine cb_get (ci := 5) (k := 27) (idx := 35) (q := 804) (fin := true) (v := .ref a9) X hKc.1 hw (by decide +kernel) rfl (by decide +kernel) ?_
  refine lv_iload_n X.1 X.2.1 (show decode cX5_init 110 = .ok (.iload_n 1, 1) by decide +kernel) rfl (lv_at hls3 0 rfl) ?_
  refine lv_bipush X.1 X.2.1 (show decode cX5_init 111 = .ok (.bipush (-4), 2) by decide +kernel) (v := -4) rfl ?_
  refine cb_ist (i := 3) (n := 4) (q0 := 9) X hKc.1 hw rfl (by decide) (by decide) (by decide +kernel) (fun H23 locs23 hw => ?_)
  refine lv_iinc X.1 X.2.1 (show decode cX5_init 114 = .ok (.iinc 1 1, 3) by decide +kernel) hls3 (k := 0) rfl (v := nI 4) rfl (by decide) rfl (fun ls4 hls4 => ?_)
  refine lv_goto (tgt := 101) X.1 X.2.1 (show decode cX5_init 117 = .ok (.goto (-16), 3) by decide +kernel) rfl ?_
  refine lv_iload_n X.1 X.2.1 (show decode cX5_init 101 = .ok (.iload_n 1, 1) by decide +kernel) rfl (lv_at hls4 0 rfl) ?_
  refine lv_iconst X.1 X.2.1 (show decode cX5_init 102 = .ok (.iconst 4, 1) by decide +kernel) (v := 4) rfl ?_
  refine lv_icmp_ge (tgt := 120) X.1 X.2.1 (show decode cX5_init 103 = .ok (.if_icmp .ge 17, 3) by decide +kernel) rfl (fun _ => ?_) (fun z => absurd (by decide) z)
  have hm4 : c.maxLocals = ls4.size := hml.trans (hls.1.trans hls4.1.symm)
  have hw : cbH D (cbB h0 5 s.heap.size) s H23 locs23 (wd_ws wR (mkG G0 D (fn13 h0 a1 a2 a3 a4 a5 a6 a7 a8 a9 a10 a11 a12) (clR cs)) σ0R (fun _ _ => 0)) := hw
  refine lv_aload_n X.1 X.2.1 (show decode cX5_init 120 = .ok (.aload_n 0, 1) by decide +kernel) rfl (lv_at hls4 1 rfl) ?_
  refine cb_callR (h := fn13 h0 a1 a2 a3 a4 a5 a6 a7 a8 a9 a10 a11 a12) (M' := M_R_firstDraft) (idx := 47) (ps := [769, 772, 63, 771, 20]) (σ := σ0R) (σ' := σaR) X hKc hAN hm4 hw (by decide +kernel) ⟨by decide, by decide⟩ (by decide +kernel) rfl (by decide) ⟨Nat.le_of_ble_eq_true rfl, Nat.le_of_ble_eq_true rfl⟩ (fun G τ Q h => s_R_firstDraftE h) (fun H30 locs30 hw => ?_)
  refine lv_aload_n X.1 X.2.1 (show decode cX5_init 124 = .ok (.aload_n 0, 1) by decide +kernel) rfl (lv_at hls4 1 rfl) ?_
  refine cb_callR (h := fn13 h0 a1 a2 a3 a4 a5 a6 a7 a8 a9 a10 a11 a12) (M' := M_R_keepDraft) (idx := 50) (ps := [773, 776, 63, 775, 21]) (σ := σaR) (σ' := σ1R) X hKc hAN hm4 hw (by decide +kernel) ⟨by decide, by decide⟩ (by decide +kernel) rfl (by decide) ⟨Nat.le_of_ble_eq_true rfl, Nat.le_of_ble_eq_true rfl⟩ (fun G τ Q h => s_R_keepDraft h) (fun H31 locs31 hw => ?_)
  refine W.widen (k := 12) (n := 782) (Nat.le_of_ble_eq_true rfl) (Nat.le_of_ble_eq_true rfl) ?_
  exact cb_ret (wf := wfR D cs G0) (h := fn13 h0 a1 a2 a3 a4 a5 a6 a7 a8 a9 a10 a11 a12) X hr hlk rfl hw (by decide +kernel)
