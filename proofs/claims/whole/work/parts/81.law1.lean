/-! THE CLAIM OUT OF ONE WALK OF THE LAW'S BODY. Your part is whole_start (and what it stands on); all else here is the same for every law, but numbers. -/
def R_law : String := "WatchDogsLaw"
def lw_P (b : Addr) (xs : List Int32) (args : Array Value) (s : State) : Prop := args = #[.ref b] ∧ s.IntsAt b xs ∧ xs.length ≤ 2560 ∧ (Jvm.Cond.and given_1 narrow_1).before args s = true
def lw_Q (_ : Array Value) (s : State) (o : Outcome) (t : State) : Prop := o = .returned (some (.int 1)) ∧ Framed s o t [] 600000 7302250
def lw_Z (below : List Frame) (a : Array Value) (s : State) : State → Prop := fun t => ∃ o, t.status = .running ∧ Ended t below o ∧ lw_Q a s o t
/-- the law's own end, with 1 on the stack, nothing written that was there before, its room as the claim has it -/
theorem lw_ret {p : Program} {l : Launch} {e : Env} {s : State} {m : MethodId} {below : List Frame} {meth : Method} {c : Code} {b : Nat} (hx : p.tables.exec = Jvm.exec) (hb : c.code = code) (hr : meth.sig.returnType = ret) (hlocks : meth.locks = false) {pc : Nat} {H : Heap} {ls : Array Slot} (hdg : decode code pc = .ok (.ireturn, 1)) : W p l e room_1 s m #[Value.ref b] below meth c H [] 600000 7302250 (lw_Z below #[Value.ref b] s) (F0 m pc ls [.int 1]) := by
  intro T hT X
  obtain ⟨fs, hret, hrun, hended, hW, hframe⟩ := X.leave (v := some (.int 1)) (hlocks := hlocks) (fun h => by rw [hr] at h; cases h)
  have hmeth' : T.vm.method? m = some meth := X.method'
  refine ⟨T.setFrames fs, ?_, .returned (some (.int 1)), hrun, hended, rfl, ⟨_, rfl⟩, hW, hframe⟩
  jvm_step X.here [X.here.top, hx, hb, hdg, hmeth', hr, ret, narrow_b1]
  (try refine ⟨rfl, ?_⟩); (try refine ⟨rfl, ?_⟩)
  first | (intro acts; rw [hret _ acts rfl rfl rfl]) | rw [hret _ _ rfl rfl rfl]
  exact Steps.refl _
/-- what holds at the law's entry: the machine, the code, the tables' words (any of lw_tbl by 'hts w (by decide +kernel)'), the script of L ints xs at the cell b, what the Statement gives of the start (any of its parts by flat_of_before) -/
def lw_At (p : Program) (s : State) (m : MethodId) (meth : Method) (c : Code) (b L : Nat) (xs : Nat → Int32) : Prop :=
  p.tables.exec = Jvm.exec ∧ c.code = code ∧ meth.sig.returnType = ret ∧ c.maxLocals = 4 ∧ s.vm.findClass R_law = some m.cls ∧ (∀ w ∈ lw_tbl, w.before #[Value.ref b] s = true) ∧ va_X b L xs s s.heap ∧ b < s.heap.size ∧ meth.locks = false ∧ (Jvm.Cond.and given_1 narrow_1).before #[Value.ref b] s = true
/-! THE LAW'S OWN ROWS -/
def lwX (p : Program) (s : State) (m : MethodId) (args : Array Value) (c : Code) : Prop := p.tables.exec = Jvm.exec ∧ c.code = code ∧ (∀ w ∈ wd_gw, w.before args s = true) ∧ s.vm.findClass R_law = some m.cls
def lwA (pc j : Nat) : Bool := decide (decode code pc = .ok (.aload_n 0, 1)) && (decide (decode code (pc + 1) = .ok (.iload_n 3, 1)) && (decide (decode code (pc + 2) = .ok (.iconst j, 1)) && (decide (decode code (pc + 3) = .ok (.iadd, 1)) && (decide (decode code (pc + 4) = .ok (.iaload, 1)) && decide (Int32.ofInt j = nI j)))))
def lwB (pc k : Nat) : Nat → Bool
  | 0 => true
  | n + 1 => lwA pc k && lwB (pc + 5) (k + 1) n
def lwV (xs : Nat → Int32) (i k : Nat) : Nat → List Value
  | 0 => []
  | n + 1 => .int (xs (i + k)) :: lwV xs i (k + 1) n
theorem lwV_len {xs : Nat → Int32} {i k n : Nat} : (lwV xs i k n).length = n := by
  induction n generalizing k with
  | zero => rfl
  | succ n ih => rw [lwV, List.length_cons, ih]
theorem lwV_wv {xs : Nat → Int32} {i k n : Nat} {G : Nat → Nat} : (lwV xs i k n).map (wv G) = lwV xs i k n := by
  induction n generalizing k with
  | zero => rfl
  | succ n ih =>
    rw [lwV, List.map_cons, ih]
    rfl
def lwL (lg : Bool) (q : Nat) : Bool := cond lg (decide (decode code q = .ok (.lcmp, 1)) && decide (decode code (q + 1) = .ok (.ifCond .eq (1363 - ((q + 1 : Nat) : Int)), 3))) (decide (decode code q = .ok (.if_icmp .eq (1363 - (q : Int)), 3)))
theorem lwL_t {q : Nat} (h : lwL true q = true) : decode code q = .ok (.lcmp, 1) ∧ decode code (q + 1) = .ok (.ifCond .eq (1363 - ((q + 1 : Nat) : Int)), 3) := by
  simp only [lwL, cond_true, Bool.and_eq_true, decide_eq_true_eq] at h
  exact h
theorem lwL_f {q : Nat} (h : lwL false q = true) : decode code q = .ok (.if_icmp .eq (1363 - (q : Int)), 3) := by
  simp only [lwL, cond_false, decide_eq_true_eq] at h
  exact h
def lwC (lg : Bool) (pc n iC iR : Nat) : Bool := decide (decode code pc = .ok (.aload_n 1, 1)) && (lwB (pc + 1) 1 n && (decide (decode code (pc + 1 + 5 * n) = .ok (.invokevirtual iC, 3)) && (decide (decode code (pc + 1 + 5 * n + 3) = .ok (.aload_n 2, 1)) && (lwB (pc + 1 + 5 * n + 3 + 1) 1 n && (decide (decode code (pc + 1 + 5 * n + 3 + 1 + 5 * n) = .ok (.invokevirtual iR, 3)) && lwL lg (pc + 1 + 5 * n + 3 + 1 + 5 * n + 3))))))
/-- both worlds, and what does not change -/
def lwE (GC GR : wd_G) (s : State) : Prop := wd_K wC GC (wd_A wC GC) s ∧ wd_K wR GR (wd_A wR GR) s ∧ (∀ q, wd_A wC GC q → s.heap.size ≤ q) ∧ (∀ q, wd_A wR GR q → s.heap.size ≤ q) ∧ ∀ q, wd_A wC GC q → ¬ wd_A wR GR q
def lwH (GC GR : wd_G) (s : State) (H : Heap) (locs : List Loc) : Prop := va_S (fun q => s.heap.size ≤ q) s.heap H locs ∧ ∃ (σ ρ : wd_S) (τ υ : wd_T), va_P GC.1 vwCl (wd_ws wC GC σ τ) H ∧ va_P GR.1 vwCl (wd_ws wR GR ρ υ) H ∧ Inv σ ρ
theorem lw_keep {w w' : wd_Wd} {G G' : wd_G} {σ : wd_S} {τ : wd_T} {H H1 : Heap} (hP : va_P G'.1 vwCl (wd_ws w' G' σ τ) H) (hk : ∀ q : Nat, q < H.size → ¬ wd_A w G q → H1[q]? = H[q]?) (hd : ∀ q, wd_A w' G' q → ¬ wd_A w G q) : va_P G'.1 vwCl (wd_ws w' G' σ τ) H1 := fun k q hq => by
  have hl : k < w'.1 := by
    have := (List.getElem?_eq_some_iff.mp hq).1
    simpa [wd_ws] using this
  rw [wd_ws_at hl] at hq
  cases hq
  have h1 := hP k _ (wd_ws_at hl)
  exact h1.kept (hk _ h1.lt (hd _ ⟨k, hl, rfl⟩))
theorem lw_XH {w : wd_Wd} {G : wd_G} {s : State} {H : Heap} {locs : List Loc} (hK : wd_K w G (wd_A w G) s) (hS : va_S (fun q => s.heap.size ≤ q) s.heap H locs) : wd_X G (wd_A w G) s H := hK.2.2.2.2.kept (fun a h1 _ => hS.2.1 a h1 (Nat.not_le.mpr h1))
section LW
variable {p : Program} {l : Launch} {e : Env} {R : Room} {s : State} {m : MethodId} {args : Array Value} {below : List Frame} {meth : Method} {c : Code} {H : Heap} {locs : List Loc} {cells slots : Nat} {Q : State → Prop}
variable {pc : Nat} {ls : Array Slot} {st : List Value} {b L i : Nat} {xs : Nat → Int32} {GC GR : wd_G}
theorem lw_arg {j g r : Nat} (X : lwX p s m args c) (hX : va_X b L xs s s.heap) (hbl : b < s.heap.size) (hS : va_S (fun q => s.heap.size ≤ q) s.heap H locs) (hL : L ≤ 2560) (hl : lv_has ls 4 [(0, .ref b), (1, .ref g), (2, .ref r), (3, .int (nI i))]) (hj : i + j < L) (hk : lwA pc j = true) (kk : W p l e R s m args below meth c H locs cells slots Q (F0 m (pc + 5) ls (.int (xs (i + j)) :: st))) : W p l e R s m args below meth c H locs cells slots Q (F0 m pc ls st) := by
  unfold lwA at hk
  simp only [Bool.and_eq_true, decide_eq_true_eq] at hk
  obtain ⟨d0, d1, d2, d3, d4, d5⟩ := hk
  refine lv_aload_n X.1 X.2.1 d0 rfl (lv_at hl 0 rfl) ?_
  refine lv_iload_n X.1 X.2.1 d1 rfl (lv_at hl 3 rfl) ?_
  refine lv_iconst X.1 X.2.1 d2 d5 ?_
  refine lv_iadd X.1 X.2.1 d3 ?_
  rw [nI_add]
  refine va_sld (A := fun q => s.heap.size ≤ q) X.1 X.2.1 hX hbl (Nat.not_le.mpr hbl) hS (vp_in_nI hj (by omega)) d4 ?_
  rw [nI_clamp (by omega)]
  exact kk
theorem lw_args {g r : Nat} (X : lwX p s m args c) (hX : va_X b L xs s s.heap) (hbl : b < s.heap.size) (hS : va_S (fun q => s.heap.size ≤ q) s.heap H locs) (hL : L ≤ 2560) (hl : lv_has ls 4 [(0, .ref b), (1, .ref g), (2, .ref r), (3, .int (nI i))]) (n : Nat) : ∀ (k pc : Nat) (st : List Value), i + k + n ≤ L → lwB pc k n = true → W p l e R s m args below meth c H locs cells slots Q (F0 m (pc + 5 * n) ls ((lwV xs i k n).reverse ++ st)) → W p l e R s m args below meth c H locs cells slots Q (F0 m pc ls st) := by
  induction n with
  | zero => exact fun k pc st _ _ kk => kk
  | succ n ih =>
    intro k pc st hn hb kk
    have hb' := Bool.and_eq_true_iff.mp hb
    refine lw_arg (j := k) X hX hbl hS hL hl (by omega) hb'.1 ?_
    refine ih (k + 1) (pc + 5) _ (by omega) hb'.2 ?_
    rw [show pc + 5 + 5 * n = pc + 5 * (n + 1) by omega]
    rw [lwV, List.reverse_cons, List.append_assoc] at kk
    exact kk
theorem lw_cmp0 (x : Int64) : lg_cmp x x = 0 := by
  unfold lg_cmp
  rw [if_neg (by simp), if_pos rfl]
set_option maxHeartbeats 4000000 in
/-- one call of both -/
theorem lw_case {lg : Bool} {n iC iR : Nat} {MC MR : wd_M} {psC psR : List Nat} (X : lwX p s m args c) (hX : va_X b L xs s s.heap) (hbl : b < s.heap.size) (hL : L ≤ 2560) (hml : c.maxLocals = ls.size) (hl : lv_has ls 4 [(0, .ref b), (1, .ref (GC.2.1 0)), (2, .ref (GR.2.1 0)), (3, .int (nI i))]) (hE : lwE GC GR s) (hH : lwH GC GR s H locs) (hcs : cells ≤ R.cells ∧ slots ≤ R.slots) (hn : i + 1 + n ≤ L) (hB : BoV MC MR (lwV xs i 1 n) (cond lg isL isI)) (hk : lwC lg pc n iC iR = true) (hlC : wl_V R_law MC iC n psC = true) (hlR : wl_V R_law MR iR n psR = true) (hrC : MC.2.1.1 + 1 ≤ R.frames ∧ 8 + (MC.1.2.2.1 + 11) + MC.2.1.2 ≤ R.locals) (hrR : MR.2.1.1 + 1 ≤ R.frames ∧ 8 + (MR.1.2.2.1 + 11) + MR.2.1.2 ≤ R.locals) (hcC : (wd_cl 4).1 = MC.1.1.cls) (hcR : (wd_cl 5).1 = MR.1.1.cls) (hfC : (wd_en (.ref 0 :: lwV xs i 1 n)).length ≤ MC.1.2.2.1) (hfR : (wd_en (.ref 0 :: lwV xs i 1 n)).length ≤ MR.1.2.2.1)
    (kk : ∀ (H1 : Heap) (locs1 : List Loc), lwH GC GR s H1 locs1 → W p l e R s m args below meth c H1 locs1 cells slots Q (F0 m 1363 ls [])) : W p l e R s m args below meth c H locs cells slots Q (F0 m pc ls []) := by
  unfold lwC at hk
  simp only [Bool.and_eq_true, decide_eq_true_eq] at hk
  obtain ⟨d0, d1, d2, d3, d4, d5, d6⟩ := hk
  obtain ⟨hS, σ, ρ, τ, υ, hPC, hPR, hI⟩ := hH
  obtain ⟨v, hv, QC, QR, runC, runR, hQ⟩ := hB GC GR σ ρ τ υ hI
  refine lv_aload_n X.1 X.2.1 d0 rfl (lv_at hl 1 rfl) ?_
  refine lw_args X hX hbl hS hL hl n 1 _ _ hn d1 ?_
  have e1 := lwV_wv (xs := xs) (i := i) (k := 1) (n := n) (G := GC.2.1)
  have e2 := lwV_wv (xs := xs) (i := i) (k := 1) (n := n) (G := GR.2.1)
  have callC := wl_callV (p := p) (l := l) (e := e) (R := R) (below := below) (meth := meth) (H := H) (locs := locs) (cells := cells) (slots := slots) (Qf := Q) (ls := ls) (As := lwV xs i 1 n) (rest := []) (d := 0) (ci := 4) (A := fun q => s.heap.size ≤ q) X.1 X.2.1 X.2.2.1 X.2.2.2 hml hlC hrC d2 rfl hcC (by decide) lwV_len hfC (Nat.zero_le _) hcs hE.1 hE.2.2.1 (lw_XH hE.1 hS) hPC hS runC
  rw [e1] at callC
  refine callC (fun r σ1 τ1 H1 locs1 hq hPC1 hz hk1 hS1 => ?_)
  obtain ⟨rfl, hqC⟩ := hq
  have hPR1 := lw_keep hPR hk1 (fun q h1 h2 => hE.2.2.2.2 q h2 h1)
  refine lv_aload_n X.1 X.2.1 d3 rfl (lv_at hl 2 rfl) ?_
  refine lw_args X hX hbl hS1 hL hl n 1 _ _ hn d4 ?_
  have hcat : ((((some v).map (wv GC.2.1)).toList ++ []).map fun x : Value => x.category).sum ≤ 8 := by
    cases lg with
    | true =>
      obtain ⟨x, rfl⟩ := hv
      exact Nat.le_of_ble_eq_true rfl
    | false =>
      obtain ⟨x, rfl⟩ := hv
      exact Nat.le_of_ble_eq_true rfl
  have callR := wl_callV (p := p) (l := l) (e := e) (R := R) (below := below) (meth := meth) (H := H1) (locs := locs1) (cells := cells) (slots := slots) (Qf := Q) (ls := ls) (As := lwV xs i 1 n) (rest := ((some v).map (wv GC.2.1)).toList ++ []) (d := 0) (ci := 5) (A := fun q => s.heap.size ≤ q) X.1 X.2.1 X.2.2.1 X.2.2.2 hml hlR hrR d5 rfl hcR (by decide) lwV_len hfR hcat hcs hE.2.1 hE.2.2.2.1 (lw_XH hE.2.1 hS1) hPR1 hS1 runR
  rw [e2] at callR
  refine callR (fun r ρ1 υ1 H2 locs2 hq hPR2 hz2 hk2 hS2 => ?_)
  obtain ⟨rfl, hqR⟩ := hq
  have hPC2 := lw_keep hPC1 hk2 hE.2.2.2.2
  have fin := kk H2 locs2 ⟨hS2, σ1, ρ1, τ1, υ1, hPC2, hPR2, hQ σ1 ρ1 hqC hqR⟩
  cases lg with
  | true =>
    obtain ⟨x, rfl⟩ := hv
    have d6' := lwL_t d6
    refine W.lcmp (x := x) (y := x) (rest := []) X.1 X.2.1 d6'.1 ?_
    rw [lw_cmp0]
    exact lv_if_eq (tgt := 1363) X.1 X.2.1 d6'.2 (by omega) (fun _ => fin) (fun z => absurd rfl z)
  | false =>
    obtain ⟨x, rfl⟩ := hv
    exact lv_icmp_eq (x := x) (y := x) (rest := []) (tgt := 1363) X.1 X.2.1 (lwL_f d6) (by omega) (fun _ => fin) (fun z => absurd rfl z)
end LW
