/-! CALLS out of any walk, of methods that Run tells of -/
section WL
variable {p : Program} {l : Launch} {e : Env} {R : Room} {s : State} {m : MethodId} {args : Array Value} {below : List Frame} {meth : Method} {c : Code} {H : Heap} {locs : List Loc} {cells slots : Nat} {Qf : State → Prop}
variable {cc : ByteArray} {pc : Nat} {ls : Array Slot} {A : Nat → Prop} {own : String} {w : wd_Wd} {G : wd_G} {M' : wd_M} {σ : wd_S} {τ : wd_T} {Q : wd_P}
theorem wl_back {st0 rest : List Value} {a : Array Value} (hr : va_Run p l e R s m args below meth c H locs cells slots 0 0 (F0 m pc ls st0) rest (wd_Qc w G Q a) (wd_A w G)) (hS : va_S A s.heap H locs) (hA : ∀ q, wd_A w G q → A q)
    (kk : ∀ (r : Option Value) (σ' : wd_S) (τ' : wd_T) (H1 : Heap) (locs1 : List Loc), Q r σ' τ' → va_P G.1 vwCl (wd_ws w G σ' τ') H1 → H.size ≤ H1.size → (∀ q : Nat, q < H.size → ¬ wd_A w G q → H1[q]? = H[q]?) → va_S A s.heap H1 locs1 → W p l e R s m args below meth c H1 locs1 cells slots Qf (F0 m (pc + 3) ls ((r.map (wv G.2.1)).toList ++ rest))) : W p l e R s m args below meth c H locs cells slots Qf (F0 m pc ls st0) := by
  intro T hT X
  obtain ⟨v, st₀, t, T', L, h0, X', hL, e1, e2, ⟨r, σ', τ', hv, hq, hP', hz, hk⟩, st⟩ := hr T hT X
  have hv := Outcome.returned.inj hv
  subst hv
  rw [h0] at hz hk
  obtain ⟨t2, a1, b1⟩ := kk r σ' τ' T'.heap (locs ++ L) hq (by rw [e1]; exact hP') (by rw [e1]; exact hz) (fun q h1 h2 => by rw [e1]; exact hk q h1 h2) ⟨Nat.le_trans hS.1 (by rw [e1]; exact hz), fun q h1 h2 => by rw [e1, hk q (Nat.lt_of_lt_of_le h1 hS.1) (fun z => h2 (hA q z))]; exact hS.2.1 q h1 h2, fun q hq => by
      rcases List.mem_append.mp hq with h | h
      · exact hS.2.2 q h
      · exact hA _ (hL q h)⟩ T' rfl X'
  exact ⟨t2, st t2 a1, b1⟩
def wl_cee (M' : wd_M) (n : Nat) : Bool :=
  decide (M'.1.1.cls ≠ "java/lang/invoke/MethodHandle" ∧ M'.1.1.cls ≠ "java/lang/invoke/VarHandle" ∧ (parseMethodDescriptor M'.1.1.desc).map (fun d => d.parameters.length) = some n) && plainName M'.1.1.cls
def wl_V (own : String) (M' : wd_M) (idx n : Nat) (ps : List Nat) : Bool := wd_ats ps [.methodLink own idx M'.1.1, .code M'.1.1 M'.1.2.1 M'.1.2.2.1 M'.1.2.2.2, .initialized M'.1.1.cls, .instanceMethod M'.1.1, .selects M'.1.1.cls M'.1.1 M'.1.1] && wl_cee M' n
def wl_S (own : String) (M' : wd_M) (idx n : Nat) (ps : List Nat) : Bool := wd_ats ps [.methodLink own idx M'.1.1, .code M'.1.1 M'.1.2.1 M'.1.2.2.1 M'.1.2.2.2, .initialized M'.1.1.cls, .static M'.1.1] && wl_cee M' n
set_option maxHeartbeats 4000000 in
theorem wl_callV {idx n d ci : Nat} {ps : List Nat} {As rest : List Value} (hx : p.tables.exec = Jvm.exec) (hb : c.code = cc) (hts : ∀ w ∈ wd_gw, w.before args s = true) (hown : s.vm.findClass own = some m.cls) (hml : c.maxLocals = ls.size) (hl : wl_V own M' idx n ps = true) (hroom : M'.2.1.1 + 1 ≤ R.frames ∧ 8 + (M'.1.2.2.1 + 11) + M'.2.1.2 ≤ R.locals) (hd : decode cc pc = .ok (.invokevirtual idx, 3)) (ho : wd_obj w d ci = true) (hci : (wd_cl ci).1 = M'.1.1.cls) (h6 : ci < 6) (hn : As.length = n) (hfit : (wd_en (.ref d :: As)).length ≤ M'.1.2.2.1) (hsm : (rest.map fun v => v.category).sum ≤ 8) (hcs : cells ≤ R.cells ∧ slots ≤ R.slots) (hK : wd_K w G (wd_A w G) s) (hA : ∀ q, wd_A w G q → A q) (hXH : wd_X G (wd_A w G) s H) (hP : va_P G.1 vwCl (wd_ws w G σ τ) H) (hS : va_S A s.heap H locs)
    (h : Run w G M' 0 (wd_ent (.ref d :: As) M'.1.2.2.1) [] σ τ Q)
    (kk : ∀ (r : Option Value) (σ' : wd_S) (τ' : wd_T) (H1 : Heap) (locs1 : List Loc), Q r σ' τ' → va_P G.1 vwCl (wd_ws w G σ' τ') H1 → H.size ≤ H1.size → (∀ q : Nat, q < H.size → ¬ wd_A w G q → H1[q]? = H[q]?) → va_S A s.heap H1 locs1 → W p l e R s m args below meth c H1 locs1 cells slots Qf (F0 m (pc + 3) ls ((r.map (wv G.2.1)).toList ++ rest))) : W p l e R s m args below meth c H locs cells slots Qf (F0 m pc ls ((As.map (wv G.2.1)).reverse ++ .ref (G.2.1 d) :: rest)) := by
  have hl' := Bool.and_eq_true_iff.mp hl
  have hc' := Bool.and_eq_true_iff.mp hl'.2
  have hw := wd_ats_mem hl'.1
  have hwd := fun (x : Cond) hx => hts x (hw x hx)
  have hcode : Cond.code M'.1.1 M'.1.2.1 M'.1.2.2.1 M'.1.2.2.2 ∈ wd_gw := hw _ (by simp)
  obtain ⟨h1, h2⟩ := wd_obj_is ho
  have he := wd_ws_at (G := G) (σ := σ) (τ := τ) h1
  rw [wd_cell_o h2] at he
  have hrec := va_recv hK.2.1 hP (wd_cl_at h6) he
  rw [hci] at hrec
  have cw : CallW R s args own M'.1.1.cls idx M'.1.1 M'.1.2.1 M'.1.2.2.1 M'.1.2.2.2 (wd_wsM M') (wd_rm M') 0 0 n :=
    ⟨callB_of n hts (wd_good hcode) rfl rfl rfl (hwd _ (by simp)) (hwd _ (by simp)) (of_decide_eq_true hc'.1) hroom, hwd _ (by simp), hwd _ (by simp)⟩
  have hm := wd_met (l := l) hc'.2 hfit h
  exact wl_back (va_runV (As := As.map (wv G.2.1)) (rest := rest) (b := G.2.1 d) ⟨hx, hb, hml, hown, hts⟩ hm cw ⟨wd_blind, hrec, fun U hU hW => ⟨rfl, by rw [hU]; exact hP, wd_K.warm hW (by rw [hU]; exact hXH) hK⟩⟩ rfl (by rw [List.length_map]; exact hn) rfl rfl (lv_room hsm) hd hcs) hS hA kk
set_option maxHeartbeats 4000000 in
theorem wl_callS {idx n : Nat} {ps : List Nat} {As rest : List Value} (hx : p.tables.exec = Jvm.exec) (hb : c.code = cc) (hts : ∀ w ∈ wd_gw, w.before args s = true) (hown : s.vm.findClass own = some m.cls) (hml : c.maxLocals = ls.size) (hl : wl_S own M' idx n ps = true) (hroom : M'.2.1.1 + 1 ≤ R.frames ∧ 8 + (M'.1.2.2.1 + 11) + M'.2.1.2 ≤ R.locals) (hd : decode cc pc = .ok (.invokestatic idx, 3)) (hn : As.length = n) (hfit : (wd_en As).length ≤ M'.1.2.2.1) (hsm : (rest.map fun v => v.category).sum ≤ 8) (hcs : cells ≤ R.cells ∧ slots ≤ R.slots) (hK : wd_K w G (wd_A w G) s) (hA : ∀ q, wd_A w G q → A q) (hXH : wd_X G (wd_A w G) s H) (hP : va_P G.1 vwCl (wd_ws w G σ τ) H) (hS : va_S A s.heap H locs)
    (h : Run w G M' 0 (wd_ent As M'.1.2.2.1) [] σ τ Q)
    (kk : ∀ (r : Option Value) (σ' : wd_S) (τ' : wd_T) (H1 : Heap) (locs1 : List Loc), Q r σ' τ' → va_P G.1 vwCl (wd_ws w G σ' τ') H1 → H.size ≤ H1.size → (∀ q : Nat, q < H.size → ¬ wd_A w G q → H1[q]? = H[q]?) → va_S A s.heap H1 locs1 → W p l e R s m args below meth c H1 locs1 cells slots Qf (F0 m (pc + 3) ls ((r.map (wv G.2.1)).toList ++ rest))) : W p l e R s m args below meth c H locs cells slots Qf (F0 m pc ls ((As.map (wv G.2.1)).reverse ++ rest)) := by
  have hl' := Bool.and_eq_true_iff.mp hl
  have hc' := Bool.and_eq_true_iff.mp hl'.2
  have hw := wd_ats_mem hl'.1
  have hwd := fun (x : Cond) hx => hts x (hw x hx)
  have hcode : Cond.code M'.1.1 M'.1.2.1 M'.1.2.2.1 M'.1.2.2.2 ∈ wd_gw := hw _ (by simp)
  have cw : CallB R s args own idx M'.1.1 M'.1.2.1 M'.1.2.2.1 M'.1.2.2.2 (wd_wsM M') (wd_rm M') 0 0 n ∧ (Cond.static M'.1.1).before args s = true :=
    ⟨callB_of n hts (wd_good hcode) rfl rfl rfl (hwd _ (by simp)) (hwd _ (by simp)) (of_decide_eq_true hc'.1) hroom, hwd _ (by simp)⟩
  have hm := wd_met (l := l) hc'.2 hfit h
  exact wl_back (va_runS (As := As.map (wv G.2.1)) (rest := rest) ⟨hx, hb, hml, hown, hts⟩ hm cw ⟨wd_blind, fun U hU hW => ⟨rfl, by rw [hU]; exact hP, wd_K.warm hW (by rw [hU]; exact hXH) hK⟩⟩ rfl (by rw [List.length_map]; exact hn) rfl rfl (lv_room hsm) hd hcs) hS hA kk
end WL
/-- cells and their addresses; strings as they were -/
def mkG (G0 : wd_G) (D : va_G) (ad : Nat → Nat) (cl : Nat → ClassId) : wd_G := (D, (fun c => cond (Nat.blt c 1000) (ad c) (G0.2.1 c)), cl)
theorem mkG_s {G0 : wd_G} {D : va_G} {ad : Nat → Nat} {cl : Nat → ClassId} {c : Nat} (h : 1000 ≤ c) : (mkG G0 D ad cl).2.1 c = G0.2.1 c := by
  have e : Nat.blt c 1000 = false := by
    cases hh : Nat.blt c 1000 with
    | false => rfl
    | true => exact absurd (wd_blt hh) (by omega)
  show cond (Nat.blt c 1000) (ad c) (G0.2.1 c) = _
  rw [e]
  rfl
theorem mkG_a {G0 : wd_G} {D : va_G} {ad : Nat → Nat} {cl : Nat → ClassId} {c : Nat} (h : c < 1000) : (mkG G0 D ad cl).2.1 c = ad c := by
  have e : Nat.blt c 1000 = true := Nat.ble_eq_true_of_le h
  show cond (Nat.blt c 1000) (ad c) (G0.2.1 c) = _
  rw [e]
  rfl
theorem wd_X.narrow {G : wd_G} {A B : Nat → Prop} {U : State} {H : Heap} (h : wd_X G A U H) (hAB : ∀ q, B q → A q) : wd_X G B U H := ⟨h.1.narrow hAB, h.2.1, h.2.2.1.narrow hAB, h.2.2.2.narrow hAB⟩
theorem wd_X.mk {G0 : wd_G} {D : va_G} {ad : Nat → Nat} {cl : Nat → ClassId} {A : Nat → Prop} {U : State} {H : Heap} (h : wd_X G0 A U H) : wd_X (mkG G0 D ad cl) A U H := by
  have e1 : (fun i => (mkG G0 D ad cl).2.1 (1000 + i)) = fun i => G0.2.1 (1000 + i) := funext fun i => mkG_s (by omega)
  have e2 : (fun i => (mkG G0 D ad cl).2.1 (1100 + i)) = fun i => G0.2.1 (1100 + i) := funext fun i => mkG_s (by omega)
  unfold wd_X
  rw [e1, e2]
  refine ⟨h.1, fun i hi => ?_, h.2.2⟩
  rw [mkG_s (by omega)]
  exact h.2.1 i hi
/-- what a world needs, out of a constructor's knowledge -/
theorem mk_K {D : va_G} {cs : FieldType → ClassId} {G0 : wd_G} {N0 : Nat} {s : State} {w : wd_Wd} {ad : Nat → Nat} {cl : Nat → ClassId} {B : Nat → Prop} (hK : cbK D cs G0 N0 s) (hinj : wd_inj w (mkG G0 D ad cl)) (hcl : ∀ c ty, c < w.1 → wd_arr (w.2.1 c) = some ty → ty ∈ cbT ∧ cl c = cs ty) (hB : ∀ q, B q → N0 ≤ q) : wd_K w (mkG G0 D ad cl) B s := by
  refine ⟨hinj, ⟨hK.1.1, fun k q hq => by simp at hq⟩, fun c ty hc ht => ?_, hK.2.1, (hK.2.2.1.narrow hB).mk⟩
  obtain ⟨h1, h2⟩ := hcl c ty hc ht
  show ArrOfT s (cl c) ty ∧ va_RA s (cl c) ty
  rw [h2]
  obtain ⟨k, hk⟩ := List.getElem?_of_mem h1
  exact hK.1.2 k (cs ty, ty) (by rw [cbY, List.getElem?_map, hk]; rfl)
