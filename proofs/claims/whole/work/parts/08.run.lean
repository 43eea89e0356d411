/-! THE LOGIC, part 6: stretches and calls -/
section WS
variable {w : wd_Wd} {G : wd_G} {M : wd_M} {Q : wd_P} {K : wd_C} {pc : Nat} {lv : wd_L} {st : List Value} {σ : wd_S} {τ : wd_T}
theorem wd_sound (hok : wd_chk M pc = true) (hk : ∀ pc lv st σ τ, K pc lv st σ τ → Run w G M pc lv st σ τ Q) (h : wd_sem w M.1.2.2.2 (M.2.2.2 pc) K Q lv st σ τ) : Run w G M pc lv st σ τ Q := by
  unfold wd_chk at hok
  generalize hf : M.2.2.2 pc = f at hok h
  obtain ⟨k, nx, as, v, u⟩ := f
  rcases Bool.or_eq_true_iff.mp hok with hb | hok
  · have hk90 : 90 ≤ k := Nat.le_of_ble_eq_true hb
    have e13 : Nat.ble k 13 = false := by cases hh : Nat.ble k 13 with
      | false => rfl
      | true => exact absurd (Nat.le_of_ble_eq_true hh) (by omega)
    have e46 : Nat.ble k 46 = false := by cases hh : Nat.ble k 46 with
      | false => rfl
      | true => exact absurd (Nat.le_of_ble_eq_true hh) (by omega)
    have e61 : Nat.ble k 61 = false := by cases hh : Nat.ble k 61 with
      | false => rfl
      | true => exact absurd (Nat.le_of_ble_eq_true hh) (by omega)
    simp only [wd_sem, e13, e46, e61, cond_false] at h
    unfold wd_A5 at h
    split at h <;> first | exact h.elim | omega
  · obtain ⟨hd, hok⟩ := Bool.and_eq_true_iff.mp hok
    obtain ⟨hn, hx⟩ := Bool.and_eq_true_iff.mp hok
    have hd := of_decide_eq_true hd
    have hn := Nat.eq_of_beq_eq_true hn
    dsimp only at hd hn hx
    unfold wd_sem at h
    dsimp only at h
    cases e13 : Nat.ble k 13 with
    | true =>
      rw [e13] at h
      exact wd_sound1 (u := u) hd hn hx hk h
    | false =>
      rw [e13] at h
      cases e46 : Nat.ble k 46 with
      | true =>
        rw [e46] at h
        cases e30 : Nat.ble k 30 with
        | true =>
          rw [e30] at h
          exact wd_sound2 (u := u) hd hn hx hk h
        | false =>
          rw [e30] at h
          exact wd_sound3 hd hn hk h
      | false =>
        rw [e46] at h
        cases e61 : Nat.ble k 61 with
        | true =>
          rw [e61] at h
          exact wd_sound4 (u := u) hd hn hx hk h
        | false =>
          rw [e61] at h
          exact wd_sound5 (u := u) hd hn hx hk h
/-- every place of a method's table is as the code says -/
def wd_okA (M : wd_M) : Prop := ∀ pc, wd_chk M pc = true
theorem wd_okM {M : wd_M} {f : Nat → wd_Lf} (hM : ∀ pc, M.2.2.2 pc = cond (Nat.ble M.2.2.1 pc) (99, 0, [], 0, 0) (f pc)) (h : (List.range M.2.2.1).all (wd_chk M) = true) : wd_okA M := by
  intro pc
  by_cases hp : pc < M.2.2.1
  · exact List.all_eq_true.mp h pc (List.mem_range.mpr hp)
  · have e : Nat.ble M.2.2.1 pc = true := Nat.ble_eq_true_of_le (by omega)
    have e2 := hM pc
    rw [e] at e2
    unfold wd_chk
    rw [e2]
    rfl
theorem wd_run {R : wd_C} (hok : wd_okA M) (S : List Nat) (hR : ∀ pc lv st σ τ, R pc lv st σ τ → Run w G M pc lv st σ τ Q) : ∀ (n : Nat) {pc : Nat} {lv : wd_L} {st : List Value} {σ : wd_S} {τ : wd_T}, wd_blk w M S Q R n pc lv st σ τ → Run w G M pc lv st σ τ Q
  | 0, _, _, _, _, _, h => hR _ _ _ _ _ h
  | n + 1, pc, lv, st, σ, τ, h => by
    refine wd_sound (hok pc) (fun pc' lv' st' σ' τ' hh => ?_) h
    cases hb : (S.elem pc' || Nat.ble 90 (M.2.2.2 pc').1) with
    | true =>
      rw [hb] at hh
      exact hR _ _ _ _ _ hh
    | false =>
      rw [hb] at hh
      exact wd_run hok S hR n hh
/-- a stretch, its end any predicate that a run gives -/
theorem wd_go (hok : wd_okA M) (S : List Nat) (n : Nat) (h : ∀ R : wd_C, (∀ {pc lv st σ τ}, Run w G M pc lv st σ τ Q → R pc lv st σ τ) → wd_blk w M S Q R n pc lv st σ τ) : Run w G M pc lv st σ τ Q :=
  wd_run hok S (fun _ _ _ _ _ h => h) n (h (fun pc lv st σ τ => Run w G M pc lv st σ τ Q) (fun h => h))
/-! calls -/
def wd_en : List Value → wd_L
  | [] => []
  | .long x :: r => some (.long x) :: none :: wd_en r
  | .double x :: r => some (.double x) :: none :: wd_en r
  | v :: r => some v :: wd_en r
def wd_ent (vs : List Value) (n : Nat) : wd_L := wd_en vs ++ List.replicate (n - (wd_en vs).length) none
theorem wd_en_len (a : Nat → Nat) : ∀ vs : List Value, (lg_sl (vs.map (wv a))).length = (wd_en vs).length
  | [] => rfl
  | v :: r => by
    have ih := wd_en_len a r
    cases v <;> simp [lg_sl, wv, wd_en, Value.category] at ih ⊢ <;> omega
theorem wd_en_at (a : Nat → Nat) : ∀ {vs : List Value} {i j : Nat} {v : Value}, (wd_en vs)[i]? = some (some v) → (j + i, wv a v) ∈ lv_args j (vs.map (wv a))
  | [], i, j, v, h => by simp [wd_en] at h
  | x :: r, i, j, v, h => by
    by_cases hc : x.category = 2
    · have e : wd_en (x :: r) = some x :: none :: wd_en r := by cases x <;> first | rfl | exact absurd hc (by simp [Value.category])
      rw [e] at h
      have e2 : lv_args j ((x :: r).map (wv a)) = (j, wv a x) :: lv_args (j + 2) (r.map (wv a)) := by
        rw [List.map_cons, lv_args, wv_cat, if_pos hc]
      rw [e2]
      match i, h with
      | 0, h =>
        simp at h
        subst h
        exact List.mem_cons_self
      | 1, h => simp at h
      | i + 2, h =>
        have := wd_en_at a (j := j + 2) (i := i) (v := v) (vs := r) (by simpa using h)
        refine List.mem_cons_of_mem _ ?_
        rw [show j + (i + 2) = j + 2 + i by omega]
        exact this
    · have e : wd_en (x :: r) = some x :: wd_en r := by cases x <;> first | rfl | exact absurd rfl hc
      rw [e] at h
      have e2 : lv_args j ((x :: r).map (wv a)) = (j, wv a x) :: lv_args (j + 1) (r.map (wv a)) := by
        rw [List.map_cons, lv_args, wv_cat, if_neg hc]
      rw [e2]
      match i, h with
      | 0, h =>
        simp at h
        subst h
        exact List.mem_cons_self
      | i + 1, h =>
        have := wd_en_at a (j := j + 1) (i := i) (v := v) (vs := r) (by simpa using h)
        refine List.mem_cons_of_mem _ ?_
        rw [show j + (i + 1) = j + 1 + i by omega]
        exact this
theorem wd_ent_ok (a : Nat → Nat) {vs : List Value} {n : Nat} (h : (wd_en vs).length ≤ n) : wd_lok a ((lg_sl (vs.map (wv a)) ++ List.replicate (n - (lg_sl (vs.map (wv a))).length) Slot.unset).toArray) n (wd_ent vs n) := by
  have h1 := lv_entry (vs.map (wv a)) (n := n) (by rw [wd_en_len]; exact h)
  refine ⟨h1.1, h1.2.1, fun i v hv => ?_⟩
  have hi : (wd_en vs)[i]? = some (some v) := by
    unfold wd_ent at hv
    by_cases hl : i < (wd_en vs).length
    · rwa [List.getElem?_append_left hl] at hv
    · rw [List.getElem?_append_right (by omega)] at hv
      have := List.eq_of_mem_replicate (List.mem_of_getElem? hv)
      cases this
  have := wd_en_at a (j := 0) hi
  rw [Nat.zero_add] at this
  exact h1.2.2 _ this
set_option maxHeartbeats 4000000 in
theorem wd_met {l : Launch} {vs : List Value} (hy : plainName M.1.1.cls = true) (hfit : (wd_en vs).length ≤ M.1.2.2.1) (h : Run w G M 0 (wd_ent vs M.1.2.2.1) [] σ τ Q) :
    Met l M.1.1 (wd_wsM M) (wd_rm M) (va_Pc (vs.map (wv G.2.1)) (fun U => va_P G.1 vwCl (wd_ws w G σ τ) U.heap ∧ wd_K w G (wd_A w G) U)) (wd_Qc w G Q) 0 0 (wd_A w G) := by
  refine Met.ofW (cc := M.1.2.1) (maxL := M.1.2.2.1) (ret := M.1.2.2.2) hy rfl ?_
  intro p e s m args below meth c s₁ B hml hv
  obtain ⟨rfl, hP, hK⟩ := hv
  rw [lg_entry_eq]
  exact h p l e s m _ below meth c s.heap [] _ ⟨B.exec, B.bytes, hml, B.returns, B.notSynchronized, findClass_of_methodNamed B.named, fun x hx => atoms_spec (ws := wd_wsM M) B.pre x (List.mem_cons_of_mem _ hx), hK⟩ hP va_S.rf (wd_ent_ok G.2.1 hfit)
theorem wd_blind {vs : List Value} : FrameBlind (va_Pc (vs.map (wv G.2.1)) (fun U => va_P G.1 vwCl (wd_ws w G σ τ) U.heap ∧ wd_K w G (wd_A w G) U)) := by
  intro a U g mk q
  obtain ⟨q0, qP, qK⟩ := q
  exact ⟨q0, qP, wd_K.same (s := U) (U := U.calling g mk a) rfl rfl qK⟩
theorem wd_back {p : Program} {l : Launch} {e : Env} {R : Room} {s : State} {m : MethodId} {args : Array Value} {below : List Frame} {meth : Method} {c : Code} {H : Heap} {locs : List Loc} {Qf : State → Prop} {pc : Nat} {ls : Array Slot} {st0 rest : List Value} {a : Array Value}
    (hr : va_Run p l e R s m args below meth c H locs 0 0 0 0 (F0 m pc ls st0) rest (wd_Qc w G Q a) (wd_A w G)) (hS : va_S (wd_A w G) s.heap H locs)
    (kk : ∀ (r : Option Value) (σ' : wd_S) (τ' : wd_T) (H1 : Heap) (locs1 : List Loc), Q r σ' τ' → va_P G.1 vwCl (wd_ws w G σ' τ') H1 → va_S (wd_A w G) s.heap H1 locs1 → W p l e R s m args below meth c H1 locs1 0 0 Qf (F0 m (pc + 3) ls ((r.map (wv G.2.1)).toList ++ rest))) : W p l e R s m args below meth c H locs 0 0 Qf (F0 m pc ls st0) := by
  intro T hT X
  obtain ⟨v, st₀, t, T', L, h0, X', hL, e1, e2, ⟨r, σ', τ', hv, hq, hP', hz, hk⟩, st⟩ := hr T hT X
  have hv := Outcome.returned.inj hv
  subst hv
  rw [h0] at hz hk
  obtain ⟨t2, a1, b1⟩ := kk r σ' τ' T'.heap (locs ++ L) hq (by rw [e1]; exact hP') ⟨Nat.le_trans hS.1 (by rw [e1]; exact hz), fun q h1 h2 => by rw [e1, hk q (Nat.lt_of_lt_of_le h1 hS.1) h2]; exact hS.2.1 q h1 h2, fun q hq => by
      rcases List.mem_append.mp hq with h | h
      · exact hS.2.2 q h
      · exact hL q h⟩ T' rfl X'
  exact ⟨t2, st t2 a1, b1⟩
/-- what a call needs of the tables: its link's words aside, the callee's code and class, the room -/
def wd_cee (M M' : wd_M) (n : Nat) : Bool :=
  decide (M'.1.1.cls ≠ "java/lang/invoke/MethodHandle" ∧ M'.1.1.cls ≠ "java/lang/invoke/VarHandle" ∧ (parseMethodDescriptor M'.1.1.desc).map (fun d => d.parameters.length) = some n) && (plainName M'.1.1.cls && (Nat.ble (M'.2.1.1 + 1) M.2.1.1 && Nat.ble (8 + (M'.1.2.2.1 + 11) + M'.2.1.2) M.2.1.2))
def wd_lnkV (M M' : wd_M) (idx n : Nat) (ps : List Nat) : Bool :=
  wd_ats ps [.methodLink M.1.1.cls idx M'.1.1, .code M'.1.1 M'.1.2.1 M'.1.2.2.1 M'.1.2.2.2, .initialized M'.1.1.cls, .instanceMethod M'.1.1, .selects M'.1.1.cls M'.1.1 M'.1.1] && wd_cee M M' n
def wd_lnkS (M M' : wd_M) (idx n : Nat) (ps : List Nat) : Bool :=
  wd_ats ps [.methodLink M.1.1.cls idx M'.1.1, .code M'.1.1 M'.1.2.1 M'.1.2.2.1 M'.1.2.2.2, .initialized M'.1.1.cls, .static M'.1.1] && wd_cee M M' n
def wd_lnkN (M M' : wd_M) (idx n : Nat) (ps : List Nat) (q : Nat) (host : String) : Bool :=
  wd_ats ps [.code M'.1.1 M'.1.2.1 M'.1.2.2.1 M'.1.2.2.2, .initialized M'.1.1.cls, .static M'.1.1] && (decide (lw_tbl[q]? = some (.methodLinkNest M.1.1.cls idx M'.1.1 host)) && wd_cee M M' n)
set_option maxHeartbeats 4000000 in
/-- a call of a method of an object -/
theorem wd_callV {M' : wd_M} {idx n d ci : Nat} {ps : List Nat} {As : List Value} (hl : wd_lnkV M M' idx n ps = true) (hd : decode M.1.2.1 pc = .ok (.invokevirtual idx, 3)) (ho : wd_obj w d ci = true) (hci : (wd_cl ci).1 = M'.1.1.cls) (h6 : ci < 6) (hn : As.length = n) (hfit : (wd_en (.ref d :: As)).length ≤ M'.1.2.2.1) (hsm : wd_sm st)
    (h : Run w G M' 0 (wd_ent (.ref d :: As) M'.1.2.2.1) [] σ τ (fun r σ' τ' => Run w G M (pc + 3) lv (r.toList ++ st) σ' τ' Q)) : Run w G M pc lv (As.reverse ++ .ref d :: st) σ τ Q := by
  intro p l e s m args below meth c H locs ls hC hP hS hL
  have hl' := Bool.and_eq_true_iff.mp hl
  have hc' := Bool.and_eq_true_iff.mp hl'.2
  have hc2 := Bool.and_eq_true_iff.mp hc'.2
  have hc3 := Bool.and_eq_true_iff.mp hc2.2
  have hw := wd_ats_mem hl'.1
  have hwd := fun (x : Cond) hx => hC.2.2.2.2.2.2.1 x (hw x hx)
  have hcode : Cond.code M'.1.1 M'.1.2.1 M'.1.2.2.1 M'.1.2.2.2 ∈ wd_gw := hw _ (by simp)
  obtain ⟨h1, h2⟩ := wd_obj_is ho
  have he := wd_ws_at (G := G) (σ := σ) (τ := τ) h1
  rw [wd_cell_o h2] at he
  have hrec := va_recv hC.2.2.2.2.2.2.2.2.1 hP (wd_cl_at h6) he
  rw [hci] at hrec
  have cw : CallW (wd_rm M) s args M.1.1.cls M'.1.1.cls idx M'.1.1 M'.1.2.1 M'.1.2.2.1 M'.1.2.2.2 (wd_wsM M') (wd_rm M') 0 0 n :=
    ⟨callB_of n hC.2.2.2.2.2.2.1 (wd_good hcode) rfl rfl rfl (hwd _ (by simp)) (hwd _ (by simp)) (of_decide_eq_true hc'.1) ⟨Nat.le_of_ble_eq_true hc3.1, Nat.le_of_ble_eq_true hc3.2⟩, hwd _ (by simp), hwd _ (by simp)⟩
  have hm := wd_met (l := l) hc2.1 hfit h
  refine wd_back (va_runV (As := As.map (wv G.2.1)) (rest := st.map (wv G.2.1)) (b := G.2.1 d) ⟨hC.1, hC.2.1, hC.2.2.1, hC.2.2.2.2.2.1, hC.2.2.2.2.2.2.1⟩ hm cw ⟨wd_blind, hrec, fun U hU hW => ⟨rfl, by rw [hU]; exact hP, wd_K.warm hW (by rw [hU]; exact hC.2.2.2.2.2.2.2.2.2.2.2.kept hS.2.1) hC.2.2.2.2.2.2.2⟩⟩ rfl (by rw [List.length_map]; exact hn) hL.1 (by show (As.reverse ++ Value.ref d :: st).map (wv G.2.1) = _; rw [List.map_append, List.map_reverse]; rfl) (lv_room (by rw [wd_cat8]; exact hsm)) hd ⟨Nat.le_refl 0, Nat.le_refl 0⟩) hS ?_
  intro r σ' τ' H1 locs1 hq hP1 hS1
  have := hq p l e s m args below meth c H1 locs1 ls hC hP1 hS1 hL
  rw [List.map_append] at this
  cases r <;> exact this
set_option maxHeartbeats 4000000 in
/-- a call of a static method -/
theorem wd_callS {M' : wd_M} {idx n : Nat} {ps : List Nat} {As : List Value} (hl : wd_lnkS M M' idx n ps = true) (hd : decode M.1.2.1 pc = .ok (.invokestatic idx, 3)) (hn : As.length = n) (hfit : (wd_en As).length ≤ M'.1.2.2.1) (hsm : wd_sm st)
    (h : Run w G M' 0 (wd_ent As M'.1.2.2.1) [] σ τ (fun r σ' τ' => Run w G M (pc + 3) lv (r.toList ++ st) σ' τ' Q)) : Run w G M pc lv (As.reverse ++ st) σ τ Q := by
  intro p l e s m args below meth c H locs ls hC hP hS hL
  have hl' := Bool.and_eq_true_iff.mp hl
  have hc' := Bool.and_eq_true_iff.mp hl'.2
  have hc2 := Bool.and_eq_true_iff.mp hc'.2
  have hc3 := Bool.and_eq_true_iff.mp hc2.2
  have hw := wd_ats_mem hl'.1
  have hwd := fun (x : Cond) hx => hC.2.2.2.2.2.2.1 x (hw x hx)
  have hcode : Cond.code M'.1.1 M'.1.2.1 M'.1.2.2.1 M'.1.2.2.2 ∈ wd_gw := hw _ (by simp)
  have cw : CallB (wd_rm M) s args M.1.1.cls idx M'.1.1 M'.1.2.1 M'.1.2.2.1 M'.1.2.2.2 (wd_wsM M') (wd_rm M') 0 0 n ∧ (Cond.static M'.1.1).before args s = true :=
    ⟨callB_of n hC.2.2.2.2.2.2.1 (wd_good hcode) rfl rfl rfl (hwd _ (by simp)) (hwd _ (by simp)) (of_decide_eq_true hc'.1) ⟨Nat.le_of_ble_eq_true hc3.1, Nat.le_of_ble_eq_true hc3.2⟩, hwd _ (by simp)⟩
  have hm := wd_met (l := l) hc2.1 hfit h
  refine wd_back (va_runS (As := As.map (wv G.2.1)) (rest := st.map (wv G.2.1)) ⟨hC.1, hC.2.1, hC.2.2.1, hC.2.2.2.2.2.1, hC.2.2.2.2.2.2.1⟩ hm cw ⟨wd_blind, fun U hU hW => ⟨rfl, by rw [hU]; exact hP, wd_K.warm hW (by rw [hU]; exact hC.2.2.2.2.2.2.2.2.2.2.2.kept hS.2.1) hC.2.2.2.2.2.2.2⟩⟩ rfl (by rw [List.length_map]; exact hn) hL.1 (by show (As.reverse ++ st).map (wv G.2.1) = _; rw [List.map_append, List.map_reverse]) (lv_room (by rw [wd_cat8]; exact hsm)) hd ⟨Nat.le_refl 0, Nat.le_refl 0⟩) hS ?_
  intro r σ' τ' H1 locs1 hq hP1 hS1
  have := hq p l e s m args below meth c H1 locs1 ls hC hP1 hS1 hL
  rw [List.map_append] at this
  cases r <;> exact this
set_option maxHeartbeats 4000000 in
/-- a call of a nest mate's private static method -/
theorem wd_callN {M' : wd_M} {idx n q : Nat} {host : String} {ps : List Nat} {As : List Value} (hl : wd_lnkN M M' idx n ps q host = true) (hd : decode M.1.2.1 pc = .ok (.invokestatic idx, 3)) (hn : As.length = n) (hfit : (wd_en As).length ≤ M'.1.2.2.1) (hsm : wd_sm st)
    (h : Run w G M' 0 (wd_ent As M'.1.2.2.1) [] σ τ (fun r σ' τ' => Run w G M (pc + 3) lv (r.toList ++ st) σ' τ' Q)) : Run w G M pc lv (As.reverse ++ st) σ τ Q := by
  intro p l e s m args below meth c H locs ls hC hP hS hL
  have hl' := Bool.and_eq_true_iff.mp hl
  have hl2 := Bool.and_eq_true_iff.mp hl'.2
  have hc' := Bool.and_eq_true_iff.mp hl2.2
  have hc2 := Bool.and_eq_true_iff.mp hc'.2
  have hc3 := Bool.and_eq_true_iff.mp hc2.2
  have hw := wd_ats_mem hl'.1
  have hwd := fun (x : Cond) hx => hC.2.2.2.2.2.2.1 x (hw x hx)
  have hcode : Cond.code M'.1.1 M'.1.2.1 M'.1.2.2.1 M'.1.2.2.2 ∈ wd_gw := hw _ (by simp)
  have hnest : va_Nw (.methodLinkNest M.1.1.cls idx M'.1.1 host) s := hC.2.2.2.2.2.2.2.2.2.2.1 _ (List.mem_filter.mpr ⟨List.mem_of_getElem? (of_decide_eq_true hl2.1), rfl⟩)
  have cw : va_CN (wd_rm M) s args M.1.1.cls idx M'.1.1 host M'.1.2.1 M'.1.2.2.1 M'.1.2.2.2 (wd_wsM M') (wd_rm M') 0 0 n ∧ (Cond.static M'.1.1).before args s = true ∧ True :=
    ⟨va_cnB n hC.2.2.2.2.2.2.1 (wd_good hcode) rfl rfl rfl hnest (hwd _ (by simp)) (of_decide_eq_true hc'.1) ⟨Nat.le_of_ble_eq_true hc3.1, Nat.le_of_ble_eq_true hc3.2⟩, hwd _ (by simp), trivial⟩
  have hm := wd_met (l := l) hc2.1 hfit h
  refine wd_back (va_runSN (As := As.map (wv G.2.1)) (rest := st.map (wv G.2.1)) ⟨hC.1, hC.2.1, hC.2.2.1, hC.2.2.2.2.2.1, hC.2.2.2.2.2.2.1⟩ hm cw ⟨wd_blind, fun U hU hW => ⟨rfl, by rw [hU]; exact hP, wd_K.warm hW (by rw [hU]; exact hC.2.2.2.2.2.2.2.2.2.2.2.kept hS.2.1) hC.2.2.2.2.2.2.2⟩⟩ rfl (by rw [List.length_map]; exact hn) hL.1 (by show (As.reverse ++ st).map (wv G.2.1) = _; rw [List.map_append, List.map_reverse]) (lv_room (by rw [wd_cat8]; exact hsm)) hd ⟨Nat.le_refl 0, Nat.le_refl 0⟩) hS ?_
  intro r σ' τ' H1 locs1 hq hP1 hS1
  have := hq p l e s m args below meth c H1 locs1 ls hC hP1 hS1 hL
  rw [List.map_append] at this
  cases r <;> exact this
end WS
