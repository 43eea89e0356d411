/-! THE LAW, from its entry -/
theorem lw_app {A : Nat → Prop} {ws1 ws2 : va_W} (hD : va_D A (ws1 ++ ws2)) : va_D A ws1 ∧ va_D A ws2 ∧ ∀ (i j : Nat) (p q : Nat × va_E), ws1[i]? = some p → ws2[j]? = some q → p.1 ≠ q.1 := by
  have h1 : ∀ (k : Nat) (q : Nat × va_E), ws1[k]? = some q → (ws1 ++ ws2)[k]? = some q ∧ k < ws1.length := fun k q hq => by
    have hk : k < ws1.length := (List.getElem?_eq_some_iff.mp hq).1
    exact ⟨by rw [List.getElem?_append_left hk]; exact hq, hk⟩
  have h2 : ∀ (k : Nat) (q : Nat × va_E), ws2[k]? = some q → (ws1 ++ ws2)[ws1.length + k]? = some q := fun k q hq => by
    rw [List.getElem?_append_right (by omega), show ws1.length + k - ws1.length = k by omega]
    exact hq
  refine ⟨⟨fun i j p q hi hj e => hD.1 i j p q (h1 i p hi).1 (h1 j q hj).1 e, fun k q hk => hD.2 k q (h1 k q hk).1⟩, ⟨fun i j p q hi hj e => ?_, fun k q hk => hD.2 _ q (h2 k q hk)⟩, fun i j p q hi hj e => ?_⟩
  · have := hD.1 _ _ p q (h2 i p hi) (h2 j q hj) e
    omega
  · have := hD.1 _ _ p q (h1 i p hi).1 (h2 j q hj) e
    have := (h1 i p hi).2
    omega
theorem lw_both {D : va_G} {cs : FieldType → ClassId} {G0 : wd_G} {s : State} {H : Heap} {locs : List Loc} {hC hR : Nat → Nat} (hKc : cbK D cs G0 s.heap.size s) (hw : cbH D (fun q => s.heap.size ≤ q) s H locs (wfW cs hC ++ wfR D cs G0 hR)) : lwE (mkG G0 D (adW hC) (clC cs)) (mkG G0 D hR (clR cs)) s ∧ lwH (mkG G0 D (adW hC) (clC cs)) (mkG G0 D hR (clR cs)) s H locs := by
  obtain ⟨hP, hD, hS⟩ := hw
  obtain ⟨hD1, hD2, hD3⟩ := lw_app hD
  obtain ⟨c1, c2⟩ := cw_D (D := D) (G0 := G0) hD1
  have hP1 : va_P D vwCl (wfW cs hC) H := fun k q hq => hP k q (by rw [List.getElem?_append_left (List.getElem?_eq_some_iff.mp hq).1]; exact hq)
  have hP2 : va_P D vwCl (wfR D cs G0 hR) H := fun k q hq => hP ((wfW cs hC).length + k) q (by rw [List.getElem?_append_right (by omega), show (wfW cs hC).length + k - (wfW cs hC).length = k by omega]; exact hq)
  have aC : ∀ q, wd_A wC (mkG G0 D (adW hC) (clC cs)) q → s.heap.size ≤ q := fun q hq => by
    obtain ⟨k, e, h⟩ := c2 q hq
    exact hD1.2 k _ h
  have aR : ∀ q, wd_A wR (mkG G0 D hR (clR cs)) q → s.heap.size ≤ q := wd_AD hD2
  refine ⟨⟨mk_K hKc c1 wC_cl aC, mk_K hKc (wd_injD hD2) wR_cl aR, aC, aR, fun q h1 h2 => ?_⟩, hS, σ0C, σ1R, fun _ _ => 0, fun _ _ => 0, cw_P hP1, hP2, Inv0⟩
  obtain ⟨k, e, h⟩ := c2 q h1
  obtain ⟨c, hc, rfl⟩ := h2
  exact hD3 k c _ _ h (wd_ws_at hc) rfl
set_option maxHeartbeats 4000000 in
theorem whole_start {p : Program} {e : Env} {s : State} {m : MethodId} {below : List Frame} {meth : Method} {c : Code} (l : Launch) (hflags : l.flags = flags0) {b L : Nat} {xs : Nat → Int32} (hL : L ≤ 2560) (C0 : lw_At p s m meth c b L xs) : W p l e room_1 s m #[Value.ref b] below meth c s.heap [] 0 0 (lw_Z below #[Value.ref b] s) (entryFrame m ([Value.ref b] : List Value).toArray 4) := by
  obtain ⟨hx, hb, hr, hml, hown, hts0, hX, hbl, hlocks, hgv⟩ := C0
  have hts : ∀ w ∈ wd_gw, w.before #[Value.ref b] s = true := fun w hw => hts0 w (List.mem_filter.mp hw).1
  obtain ⟨D, cs, G0, hKc⟩ := lw_cbK hts0 hgv
  have X : cbX0 p s m #[Value.ref b] c code R_law := ⟨hx, hb, hts, hown, trivial⟩
  have hl := lv_entry ([.ref b] : List Value) (n := 4) (Nat.le_of_ble_eq_true rfl)
  rw [lg_entry_eq]
  generalize (lg_sl ([.ref b] : List Value) ++ List.replicate (4 - (lg_sl ([.ref b] : List Value)).length) Slot.unset).toArray = ls at hl ⊢
  have hl : lv_has ls 4 [(0, .ref b)] := hl
  have hw : cbH D (fun q => s.heap.size ≤ q) s s.heap [] [] := ⟨fun k q h => by simp at h, ⟨fun i j p q h => by simp at h, fun k q h => by simp at h⟩, va_S.rf⟩
  refine lb_mk (c2 := 4) (i1 := 7) (i2 := 9) (q1 := 71) (q2 := 72) (q3 := 57) (qc := 75) (qi := 74) (c_WatchDogs l D cs G0) X hKc (fun _ h => h) (fun _ h => h) (Nat.le_refl _) (hml.trans hl.1.symm) hw (by decide) (by decide +kernel) (by decide +kernel) (by decide +kernel) (Or.inr (hts _ (wd_at_mem (p := 73) (by decide +kernel)))) (by decide +kernel) rfl (by decide +kernel) rfl (by decide +kernel) ⟨Nat.le_of_ble_eq_true rfl, Nat.le_of_ble_eq_true rfl⟩ (Nat.le_of_ble_eq_true rfl) (Nat.le_of_ble_eq_true rfl) (Nat.le_of_ble_eq_true rfl) (by decide +kernel) (by decide +kernel) (by decide +kernel) (fun hC H1 locs1 hw => ?_)
  refine lv_astore_n hx hb (show decode code 7 = .ok (.astore_n 1, 1) by decide +kernel) rfl hl (by decide) rfl (fun ls1 hl1 => ?_)
  refine lb_mk (c2 := 5) (i1 := 10) (i2 := 12) (q1 := 763) (q2 := 764) (q3 := 63) (qc := 767) (qi := 766) (c_Model l D cs G0) X hKc (fun _ h => h) (fun _ h => h) (Nat.le_refl _) (hml.trans hl1.1.symm) hw (by decide) (by decide +kernel) (by decide +kernel) (by decide +kernel) (Or.inr (hts _ (wd_at_mem (p := 765) (by decide +kernel)))) (by decide +kernel) rfl (by decide +kernel) rfl (by decide +kernel) ⟨Nat.le_of_ble_eq_true rfl, Nat.le_of_ble_eq_true rfl⟩ (Nat.le_of_ble_eq_true rfl) (Nat.le_of_ble_eq_true rfl) (Nat.le_of_ble_eq_true rfl) (by decide +kernel) (by decide +kernel) (by decide +kernel) (fun hR H2 locs2 hw => ?_)
  refine lv_astore_n hx hb (show decode code 15 = .ok (.astore_n 2, 1) by decide +kernel) rfl hl1 (by decide) rfl (fun ls2 hl2 => ?_)
  refine lv_iconst hx hb (show decode code 16 = .ok (.iconst 0, 1) by decide +kernel) (v := nI 0) rfl ?_
  refine lv_istore_n hx hb (show decode code 17 = .ok (.istore_n 3, 1) by decide +kernel) rfl hl2 (by decide) rfl (fun ls3 hl3 => ?_)
  obtain ⟨hE, hH⟩ := lw_both (hC := hC) (hR := hR) hKc hw
  exact lw_loop (GC := mkG G0 D (adW hC) (clC cs)) (GR := mkG G0 D hR (clR cs)) ⟨hx, hb, hts, hown⟩ hr hlocks hX hbl hL hml hE ⟨Nat.le_of_ble_eq_true rfl, Nat.le_of_ble_eq_true rfl⟩ (L + 1) 0 (Nat.zero_le _) (by omega) H2 locs2 hH ls3 (lv_sub hl3 [3, 2, 1, 0] rfl)
set_option maxHeartbeats 4000000 in
theorem lw_walk (l : Launch) (hflags : l.flags = flags0) (b : Addr) (xs : List Int32) : MetFree l x (headSpec (Jvm.Cond.code x code maxLocals ret :: tables_1) room_1) (lw_P b xs) (fun _ _ _ _ _ => True) lw_Q := by
  refine MetFree.of_bodyS (code := code) (maxLocals := maxLocals) (ret := ret) (by decide) ?_ ?_
  · intro args s m h hn
    obtain ⟨meth, c, h1, h2, h3, h4, h5, h6, -, -⟩ := Cond.code_spec hn (atoms_spec (ws := Jvm.Cond.code x code maxLocals ret :: tables_1) h _ List.mem_cons_self)
    exact ⟨meth, c, h1, h2, h3, h4, h5, h6⟩
  · intro p e s m args below meth c s₁ B hml0 hP _
    obtain ⟨rfl, hx, hbd, hgv⟩ := hP
    obtain ⟨scr, harrAt, hlist, hof, hsmall⟩ := hx
    obtain ⟨hcb, hkn, -, -⟩ := State.arrayAt?_spec harrAt
    have hown : s.vm.findClass R_law = some m.cls := findClass_of_methodNamed B.named
    have hts0 : ∀ c ∈ (Jvm.Cond.code x code maxLocals ret :: tables_1), c.before #[Value.ref b] s = true := atoms_spec (ws := Jvm.Cond.code x code maxLocals ret :: tables_1) B.pre
    have hts : ∀ w ∈ lw_tbl, w.before #[Value.ref b] s = true := k2_hts_sels lw_privs (fun w hw => hts0 w (List.mem_cons_of_mem _ hw)) lw_privs_ok
    have hml : c.maxLocals = 4 := B.maxLocals_eq (hts0 _ List.mem_cons_self)
    have X₀ : Stand p l e room_1 s m #[Value.ref b] below meth c s₁ [] 0 0 := Stand.of_body B
    have hh0 : s₁.heap = s.heap := by rw [B.state]; rfl
    have hsz : scr.slots.size = xs.length := by rw [← Array.length_toList, hlist, List.length_map]
    have hval : ∀ j : Nat, j < xs.length → scr.slots[j]? = some (.int (xs.getD j 0)) := fun j hj => by
      rw [← Array.getElem?_toList, hlist]
      simp [hj]
    have hbl : b < s.heap.size := (Array.getElem?_eq_some_iff.mp hcb).1
    have hX : va_X b xs.length (fun j => xs.getD j 0) s s.heap := ⟨scr, hcb, hof, hkn, hsz, hval⟩
    have K : W p l e room_1 s m #[Value.ref b] below meth c s₁.heap [] 0 0 (lw_Z below #[Value.ref b] s) (entryFrame m ([Value.ref b] : List Value).toArray 4) := by
      rw [hh0]
      exact whole_start l hflags hbd ⟨B.exec, B.bytes, B.returns, hml, hown, hts, hX, hbl, B.notSynchronized, hgv⟩
    obtain ⟨t, a1, o, b1, b2, b3⟩ := K s₁ rfl X₀
    exact ⟨t, o, a1, b1, b2, b3⟩
theorem lw_pre_spec {args : Array Value} {s : State} (h : (Jvm.Cond.and given_1 narrow_1).before args s = true) (hr : rest_1_c.before args s = true) : ∃ (b : Addr) (xs : List Int32), lw_P b xs args s := by
  have hs := flat_of_before _ h
  have hq := flat_of_before _ hr
  have hc : (Cond.count 1).before args s = true := hs _ (by decide +kernel)
  have harr : (Cond.arrayOf (.arg 0) .int).before args s = true := hs _ (by decide +kernel)
  have hle : (Cond.le (.length (.arg 0)) (.int 2560)).before args s = true := hs _ (by decide +kernel)
  have hlen : (Cond.isInt (.length (.arg 0))).before args s = true := hq _ (by decide +kernel)
  have hall : (Cond.all (.arg 0) (.isInt (.elem (.arg 0) (.index 0)))).before args s = true := hq _ (by decide +kernel)
  obtain ⟨b, xs, hb, hx⟩ := State.ints_of_pre rfl harr hlen hall
  have hsm : xs.length < 2 ^ 31 := hx.choose_spec.2.2.2
  have hev : (Term.length (.arg 0)).eval args s none [] s = some (.int xs.length.toInt32) := hx.length_eval hb
  have hv := Cond.le_ints hev (show (Term.int 2560).eval args s none [] s = some (.int 2560) from rfl)
  have hd : xs.length.toInt32 ≤ 2560 := by
    simpa [Cond.before, Cond.holds, hv] using hle
  have hN : xs.length ≤ 2560 := (Int32.ofNat_le_ofNat hsm (by decide)).mp (show Int32.ofNat xs.length ≤ Int32.ofNat 2560 from hd)
  exact ⟨b, xs, Cond.one_arg hc (show args[0]? = some (.ref b) from hb), hx, hN, h⟩
theorem lw_comes (l : Launch) (hflags : l.flags = flags0) : Comes l x (Jvm.Cond.code x code maxLocals ret :: tables_1) room_1 (fun tb e args s => Calls_1 tb e args s ∧ rest_1 tb e args s ∧ Pre_1 tb e args s)
    (fun _ _ args s o t => lw_Q args s o t) := by
  intro p e ha hc hk s m args below hf hfit hheap happ hpre
  obtain ⟨b, xs, hP⟩ := lw_pre_spec hpre.2.2 hpre.2.1
  obtain ⟨k, o, h1, h2, h3, hQ⟩ := lw_walk l hflags b xs p e ha hc hk s m args below hf ((Spec.applies_iff_loose hf).mp happ).1 hP trivial
  exact ⟨k, o, h1, h2, h3, hQ⟩
theorem lw_frame {s t : State} {o : Outcome} {args : Array Value} (h : Framed s o t [] 600000 7302250) :
    Framed s o t (fieldLocs frame_1_writes args s ++ arrayLocs frame_1_arrays args s ++ staticLocs frame_1_statics s) 600000 7302250 := h
theorem lw_limb (L : Cond) (hL : ∀ (args : Array Value) (s t : State), L.after args s (.returned (some (.int 1))) t = true) :
    ArmFor flags0 classFile x code maxLocals ret World_1 tables_1 room_1 Calls_1 rest_1 Pre_1
      (fun tb e a s o t => postC L tb e a s o t ∧ Framed s o t (fieldLocs frame_1_writes a s ++ arrayLocs frame_1_arrays a s ++ staticLocs frame_1_statics s) 600000 7302250) := by
  intro l hflags _ _ p e ha hc hk s m args below hf hfit hheap happ hpre
  obtain ⟨k, o, h1, h2, h3, rfl, hF⟩ := lw_comes l hflags p e ha hc hk s m args below hf hfit hheap happ hpre
  exact ⟨k, _, h1, h2, h3, hL args s _, lw_frame hF⟩
theorem i_vc : Claimed_1_1 ∧ Claimed_1_2 := ⟨lw_limb limb_1_1 (fun args s t => by simp [limb_1_1, Cond.after, Cond.holds, Cond.value]), lw_limb limb_1_2 (fun args s t => Cond.after_iff.mpr (by
  first | (rw [show limb_1_2 = Cond.eq .result (.int 1) from rfl, Cond.eq_ints (x := 1) (y := 1) rfl rfl]; simp; done) | (simp [limb_1_2, Cond.value, Term.eval]; done)))⟩
