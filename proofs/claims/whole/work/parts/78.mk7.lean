/-! MAKING: WatchDogs -/
section CB
variable {p : Program} {l : Launch} {e : Env} {R : Room} {s : State} {m : MethodId} {args : Array Value} {below : List Frame} {meth : Method} {c : Code} {H : Heap} {locs : List Loc} {cells slots : Nat} {Q : State → Prop}
variable {cc : ByteArray} {pc : Nat} {ls : Array Slot} {rest : List Value} {D : va_G} {A : Nat → Prop} {own : String} {h0 : Nat} {fs : List Value} {wr ws : va_W} {cs : FieldType → ClassId} {G0 : wd_G} {N0 : Nat}
theorem ra_pack {s : State} : ∀ x y, va_RA s x (.object "WatchDogs$Pack") → va_RA s y (.object "WatchDogs$Pack") → x = y := fun _ _ h1 h2 => by
  obtain ⟨k1, c1, a1, a2, a3, a4⟩ := h1
  obtain ⟨k2, c2, b1, b2, b3, b4⟩ := h2
  exact Option.some.inj (a4.symm.trans b4)
theorem cb_newq {idx q n : Nat} (X : cbX p s m args meth c cc own) (hKc : cbK D cs G0 N0 s) (hA : ∀ q, s.heap.size ≤ q → A q) (hw : cbH D A s H locs ws) (e1 : wd_at q (.classLink own idx "WatchDogs$Pack") = true) (hn : n < 1000) (hcells : cells + 1 ≤ R.cells) (hslots : slots + n ≤ R.slots) (hd : decode cc pc = .ok (.anewarray idx, 3))
    (kk : ∀ (a : Nat) (H1 : Heap), cbH D A s H1 locs (ws ++ [(a, .inl (cs (.object "WatchDogs$Pack"), n, .inr (.inr (.inr (.inr (fun _ => none))))))]) → W p l e R s m args below meth c H1 locs (cells + 1) (slots + n) Q (F0 m (pc + 3) ls (.ref a :: rest))) : W p l e R s m args below meth c H locs cells slots Q (F0 m pc ls (.int (nI n) :: rest)) := by
  refine va_newq (D := D) (cl := vwCl) (A := A) (N' := n) X.1 X.2.1 X.2.2.2.1 (X.2.2.1 _ (wd_at_mem e1)) hKc.2.2.2.1 hKc.1 hw.1 hw.2.1 hw.2.2 hA (nI_nlt (b := 0) (Nat.zero_le n) (by omega)) (nI_clamp (by omega)) (by omega) hcells hslots hd (fun a cA H1 hK1 hP1 hD1 hS1 => ?_)
  have e1 : va_RA s cA (.object "WatchDogs$Pack") := (hK1.2 (cbY cs).length (cA, .object "WatchDogs$Pack") (by simp)).2
  have e2 : va_RA s (cs (.object "WatchDogs$Pack")) (.object "WatchDogs$Pack") := (hKc.1.2 3 (cs (.object "WatchDogs$Pack"), .object "WatchDogs$Pack") rfl).2
  rw [ra_pack _ _ e1 e2] at hP1 hD1
  exact kk a H1 ⟨hP1, hD1, hS1⟩
theorem cb_ast {i n q0 qk a v : Nat} {vs : List Value} {f : Nat → Option Nat} (X : cbX p s m args meth c cc own) (hK : va_K D vwCl (cbY cs) s) (hw : cbH D A s H locs ws) (ha : ws[q0]? = some (a, .inl (cs (.object "WatchDogs$Pack"), n, .inr (.inr (.inr (.inr f)))))) (hv : ws[qk]? = some (v, .inr (0, vs))) (hi : i < n) (hn : n < 1000) (hd : decode cc pc = .ok (.aastore, 1))
    (kk : ∀ (H1 : Heap) (locs1 : List Loc), cbH D A s H1 locs1 (ws.set q0 (a, .inl (cs (.object "WatchDogs$Pack"), n, .inr (.inr (.inr (.inr (va_up f i (some v)))))))) → W p l e R s m args below meth c H1 locs1 cells slots Q (F0 m (pc + 1) ls rest)) : W p l e R s m args below meth c H locs cells slots Q (F0 m pc ls (.ref v :: .int (nI i) :: .ref a :: rest)) := by
  refine va_astq (D := D) (cl := vwCl) (A := A) X.1 X.2.1 hK hw.1 hw.2.1 hw.2.2 q0 3 qk 0 (r := (RX0, TX0, 18)) ha rfl hv rfl (vp_in_nI hi (by omega)) hd (fun H1 locs1 hP1 hD1 hS1 => ?_)
  rw [nI_clamp (by omega)] at hP1 hD1
  exact kk H1 locs1 ⟨hP1, hD1, hS1⟩
end CB
def mpT (k : Nat) : Nat := cond (Nat.beq k 0) 1 (cond (Nat.ble k 10) (19 + k) (cond (Nat.beq k 11) 2 3))
def mpA (k : Nat) : Nat := cond (Nat.beq k 0) 4 (cond (Nat.beq k 1) 5 (28 + k))
def mpS (k : Nat) : Nat := 6 + k
def wfW (cs : FieldType → ClassId) (h : Nat → Nat) : va_W := (h 0, .inr (4, [.ref (h 10), .ref (h 1), .ref (h 4), .ref (h 6), .ref (h 64), .ref (h 65), .int 0])) :: (wfP cs (fun k => h (10 + k)) ++ (wfT cs (fun k => h (mpT k)) ++ (wfA cs (fun k => h (mpA k)) ++ (wfS cs (fun k => h (mpS k)) ++ ([(h 64, .inl (cs (.object "WatchDogs$Pack"), 2, .inr (.inr (.inr (.inr (va_up (va_up (fun _ => none) 0 (some (h 40))) 1 (some (h 50)))))))), (h 65, .inl (cs .boolean, 2, .inl (fun _ => 0)))] ++ (wfP cs (fun k => h (40 + k)) ++ wfP cs (fun k => h (50 + k))))))))
def rmW : Room := { frames := 3, cells := 65, slots := 752, locals := 52 }
def fnW (h0 : Nat) (p t a s : Nat → Nat) (im kp : Nat) (i0 i1 : Nat → Nat) : Nat → Nat := fun c =>
  cond (Nat.ble c 9) (cond (Nat.ble c 4) (cond (Nat.beq c 0) h0 (cond (Nat.beq c 1) (t 0) (cond (Nat.beq c 2) (t 11) (cond (Nat.beq c 3) (t 12) (a 0))))) (cond (Nat.beq c 5) (a 1) (s (c - 6))))
    (cond (Nat.ble c 39) (cond (Nat.ble c 19) (p (c - 10)) (cond (Nat.ble c 29) (t (c - 19)) (a (c - 28)))) (cond (Nat.ble c 59) (cond (Nat.ble c 49) (i0 (c - 40)) (i1 (c - 50))) (cond (Nat.ble c 63) (s 1 + 1 + (c - 60)) (cond (Nat.beq c 64) im kp))))
set_option maxHeartbeats 8000000 in
theorem c_WatchDogs (l : Launch) (D : va_G) (cs : FieldType → ClassId) (G0 : wd_G) : Ctr l D cs G0 yX4_init cX4_init 2 rmW 4 (wfW cs) := by
  refine Ctr.of (idx := 1) (q := 76) (by decide) rfl (by decide) (by decide +kernel) (by decide +kernel) (by decide +kernel) (by decide) (by decide) ?_
  intro p e s m below meth c ls h0 N0 X hKc hN1 hN2 hml hr hlk hls hA hAN hw
  have hl0 : ls[0]? = some (.val (.ref h0)) := lv_at hls 0 rfl
  refine cb_mkF (ci := 4) (k := 0) (idx := 10) (q := 276) (c2 := 0) (i1 := 7) (i2 := 9) (q1 := 79) (q2 := 80) (q3 := 58) (qc := 83) (qi := 82) (nm := "WatchDogs$Pack") (c_Pack l D cs G0) X hKc hAN hA hN2 hml hl0 hw (by decide) (by decide +kernel) (by decide +kernel) (by decide +kernel) (cb_link (q := 81) (host := "WatchDogs") (by decide +kernel)) (by decide +kernel) rfl (by decide +kernel) rfl (by decide +kernel) ⟨by decide, by decide⟩ (Nat.le_of_ble_eq_true rfl) (Nat.le_of_ble_eq_true rfl) (by decide +kernel) (by decide +kernel) (by decide +kernel) (by decide +kernel) (by decide +kernel) (by decide +kernel) rfl (Nat.le_of_ble_eq_true rfl) (fun hp H0 locs0 hw => ?_)
  refine cb_mkF (ci := 4) (k := 1) (idx := 19) (q := 277) (c2 := 3) (i1 := 16) (i2 := 18) (q1 := 164) (q2 := 165) (q3 := 59) (qc := 168) (qi := 167) (nm := "WatchDogs$Trial") (c_Trial l D cs G0) X hKc hAN hA hN2 hml hl0 hw (by decide) (by decide +kernel) (by decide +kernel) (by decide +kernel) (cb_link (q := 166) (host := "WatchDogs") (by decide +kernel)) (by decide +kernel) rfl (by decide +kernel) rfl (by decide +kernel) ⟨by decide, by decide⟩ (Nat.le_of_ble_eq_true rfl) (Nat.le_of_ble_eq_true rfl) (by decide +kernel) (by decide +kernel) (by decide +kernel) (by decide +kernel) (by decide +kernel) (by decide +kernel) rfl (Nat.le_of_ble_eq_true rfl) (fun ht H1 locs1 hw => ?_)
  refine cb_mkF (ci := 4) (k := 2) (idx := 26) (q := 278) (c2 := 2) (i1 := 23) (i2 := 25) (q1 := 205) (q2 := 206) (q3 := 60) (qc := 209) (qi := 208) (nm := "WatchDogs$Tape") (c_Tape l D cs G0) X hKc hAN hA hN2 hml hl0 hw (by decide) (by decide +kernel) (by decide +kernel) (by decide +kernel) (cb_link (q := 207) (host := "WatchDogs") (by decide +kernel)) (by decide +kernel) rfl (by decide +kernel) rfl (by decide +kernel) ⟨by decide, by decide⟩ (Nat.le_of_ble_eq_true rfl) (Nat.le_of_ble_eq_true rfl) (by decide +kernel) (by decide +kernel) (by decide +kernel) (by decide +kernel) (by decide +kernel) (by decide +kernel) rfl (Nat.le_of_ble_eq_true rfl) (fun ha H2 locs2 hw => ?_)
  refine cb_mkF (ci := 4) (k := 3) (idx := 33) (q := 279) (c2 := 1) (i1 := 30) (i2 := 32) (q1 := 251) (q2 := 252) (q3 := 61) (qc := 255) (qi := 254) (nm := "WatchDogs$Sheets") (c_Sheets l D cs G0) X hKc hAN hA hN2 hml hl0 hw (by decide) (by decide +kernel) (by decide +kernel) (by decide +kernel) (Or.inr (X.2.2.1 _ (wd_at_mem (p := 253) (by decide +kernel)))) (by decide +kernel) rfl (by decide +kernel) rfl (by decide +kernel) ⟨by decide, by decide⟩ (Nat.le_of_ble_eq_true rfl) (Nat.le_of_ble_eq_true rfl) (by decide +kernel) (by decide +kernel) (by decide +kernel) (by decide +kernel) (by decide +kernel) (by decide +kernel) rfl (Nat.le_of_ble_eq_true rfl) (fun hs H3 locs3 hw => ?_)
  refine lv_aload_n X.1 X.2.1 (show decode cX4_init 48 = .ok (.aload_n 0, 1) by decide +kernel) rfl hl0 ?_
  refine cb_push (n := 2) (pcA := 50) X (by decide +kernel) ?_
  refine cb_newq (idx := 7) (q := 79) (n := 2) X hKc hA hw (by decide +kernel) (by decide) (Nat.le_of_ble_eq_true rfl) (Nat.le_of_ble_eq_true rfl) (by decide +kernel) (fun im H4 hw => ?_)
  refine cb_putF (ci := 4) (k := 4) (idx := 37) (q := 280) X hKc.1 hw (by decide +kernel) rfl rfl (Nat.le_of_ble_eq_true rfl) (by decide +kernel) (fun H5 locs5 hw => ?_)
  refine cb_arrF (ci := 4) (k := 5) (idx := 41) (q := 281) (n := 2) (t0 := 2) (qa := 298) (pcA := 58) (atype := .boolean) (ty := .boolean) X hKc.1 hA hl0 hw (by decide +kernel) (by decide +kernel) (by decide +kernel) (by decide +kernel) (by decide +kernel) rfl rfl rfl ra_bool (by decide +kernel) rfl (by decide) (by decide) (Nat.le_of_ble_eq_true rfl) (Nat.le_of_ble_eq_true rfl) (Nat.le_of_ble_eq_true rfl) (fun kp H6 locs6 hw => ?_)
  refine lv_iconst X.1 X.2.1 (show decode cX4_init 63 = .ok (.iconst 0, 1) by decide +kernel) (v := nI 0) rfl ?_
  refine lv_istore_n X.1 X.2.1 (show decode cX4_init 64 = .ok (.istore_n 1, 1) by decide +kernel) rfl hls (by decide) rfl (fun ls1 hls1 => ?_)
  have hm1 : c.maxLocals = ls1.size := hml.trans (hls.1.trans hls1.1.symm)
  have hl1 : ls1[0]? = some (.val (.ref h0)) := lv_at hls1 1 rfl
  refine lv_iload_n X.1 X.2.1 (show decode cX4_init 65 = .ok (.iload_n 1, 1) by decide +kernel) rfl (lv_at hls1 0 rfl) ?_
  refine lv_iconst X.1 X.2.1 (show decode cX4_init 66 = .ok (.iconst 2, 1) by decide +kernel) (v := 2) rfl ?_
  refine lv_icmp_ge (tgt := 89) X.1 X.2.1 (show decode cX4_init 67 = .ok (.if_icmp .ge 22, 3) by decide +kernel) rfl (fun z => absurd z (by decide)) (fun _ => ?_)
  refine lv_aload_n X.1 X.2.1 (show decode cX4_init 70 = .ok (.aload_n 0, 1) by decide +kernel) rfl hl1 ?_
  refine cb_get (ci := 4) (k := 4) (idx := 37) (q := 280) (fin := true) (v := .ref im) X hKc.1 hw (by decide +kernel) rfl (by decide +kernel) ?_
  refine lv_iload_n X.1 X.2.1 (show decode cX4_init 74 = .ok (.iload_n 1, 1) by decide +kernel) rfl (lv_at hls1 0 rfl) ?_
  refine cb_mk (c2 := 0) (i1 := 7) (i2 := 9) (q1 := 79) (q2 := 80) (q3 := 58) (qc := 83) (qi := 82) (c_Pack l D cs G0) X hKc hAN hA hN2 hm1 hw (by decide) (by decide +kernel) (by decide +kernel) (by decide +kernel) (cb_link (q := 81) (host := "WatchDogs") (by decide +kernel)) (by decide +kernel) rfl (by decide +kernel) rfl (by decide +kernel) ⟨by decide, by decide⟩ (Nat.le_of_ble_eq_true rfl) (Nat.le_of_ble_eq_true rfl) (Nat.le_of_ble_eq_true rfl) (by decide +kernel) (by decide +kernel) (by decide +kernel) (fun i0 H7 locs7 hw => ?_)
  refine cb_ast (i := 0) (n := 2) (q0 := 44) (qk := 46) X hKc.1 hw rfl rfl (by decide) (by decide) (by decide +kernel) (fun H8 locs8 hw => ?_)
  refine lv_iinc X.1 X.2.1 (show decode cX4_init 83 = .ok (.iinc 1 1, 3) by decide +kernel) hls1 (k := 0) rfl (v := nI 1) rfl (by decide) rfl (fun ls2 hls2 => ?_)
  have hm2 : c.maxLocals = ls2.size := hml.trans (hls.1.trans hls2.1.symm)
  have hl2 : ls2[0]? = some (.val (.ref h0)) := lv_at hls2 1 rfl
  refine lv_goto (tgt := 65) X.1 X.2.1 (show decode cX4_init 86 = .ok (.goto (-21), 3) by decide +kernel) rfl ?_
  refine lv_iload_n X.1 X.2.1 (show decode cX4_init 65 = .ok (.iload_n 1, 1) by decide +kernel) rfl (lv_at hls2 0 rfl) ?_
  refine lv_iconst X.1 X.2.1 (show decode cX4_init 66 = .ok (.iconst 2, 1) by decide +kernel) (v := 2) rfl ?_
  refine lv_icmp_ge (tgt := 89) X.1 X.2.1 (show decode cX4_init 67 = .ok (.if_icmp .ge 22, 3) by decide +kernel) rfl (fun z => absurd z (by decide)) (fun _ => ?_)
  refine lv_aload_n X.1 X.2.1 (show decode cX4_init 70 = .ok (.aload_n 0, 1) by decide +kernel) rfl hl2 ?_
  refine cb_get (ci := 4) (k := 4) (idx := 37) (q := 280) (fin := true) (v := .ref im) X hKc.1 hw (by decide +kernel) rfl (by decide +kernel) ?_
  refine lv_iload_n X.1 X.2.1 (show decode cX4_init 74 = .ok (.iload_n 1, 1) by decide +kernel) rfl (lv_at hls2 0 rfl) ?_
  refine cb_mk (c2 := 0) (i1 := 7) (i2 := 9) (q1 := 79) (q2 := 80) (q3 := 58) (qc := 83) (qi := 82) (c_Pack l D cs G0) X hKc hAN hA hN2 hm2 hw (by decide) (by decide +kernel) (by decide +kernel) (by decide +kernel) (cb_link (q := 81) (host := "WatchDogs") (by decide +kernel)) (by decide +kernel) rfl (by decide +kernel) rfl (by decide +kernel) ⟨by decide, by decide⟩ (Nat.le_of_ble_eq_true rfl) (Nat.le_of_ble_eq_true rfl) (Nat.le_of_ble_eq_true rfl) (by decide +kernel) (by decide +kernel) (by decide +kernel) (fun i1 H9 locs9 hw => ?_)
  refine cb_ast (i := 1) (n := 2) (q0 := 44) (qk := 56) X hKc.1 hw rfl rfl (by decide) (by decide) (by decide +kernel) (fun H10 locs10 hw => ?_)
  refine lv_iinc X.1 X.2.1 (show decode cX4_init 83 = .ok (.iinc 1 1, 3) by decide +kernel) hls2 (k := 0) rfl (v := nI 2) rfl (by decide) rfl (fun ls3 hls3 => ?_)
  have hm3 : c.maxLocals = ls3.size := hml.trans (hls.1.trans hls3.1.symm)
  have hl3 : ls3[0]? = some (.val (.ref h0)) := lv_at hls3 1 rfl
  refine lv_goto (tgt := 65) X.1 X.2.1 (show decode cX4_init 86 = .ok (.goto (-21), 3) by decide +kernel) rfl ?_
  refine lv_iload_n X.1 X.2.1 (show decode cX4_init 65 = .ok (.iload_n 1, 1) by decide +kernel) rfl (lv_at hls3 0 rfl) ?_
  refine lv_iconst X.1 X.2.1 (show decode cX4_init 66 = .ok (.iconst 2, 1) by decide +kernel) (v := 2) rfl ?_
  refine lv_icmp_ge (tgt := 89) X.1 X.2.1 (show decode cX4_init 67 = .ok (.if_icmp .ge 22, 3) by decide +kernel) rfl (fun _ => ?_) (fun z => absurd (by decide) z)
  refine W.widen (k := 65) (n := 752) (Nat.le_of_ble_eq_true rfl) (Nat.le_of_ble_eq_true rfl) ?_
  exact cb_ret (wf := wfW cs) (h := fnW h0 hp ht ha hs im kp i0 i1) X hr hlk rfl hw (by decide +kernel)
