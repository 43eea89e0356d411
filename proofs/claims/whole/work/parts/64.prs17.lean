/-! THE TEXT: the strings' own methods -/
def M_J0_coder_t : Nat → wd_Lf := fun pc => cond (Nat.ble pc 6) (cond (Nat.ble pc 0) (cond (Nat.beq pc 0) (98, 3, [], 0, 0) (99, 0, [], 0, 0)) (cond (Nat.ble pc 3) (cond (Nat.beq pc 3) (47, 6, [13], 0, 0) (99, 0, [], 0, 0)) (cond (Nat.beq pc 6) (12, 7, [0], 0, 0) (99, 0, [], 0, 0)))) (cond (Nat.ble pc 10) (cond (Nat.ble pc 7) (cond (Nat.beq pc 7) (98, 10, [], 0, 0) (99, 0, [], 0, 0)) (cond (Nat.beq pc 10) (59, 13, [14], 0, 0) (99, 0, [], 0, 0))) (cond (Nat.ble pc 13) (cond (Nat.beq pc 13) (0, 14, [], 1, 0) (99, 0, [], 0, 0)) (cond (Nat.beq pc 14) (98, 15, [], 0, 0) (99, 0, [], 0, 0))))
def M_J0_coder : wd_M := ((yJ0_coder_7d493, cJ0_coder_7d493, 1, (some .byte)), (0, 0), 15, fun pc => cond (Nat.ble 15 pc) (99, 0, [], 0, 0) (M_J0_coder_t pc))
theorem ok_J0_coder : wd_okA M_J0_coder := wd_okM (f := M_J0_coder_t) (fun _ => rfl) (by decide +kernel)
def M_J0_isLatin1_t : Nat → wd_Lf := fun pc => cond (Nat.ble pc 7) (cond (Nat.ble pc 3) (cond (Nat.ble pc 0) (cond (Nat.beq pc 0) (98, 3, [], 0, 0) (99, 0, [], 0, 0)) (cond (Nat.beq pc 3) (47, 6, [17], 0, 0) (99, 0, [], 0, 0))) (cond (Nat.ble pc 6) (cond (Nat.beq pc 6) (12, 7, [0], 0, 0) (99, 0, [], 0, 0)) (cond (Nat.beq pc 7) (98, 10, [], 0, 0) (99, 0, [], 0, 0)))) (cond (Nat.ble pc 13) (cond (Nat.ble pc 10) (cond (Nat.beq pc 10) (48, 13, [17], 0, 0) (99, 0, [], 0, 0)) (cond (Nat.beq pc 13) (0, 14, [], 1, 0) (99, 0, [], 0, 0))) (cond (Nat.ble pc 14) (cond (Nat.beq pc 14) (59, 17, [18], 0, 0) (99, 0, [], 0, 0)) (cond (Nat.ble pc 17) (cond (Nat.beq pc 17) (0, 18, [], 0, 0) (99, 0, [], 0, 0)) (cond (Nat.beq pc 18) (62, 19, [], 0, 0) (99, 0, [], 0, 0)))))
def M_J0_isLatin1 : wd_M := ((yJ0_isLatin1_aae02, cJ0_isLatin1_aae02, 1, (some .boolean)), (0, 0), 19, fun pc => cond (Nat.ble 19 pc) (99, 0, [], 0, 0) (M_J0_isLatin1_t pc))
theorem ok_J0_isLatin1 : wd_okA M_J0_isLatin1 := wd_okM (f := M_J0_isLatin1_t) (fun _ => rfl) (by decide +kernel)
def M_J0_length_t : Nat → wd_Lf := fun pc => cond (Nat.ble pc 4) (cond (Nat.ble pc 0) (cond (Nat.beq pc 0) (12, 1, [0], 0, 0) (99, 0, [], 0, 0)) (cond (Nat.ble pc 1) (cond (Nat.beq pc 1) (98, 4, [], 0, 0) (99, 0, [], 0, 0)) (cond (Nat.beq pc 4) (98, 5, [], 0, 0) (99, 0, [], 0, 0)))) (cond (Nat.ble pc 6) (cond (Nat.ble pc 5) (cond (Nat.beq pc 5) (12, 6, [0], 0, 0) (99, 0, [], 0, 0)) (cond (Nat.beq pc 6) (91, 9, [335], 0, 0) (99, 0, [], 0, 0))) (cond (Nat.ble pc 9) (cond (Nat.beq pc 9) (27, 10, [], 0, 0) (99, 0, [], 0, 0)) (cond (Nat.beq pc 10) (62, 11, [], 0, 0) (99, 0, [], 0, 0))))
def M_J0_length : wd_M := ((yJ0_length_8abf5, cJ0_length_8abf5, 1, (some .int)), (1, 20), 11, fun pc => cond (Nat.ble 11 pc) (99, 0, [], 0, 0) (M_J0_length_t pc))
theorem ok_J0_length : wd_okA M_J0_length := wd_okM (f := M_J0_length_t) (fun _ => rfl) (by decide +kernel)
def M_J0_checkIndex_t : Nat → wd_Lf := fun pc => cond (Nat.ble pc 2) (cond (Nat.ble pc 0) (cond (Nat.beq pc 0) (8, 1, [0], 0, 0) (99, 0, [], 0, 0)) (cond (Nat.ble pc 1) (cond (Nat.beq pc 1) (8, 2, [1], 0, 0) (99, 0, [], 0, 0)) (cond (Nat.beq pc 2) (98, 5, [], 0, 0) (99, 0, [], 0, 0)))) (cond (Nat.ble pc 5) (cond (Nat.beq pc 5) (90, 8, [1059], 0, 0) (99, 0, [], 0, 0)) (cond (Nat.ble pc 8) (cond (Nat.beq pc 8) (46, 9, [], 0, 0) (99, 0, [], 0, 0)) (cond (Nat.beq pc 9) (64, 10, [], 0, 0) (99, 0, [], 0, 0))))
def M_J0_checkIndex : wd_M := ((yJ0_checkIndex_df160, cJ0_checkIndex_df160, 2, none), (1, 22), 10, fun pc => cond (Nat.ble 10 pc) (99, 0, [], 0, 0) (M_J0_checkIndex_t pc))
theorem ok_J0_checkIndex : wd_okA M_J0_checkIndex := wd_okM (f := M_J0_checkIndex_t) (fun _ => rfl) (by decide +kernel)
def M_J1_charAt_t : Nat → wd_Lf := fun pc => cond (Nat.ble pc 6) (cond (Nat.ble pc 1) (cond (Nat.ble pc 0) (cond (Nat.beq pc 0) (8, 1, [1], 0, 0) (99, 0, [], 0, 0)) (cond (Nat.beq pc 1) (12, 2, [0], 0, 0) (99, 0, [], 0, 0))) (cond (Nat.ble pc 2) (cond (Nat.beq pc 2) (98, 3, [], 0, 0) (99, 0, [], 0, 0)) (cond (Nat.ble pc 3) (cond (Nat.beq pc 3) (90, 6, [9], 0, 0) (99, 0, [], 0, 0)) (cond (Nat.beq pc 6) (12, 7, [0], 0, 0) (99, 0, [], 0, 0))))) (cond (Nat.ble pc 9) (cond (Nat.ble pc 7) (cond (Nat.beq pc 7) (8, 8, [1], 0, 0) (99, 0, [], 0, 0)) (cond (Nat.ble pc 8) (cond (Nat.beq pc 8) (98, 9, [], 0, 0) (99, 0, [], 0, 0)) (cond (Nat.beq pc 9) (2, 12, [], 255, 0) (99, 0, [], 0, 0)))) (cond (Nat.ble pc 12) (cond (Nat.beq pc 12) (24, 13, [], 0, 0) (99, 0, [], 0, 0)) (cond (Nat.ble pc 13) (cond (Nat.beq pc 13) (98, 14, [], 0, 0) (99, 0, [], 0, 0)) (cond (Nat.beq pc 14) (98, 15, [], 0, 0) (99, 0, [], 0, 0)))))
def M_J1_charAt : wd_M := ((yJ1_charAt_3b067, cJ1_charAt_3b067, 2, (some .char)), (2, 43), 15, fun pc => cond (Nat.ble 15 pc) (99, 0, [], 0, 0) (M_J1_charAt_t pc))
theorem ok_J1_charAt : wd_okA M_J1_charAt := wd_okM (f := M_J1_charAt_t) (fun _ => rfl) (by decide +kernel)
def M_J0_charAt_t : Nat → wd_Lf := fun pc => cond (Nat.ble pc 11) (cond (Nat.ble pc 4) (cond (Nat.ble pc 0) (cond (Nat.beq pc 0) (12, 1, [0], 0, 0) (99, 0, [], 0, 0)) (cond (Nat.ble pc 1) (cond (Nat.beq pc 1) (91, 4, [492], 0, 0) (99, 0, [], 0, 0)) (cond (Nat.beq pc 4) (47, 7, [16], 0, 0) (99, 0, [], 0, 0)))) (cond (Nat.ble pc 7) (cond (Nat.beq pc 7) (12, 8, [0], 0, 0) (99, 0, [], 0, 0)) (cond (Nat.ble pc 8) (cond (Nat.beq pc 8) (98, 11, [], 0, 0) (99, 0, [], 0, 0)) (cond (Nat.beq pc 11) (8, 12, [1], 0, 0) (99, 0, [], 0, 0))))) (cond (Nat.ble pc 16) (cond (Nat.ble pc 12) (cond (Nat.beq pc 12) (90, 15, [495], 0, 0) (99, 0, [], 0, 0)) (cond (Nat.ble pc 15) (cond (Nat.beq pc 15) (98, 16, [], 0, 0) (99, 0, [], 0, 0)) (cond (Nat.beq pc 16) (12, 17, [0], 0, 0) (99, 0, [], 0, 0)))) (cond (Nat.ble pc 20) (cond (Nat.ble pc 17) (cond (Nat.beq pc 17) (98, 20, [], 0, 0) (99, 0, [], 0, 0)) (cond (Nat.beq pc 20) (8, 21, [1], 0, 0) (99, 0, [], 0, 0))) (cond (Nat.ble pc 21) (cond (Nat.beq pc 21) (90, 24, [498], 0, 0) (99, 0, [], 0, 0)) (cond (Nat.beq pc 24) (98, 25, [], 0, 0) (99, 0, [], 0, 0)))))
def M_J0_charAt : wd_M := ((yJ0_charAt_5068e, cJ0_charAt_5068e, 2, (some .char)), (3, 64), 25, fun pc => cond (Nat.ble 25 pc) (99, 0, [], 0, 0) (M_J0_charAt_t pc))
theorem ok_J0_charAt : wd_okA M_J0_charAt := wd_okM (f := M_J0_charAt_t) (fun _ => rfl) (by decide +kernel)
section WS
variable {w : wd_Wd} {G : wd_G} {M : wd_M} {Q : wd_P} {pc : Nat} {lv : wd_L} {st : List Value} {σ : wd_S} {τ : wd_T}
theorem x_coder {i idx : Nat} (hi : i < 6) (hl : Cond.fieldLink M.1.1.cls idx "java/lang/String" "coder" "B" ∈ wd_gw) (hd : decode M.1.2.1 pc = .ok (.getfield idx, 3)) (h : Run w G M (pc + 3) lv (.int 0 :: st) σ τ Q) : Run w G M pc lv (.ref (1000 + i) :: st) σ τ Q := by
  intro p l e s m args below meth c H locs ls hC hP hS hL
  exact vk_getf hC.1 hC.2.1 (hC.2.2.2.2.2.2.2.2.2.2.2.1.1 i hi).2.1 hS hC.2.2.2.2.2.1 (hC.2.2.2.2.2.2.1 _ hl) (fun _ z => z) hd (h p l e s m args below meth c H locs ls hC hP hS hL)
theorem x_value {i idx : Nat} (hi : i < 6) (hl : Cond.fieldLink M.1.1.cls idx "java/lang/String" "value" "[B" ∈ wd_gw) (hd : decode M.1.2.1 pc = .ok (.getfield idx, 3)) (h : Run w G M (pc + 3) lv (.ref (1100 + i) :: st) σ τ Q) : Run w G M pc lv (.ref (1000 + i) :: st) σ τ Q := by
  intro p l e s m args below meth c H locs ls hC hP hS hL
  exact vk_getf hC.1 hC.2.1 (hC.2.2.2.2.2.2.2.2.2.2.2.1.1 i hi).2.2.1 hS hC.2.2.2.2.2.1 (hC.2.2.2.2.2.2.1 _ hl) (fun _ z => z) hd (h p l e s m args below meth c H locs ls hC hP hS hL)
theorem x_compact {idx : Nat} (hl : Cond.fieldLink M.1.1.cls idx "java/lang/String" "COMPACT_STRINGS" "Z" ∈ wd_gw) (hd : decode M.1.2.1 pc = .ok (.getstatic idx, 3)) (h : Run w G M (pc + 3) lv (.int 1 :: st) σ τ Q) : Run w G M pc lv st σ τ Q := by
  intro p l e s m args below meth c H locs ls hC hP hS hL
  exact va_gets hC.1 hC.2.1 hC.2.2.2.2.2.2.2.2.2.2.2.2.2.1 hS hC.2.2.2.2.2.1 (hC.2.2.2.2.2.2.1 _ hl) (fun _ z => z) hd (h p l e s m args below meth c H locs ls hC hP hS hL)
theorem x_alen {i : Nat} (hi : i < 6) (hd : decode M.1.2.1 pc = .ok (.arraylength, 1)) (h : Run w G M (pc + 1) lv (.int (nI (wd_len.getD i 0)) :: st) σ τ Q) : Run w G M pc lv (.ref (1100 + i) :: st) σ τ Q := by
  intro p l e s m args below meth c H locs ls hC hP hS hL
  exact va_tlen hC.1 hC.2.1 (hC.2.2.2.2.2.2.2.2.2.2.2.1.1 i hi).2.2.2 hS rfl hd (h p l e s m args below meth c H locs ls hC hP hS hL)
theorem x_bald {i k : Nat} (hi : i < 6) (hk : k < wd_len.getD i 0) (hk2 : k < 2 ^ 31) (hd : decode M.1.2.1 pc = .ok (.baload, 1)) (h : Run w G M (pc + 1) lv (.int ((wd_byt.getD i []).getD k 0) :: st) σ τ Q) : Run w G M pc lv (.int (nI k) :: .ref (1100 + i) :: st) σ τ Q := by
  intro p l e s m args below meth c H locs ls hC hP hS hL
  refine va_tb hC.1 hC.2.1 (hC.2.2.2.2.2.2.2.2.2.2.2.1.1 i hi).2.2.2 hS (i := nI k) ?_ (v := .int ((wd_byt.getD i []).getD k 0)) ?_ hd (h p l e s m args below meth c H locs ls hC hP hS hL)
  · intro z
    rcases z with z | z
    · exact nI_nlt (b := 0) (Nat.zero_le k) hk2 z
    · rw [nI_clamp hk2] at z
      omega
  · rw [nI_clamp hk2]
theorem x_i2c {x v : Int32} (hv : (x.toUInt32 % 65536).toInt32 = v) (hd : decode M.1.2.1 pc = .ok (.i2c, 1)) (h : Run w G M (pc + 1) lv (.int v :: st) σ τ Q) : Run w G M pc lv (.int x :: st) σ τ Q := by
  intro p l e s m args below meth c H locs ls hC hP hS hL
  exact lv_i2c hC.1 hC.2.1 hd hv (h p l e s m args below meth c H locs ls hC hP hS hL)
theorem x_ret {x : Int32} {ty : FieldType} (hr : M.1.2.2.2 = some ty) (hn : narrow ty (.int x) = .int x) (hd : decode M.1.2.1 pc = .ok (.ireturn, 1)) (h : Q (some (.int x)) σ τ) : Run w G M pc lv [.int x] σ τ Q := by
  intro p l e s m args below meth c H locs ls hC hP hS hL
  exact W.zret hC.1 hC.2.1 (hC.2.2.2.1.trans hr) hn (fun t ht hW => ⟨some (.int x), σ, τ, rfl, h, by rw [ht]; exact hP, hS.F ht⟩) hS.2.2 hd hC.2.2.2.2.1
set_option maxHeartbeats 4000000 in
/-- a call of a method of a string -/
theorem x_callV {M' : wd_M} {idx n i : Nat} {ps : List Nat} {As : List Value} (hi : i < 6) (hl : wd_lnkV M M' idx n ps = true) (hs : M'.1.1.cls = "java/lang/String") (hd : decode M.1.2.1 pc = .ok (.invokevirtual idx, 3)) (hn : As.length = n) (hfit : (wd_en (.ref (1000 + i) :: As)).length ≤ M'.1.2.2.1) (hsm : wd_sm st)
    (h : Run w G M' 0 (wd_ent (.ref (1000 + i) :: As) M'.1.2.2.1) [] σ τ (fun r σ' τ' => Run w G M (pc + 3) lv (r.toList ++ st) σ' τ' Q)) : Run w G M pc lv (As.reverse ++ .ref (1000 + i) :: st) σ τ Q := by
  intro p l e s m args below meth c H locs ls hC hP hS hL
  have hl' := Bool.and_eq_true_iff.mp hl
  have hc' := Bool.and_eq_true_iff.mp hl'.2
  have hc2 := Bool.and_eq_true_iff.mp hc'.2
  have hc3 := Bool.and_eq_true_iff.mp hc2.2
  have hw := wd_ats_mem hl'.1
  have hwd := fun (x : Cond) hx => hC.2.2.2.2.2.2.1 x (hw x hx)
  have hcode : Cond.code M'.1.1 M'.1.2.1 M'.1.2.2.1 M'.1.2.2.2 ∈ wd_gw := hw _ (by simp)
  have hrec := vk_recv hC.2.2.2.2.2.2.2.2.2.2.2.1 hi hS
  rw [← hs] at hrec
  have cw : CallW (wd_rm M) s args M.1.1.cls M'.1.1.cls idx M'.1.1 M'.1.2.1 M'.1.2.2.1 M'.1.2.2.2 (wd_wsM M') (wd_rm M') 0 0 n :=
    ⟨callB_of n hC.2.2.2.2.2.2.1 (wd_good hcode) rfl rfl rfl (hwd _ (by simp)) (hwd _ (by simp)) (of_decide_eq_true hc'.1) ⟨Nat.le_of_ble_eq_true hc3.1, Nat.le_of_ble_eq_true hc3.2⟩, hwd _ (by simp), hwd _ (by simp)⟩
  have hm := wd_met (l := l) hc2.1 hfit h
  refine wd_back (va_runV (As := As.map (wv G.2.1)) (rest := st.map (wv G.2.1)) (b := G.2.1 (1000 + i)) ⟨hC.1, hC.2.1, hC.2.2.1, hC.2.2.2.2.2.1, hC.2.2.2.2.2.2.1⟩ hm cw ⟨wd_blind, hrec, fun U hU hW => ⟨rfl, by rw [hU]; exact hP, wd_K.warm hW (by rw [hU]; exact hC.2.2.2.2.2.2.2.2.2.2.2.kept hS.2.1) hC.2.2.2.2.2.2.2⟩⟩ rfl (by rw [List.length_map]; exact hn) hL.1 (by show (As.reverse ++ Value.ref (1000 + i) :: st).map (wv G.2.1) = _; rw [List.map_append, List.map_reverse]; rfl) (lv_room (by rw [wd_cat8]; exact hsm)) hd ⟨Nat.le_refl 0, Nat.le_refl 0⟩) hS ?_
  intro r σ' τ' H1 locs1 hq hP1 hS1
  have := hq p l e s m args below meth c H1 locs1 ls hC hP1 hS1 hL
  rw [List.map_append] at this
  cases r <;> exact this
end WS
theorem d3_0 : decode cJ3_checkIndex_8e157 0 = .ok (.iload_n 0, 1) := by decide +kernel
theorem d3_1 : decode cJ3_checkIndex_8e157 1 = .ok (.ifCond .lt 8, 3) := by decide +kernel
theorem d3_4 : decode cJ3_checkIndex_8e157 4 = .ok (.iload_n 0, 1) := by decide +kernel
theorem d3_5 : decode cJ3_checkIndex_8e157 5 = .ok (.iload_n 1, 1) := by decide +kernel
theorem d3_6 : decode cJ3_checkIndex_8e157 6 = .ok (.if_icmp .lt 10, 3) := by decide +kernel
theorem d3_16 : decode cJ3_checkIndex_8e157 16 = .ok (.iload_n 0, 1) := by decide +kernel
theorem d3_17 : decode cJ3_checkIndex_8e157 17 = .ok (.ireturn, 1) := by decide +kernel
set_option maxHeartbeats 4000000 in
/-- an index that is in its bounds is given back -/
theorem mt_J3 {l : Launch} {i n : Int32} {v : Value} (hv1 : v.category = 1) (h0 : ¬ i < 0) (hn : i < n) : Met l yJ3_checkIndex_8e157 (.code yJ3_checkIndex_8e157 cJ3_checkIndex_8e157 3 (some .int) :: wd_gw) { frames := 0, cells := 0, slots := 0, locals := 0 } (va_Pc [.int i, .int n, v] (fun _ => True)) (va_Qi (S := Unit) (fun r _ => r = i) (fun _ _ => True) (fun _ => False)) 0 0 (fun _ => False) := by
  refine Met.ofW (cc := cJ3_checkIndex_8e157) (maxL := 3) (ret := some .int) (by decide) rfl ?_
  intro p e s m args below meth c s₁ B hml hv
  obtain ⟨rfl, -⟩ := hv
  rw [lg_entry_eq]
  have hl := lv_entry [.int i, .int n, v] (n := 3) (by cases v <;> first | exact Nat.le_refl 3 | exact absurd (show (2 : Nat) = 1 from hv1) (by decide))
  generalize ((lg_sl [Value.int i, Value.int n, v] ++ List.replicate (3 - (lg_sl [Value.int i, Value.int n, v]).length) Slot.unset).toArray) = ls at hl ⊢
  have e0 : ls[0]? = some (.val (.int i)) := hl.2.2 (0, .int i) List.mem_cons_self
  have e1 : ls[1]? = some (.val (.int n)) := hl.2.2 (1, .int n) (List.mem_cons_of_mem _ List.mem_cons_self)
  refine lv_iload_n B.exec B.bytes d3_0 rfl e0 ?_
  refine lv_if_lt (tgt := 9) B.exec B.bytes d3_1 rfl (fun z => absurd z h0) (fun _ => ?_)
  refine lv_iload_n B.exec B.bytes d3_4 rfl e0 ?_
  refine lv_iload_n B.exec B.bytes d3_5 rfl e1 ?_
  refine lv_icmp_lt (tgt := 16) B.exec B.bytes d3_6 rfl (fun _ => ?_) (fun z => absurd hn z)
  refine lv_iload_n B.exec B.bytes d3_16 rfl e0 ?_
  exact W.iret B.exec B.bytes B.returns (fun t ht hW => ⟨⟨i, (), rfl, rfl, trivial⟩, by rw [ht]; exact Nat.le_refl _, fun q _ _ => by rw [ht]⟩) (fun l hl => by cases hl) d3_17 B.notSynchronized
theorem d0c_5 : decode cJ0_checkIndex_df160 5 = .ok (.invokestatic 1059, 3) := by decide +kernel
theorem d0c_2 : decode cJ0_checkIndex_df160 2 = .ok (.getstatic 1053, 3) := by decide +kernel
theorem w_good {k : Nat} {x : Cond} (h : wd_at k x = true) : x ∈ wd_gw := wd_at_mem h
section S
variable {w : wd_Wd} {G : wd_G} {Q : wd_P} {σ : wd_S} {τ : wd_T}
theorem s_J0_coder {i : Nat} (hi : i < 6) (h : Q (some (.int 0)) σ τ) : Run w G M_J0_coder 0 [some (.ref (1000 + i))] [] σ τ Q := by
  refine x_compact (idx := 38) (w_good (k := 365) (by decide +kernel)) (by decide +kernel) ?_
  refine wd_go ok_J0_coder [] 20 (fun R hR => ?_)
  conv => whnf
  try dsimp only
  refine br_f (by decide) ?_
  conv => whnf
  try dsimp only
  refine hR (x_coder (idx := 15) hi (w_good (k := 1207) (by decide +kernel)) (by decide +kernel) ?_)
  refine wd_go ok_J0_coder [] 20 (fun R hR => ?_)
  conv => whnf
  try dsimp only
  exact hR (x_ret (ty := .byte) rfl rfl (by decide +kernel) h)
theorem s_J0_isLatin1 {i : Nat} (hi : i < 6) (h : Q (some (.int 1)) σ τ) : Run w G M_J0_isLatin1 0 [some (.ref (1000 + i))] [] σ τ Q := by
  refine x_compact (idx := 38) (w_good (k := 365) (by decide +kernel)) (by decide +kernel) ?_
  refine wd_go ok_J0_isLatin1 [] 20 (fun R hR => ?_)
  conv => whnf
  try dsimp only
  refine br_f (by decide) ?_
  conv => whnf
  try dsimp only
  refine hR (x_coder (idx := 15) hi (w_good (k := 1207) (by decide +kernel)) (by decide +kernel) ?_)
  refine wd_go ok_J0_isLatin1 [] 20 (fun R hR => ?_)
  conv => whnf
  try dsimp only
  refine nb_f rfl ?_
  conv => whnf
  try dsimp only
  exact ⟨Or.inr rfl, h⟩
theorem shr0 : ∀ n : Nat, n < 10 → nI n >>> ((0 : Int32) &&& 31) = nI n := by decide +kernel
theorem s_J0_length {i : Nat} (hi : i < 6) (h : Q (some (.int (nI (wd_len.getD i 0)))) σ τ) : Run w G M_J0_length 0 [some (.ref (1000 + i))] [] σ τ Q := by
  have hlen : wd_len.getD i 0 < 10 := by
    match i, hi with
    | 0, _ => decide
    | 1, _ => decide
    | 2, _ => decide
    | 3, _ => decide
    | 4, _ => decide
    | 5, _ => decide
  refine wd_go ok_J0_length [] 20 (fun R hR => ?_)
  conv => whnf
  try dsimp only
  refine hR (x_value (idx := 9) hi (w_good (k := 1206) (by decide +kernel)) (by decide +kernel) ?_)
  refine x_alen hi (by decide +kernel) ?_
  refine wd_go ok_J0_length [] 20 (fun R hR => ?_)
  conv => whnf
  try dsimp only
  refine hR (x_callV (M' := M_J0_coder) (As := []) (idx := 335) (n := 0) (ps := [361, 364, 64, 362, 363]) hi (by decide +kernel) rfl (by decide +kernel) rfl (Nat.le_of_ble_eq_true rfl) (Nat.le_of_ble_eq_true rfl) (s_J0_coder hi ?_))
  refine wd_go ok_J0_length [] 20 (fun R hR => ?_)
  conv => whnf
  try dsimp only
  rw [shr0 _ hlen]
  exact h
set_option maxHeartbeats 4000000 in
theorem s_J0_checkIndex {i n : Int32} (h0 : ¬ i < 0) (hn : i < n) (h : Q none σ τ) : Run w G M_J0_checkIndex 0 [some (.int i), some (.int n)] [] σ τ Q := by
  refine wd_go ok_J0_checkIndex [] 20 (fun R hR => ?_)
  conv => whnf
  try dsimp only
  refine hR ?_
  have fin : Run w G M_J0_checkIndex 8 [some (.int i), some (.int n)] [.int i] σ τ Q := by
    refine wd_go ok_J0_checkIndex [] 20 (fun R hR => ?_)
    conv => whnf
    try dsimp only
    exact ⟨rfl, h⟩
  intro p l e s m args below meth c H locs ls hC hP hS hL
  have hcode : Cond.code yJ3_checkIndex_8e157 cJ3_checkIndex_8e157 3 (some .int) ∈ wd_gw := w_good (k := 385) (by decide +kernel)
  have hwd := hC.2.2.2.2.2.2.1
  have go5 : ∀ v : Value, v.category = 1 → W p l e (wd_rm M_J0_checkIndex) s m args below meth c H locs 0 0 (MQ below (wd_Qc w G Q) args s 0 0 (wd_A w G)) (F0 m 5 ls [v, .int n, .int i]) := by
    intro v hv
    have cw : CallB (wd_rm M_J0_checkIndex) s args "java/lang/String" 1059 yJ3_checkIndex_8e157 cJ3_checkIndex_8e157 3 (some .int) (.code yJ3_checkIndex_8e157 cJ3_checkIndex_8e157 3 (some .int) :: wd_gw) { frames := 0, cells := 0, slots := 0, locals := 0 } 0 0 3 ∧ (Cond.static yJ3_checkIndex_8e157).before args s = true :=
      ⟨callB_of 3 hwd (wd_good hcode) rfl rfl rfl (hwd _ (w_good (k := 66) (by decide +kernel))) (hwd _ (w_good (k := 383) (by decide +kernel))) (by decide +kernel) ⟨by decide, by decide⟩, hwd _ (w_good (k := 384) (by decide +kernel))⟩
    refine va_calli (A0 := wd_A w G) (va_runS (As := [.int i, .int n, v]) (rest := []) (cc := cJ0_checkIndex_df160) (nL := 2) (Ts := wd_gw) ⟨hC.1, hC.2.1, hC.2.2.1, hC.2.2.2.2.2.1, hwd⟩ (mt_J3 hv h0 hn) cw ⟨fun a U g mk q => q, fun U hU hW => ⟨rfl, trivial⟩⟩ rfl rfl hL.1 rfl (lv_room (by decide)) d0c_5 ⟨Nat.le_refl 0, Nat.le_refl 0⟩) hS (fun _ _ z => z.elim) (fun _ z => z.elim) ?_
    intro r u t H1 locs1 ht hal hr hb hsz hk hS1
    subst hr
    refine fin p l e s m args below meth c H1 locs1 ls hC (hP.kept (fun k q hq => ?_)) hS1 hL
    refine hk q.1 ?_ (fun z => z)
    exact (hP k q hq).lt
  rcases hC.2.2.2.2.2.2.2.2.2.2.2.2.2.2 with hz | ⟨t, hz⟩
  · exact va_gets (index := 1053) (ref := "jdk/internal/util/Preconditions") hC.1 hC.2.1 hz hS hC.2.2.2.2.2.1 (hwd _ (w_good (k := 381) (by decide +kernel))) (fun _ z => z) d0c_2 (go5 .null rfl)
  · exact va_gets (index := 1053) (ref := "jdk/internal/util/Preconditions") hC.1 hC.2.1 hz hS hC.2.2.2.2.2.1 (hwd _ (w_good (k := 381) (by decide +kernel))) (fun _ z => z) d0c_2 (go5 (.ref t) rfl)
end S
def wdN : List (List Nat) := [[112, 108, 97, 105, 110], [119, 105, 110, 100, 111, 119], [116, 119, 105, 99, 101], [104, 97, 108, 102], [115, 105, 103, 110, 115], [106, 97, 109]]
theorem wdN_len : ∀ i, i < 6 → (wdN.getD i []).length = wd_len.getD i 0 ∧ wd_len.getD i 0 ≤ 6 := by decide
theorem wdN_byt : ∀ i, i < 6 → ∀ k, k < 6 → (wd_byt.getD i []).getD k 0 = nI ((wdN.getD i []).getD k 0) ∧ (wdN.getD i []).getD k 0 < 128 := by decide +kernel
theorem chr_i2c : ∀ x : Nat, x < 128 → ((nI x &&& 255).toUInt32 % 65536).toInt32 = nI x := by decide +kernel
theorem chr_nar {x : Nat} (h : x < 128) : narrow .char (.int (nI x)) = .int (nI x) := by
  have e : ((nI x).toUInt32 % 65536).toInt32 = nI x := co_dec (N := 128) (P := fun x => ((nI x).toUInt32 % 65536).toInt32 = nI x) (by decide +kernel) h
  show Value.int (((nI x).toUInt32 % 65536).toInt32) = Value.int (nI x)
  rw [e]
section S
variable {w : wd_Wd} {G : wd_G} {Q : wd_P} {σ : wd_S} {τ : wd_T}
theorem s_J1_charAt {i k : Nat} (hi : i < 6) (hk : k < wd_len.getD i 0) (h : Q (some (.int (nI ((wdN.getD i []).getD k 0)))) σ τ) : Run w G M_J1_charAt 0 [some (.ref (1100 + i)), some (.int (nI k))] [] σ τ Q := by
  have hl := (wdN_len i hi).2
  have hb := wdN_byt i hi k (by omega)
  refine wd_go ok_J1_charAt [] 20 (fun R hR => ?_)
  conv => whnf
  try dsimp only
  refine hR (x_alen hi (by decide +kernel) ?_)
  refine wd_callS (M' := M_J0_checkIndex) (As := [.int (nI k), .int (nI (wd_len.getD i 0))]) (st := []) (idx := 9) (n := 2) (ps := [378, 380, 64, 379]) (by decide +kernel) (by decide +kernel) rfl (Nat.le_of_ble_eq_true rfl) (Nat.le_of_ble_eq_true rfl) (s_J0_checkIndex (nI_nlt (b := 0) (Nat.zero_le k) (by omega)) (nI_lt hk (by omega)) ?_)
  refine wd_go ok_J1_charAt [] 20 (fun R hR => ?_)
  conv => whnf
  try dsimp only
  refine hR (x_bald hi hk (by omega) (by decide +kernel) ?_)
  rw [hb.1]
  refine wd_go ok_J1_charAt [] 20 (fun R hR => ?_)
  conv => whnf
  try dsimp only
  refine hR (x_i2c (chr_i2c _ hb.2) (by decide +kernel) ?_)
  exact x_ret (ty := .char) rfl (chr_nar hb.2) (by decide +kernel) h
theorem s_J0_charAt {i k : Nat} (hi : i < 6) (hk : k < wd_len.getD i 0) (h : Q (some (.int (nI ((wdN.getD i []).getD k 0)))) σ τ) : Run w G M_J0_charAt 0 [some (.ref (1000 + i)), some (.int (nI k))] [] σ τ Q := by
  have hl := (wdN_len i hi).2
  have hb := wdN_byt i hi k (by omega)
  refine wd_go ok_J0_charAt [] 20 (fun R hR => ?_)
  conv => whnf
  try dsimp only
  refine hR (x_callV (M' := M_J0_isLatin1) (As := []) (idx := 492) (n := 0) (ps := [371, 374, 64, 372, 373]) hi (by decide +kernel) rfl (by decide +kernel) rfl (Nat.le_of_ble_eq_true rfl) (Nat.le_of_ble_eq_true rfl) (s_J0_isLatin1 hi ?_))
  refine wd_go ok_J0_charAt [] 20 (fun R hR => ?_)
  conv => whnf
  try dsimp only
  refine br_f (by decide) ?_
  conv => whnf
  try dsimp only
  refine hR (x_value (idx := 9) hi (w_good (k := 1206) (by decide +kernel)) (by decide +kernel) ?_)
  refine wd_go ok_J0_charAt [] 20 (fun R hR => ?_)
  conv => whnf
  try dsimp only
  refine hR (wd_callS (M' := M_J1_charAt) (As := [.ref (1100 + i), .int (nI k)]) (st := []) (idx := 495) (n := 2) (ps := [375, 377, 65, 376]) (by decide +kernel) (by decide +kernel) rfl (Nat.le_of_ble_eq_true rfl) (Nat.le_of_ble_eq_true rfl) (s_J1_charAt hi hk ?_))
  exact x_ret (ty := .char) rfl (chr_nar hb.2) (by decide +kernel) h
end S
section C
variable {G : wd_G} {τ : wd_T} {Q : wd_P} {b : Nat → Nat} {L : Nat} {σ : wd_S}
theorem k_A_len {i : Nat} {pc : Nat} {lv : wd_L} {st : List Value} (hi : i < 6) (hp : pc = 18 ∨ pc = 30) (hsm : wd_sm st) (h : Run wC G M_A_isName (pc + 3) lv (.int (nI (wd_len.getD i 0)) :: st) σ τ Q) : Run wC G M_A_isName pc lv (.ref (1000 + i) :: st) σ τ Q := by
  have hd : decode M_A_isName.1.2.1 pc = .ok (.invokevirtual 124, 3) := by
    rcases hp with rfl | rfl
    · decide +kernel
    · decide +kernel
  exact x_callV (M' := M_J0_length) (As := []) (idx := 124) (n := 0) (ps := [357, 360, 64, 358, 359]) hi (by decide +kernel) rfl hd rfl (Nat.le_of_ble_eq_true rfl) hsm (s_J0_length hi h)
theorem k_A_chr {i k : Nat} {lv : wd_L} {st : List Value} (hi : i < 6) (hk : k < wd_len.getD i 0) (hsm : wd_sm st) (h : Run wC G M_A_isName 52 lv (.int (nI ((wdN.getD i []).getD k 0)) :: st) σ τ Q) : Run wC G M_A_isName 49 lv (.int (nI k) :: .ref (1000 + i) :: st) σ τ Q :=
  x_callV (M' := M_J0_charAt) (As := [.int (nI k)]) (idx := 129) (n := 1) (ps := [367, 370, 64, 368, 369]) hi (by decide +kernel) rfl (by decide +kernel) rfl (Nat.le_of_ble_eq_true rfl) hsm (s_J0_charAt hi hk h)
theorem l_A_isName {i s q : Nat} (hi : i < 6) (ht : tpC σ b L) (h8 : σ 4 8 = nI s) (hq : q = s + wd_len.getD i 0) (hqL : q ≤ L) : ∀ (r : List Nat) (k : Nat), (wdN.getD i []).drop k = r → k ≤ wd_len.getD i 0 → Q (some (.int (bI (wdB b (s + k) r)))) σ τ → Run wC G M_A_isName 28 [some (.ref 4), some (.ref (1000 + i)), some (.int (nI k))] [] σ τ Q := by
  have hl := wdN_len i hi
  have hL := ht.2.1
  intro r
  induction r with
  | nil =>
    intro k hr hk h
    have hk2 : (wdN.getD i []).length ≤ k := List.drop_eq_nil_iff.mp hr
    refine wd_go ok_A_isName [28] 20 (fun R hR => ?_)
    conv => whnf
    try dsimp only
    refine hR (k_A_len hi (Or.inr rfl) (Nat.le_of_ble_eq_true rfl) ?_)
    refine wd_go ok_A_isName [28] 20 (fun R hR => ?_)
    conv => whnf
    try dsimp only
    refine br_t (nI_le (by omega) (by omega)) ?_
    conv => whnf
    try dsimp only
    exact ⟨Or.inr rfl, h⟩
  | cons c r ih =>
    intro k hr hk h
    have hk2 : k < (wdN.getD i []).length := by
      refine Nat.lt_of_not_le (fun z => ?_)
      rw [List.drop_eq_nil_iff.mpr z] at hr
      cases hr
    have hr2 := hr
    rw [List.drop_eq_getElem_cons hk2] at hr2
    have hc : (wdN.getD i []).getD k 0 = c := by
      rw [List.getD_eq_getElem?_getD, List.getElem?_eq_getElem hk2]
      exact (List.cons.inj hr2).1
    have hbk := ht.2.2 (s + k) (by omega)
    have hb := wdN_byt i hi k (by omega)
    rw [hc] at hb
    rw [wdB] at h
    refine wd_go ok_A_isName [28] 20 (fun R hR => ?_)
    conv => whnf
    try dsimp only
    refine hR (k_A_len hi (Or.inr rfl) (Nat.le_of_ble_eq_true rfl) ?_)
    refine wd_go ok_A_isName [28] 20 (fun R hR => ?_)
    conv => whnf
    try dsimp only
    refine br_f (nI_ge (by omega) (by omega)) ?_
    conv => whnf
    try dsimp only
    rw [h8, nI_add]
    refine ⟨vp_in_nI (by first | decide | omega) (by first | decide | omega), ?_⟩
    conv => whnf
    try dsimp only
    rw [nI_clamp (by omega), hbk.1]
    refine hR (k_A_chr hi (by omega) (Nat.le_of_ble_eq_true rfl) ?_)
    rw [hc]
    refine wd_go ok_A_isName [28] 20 (fun R hR => ?_)
    conv => whnf
    try dsimp only
    by_cases e : b (s + k) = c
    · rw [decide_eq_true e, Bool.true_and] at h
      refine br_t ((nI_eq (by omega) (by omega)).mpr e) ?_
      conv => whnf
      try dsimp only
      rw [nI_1]
      exact hR (ih (k + 1) (by rw [← (List.cons.inj hr2).2]) (by omega) (by rw [show s + (k + 1) = s + k + 1 by omega]; exact h))
    · rw [decide_eq_false e, Bool.false_and] at h
      refine br_f (fun z => e ((nI_eq (by omega) (by omega)).mp z)) ?_
      conv => whnf
      try dsimp only
      exact ⟨Or.inl rfl, h⟩
theorem s_A_isName {i : Nat} {y : pY} (hi : i < 6) (ht : tpC σ b L) (hy : okY L y) (hx : cX σ (.inr y)) (h : Q (some (.int (bI (decide (y.2.1 = 1) && lnB b y.1 y.2.2.1 (wdN.getD i []))))) σ τ) : Run wC G M_A_isName 0 [some (.ref 4), some (.ref (1000 + i)), none] [] σ τ Q := by
  have h3 := hy.2.2.2.1
  have hl := wdN_len i hi
  have hL := ht.2.1
  have hq := hy.1
  have hqL := hy.2.1
  unfold lnB at h
  refine wd_go ok_A_isName [28] 20 (fun R hR => ?_)
  conv => whnf
  try dsimp only
  rw [hx.2.2.1]
  by_cases e1 : y.2.1 = 1
  · rw [decide_eq_true e1, Bool.true_and] at h
    refine nb_f (by rw [e1]; rfl) ?_
    conv => whnf
    try dsimp only
    rw [hx.2.1, hx.2.2.2.1, pk_sub hq]
    refine hR (k_A_len hi (Or.inl rfl) (Nat.le_of_ble_eq_true rfl) ?_)
    refine wd_go ok_A_isName [28] 20 (fun R hR => ?_)
    conv => whnf
    try dsimp only
    by_cases e2 : y.2.2.1 = y.1 + (wdN.getD i []).length
    · rw [decide_eq_true e2, Bool.true_and] at h
      refine br_t ((nI_eq (by omega) (by omega)).mpr (by omega)) ?_
      conv => whnf
      try dsimp only
      exact hR (l_A_isName (s := y.1) (q := y.2.2.1) hi ht hx.2.2.2.1 (by omega) hqL (wdN.getD i []) 0 rfl (Nat.zero_le _) h)
    · rw [decide_eq_false e2, Bool.false_and] at h
      refine br_f (fun z => e2 ?_) ?_
      · have := (nI_eq (by omega) (by omega)).mp z
        omega
      conv => whnf
      try dsimp only
      exact ⟨Or.inl rfl, h⟩
  · rw [decide_eq_false e1, Bool.false_and] at h
    refine nb_t (fun z => e1 ((nI_eq (b := 1) (by omega) (by decide)).mp z)) ?_
    conv => whnf
    try dsimp only
    exact ⟨Or.inl rfl, h⟩
end C
