/-! THE LOGIC, part 4: soundness, kind by kind -/
section WS
variable {w : wd_Wd} {G : wd_G} {M : wd_M} {Q : wd_P} {K : wd_C} {k nx pc : Nat} {as : List Nat} {v : Int32} {u : Int64} {lv : wd_L} {st : List Value} {σ : wd_S} {τ : wd_T}
set_option maxHeartbeats 4000000 in
theorem wd_sound1 (hd : decode M.1.2.1 pc = .ok (wd_ins k as v pc)) (hn : nx = pc + (wd_ins k as v pc).2) (hx : wd_ex M.1.1.cls M.1.2.2.1 pc k as v u M.2.1 = true) (hk : ∀ pc lv st σ τ, K pc lv st σ τ → Run w G M pc lv st σ τ Q) (h : wd_A1 k nx as v u K lv st σ τ) : Run w G M pc lv st σ τ Q := by
  unfold wd_A1 at h
  intro p l e s m args below meth c H locs ls hC hP hS hL
  split at h
  · subst hn
    exact lv_iconst hC.1 hC.2.1 hd (wd_toInt v) (hk _ _ _ _ _ h p l e s m args below meth c H locs ls hC hP hS hL)
  · subst hn
    exact lv_bipush hC.1 hC.2.1 hd (of_decide_eq_true hx) (hk _ _ _ _ _ h p l e s m args below meth c H locs ls hC hP hS hL)
  · subst hn
    exact lv_sipush hC.1 hC.2.1 hd (of_decide_eq_true hx) (hk _ _ _ _ _ h p l e s m args below meth c H locs ls hC hP hS hL)
  · subst hn
    exact lv_lconst hC.1 hC.2.1 hd (of_decide_eq_true hx) (hk _ _ _ _ _ h p l e s m args below meth c H locs ls hC hP hS hL)
  · subst hn
    exact lv_ldc hC.1 hC.2.1 hC.2.2.2.2.2.1 (hC.2.2.2.2.2.2.1 _ (wd_at_mem hx)) hd (hk _ _ _ _ _ h p l e s m args below meth c H locs ls hC hP hS hL)
  · subst hn
    exact lv_ldcw hC.1 hC.2.1 hC.2.2.2.2.2.1 (hC.2.2.2.2.2.2.1 _ (wd_at_mem hx)) hd (hk _ _ _ _ _ h p l e s m args below meth c H locs ls hC hP hS hL)
  · subst hn
    exact lv_ldc2 hC.1 hC.2.1 hC.2.2.2.2.2.1 (hC.2.2.2.2.2.2.1 _ (wd_at_mem hx)) hd (hk _ _ _ _ _ h p l e s m args below meth c H locs ls hC hP hS hL)
  · subst hn
    have hx' : Nat.blt (as.getD 1 0) 6 = true ∧ (wd_six.getD (as.getD 1 0) (0, "")).1 = as.getD 0 0 ∧ M.1.1.cls = RX2 := by
      simpa [wd_ex, Bool.and_eq_true, decide_eq_true_eq] using hx
    replace h := wd_a2_of h
    have hR := hC.2.2.2.2.2.2.2.2.2.2.2.2.1 _ (wd_blt hx'.1)
    rw [hx'.2.1] at hR
    have ho := hC.2.2.2.2.2.1
    rw [hx'.2.2] at ho
    exact va_ldcS hC.1 hC.2.1 ho hR hd (hk _ _ _ _ _ h p l e s m args below meth c H locs ls hC hP hS hL)
  · subst hn
    replace h := wd_a1_of h
    unfold wd_ld at h
    split at h
    · rename_i x hg
      exact lv_iload_n hC.1 hC.2.1 hd (wd_f4_eq (wd_blt hx)) (hL.2.2 _ _ (wd_g_at hg)) (hk _ _ _ _ _ h p l e s m args below meth c H locs ls hC hP hS hL)
    · exact h.elim
  · subst hn
    replace h := wd_a1_of h
    unfold wd_ld at h
    split at h
    · rename_i x hg
      exact lv_iload hC.1 hC.2.1 hd (hL.2.2 _ _ (wd_g_at hg)) (hk _ _ _ _ _ h p l e s m args below meth c H locs ls hC hP hS hL)
    · exact h.elim
  · subst hn
    replace h := wd_a1_of h
    unfold wd_ldl at h
    split at h
    · rename_i x hg
      exact lv_lload_n hC.1 hC.2.1 hd (wd_f4_eq (wd_blt hx)) (hL.2.2 _ _ (wd_g_at hg)) (hk _ _ _ _ _ h p l e s m args below meth c H locs ls hC hP hS hL)
    · exact h.elim
  · subst hn
    replace h := wd_a1_of h
    unfold wd_ldl at h
    split at h
    · rename_i x hg
      exact lv_lload hC.1 hC.2.1 hd (hL.2.2 _ _ (wd_g_at hg)) (hk _ _ _ _ _ h p l e s m args below meth c H locs ls hC hP hS hL)
    · exact h.elim
  · subst hn
    replace h := wd_a1_of h
    unfold wd_lda at h
    split at h
    · rename_i x hg
      exact lv_aload_n hC.1 hC.2.1 hd (wd_f4_eq (wd_blt hx)) (hL.2.2 _ _ (wd_g_at hg)) (hk _ _ _ _ _ h p l e s m args below meth c H locs ls hC hP hS hL)
    · exact h.elim
  · subst hn
    replace h := wd_a1_of h
    unfold wd_lda at h
    split at h
    · rename_i x hg
      exact lv_aload hC.1 hC.2.1 hd (hL.2.2 _ _ (wd_g_at hg)) (hk _ _ _ _ _ h p l e s m args below meth c H locs ls hC hP hS hL)
    · exact h.elim
  · exact h.elim
set_option maxHeartbeats 4000000 in
theorem wd_sound2 (hd : decode M.1.2.1 pc = .ok (wd_ins k as v pc)) (hn : nx = pc + (wd_ins k as v pc).2) (hx : wd_ex M.1.1.cls M.1.2.2.1 pc k as v u M.2.1 = true) (hk : ∀ pc lv st σ τ, K pc lv st σ τ → Run w G M pc lv st σ τ Q) (h : wd_A2 k nx as v K lv st σ τ) : Run w G M pc lv st σ τ Q := by
  unfold wd_A2 at h
  intro p l e s m args below meth c H locs ls hC hP hS hL
  split at h
  · subst hn
    have hx' : Nat.blt (as.getD 0 0) 4 = true ∧ Nat.blt (as.getD 0 0) M.1.2.2.1 = true := by simpa [wd_ex, Bool.and_eq_true] using hx
    replace h := wd_a1_of h
    unfold wd_sti at h
    split at h
    · rename_i x r
      replace h := wd_fL_of h
      exact lv_istore_n hC.1 hC.2.1 hd (wd_f4_eq (wd_blt hx'.1)) (wd_prs_has hL) (wd_blt hx'.2) rfl (fun ls' hl' => hk _ _ _ _ _ h p l e s m args below meth c H locs ls' hC hP hS (wd_lok1 hl'))
    · exact h.elim
  · subst hn
    replace h := wd_a1_of h
    unfold wd_sti at h
    split at h
    · rename_i x r
      replace h := wd_fL_of h
      exact lv_istore hC.1 hC.2.1 hd (wd_prs_has hL) (wd_blt hx) rfl (fun ls' hl' => hk _ _ _ _ _ h p l e s m args below meth c H locs ls' hC hP hS (wd_lok1 hl'))
    · exact h.elim
  · subst hn
    have hx' : Nat.blt (as.getD 0 0) 4 = true ∧ Nat.blt (as.getD 0 0 + 1) M.1.2.2.1 = true := by simpa [wd_ex, Bool.and_eq_true] using hx
    replace h := wd_a1_of h
    unfold wd_stl at h
    split at h
    · rename_i x r
      replace h := wd_fL_of h
      exact lv_lstore_n hC.1 hC.2.1 hd (wd_f4_eq (wd_blt hx'.1)) (wd_prs_has hL) (wd_blt hx'.2) rfl (fun ls' hl' => hk _ _ _ _ _ h p l e s m args below meth c H locs ls' hC hP hS (wd_lok2 hl'))
    · exact h.elim
  · subst hn
    replace h := wd_a1_of h
    unfold wd_stl at h
    split at h
    · rename_i x r
      replace h := wd_fL_of h
      exact lv_lstore hC.1 hC.2.1 hd (wd_prs_has hL) (wd_blt hx) rfl (fun ls' hl' => hk _ _ _ _ _ h p l e s m args below meth c H locs ls' hC hP hS (wd_lok2 hl'))
    · exact h.elim
  · subst hn
    have hx' : Nat.blt (as.getD 0 0) 4 = true ∧ Nat.blt (as.getD 0 0) M.1.2.2.1 = true := by simpa [wd_ex, Bool.and_eq_true] using hx
    replace h := wd_a1_of h
    unfold wd_sta at h
    split at h
    · rename_i x r
      replace h := wd_fL_of h
      exact lv_astore_n hC.1 hC.2.1 hd (wd_f4_eq (wd_blt hx'.1)) (wd_prs_has hL) (wd_blt hx'.2) rfl (fun ls' hl' => hk _ _ _ _ _ h p l e s m args below meth c H locs ls' hC hP hS (wd_lok1 (v := .ref x) hl'))
    · exact h.elim
  · subst hn
    replace h := wd_a1_of h
    unfold wd_sta at h
    split at h
    · rename_i x r
      replace h := wd_fL_of h
      exact lv_astore hC.1 hC.2.1 hd (wd_prs_has hL) (wd_blt hx) rfl (fun ls' hl' => hk _ _ _ _ _ h p l e s m args below meth c H locs ls' hC hP hS (wd_lok1 (v := .ref x) hl'))
    · exact h.elim
  · subst hn
    replace h := wd_a1_of h
    split at h
    · rename_i x hg
      replace h := wd_fL_of h
      obtain ⟨j, hj⟩ := List.getElem?_of_mem (wd_prs_mem (a := G.2.1) (wd_g_at hg))
      exact lv_iinc hC.1 hC.2.1 hd (wd_prs_has hL) hj (v := x + v) (by rw [wd_toInt]) (wd_blt hx) rfl (fun ls' hl' => hk _ _ _ _ _ h p l e s m args below meth c H locs ls' hC hP hS (wd_lok1 (v := .int (x + v)) hl'))
    · exact h.elim
  all_goals first
    | exact h.elim
    | (subst hn
       unfold wd_bin at h
       split at h
       · first
         | exact lv_iadd hC.1 hC.2.1 hd (hk _ _ _ _ _ h p l e s m args below meth c H locs ls hC hP hS hL)
         | exact lv_isub hC.1 hC.2.1 hd (hk _ _ _ _ _ h p l e s m args below meth c H locs ls hC hP hS hL)
         | exact lv_imul hC.1 hC.2.1 hd (hk _ _ _ _ _ h p l e s m args below meth c H locs ls hC hP hS hL)
         | exact lv_iand hC.1 hC.2.1 hd (hk _ _ _ _ _ h p l e s m args below meth c H locs ls hC hP hS hL)
         | exact lv_ior hC.1 hC.2.1 hd (hk _ _ _ _ _ h p l e s m args below meth c H locs ls hC hP hS hL)
         | exact lv_ishl hC.1 hC.2.1 hd (hk _ _ _ _ _ h p l e s m args below meth c H locs ls hC hP hS hL)
         | exact lv_ishr hC.1 hC.2.1 hd (hk _ _ _ _ _ h p l e s m args below meth c H locs ls hC hP hS hL)
         | exact lv_iushr hC.1 hC.2.1 hd rfl (hk _ _ _ _ _ h p l e s m args below meth c H locs ls hC hP hS hL)
       · exact h.elim)
    | (subst hn
       unfold wd_duo at h
       split at h
       · first
         | exact lv_idiv hC.1 hC.2.1 hd h.1 (hk _ _ _ _ _ h.2 p l e s m args below meth c H locs ls hC hP hS hL)
         | exact lv_irem hC.1 hC.2.1 hd h.1 (hk _ _ _ _ _ h.2 p l e s m args below meth c H locs ls hC hP hS hL)
       · exact h.elim)
set_option maxHeartbeats 4000000 in
theorem wd_sound3 (hd : decode M.1.2.1 pc = .ok (wd_ins k as v pc)) (hn : nx = pc + (wd_ins k as v pc).2) (hk : ∀ pc lv st σ τ, K pc lv st σ τ → Run w G M pc lv st σ τ Q) (h : wd_A3 k nx K lv st σ τ) : Run w G M pc lv st σ τ Q := by
  unfold wd_A3 at h
  intro p l e s m args below meth c H locs ls hC hP hS hL
  split at h
  all_goals first
    | exact h.elim
    | (subst hn
       unfold wd_binl at h
       split at h
       · first
         | exact lv_ladd hC.1 hC.2.1 hd (hk _ _ _ _ _ h p l e s m args below meth c H locs ls hC hP hS hL)
         | exact lv_lmul hC.1 hC.2.1 hd (hk _ _ _ _ _ h p l e s m args below meth c H locs ls hC hP hS hL)
         | exact lv_land hC.1 hC.2.1 hd (hk _ _ _ _ _ h p l e s m args below meth c H locs ls hC hP hS hL)
         | exact lv_lor hC.1 hC.2.1 hd (hk _ _ _ _ _ h p l e s m args below meth c H locs ls hC hP hS hL)
       · exact h.elim)
    | (subst hn
       unfold wd_un at h
       split at h
       · first
         | exact lv_i2l hC.1 hC.2.1 hd rfl (hk _ _ _ _ _ h p l e s m args below meth c H locs ls hC hP hS hL)
         | exact lv_i2b hC.1 hC.2.1 hd rfl (hk _ _ _ _ _ h p l e s m args below meth c H locs ls hC hP hS hL)
         | exact lv_i2s hC.1 hC.2.1 hd rfl (hk _ _ _ _ _ h p l e s m args below meth c H locs ls hC hP hS hL)
       · exact h.elim)
    | (subst hn
       unfold wd_unl at h
       split at h
       · exact lv_l2i hC.1 hC.2.1 hd rfl (hk _ _ _ _ _ h p l e s m args below meth c H locs ls hC hP hS hL)
       · exact h.elim)
    | (subst hn
       split at h
       · first
         | exact lv_lshl hC.1 hC.2.1 hd rfl (hk _ _ _ _ _ h p l e s m args below meth c H locs ls hC hP hS hL)
         | exact lv_lshr hC.1 hC.2.1 hd rfl (hk _ _ _ _ _ h p l e s m args below meth c H locs ls hC hP hS hL)
         | exact lv_ldiv hC.1 hC.2.1 hd h.1 (hk _ _ _ _ _ h.2 p l e s m args below meth c H locs ls hC hP hS hL)
         | exact lv_lrem hC.1 hC.2.1 hd h.1 (hk _ _ _ _ _ h.2 p l e s m args below meth c H locs ls hC hP hS hL)
         | exact W.lcmp hC.1 hC.2.1 hd (hk _ _ _ _ _ h p l e s m args below meth c H locs ls hC hP hS hL)
         | exact lv_pop hC.1 hC.2.1 hd rfl (hk _ _ _ _ _ h p l e s m args below meth c H locs ls hC hP hS hL)
       · exact h.elim)
    | (subst hn
       split at h
       · first
         | exact lv_dup hC.1 hC.2.1 hd rfl (hk _ _ _ _ _ h p l e s m args below meth c H locs ls hC hP hS hL)
         | exact lv_dup2_11 hC.1 hC.2.1 hd rfl rfl (hk _ _ _ _ _ h p l e s m args below meth c H locs ls hC hP hS hL)
       · first
         | exact lv_dup hC.1 hC.2.1 hd rfl (hk _ _ _ _ _ h p l e s m args below meth c H locs ls hC hP hS hL)
         | exact lv_dup2_11 hC.1 hC.2.1 hd rfl rfl (hk _ _ _ _ _ h p l e s m args below meth c H locs ls hC hP hS hL)
       · exact h.elim)
theorem wd_sw_of {x : Int32} {d : Nat} {Kt : Nat → Prop} {lo : Nat} {ts : List Nat} (hb : lo + ts.length < 2147483648) : ∀ (j : Nat), j ≤ ts.length → (∀ i, i < j → ¬ x = nI (lo + i)) → wd_sw x (Kt d) Kt (lo + j) (ts.drop j) →
    ((x.toInt < (lo : Int) ∨ ((lo + ts.length : Nat) - 1 : Int) < x.toInt) ∧ Kt d) ∨ ∃ t, (¬ x.toInt < (lo : Int) ∧ ¬ ((lo + ts.length : Nat) - 1 : Int) < x.toInt) ∧ ts[(x.toInt - (lo : Int)).toNat]? = some t ∧ Kt t := by
  intro j
  generalize hm : ts.length - j = n
  induction n generalizing j with
  | zero =>
    intro hj hne h
    have e : ts.drop j = [] := List.drop_eq_nil_iff.mpr (by omega)
    rw [e] at h
    refine Or.inl ⟨?_, h⟩
    by_cases hr : x.toInt < (lo : Int) ∨ ((lo + ts.length : Nat) - 1 : Int) < x.toInt
    · exact hr
    · exfalso
      have h1 : (lo : Int) ≤ x.toInt := by omega
      have h2 : x.toInt < (lo + ts.length : Nat) := by omega
      refine hne (x.toInt.toNat - lo) (by omega) ?_
      have e2 : lo + (x.toInt.toNat - lo) = x.toInt.toNat := by omega
      rw [e2]
      apply Int32.toInt_inj.mp
      rw [nI_toInt (by omega)]
      omega
  | succ n ih =>
    intro hj hne h
    have hlt : j < ts.length := by omega
    rw [List.drop_eq_getElem_cons hlt] at h
    by_cases e : x = nI (lo + j)
    · refine Or.inr ⟨ts[j], ?_, ?_, h.1 e⟩
      · have : x.toInt = ((lo + j : Nat) : Int) := by rw [e, nI_toInt (by omega)]
        constructor <;> omega
      · have : x.toInt = ((lo + j : Nat) : Int) := by rw [e, nI_toInt (by omega)]
        have e3 : (x.toInt - (lo : Int)).toNat = j := by omega
        rw [e3]
        simp [hlt]
    · refine ih (j + 1) (by omega) (by omega) (fun i hi => ?_) (h.2 e)
      by_cases hij : i = j
      · subst hij
        exact e
      · exact hne i (by omega)
theorem wd_lw_of {x : Int32} {d pc : Nat} {Kt : Nat → Prop} : ∀ {ps : List (Nat × Nat)}, (∀ q ∈ ps, q.1 < 2147483648) → wd_lw x (Kt d) Kt ps → ∃ t : Nat, Op.lookupswitch.offset (ps.map (fun q : Nat × Nat => ((q.1 : Int), (q.2 : Int) - (pc : Int)))) ((d : Int) - (pc : Int)) x.toInt = (t : Int) - (pc : Int) ∧ Kt t
  | [], _, h => ⟨d, rfl, h⟩
  | q :: r, hb, h => by
    rw [List.map_cons, Op.lookupswitch.offset_cons]
    by_cases e : x = nI q.1
    · refine ⟨q.2, ?_, h.1 e⟩
      rw [if_pos]
      rw [e, nI_toInt (hb q List.mem_cons_self)]
    · obtain ⟨t, h1, h2⟩ := wd_lw_of (pc := pc) (fun q hq => hb q (List.mem_cons_of_mem _ hq)) (h.2 e)
      refine ⟨t, ?_, h2⟩
      rw [if_neg]
      · exact h1
      · intro z
        apply e
        apply Int32.toInt_inj.mp
        rw [nI_toInt (hb q List.mem_cons_self)]
        exact z.symm
set_option maxHeartbeats 4000000 in
theorem wd_sound4 (hd : decode M.1.2.1 pc = .ok (wd_ins k as v pc)) (hn : nx = pc + (wd_ins k as v pc).2) (hx : wd_ex M.1.1.cls M.1.2.2.1 pc k as v u M.2.1 = true) (hk : ∀ pc lv st σ τ, K pc lv st σ τ → Run w G M pc lv st σ τ Q) (h : wd_A4 k nx as K lv st σ τ) : Run w G M pc lv st σ τ Q := by
  unfold wd_A4 at h
  intro p l e s m args below meth c H locs ls hC hP hS hL
  split at h
  all_goals first
    | exact h.elim
    | (subst hn
       first | replace h := wd_a1_of h | replace h := wd_a3_of h | replace h := wd_a4_of h
       unfold wd_un at h
       split at h
       · first
         | exact lv_if_eq (tgt := as.getD 0 0) hC.1 hC.2.1 hd (by omega) (fun hc => hk _ _ _ _ _ (h.1 hc) p l e s m args below meth c H locs ls hC hP hS hL) (fun hc => hk _ _ _ _ _ (h.2 hc) p l e s m args below meth c H locs ls hC hP hS hL)
         | exact lv_if_ne (tgt := as.getD 0 0) hC.1 hC.2.1 hd (by omega) (fun hc => hk _ _ _ _ _ (h.1 hc) p l e s m args below meth c H locs ls hC hP hS hL) (fun hc => hk _ _ _ _ _ (h.2 hc) p l e s m args below meth c H locs ls hC hP hS hL)
         | exact lv_if_lt (tgt := as.getD 0 0) hC.1 hC.2.1 hd (by omega) (fun hc => hk _ _ _ _ _ (h.1 hc) p l e s m args below meth c H locs ls hC hP hS hL) (fun hc => hk _ _ _ _ _ (h.2 hc) p l e s m args below meth c H locs ls hC hP hS hL)
         | exact lv_if_ge (tgt := as.getD 0 0) hC.1 hC.2.1 hd (by omega) (fun hc => hk _ _ _ _ _ (h.1 hc) p l e s m args below meth c H locs ls hC hP hS hL) (fun hc => hk _ _ _ _ _ (h.2 hc) p l e s m args below meth c H locs ls hC hP hS hL)
         | exact lv_if_gt (tgt := as.getD 0 0) hC.1 hC.2.1 hd (by omega) (fun hc => hk _ _ _ _ _ (h.1 hc) p l e s m args below meth c H locs ls hC hP hS hL) (fun hc => hk _ _ _ _ _ (h.2 hc) p l e s m args below meth c H locs ls hC hP hS hL)
         | exact lv_if_le (tgt := as.getD 0 0) hC.1 hC.2.1 hd (by omega) (fun hc => hk _ _ _ _ _ (h.1 hc) p l e s m args below meth c H locs ls hC hP hS hL) (fun hc => hk _ _ _ _ _ (h.2 hc) p l e s m args below meth c H locs ls hC hP hS hL)
         | (rename_i x r
            rcases wd_sw_of (x := x) (Kt := fun t => K t lv r σ τ) (wd_blt hx) 0 (Nat.zero_le _) (fun i hi => absurd hi (Nat.not_lt_zero i)) h with ⟨h1, h2⟩ | ⟨t, ⟨h1, h2⟩, h3, h4⟩
            · exact lv_tableOut (tgt := as.getD 0 0) hC.1 hC.2.1 hd h1 (by omega) (hk _ _ _ _ _ h2 p l e s m args below meth c H locs ls hC hP hS hL)
            · exact lv_tableIn (tgt := t) (off := (t : Int) - (pc : Int)) hC.1 hC.2.1 hd h1 h2 (by rw [List.getElem?_toArray, List.getElem?_map, h3]; rfl) (by omega) (hk _ _ _ _ _ h4 p l e s m args below meth c H locs ls hC hP hS hL))
         | (rename_i x r
            have hx' := Bool.and_eq_true_iff.mp hx
            obtain ⟨t, h1, h2⟩ := wd_lw_of (x := x) (pc := pc) (Kt := fun t => K t lv r σ τ) (fun q hq => wd_blt (List.all_eq_true.mp hx'.2 q hq)) h
            exact lv_lookup (tgt := t) (off := (t : Int) - (pc : Int)) hC.1 hC.2.1 hd hx'.1 h1 (by omega) (hk _ _ _ _ _ h2 p l e s m args below meth c H locs ls hC hP hS hL))
       · exact h.elim)
    | (subst hn
       replace h := wd_a1_of h
       unfold wd_duo at h
       split at h
       · first
         | exact lv_icmp_eq (tgt := as.getD 0 0) hC.1 hC.2.1 hd (by omega) (fun hc => hk _ _ _ _ _ (h.1 hc) p l e s m args below meth c H locs ls hC hP hS hL) (fun hc => hk _ _ _ _ _ (h.2 hc) p l e s m args below meth c H locs ls hC hP hS hL)
         | exact lv_icmp_ne (tgt := as.getD 0 0) hC.1 hC.2.1 hd (by omega) (fun hc => hk _ _ _ _ _ (h.1 hc) p l e s m args below meth c H locs ls hC hP hS hL) (fun hc => hk _ _ _ _ _ (h.2 hc) p l e s m args below meth c H locs ls hC hP hS hL)
         | exact lv_icmp_lt (tgt := as.getD 0 0) hC.1 hC.2.1 hd (by omega) (fun hc => hk _ _ _ _ _ (h.1 hc) p l e s m args below meth c H locs ls hC hP hS hL) (fun hc => hk _ _ _ _ _ (h.2 hc) p l e s m args below meth c H locs ls hC hP hS hL)
         | exact lv_icmp_ge (tgt := as.getD 0 0) hC.1 hC.2.1 hd (by omega) (fun hc => hk _ _ _ _ _ (h.1 hc) p l e s m args below meth c H locs ls hC hP hS hL) (fun hc => hk _ _ _ _ _ (h.2 hc) p l e s m args below meth c H locs ls hC hP hS hL)
         | exact lv_icmp_gt (tgt := as.getD 0 0) hC.1 hC.2.1 hd (by omega) (fun hc => hk _ _ _ _ _ (h.1 hc) p l e s m args below meth c H locs ls hC hP hS hL) (fun hc => hk _ _ _ _ _ (h.2 hc) p l e s m args below meth c H locs ls hC hP hS hL)
         | exact lv_icmp_le (tgt := as.getD 0 0) hC.1 hC.2.1 hd (by omega) (fun hc => hk _ _ _ _ _ (h.1 hc) p l e s m args below meth c H locs ls hC hP hS hL) (fun hc => hk _ _ _ _ _ (h.2 hc) p l e s m args below meth c H locs ls hC hP hS hL)
       · exact h.elim)
    | exact lv_goto (tgt := as.getD 0 0) hC.1 hC.2.1 hd (by omega) (hk _ _ _ _ _ (wd_a1_of h) p l e s m args below meth c H locs ls hC hP hS hL)
end WS
