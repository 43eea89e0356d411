/-! THE CLASS: a trial's tick whole, walks, copies, a trial's start -/
theorem relC_anew {σ : wd_S} {b : Nat} {n : wRow} {x y : Int32} {r : Nat} (hw : dN n ≤ 4 ∧ sN n ≤ 16 ∧ jN n ≤ 4 ∧ eN n ≤ 6) (h45 : n 45 = nI r ∧ r ≤ 999) (h : relC σ b n) :
    relC (wd_uc (wd_uc (wd_uc σ b (upd (upd (upd (upd (σ b) 15 (if 999 < σ b 15 + 1 then 999 else σ b 15 + 1)) 17 x) 13 0) 16 y)) (b + 3) (fil (fun _ => 0) (σ (b + 3)) 4)) (b + 4) (fil (fun _ => 0) (σ (b + 4)) 4)) b (rstN n x y) := by
  have e15 : (if 999 < σ b 15 + 1 then 999 else σ b 15 + 1) = if n 45 < 999 then n 45 + 1 else 999 := by
    rw [h.1.2.2.2.2.2.2.1, h45.1]
    exact min999 h45.2
  rw [e15]
  have hv : ∀ v, relC (wd_uc σ b (upd (upd (upd (upd (σ b) 15 v) 17 x) 13 0) 16 y)) b (upd (upd (upd (upd n 45 v) 47 x) 34 0) 46 y) := by
    intro v
    have k1 := relC_15 hw h v
    have k2 := relC_17 (n := upd n 45 v) hw k1 x
    have k3 := relC_13 (n := upd (upd n 45 v) 47 x) hw k2 0
    have k4 := relC_16 (n := upd (upd (upd n 45 v) 47 x) 34 0) hw k3 y
    simp only [uc_uc, uc_s] at k4
    exact k4
  have hv := hv (if n 45 < 999 then n 45 + 1 else 999)
  have hd0 : dN (upd (upd (upd (upd n 45 (if n 45 < 999 then n 45 + 1 else 999)) 47 x) 34 0) 46 y) = dN n := rfl
  unfold rstN
  generalize upd (upd (upd (upd n 45 (if n 45 < 999 then n 45 + 1 else 999)) 47 x) 34 0) 46 y = n1 at hv hd0 ⊢
  have hs3 : σ (b + 3) = (wd_uc σ b (upd (upd (upd (upd (σ b) 15 (if n 45 < 999 then n 45 + 1 else 999)) 17 x) 13 0) 16 y)) (b + 3) := (uc_n (by omega)).symm
  have hs4 : σ (b + 4) = (wd_uc σ b (upd (upd (upd (upd (σ b) 15 (if n 45 < 999 then n 45 + 1 else 999)) 17 x) 13 0) 16 y)) (b + 4) := (uc_n (by omega)).symm
  rw [hs3, hs4]
  generalize wd_uc σ b (upd (upd (upd (upd (σ b) 15 (if n 45 < 999 then n 45 + 1 else 999)) 17 x) 13 0) 16 y) = σ1 at hv
  have hi : ∀ j, 16 ≤ j → zerA n1 (dN n) j = n1 j := fun j hj => zerA_hi hw.1 hj
  have d1 : dN (zerA n1 (dN n)) = dN n := by rw [← hd0]; unfold dN; rw [zerA_hi (by rw [show (n1 16).toNatClampNeg = dN n1 from rfl, hd0]; exact hw.1) (by decide)]
  have d2 : sN (zerA n1 (dN n)) = sN n1 := by unfold sN; rw [hi 33 (by decide)]
  have d3 : jN (zerA n1 (dN n)) = jN n1 := by unfold jN; rw [hi 43 (by decide)]
  have d4 : eN (zerA n1 (dN n)) = eN n1 := by unfold eN; rw [hi 48 (by decide)]
  obtain ⟨h0, hdg, hs, hj, he⟩ := hv
  refine ⟨?_, fun e hee => ?_, fun i hh => ?_, fun i hh => ?_, fun i hh => ?_⟩
  · rw [uc_n (by omega), uc_n (by omega)]
    rw [hi 16 (by decide), hi 33 (by decide), hi 43 (by decide), hi 48 (by decide), hi 34 (by decide), hi 44 (by decide), hi 45 (by decide), hi 46 (by decide), hi 47 (by decide)]
    exact h0
  · rw [d1] at hee
    obtain ⟨g1, g2, g3, g4⟩ := hdg e (by rw [hd0]; exact hee)
    rw [uc_n (c' := b + 1) (by omega), uc_n (c' := b + 1) (by omega), uc_n (c' := b + 2) (by omega), uc_n (c' := b + 2) (by omega), uc_n (c' := b + 3) (by omega), uc_s, uc_s]
    rw [(zerA_at hee).1, (zerA_at hee).2, zerA_n (j := 4 * e) (fun d hd => by omega), zerA_n (j := 4 * e + 1) (fun d hd => by omega), fil_lt (by omega), fil_lt (by omega)]
    exact ⟨g1, g2, rfl, rfl⟩
  · rw [d2] at hh
    rw [uc_n (by omega), uc_n (by omega), hi _ (by omega)]
    exact hs i hh
  · rw [d3] at hh
    rw [uc_n (by omega), uc_n (by omega), uc_n (by omega), uc_n (by omega), hi _ (by omega), hi _ (by omega)]
    exact hj i hh
  · rw [d4] at hh
    rw [uc_n (by omega), uc_n (by omega), uc_n (by omega), uc_n (by omega), hi _ (by omega), hi _ (by omega)]
    exact he i hh
theorem bd_of {n m : wRow} (h16 : m 16 = n 16) (h33 : m 33 = n 33) (h43 : m 43 = n 43) (h48 : m 48 = n 48) (h : dN n ≤ 4 ∧ sN n ≤ 16 ∧ jN n ≤ 4 ∧ eN n ≤ 6) : dN m ≤ 4 ∧ sN m ≤ 16 ∧ jN m ≤ 4 ∧ eN m ≤ 6 := by
  unfold dN sN jN eN at *
  rw [h16, h33, h43, h48]
  exact h
theorem dN_of {n m : wRow} (h16 : m 16 = n 16) : dN m = dN n := by
  unfold dN
  rw [h16]
theorem wf_bd {n : wRow} (h : wf n) : dN n ≤ 4 ∧ sN n ≤ 16 ∧ jN n ≤ 4 ∧ eN n ≤ 6 := ⟨h.1.2, h.2.1.2, h.2.2.1.2, h.2.2.2.1.2⟩
theorem plc_34 (n : wRow) : upd n 34 (plcA n 34) = plcA n := by
  unfold plcA
  split
  · rw [upd_self]
  · rw [upd_s]
theorem plc_stk (n : wRow) : isStk (plcA n) = isStk n := by
  unfold plcA
  split
  · rfl
  · have key : ∀ v k, stkA (upd n 34 v) k = stkA n k := by
      intro v k
      induction k with
      | zero => rfl
      | succ k ih => rw [stkA, stkA, ih, upd_n (by omega), upd_n (by omega), upd_n (by omega), upd_n (by omega)]
    unfold isStk
    rw [key]
    rfl
theorem stp_tk (u : wU) : stpA (plcA u.1, u.2.1, u.2.2) (sgnA u.1) = tkA false u := by
  unfold stpA tkA
  dsimp only
  rw [plc_stk]
  rfl
theorem stp_tkL (lost : Bool) (u : wU) : stpA (plcA u.1, u.2.1, u.2.2) (cond lost 0 (sgnA u.1)) = tkA lost u := by
  unfold stpA tkA
  dsimp only
  rw [plc_stk]
section C
variable {G : wd_G} {σ : wd_S} {τ : wd_T} {Q : wd_P}
theorem s_T_step {u : wU} {sg : Int32} (hr : relT σ u) (hw : wf u.1) (h : ∀ σ', relT σ' (stpA u sg) → frT σ σ' → Q (some (.int ((stpA u sg).2.2 18))) σ' τ) : Run wC G M_T_step 0 [some (.ref 1), some (.int sg), none, none] [] σ τ Q := by
  have hD4 := hw.1.2
  have main : ∀ σ1, relT σ1 (u.1, u.2.1, upd u.2.2 15 (u.2.2 15 + bI (isStk u.1))) → frT σ σ1 → Run wC G M_T_step 20 [some (.ref 1), some (.int sg), none, none] [] σ1 τ Q := by
    intro σ1 hr1 hf1
    unfold stpA at h
    generalize hv : (u.1, u.2.1, upd u.2.2 15 (u.2.2 15 + bI (isStk u.1))) = v at hr1 h
    have hw : wf v.1 := by rw [← hv]; exact hw
    have hD4 := hw.1.2
    have hm : mskA v sg (dN v.1) < 16 := Nat.lt_of_lt_of_le (mskA_lt _) (Nat.le_trans (Nat.pow_le_pow_right (by decide) hD4) (by decide))
    refine wd_go ok_T_step [25] 20 (fun R hR => ?_)
    conv => whnf
    try dsimp only
    refine hR (l_T_step (σ0 := σ) hw (fun σ2 hr2 hf2 => ?_) (dN v.1) 0 σ1 (by omega) hr1 hf1)
    rcases Nat.eq_zero_or_pos (mskA v sg (dN v.1)) with h0 | h0
    · rw [tik_0 h0] at h
      rw [h0]
      refine wd_go ok_T_step [] 60 (fun R hR => ?_)
      conv => whnf
      try dsimp only
      refine br_t rfl ?_
      conv => whnf
      try dsimp only
      refine br_t rfl ?_
      conv => whnf
      try dsimp only
      refine ⟨Or.inl rfl, ?_⟩
      have := h (wd_uc σ2 20 (upd (σ2 20) 14 (σ2 20 14 + 1))) ?_ (hf2.uc (by omega))
      · exact this
      · obtain ⟨g1, g3, g4, g5, g6, g7, g2⟩ := hr2
        have e14 : σ2 20 14 = (dogsA v sg (dN v.1)).1 44 := g1.1.2.2.2.2.2.1
        refine ⟨?_, g3, g4, g5, g6, g7, g2⟩
        dsimp only
        rw [← e14]
        have hb := bd_of (n := v.1) (m := (dogsA v sg (dN v.1)).1) (dogsA_n (fun d hd => by omega)) (dogsA_n (fun d hd => by omega)) (dogsA_n (fun d hd => by omega)) (dogsA_n (fun d hd => by omega)) (wf_bd hw)
        exact relC_14 hb g1 _
    · rw [tik_1 h0] at h
      have hne : ¬ fbI (mskA v sg (dN v.1)) = -4 := fun z => by
        have := (fb_ne _ hm).mp z
        omega
      have hfb : fbI (mskA v sg (dN v.1)) = nI (fstA (mskA v sg (dN v.1))) := if_neg (by omega)
      have hb := bd_of (n := v.1) (m := (dogsA v sg (dN v.1)).1) (dogsA_n (fun d hd => by omega)) (dogsA_n (fun d hd => by omega)) (dogsA_n (fun d hd => by omega)) (dogsA_n (fun d hd => by omega)) (wf_bd hw)
      obtain ⟨r, hr45, hr999⟩ := hw.2.2.2.2.2.1
      have h45 : (dogsA v sg (dN v.1)).1 45 = nI r ∧ r ≤ 999 := ⟨by rw [dogsA_n (fun d hd => by omega)]; exact hr45, hr999⟩
      obtain ⟨g1, g3, g4, g5, g6, g7, g2⟩ := hr2
      have e14 : σ2 20 14 = (dogsA v sg (dN v.1)).1 44 := g1.1.2.2.2.2.2.1
      refine wd_go ok_T_step [] 60 (fun R hR => ?_)
      conv => whnf
      try dsimp only
      refine br_f hne ?_
      conv => whnf
      try dsimp only
      refine hR (k_T_step_124 (Nat.le_of_ble_eq_true rfl) rfl (s_anew_20 ?_))
      refine wd_go ok_T_step [] 60 (fun R hR => ?_)
      conv => whnf
      try dsimp only
      refine br_f hne ?_
      conv => whnf
      try dsimp only
      refine ⟨Or.inr rfl, ?_⟩
      have g1' : relC (wd_uc σ2 1 (upd (σ2 1) 3 (σ2 1 3 + 1))) 20 (dogsA v sg (dN v.1)).1 := relC_uc g1 (by omega)
      have k1 := relC_anew (x := fbI (mskA v sg (dN v.1))) (y := σ2 20 14 + 1) hb h45 g1'
      have hh := hb.1
      have hrb := bd_of (n := (dogsA v sg (dN v.1)).1) (m := rstN (dogsA v sg (dN v.1)).1 (fbI (mskA v sg (dN v.1))) (σ2 20 14 + 1)) (rstN_n hh (fun d hd => by omega) (by decide) (by decide) (by decide) (by decide)) (rstN_n hh (fun d hd => by omega) (by decide) (by decide) (by decide) (by decide)) (rstN_n hh (fun d hd => by omega) (by decide) (by decide) (by decide) (by decide)) (rstN_n hh (fun d hd => by omega) (by decide) (by decide) (by decide) (by decide)) hb
      have k2 := relC_14 hrb k1 (rstN (dogsA v sg (dN v.1)).1 (fbI (mskA v sg (dN v.1))) (σ2 20 14 + 1) 44 + 1)
      have e44 : rstN (dogsA v sg (dN v.1)).1 (fbI (mskA v sg (dN v.1))) (σ2 20 14 + 1) 44 = σ2 20 14 := by
        rw [rstN_n hb.1 (fun d hd => by have := hb.1; omega) (by decide) (by decide) (by decide) (by decide), ← e14]
      have fin := h _ ⟨by
        rw [← hfb, ← e14]
        exact k2, ?_, ?_, ?_, ?_, ?_, ?_⟩ ?_
      · rw [e44] at fin
        exact fin
      · show σ2 1 3 + 1 = (dogsA v sg (dN v.1)).2.2 14 + 1
        rw [g3]
      · exact g4
      · exact g5
      · exact g6
      · exact g7
      · intro e he
        have hee : e < dN (dogsA v sg (dN v.1)).1 := by
          have : dN (upd (rstN (dogsA v sg (dN v.1)).1 (nI (fstA (mskA v sg (dN v.1)))) ((dogsA v sg (dN v.1)).1 44 + 1)) 44 (rstN (dogsA v sg (dN v.1)).1 (nI (fstA (mskA v sg (dN v.1)))) ((dogsA v sg (dN v.1)).1 44 + 1) 44 + 1)) = dN (dogsA v sg (dN v.1)).1 := dN_of (by rw [upd_n (by decide), rstN_n hh (fun d hd => by omega) (by decide) (by decide) (by decide) (by decide)])
          rw [← this]
          exact he
        exact g2 e hee
      · exact ((((hf2.uc (by omega)).uc (by omega)).uc (by omega)).uc (by omega)).uc (by omega)
  refine wd_go ok_T_step [20] 20 (fun R hR => ?_)
  conv => whnf
  try dsimp only
  refine hR (k_T_step_4 (Nat.le_of_ble_eq_true rfl) rfl (s_stuck_20 hr.1 hw.2.2.1 ?_))
  obtain ⟨g1, g3, g4, g5, g6, g7, g2⟩ := id hr
  cases hst : isStk u.1 with
  | true =>
    rw [hst] at main
    refine wd_go ok_T_step [20] 20 (fun R hR => ?_)
    conv => whnf
    try dsimp only
    refine br_f (by decide) ?_
    conv => whnf
    try dsimp only
    refine hR (main _ ⟨relC_uc g1 (by omega), g3, ?_, g5, g6, g7, g2⟩ (frT.rf.uc (by omega)))
    show σ 1 4 + 1 = u.2.2 15 + 1
    rw [g4]
  | false =>
    rw [hst] at main
    refine wd_go ok_T_step [20] 20 (fun R hR => ?_)
    conv => whnf
    try dsimp only
    refine br_t rfl ?_
    conv => whnf
    try dsimp only
    refine hR (main _ ⟨g1, g3, ?_, g5, g6, g7, g2⟩ frT.rf)
    show σ 1 4 = u.2.2 15 + 0
    rw [g4]
    simp
end C
