/-! THE REFERENCE: dogsGo, tickGoes, ticksGo -/
theorem wf_row {n m : wRow} (h : wf n) (hm : ∀ j, j ≠ 34 → (∀ d, d < dN n → j ≠ 4 * d + 2 ∧ j ≠ 4 * d + 3) → j ≠ 44 → j ≠ 45 → j ≠ 46 → j ≠ 47 → m j = n j) (hp : m 34 = nI (pN m) ∧ (pN m < sN n ∨ pN m = 0)) (hr : ∃ r : Nat, m 45 = nI r ∧ r ≤ 999) (hb : ∀ d, d < dN n → wd_bit (m (4 * d + 3))) : wf m ∧ dN m = dN n ∧ sN m = sN n ∧ jN m = jN n ∧ eN m = eN n := by
  obtain ⟨⟨h1, h2⟩, ⟨h3, h4⟩, ⟨h5, h6⟩, ⟨h7, h8⟩, h9, h10, h11, h12⟩ := h
  have e16 : m 16 = n 16 := hm 16 (by decide) (fun d hd => by omega) (by decide) (by decide) (by decide) (by decide)
  have e33 : m 33 = n 33 := hm 33 (by decide) (fun d hd => by omega) (by decide) (by decide) (by decide) (by decide)
  have e43 : m 43 = n 43 := hm 43 (by decide) (fun d hd => by omega) (by decide) (by decide) (by decide) (by decide)
  have e48 : m 48 = n 48 := hm 48 (by decide) (fun d hd => by omega) (by decide) (by decide) (by decide) (by decide)
  have d1 : dN m = dN n := by unfold dN; rw [e16]
  have d2 : sN m = sN n := by unfold sN; rw [e33]
  have d3 : jN m = jN n := by unfold jN; rw [e43]
  have d4 : eN m = eN n := by unfold eN; rw [e48]
  refine ⟨⟨⟨by rw [e16, d1]; exact h1, by rw [d1]; exact h2⟩, ⟨by rw [e33, d2]; exact h3, by rw [d2]; exact h4⟩, ⟨by rw [e43, d3]; exact h5, by rw [d3]; exact h6⟩, ⟨by rw [e48, d4]; exact h7, by rw [d4]; exact h8⟩, ⟨hp.1, by rw [d2]; exact hp.2⟩, hr, fun d hd => ?_, fun i hi => ?_⟩, d1, d2, d3, d4⟩
  · rw [d1] at hd
    refine ⟨?_, hb d hd⟩
    rw [hm (4 * d) (by omega) (fun e he => by omega) (by omega) (by omega) (by omega) (by omega)]
    exact (h11 d hd).1
  · rw [d4] at hi
    rw [hm (49 + 2 * i) (by omega) (fun e he => by omega) (by omega) (by omega) (by omega) (by omega)]
    exact h12 i hi
section R
variable {G : wd_G} {s : wd_S} {τ : wd_T} {Q : wd_P}
theorem l_R_dogs {u : wU} {sg : Int32} (hw : wf u.1) (h : ∀ x4 x5 : Option Value, Run wR G M_R_dogsGo 103 [some (.ref 0), some (.int sg), some (.int (nI (mskA u sg (dN u.1)))), some (.int (nI (dN u.1))), x4, x5] [] (mR s (dogsA u sg (dN u.1))) τ Q) :
    ∀ (m i : Nat) (x4 x5 : Option Value), dN u.1 = i + m → Run wR G M_R_dogsGo 4 [some (.ref 0), some (.int sg), some (.int (nI (mskA u sg i))), some (.int (nI i)), x4, x5] [] (mR s (dogsA u sg i)) τ Q := by
  intro m
  have hD := hw.1.1
  have hD4 := hw.1.2
  induction m with
  | zero =>
    intro i x4 x5 hi
    have e : i = dN u.1 := by omega
    subst e
    refine wd_go ok_R_dogsGo [4, 103] 20 (fun R hR => ?_)
    conv => whnf
    try dsimp only
    refine ⟨vp_in_nI (by first | decide | omega) (by first | decide | omega), ?_⟩
    conv => whnf
    try dsimp only
    rw [cl16, mR_2, dogsA_n (fun d hd => by omega), hD]
    refine br_t (nI_le (Nat.le_refl _) (by omega)) ?_
    conv => whnf
    try dsimp only
    exact hR (h x4 x5)
  | succ m ih =>
    intro i x4 x5 hi
    have key := fun x4 x5 => ih (i + 1) x4 x5 (by omega)
    rw [nI_succ] at key
    have hm16 : mskA u sg i < 2 ^ i := mskA_lt i
    have hmm : mskA u sg i < 16 := Nat.lt_of_lt_of_le hm16 (Nat.le_trans (Nat.pow_le_pow_right (by decide) (show i ≤ 4 by omega)) (by decide))
    refine wd_go ok_R_dogsGo [4, 103] 30 (fun R hR => ?_)
    conv => whnf
    try dsimp only
    refine ⟨vp_in_nI (by first | decide | omega) (by first | decide | omega), ?_⟩
    conv => whnf
    try dsimp only
    rw [cl16, mR_2, dogsA_n (fun d hd => by omega), hD]
    refine br_f (nI_ge (by omega) (by omega)) ?_
    conv => whnf
    try dsimp only
    rw [mR_0, dogsA_o (by decide) (by decide)]
    by_cases hs : nI i = u.2.2 13
    · refine br_t hs ?_
      conv => whnf
      try dsimp only
      refine fL_to ?_
      conv => whnf
      try dsimp only
      refine hR ?_
      rw [mskA, if_pos hs, dogsA, if_pos hs] at key
      exact key _ _
    · refine br_f hs ?_
      conv => whnf
      try dsimp only
      rw [mskA, if_neg hs, dogsA, if_neg hs] at key
      have sm := rw_same (d := i) (fed := fdA sg i) (dogsA_at (u := u) (s := sg) (d := i))
      have fin : ∀ fd, fd = fdA sg i → ∀ x5, Run wR G M_R_dogsGo 57 [some (.ref 0), some (.int sg), some (.int (nI (mskA u sg i))), some (.int (nI i)), some (.int (bI fd)), x5] [.int (bI (rwX u.1 i fd))] (mR s (rwD (dogsA u sg i).1 i fd, (dogsA u sg i).2.1, upd (dogsA u sg i).2.2 16 ((dogsA u sg i).2.2 16 + rwK (dogsA u sg i).1 i fd))) τ Q := by
        intro fd hfd x5
        refine wd_go ok_R_dogsGo [4, 103] 30 (fun R hR => ?_)
        conv => whnf
        try dsimp only
        refine hR (k_R_dogsGo_66 (Nat.le_of_ble_eq_true rfl) (s_R_flag (bI_bit _) ?_))
        refine wd_go ok_R_dogsGo [4, 103] 30 (fun R hR => ?_)
        conv => whnf
        try dsimp only
        refine ⟨vp_in_nI (by omega) (by omega), ?_⟩
        conv => whnf
        try dsimp only
        refine hR (k_R_dogsGo_82 (Nat.le_of_ble_eq_true rfl) (s_R_flag (bI_bit _) ?_))
        refine wd_go ok_R_dogsGo [4, 103] 30 (fun R hR => ?_)
        conv => whnf
        try dsimp only
        refine ⟨vp_in_nI (by omega) (by omega), ?_⟩
        conv => whnf
        try dsimp only
        refine hR (k_R_dogsGo_90 (Nat.le_of_ble_eq_true rfl) (s_R_flag (bI_bit _) ?_))
        refine wd_go ok_R_dogsGo [4, 103] 30 (fun R hR => ?_)
        conv => whnf
        try dsimp only
        refine hR ?_
        have k2 := key (some (.int (bI fd))) (some (.int (bI (rwX u.1 i fd))))
        have em : nI (mskA u sg i) ||| (bI (rwX u.1 i fd) <<< (nI i &&& 31)) = nI (mskA u sg i + cond (rwX u.1 i fd) (2 ^ i) 0) := by
          cases rwX u.1 i fd with
          | true => exact msk_or i (by omega) _ hmm hm16
          | false => exact msk_or0 i (by omega) _ hmm
        rw [em]
        rw [mR_w0, mR_w6]
        dsimp only [mR_0, mR_6]
        rw [nI_clamp (by omega), upd_n (show (17 : Nat) ≠ 16 by decide)]
        rw [← hfd, dogA, ← hfd] at k2
        rw [← hfd] at sm
        rw [sm.1] at k2
        exact k2
      by_cases hf : (sg >>> (nI i &&& 31)) &&& 1 = 1
      · refine nb_f hf ?_
        conv => whnf
        try dsimp only
        refine fL_to ?_
        conv => whnf
        try dsimp only
        refine br_f (show ¬ (1 : Int32) = 0 by decide) ?_
        conv => whnf
        try dsimp only
        have ef : fdA sg i = true := decide_eq_true hf
        refine hR (k_R_dogsGo_46 (Nat.le_of_ble_eq_true rfl) rfl (s_R_bitesFed (by omega) ?_))
        rw [mR_2, mR_w2, (rw_same (d := i) (fed := true) (dogsA_at (u := u) (s := sg) (d := i))).1]
        refine wd_go ok_R_dogsGo [4, 103, 57] 5 (fun R hR => ?_)
        conv => whnf
        try dsimp only
        have := fin true ef.symm x5
        have ek : rwK (dogsA u sg i).1 i true = 0 := by simp [rwK, dgK]
        have ez : (dogsA u sg i).2.2 16 + 0 = (dogsA u sg i).2.2 16 := by simp
        rw [ek, ez, upd_self] at this
        exact hR this
      · refine nb_t hf ?_
        conv => whnf
        try dsimp only
        refine fL_to ?_
        conv => whnf
        try dsimp only
        refine br_t rfl ?_
        conv => whnf
        try dsimp only
        have ef : fdA sg i = false := decide_eq_false hf
        refine hR (k_R_dogsGo_54 (Nat.le_of_ble_eq_true rfl) rfl (s_R_bitesUnfed (by omega) ?_))
        rw [mR_2, mR_0, mR_w0, mR_w2, (rw_same (d := i) (fed := false) (dogsA_at (u := u) (s := sg) (d := i))).1]
        exact fin false ef.symm x5
end R
