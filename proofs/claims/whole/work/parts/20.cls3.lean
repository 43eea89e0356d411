/-! THE CLASS: a trial's tick -/
def relT (σ : wd_S) (u : wU) : Prop := relC σ 20 u.1 ∧ σ 1 3 = u.2.2 14 ∧ σ 1 4 = u.2.2 15 ∧ σ 1 5 = u.2.2 16 ∧ σ 1 6 = u.2.2 17 ∧ σ 1 7 = u.2.2 13 ∧ ∀ d, d < dN u.1 → σ 2 d = u.2.1 d
def frT (σ σ' : wd_S) : Prop := ∀ c, (c = 0 ∨ (3 ≤ c ∧ c < 20) ∨ 30 ≤ c) → σ' c = σ c
theorem frT.rf {σ : wd_S} : frT σ σ := fun _ _ => rfl
theorem frT.tr {a b c : wd_S} (h : frT a b) (g : frT b c) : frT a c := fun q hq => (g q hq).trans (h q hq)
theorem frT.uc {a b : wd_S} {q : Nat} {f : wRow} (h : frT a b) (hq : q = 1 ∨ q = 2 ∨ (20 ≤ q ∧ q < 30)) : frT a (wd_uc b q f) := fun c hc => by
  rw [uc_n (by omega)]
  exact h c hc
theorem relC_uc {σ : wd_S} {b q : Nat} {n f : wRow} (h : relC σ b n) (hq : q < b ∨ b + 10 ≤ q) : relC (wd_uc σ q f) b n := relC_kept h (fun j hj => uc_n (by omega))
theorem rwK_sub (n : wRow) (d : Nat) : rwB n d false - n (4 * d + 3) = rwK n d false := by
  unfold rwB dgB rwK dgK
  simp only [Bool.false_eq_true, if_false]
  split
  · simp
  · split
    · simp
    · rw [Int32.add_comm, Int32.add_sub_cancel]
theorem rwD_dN {n : wRow} {d : Nat} {fed : Bool} (hd : d < 4) : dN (rwD n d fed) = dN n := by
  unfold dN
  rw [rwD_n (by omega) (by omega)]
def fbI (m : Nat) : Int32 := if m = 0 then -4 else nI (fstA m)
theorem fb_add : ∀ i, i < 4 → ∀ m, m < 16 → m < 2 ^ i → fbI (m + 2 ^ i) = if fbI m = -4 then nI i else fbI m := by decide +kernel
theorem fb_ne : ∀ m, m < 16 → (fbI m = -4 ↔ m = 0) := by decide +kernel
def stpA (u : wU) (s : Int32) : wU := tikA (u.1, u.2.1, upd u.2.2 15 (u.2.2 15 + bI (isStk u.1))) s
section C
variable {G : wd_G} {σ : wd_S} {τ : wd_T} {Q : wd_P}
theorem s_T_bitesIn {u : wU} {d : Nat} {fed : Bool} (hr : relT σ u) (hw : dN u.1 ≤ 4) (hk4 : ∃ k : Nat, u.1 (4 * d) = nI k ∧ k ≤ 3) (hb : wd_bit (u.1 (4 * d + 3))) (hd : d < dN u.1)
    (h : ∀ σ', relT σ' (rwD u.1 d fed, u.2.1, upd (upd u.2.2 16 (u.2.2 16 + rwK u.1 d fed)) 17 (u.2.2 17 + bI fed)) → frT σ σ' → Q (some (.int (bI (rwX u.1 d fed)))) σ' τ) : Run wC G M_T_bitesIn 0 [some (.ref 1), some (.int (nI d)), some (.int (bI fed)), none, none] [] σ τ Q := by
  obtain ⟨hC, h3, h4, h5, h6, h7, h2⟩ := hr
  have hd4 : d < 4 := Nat.lt_of_lt_of_le hd hw
  cases fed with
  | true =>
    refine wd_go ok_T_bitesIn [] 30 (fun R hR => ?_)
    conv => whnf
    try dsimp only
    refine br_f (by decide) ?_
    conv => whnf
    try dsimp only
    refine hR (k_T_bitesIn_19 (Nat.le_of_ble_eq_true rfl) rfl (s_fed_20 (relC_uc hC (by omega)) hw hk4 hd ?_))
    refine wd_go ok_T_bitesIn [] 30 (fun R hR => ?_)
    conv => whnf
    try dsimp only
    refine ⟨bI_bit _, ?_⟩
    refine h _ ⟨relC_dog hw hd (relC_uc hC (by omega)), ?_, ?_, ?_, ?_, ?_, ?_⟩ ?_
    · exact h3
    · exact h4
    · show σ 1 5 = u.2.2 16 + rwK u.1 d true
      rw [h5, show rwK u.1 d true = 0 by simp [rwK, dgK]]
      simp
    · show σ 1 6 + 1 = u.2.2 17 + 1
      rw [h6]
    · exact h7
    · intro e he
      rw [rwD_dN hd4] at he
      exact h2 e he
    · exact ((frT.rf.uc (by omega)).uc (by omega)).uc (by omega)
  | false =>
    have e4 : σ 24 d = u.1 (4 * d + 3) := (hC.2.1 d hd).2.2.2
    refine wd_go ok_T_bitesIn [] 30 (fun R hR => ?_)
    conv => whnf
    try dsimp only
    refine br_t rfl ?_
    conv => whnf
    try dsimp only
    refine ⟨vp_in_nI (by first | decide | omega) (by first | decide | omega), ?_⟩
    conv => whnf
    try dsimp only
    refine hR (k_T_bitesIn_38 (Nat.le_of_ble_eq_true rfl) rfl (s_unfed hC hw hk4 hb hd ?_))
    refine wd_go ok_T_bitesIn [] 30 (fun R hR => ?_)
    conv => whnf
    try dsimp only
    refine ⟨vp_in_nI (by first | decide | omega) (by first | decide | omega), ?_⟩
    conv => whnf
    try dsimp only
    refine ⟨bI_bit _, ?_⟩
    rw [nI_clamp (by omega)]
    refine h _ ⟨relC_uc (relC_dog hw hd hC) (by omega), ?_, ?_, ?_, ?_, ?_, ?_⟩ ?_
    · exact h3
    · exact h4
    · show σ 1 5 + (upd (σ 24) d (rwB u.1 d false) d - σ 24 d) = u.2.2 16 + rwK u.1 d false
      rw [h5, upd_s, e4, rwK_sub]
    · show σ 1 6 = u.2.2 17 + 0
      rw [h6]
      simp
    · exact h7
    · intro e he
      rw [rwD_dN hd4] at he
      exact h2 e he
    · exact ((frT.rf.uc (by omega)).uc (by omega)).uc (by omega)
theorem l_T_step {u : wU} {sg : Int32} {σ0 : wd_S} (hw : wf u.1) (h : ∀ σ, relT σ (dogsA u sg (dN u.1)) → frT σ0 σ → Run wC G M_T_step 94 [some (.ref 1), some (.int sg), some (.int (fbI (mskA u sg (dN u.1)))), some (.int (nI (dN u.1)))] [] σ τ Q) :
    ∀ (m i : Nat) (σ : wd_S), dN u.1 = i + m → relT σ (dogsA u sg i) → frT σ0 σ → Run wC G M_T_step 25 [some (.ref 1), some (.int sg), some (.int (fbI (mskA u sg i))), some (.int (nI i))] [] σ τ Q := by
  intro m
  have hD4 := hw.1.2
  induction m with
  | zero =>
    intro i σ hi hr hf
    have e : i = dN u.1 := by omega
    subst e
    have e9 : σ 20 9 = nI (dN u.1) := by
      rw [hr.1.1.1, dogsA_n (fun d hd => by omega)]
      exact hw.1.1
    refine wd_go ok_T_step [25, 94] 20 (fun R hR => ?_)
    conv => whnf
    try dsimp only
    rw [e9]
    refine br_t (nI_le (Nat.le_refl _) (by omega)) ?_
    conv => whnf
    try dsimp only
    exact hR (h σ hr hf)
  | succ m ih =>
    intro i σ hi hr hf
    have e9 : σ 20 9 = nI (dN u.1) := by
      rw [hr.1.1.1, dogsA_n (fun d hd => by omega)]
      exact hw.1.1
    have e7 : σ 1 7 = u.2.2 13 := by
      rw [hr.2.2.2.2.2.1]
      exact dogsA_o (by decide) (by decide) i
    have hdd : dN (dogsA u sg i).1 = dN u.1 := dogsA_dN (by omega)
    have hm16 : mskA u sg i < 2 ^ i := mskA_lt i
    have hmm : mskA u sg i < 16 := Nat.lt_of_lt_of_le hm16 (Nat.le_trans (Nat.pow_le_pow_right (by decide) (show i ≤ 4 by omega)) (by decide))
    have key : ∀ σ, relT σ (dogsA u sg (i + 1)) → frT σ0 σ → Run wC G M_T_step 25 [some (.ref 1), some (.int sg), some (.int (fbI (mskA u sg (i + 1)))), some (.int (nI i + 1))] [] σ τ Q := by
      intro σ h1 h2
      have := ih (i + 1) σ (by omega) h1 h2
      rw [nI_succ] at this
      exact this
    refine wd_go ok_T_step [25, 94] 30 (fun R hR => ?_)
    conv => whnf
    try dsimp only
    rw [e9]
    refine br_f (nI_ge (by omega) (by omega)) ?_
    conv => whnf
    try dsimp only
    rw [e7]
    by_cases hs : nI i = u.2.2 13
    · refine br_t hs ?_
      conv => whnf
      try dsimp only
      refine hR ?_
      rw [mskA, if_pos hs, dogsA, if_pos hs] at key
      exact key σ hr hf
    · refine br_f hs ?_
      rw [mskA, if_neg hs, dogsA, if_neg hs] at key
      have sm := rw_same (d := i) (fed := fdA sg i) (dogsA_at (u := u) (s := sg) (d := i))
      have go : Run wC G M_T_step 60 [some (.ref 1), some (.int sg), some (.int (fbI (mskA u sg i))), some (.int (nI i))] [.int (bI (fdA sg i)), .int (nI i), .ref 1] σ τ Q := by
        have a0 := dogsA_at (u := u) (s := sg) (d := i) 0 (by decide)
        have a3 := dogsA_at (u := u) (s := sg) (d := i) 3 (by decide)
        have hdi : i < dN u.1 := by omega
        refine k_T_step_60 (Nat.le_of_ble_eq_true rfl) rfl (s_T_bitesIn hr (by rw [hdd]; exact hD4) ?_ ?_ (by rw [hdd]; exact hdi) (fun σ' hr' hf' => ?_))
        · rw [Nat.add_zero] at a0
          rw [a0]
          exact (hw.2.2.2.2.2.2.1 i hdi).1
        · rw [a3]
          exact (hw.2.2.2.2.2.2.1 i hdi).2
        · rw [sm.1]
          cases hx : rwX u.1 i (fdA sg i) with
          | true =>
            refine wd_go ok_T_step [25, 94] 40 (fun R hR => ?_)
            conv => whnf
            try dsimp only
            refine br_f (by decide) ?_
            conv => whnf
            try dsimp only
            refine ⟨vp_in_nI (by first | decide | omega) (by first | decide | omega), ?_⟩
            conv => whnf
            try dsimp only
            refine ⟨vp_in_nI (by first | decide | omega) (by first | decide | omega), ?_⟩
            conv => whnf
            try dsimp only
            rw [hx] at key
            simp only [cond_true] at key
            have hk2 : relT (wd_uc σ' 2 (upd (σ' 2) i (σ' 2 i + 1))) (dogA (dogsA u sg i) sg i) := by
              obtain ⟨g1, g3, g4, g5, g6, g7, g2⟩ := hr'
              rw [dogA, sm.1, hx]
              refine ⟨relC_uc g1 (by omega), g3, g4, g5, g6, g7, fun e he => ?_⟩
              rw [uc_s]
              dsimp only
              by_cases hei : e = i
              · subst hei
                rw [upd_s, upd_s, g2 e he]
                rfl
              · rw [upd_n hei, upd_n hei]
                exact g2 e he
            have hk3 : frT σ0 (wd_uc σ' 2 (upd (σ' 2) i (σ' 2 i + 1))) := (hf.tr hf').uc (by omega)
            have k9 := key _ hk2 hk3
            rw [fb_add i (by omega) _ hmm hm16] at k9
            rw [nI_clamp (by omega)]
            by_cases hb : fbI (mskA u sg i) = -4
            · refine nb_f hb ?_
              conv => whnf
              try dsimp only
              rw [if_pos hb] at k9
              exact hR k9
            · refine nb_t hb ?_
              conv => whnf
              try dsimp only
              rw [if_neg hb] at k9
              exact hR k9
          | false =>
            refine wd_go ok_T_step [25, 94] 40 (fun R hR => ?_)
            conv => whnf
            try dsimp only
            refine br_t rfl ?_
            conv => whnf
            try dsimp only
            rw [hx] at key
            simp only [cond_false, Nat.add_zero] at key
            refine hR (key σ' ?_ (hf.tr hf'))
            obtain ⟨g1, g3, g4, g5, g6, g7, g2⟩ := hr'
            rw [dogA, sm.1, hx]
            refine ⟨g1, g3, g4, g5, g6, g7, fun e he => ?_⟩
            dsimp only
            by_cases hei : e = i
            · subst hei
              rw [upd_s, g2 e he]
              simp [bI]
            · rw [upd_n hei]
              exact g2 e he
      conv => whnf
      try dsimp only
      by_cases hfd : (sg >>> (nI i &&& 31)) &&& 1 = 1
      · refine nb_f hfd ?_
        conv => whnf
        try dsimp only
        have ef : fdA sg i = true := decide_eq_true hfd
        rw [ef] at go
        exact hR go
      · refine nb_t hfd ?_
        conv => whnf
        try dsimp only
        have ef : fdA sg i = false := decide_eq_false hfd
        rw [ef] at go
        exact hR go
end C
