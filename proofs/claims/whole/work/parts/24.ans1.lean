/-! ANSWERS: rule, dog, sign, jam, runs, ahead, when: of the reference, of the class -/
def frR (σ σ' : wd_S) : Prop := (∀ c, c ≠ 0 → c ≠ 2 → c ≠ 6 → c ≠ 7 → c ≠ 8 → σ' c = σ c) ∧ ∀ k, (k < 13 ∨ 25 ≤ k) → σ' 0 k = σ 0 k
def frD (σ σ' : wd_S) : Prop := ∀ c, (c = 0 ∨ (4 ≤ c ∧ c < 20) ∨ 30 ≤ c) → σ' c = σ c
theorem frR.rf {σ : wd_S} : frR σ σ := ⟨fun _ _ _ _ _ _ => rfl, fun _ _ => rfl⟩
theorem frR.tr {a b c : wd_S} (h : frR a b) (g : frR b c) : frR a c := ⟨fun q h0 h2 h6 h7 h8 => (g.1 q h0 h2 h6 h7 h8).trans (h.1 q h0 h2 h6 h7 h8), fun k hk => (g.2 k hk).trans (h.2 k hk)⟩
theorem frD.rf {σ : wd_S} : frD σ σ := fun _ _ => rfl
theorem frD.tr {a b c : wd_S} (h : frD a b) (g : frD b c) : frD a c := fun q hq => (g q hq).trans (h q hq)
theorem frT.D {a b : wd_S} (h : frT a b) : frD a b := fun c hc => h c (by omega)
theorem frD.C {a b : wd_S} {n : wRow} (h : frD a b) (hr : relC a 10 n) : relC b 10 n := relC_kept hr (fun j hj => h _ (by omega))
theorem mR_fr {σ : wd_S} {u : wU} (h : ∀ k, (k < 13 ∨ 25 ≤ k) → u.2.2 k = σ 0 k) : frR σ (mR σ u) := ⟨fun c h0 h2 h6 _ _ => mR_n h0 h2 h6, fun k hk => h k hk⟩
theorem stU_o {σ : wd_S} {k : Nat} (hk : k < 13 ∨ 25 ≤ k) : (stU σ).2.2 k = σ 0 k := by
  show upd (upd (upd (upd (upd (σ 0) 13 (-4)) 14 0) 15 0) 16 0) 17 0 k = σ 0 k
  rw [upd_n (by omega), upd_n (by omega), upd_n (by omega), upd_n (by omega), upd_n (by omega)]
theorem frR_tks {σ : wd_S} {n : Nat} {u : wU} (hu : ∀ k, (k < 13 ∨ 25 ≤ k) → u.2.2 k = σ 0 k) : frR σ (mR σ (tksA n u)) := mR_fr (fun k hk => by
  rw [tks_o (by omega) (by omega) (by omega) (by omega) (by omega)]
  exact hu k hk)
def aRule (P : wRow) (w : Int32) : Int32 := if w = nI 0 then P 16 else if w = nI 1 then P 33 else if w = nI 2 then P 43 else if w = nI 3 then P 44 else if w = nI 4 then P 45 else if w = nI 5 then P 34 else if w = nI 6 then bI (isStk P) else if w = nI 7 then P 47 else if w = nI 8 then P 46 else -1
def aDog (P : wRow) (d w : Int32) : Int32 := if inB d 0 (P 16 - 1) = true ∧ inB w 0 3 = true then P (4 * d.toNatClampNeg + w.toNatClampNeg) else -1
def aSign (P : wRow) (i : Int32) : Int32 := if inB i 0 (P 33 - 1) = true then P (17 + i.toNatClampNeg) else -1
def aJam (P : wRow) (i w : Int32) : Int32 := if inB i 0 (P 43 - 1) = true ∧ inB w 0 1 = true then P (35 + 2 * i.toNatClampNeg + w.toNatClampNeg) else -1
def aRuns (P : wRow) (n w : Int32) : Int32 := if inB n 0 200 = true ∧ inB w 0 3 = true then (tksA n.toNatClampNeg (stP P (-4))).2.2 (14 + w.toNatClampNeg) else -1
def aAhead (P : wRow) (d n w : Int32) : Int32 := if inB d 0 (P 16 - 1) = true ∧ inB n 0 200 = true ∧ inB w 0 2 = true then (if w = 2 then (tksA n.toNatClampNeg (stP P (-4))).2.1 d.toNatClampNeg else (tksA n.toNatClampNeg (stP P (-4))).1 (4 * d.toNatClampNeg + 2 + w.toNatClampNeg)) else -1
section R
variable {G : wd_G} {σ : wd_S} {τ : wd_T} {Q : wd_P}
theorem s_R_rule {w : Int32} (hw : wf (σ 1)) (h : ∀ σ', frR σ σ' → Q (some (.int (aRule (σ 1) w))) σ' τ) : Run wR G M_R_rule 0 [some (.ref 0), some (.int w)] [] σ τ Q := by
  refine wd_go ok_R_rule [] 20 (fun R hR => ?_)
  conv => whnf
  try dsimp only
  refine hR (k_R_rule_1 (Nat.le_of_ble_eq_true rfl) rfl (s_R_starts ?_))
  have h1 := h (mR σ (stU σ)) (mR_fr (fun k hk => stU_o hk))
  refine wd_go ok_R_rule [] 20 (fun R hR => ?_)
  conv => whnf
  try dsimp only
  refine ⟨fun e => ?_, fun e0 => ?_⟩
  · subst e
    conv => whnf
    try dsimp only
    refine ⟨vp_in_nI (by first | decide | omega) (by first | decide | omega), ?_⟩
    conv => whnf
    try dsimp only
    exact h1
  refine ⟨fun e => ?_, fun e1 => ?_⟩
  · subst e
    conv => whnf
    try dsimp only
    refine ⟨vp_in_nI (by first | decide | omega) (by first | decide | omega), ?_⟩
    conv => whnf
    try dsimp only
    exact h1
  refine ⟨fun e => ?_, fun e2 => ?_⟩
  · subst e
    conv => whnf
    try dsimp only
    refine ⟨vp_in_nI (by first | decide | omega) (by first | decide | omega), ?_⟩
    conv => whnf
    try dsimp only
    exact h1
  refine ⟨fun e => ?_, fun e3 => ?_⟩
  · subst e
    conv => whnf
    try dsimp only
    refine ⟨vp_in_nI (by first | decide | omega) (by first | decide | omega), ?_⟩
    conv => whnf
    try dsimp only
    exact h1
  refine ⟨fun e => ?_, fun e4 => ?_⟩
  · subst e
    conv => whnf
    try dsimp only
    refine ⟨vp_in_nI (by first | decide | omega) (by first | decide | omega), ?_⟩
    conv => whnf
    try dsimp only
    exact h1
  refine ⟨fun e => ?_, fun e5 => ?_⟩
  · subst e
    conv => whnf
    try dsimp only
    refine ⟨vp_in_nI (by first | decide | omega) (by first | decide | omega), ?_⟩
    conv => whnf
    try dsimp only
    exact h1
  refine ⟨fun e => ?_, fun e6 => ?_⟩
  · subst e
    conv => whnf
    try dsimp only
    refine hR (k_R_rule_105 (Nat.le_of_ble_eq_true rfl) rfl (s_R_isStuck (stU_wf hw) ?_))
    refine k_R_rule_108 (Nat.le_of_ble_eq_true rfl) (s_R_flag (bI_bit _) ?_)
    refine wd_go ok_R_rule [] 20 (fun R hR => ?_)
    conv => whnf
    try dsimp only
    have e : isStk (mR σ (stU σ) 2) = isStk (σ 1) := eq_isStk (n := (stU σ).1) (fun j hj => fil_lt hj) (stU_wf hw)
    rw [e]
    exact h1
  refine ⟨fun e => ?_, fun e7 => ?_⟩
  · subst e
    conv => whnf
    try dsimp only
    refine ⟨vp_in_nI (by first | decide | omega) (by first | decide | omega), ?_⟩
    conv => whnf
    try dsimp only
    exact h1
  refine ⟨fun e => ?_, fun e8 => ?_⟩
  · subst e
    conv => whnf
    try dsimp only
    refine ⟨vp_in_nI (by first | decide | omega) (by first | decide | omega), ?_⟩
    conv => whnf
    try dsimp only
    exact h1
  conv => whnf
  try dsimp only
  have e : aRule (σ 1) w = -1 := by simp only [aRule, e0, e1, e2, e3, e4, e5, e6, e7, e8, if_false]
  rw [e] at h1
  exact h1
theorem s_R_dog {d w : Int32} (hw : wf (σ 1)) (h : Q (some (.int (aDog (σ 1) d w))) σ τ) : Run wR G M_R_dog 0 [some (.ref 0), some (.int d), some (.int w)] [] σ τ Q := by
  refine wd_go ok_R_dog [] 20 (fun R hR => ?_)
  conv => whnf
  try dsimp only
  refine hR (k_R_dog_2 (Nat.le_of_ble_eq_true rfl) rfl (s_R_isDog ?_))
  cases hd : inB d 0 (σ 1 16 - 1) with
  | false =>
    refine wd_go ok_R_dog [] 20 (fun R hR => ?_)
    conv => whnf
    try dsimp only
    refine br_t rfl ?_
    conv => whnf
    try dsimp only
    rw [aDog, if_neg (fun z => by rw [hd] at z; cases z.1)] at h
    exact h
  | true =>
    refine wd_go ok_R_dog [] 20 (fun R hR => ?_)
    conv => whnf
    try dsimp only
    refine br_f (by decide) ?_
    conv => whnf
    try dsimp only
    refine hR (k_R_dog_14 (Nat.le_of_ble_eq_true rfl) (s_R_in2 (a := 0) (b := 3) rfl rfl ?_))
    cases hv : inB w 0 3 with
    | false =>
      refine wd_go ok_R_dog [] 20 (fun R hR => ?_)
      conv => whnf
      try dsimp only
      refine br_t rfl ?_
      conv => whnf
      try dsimp only
      rw [aDog, if_neg (fun z => by rw [hv] at z; cases z.2)] at h
      exact h
    | true =>
      rw [aDog, if_pos ⟨hd, hv⟩] at h
      rw [hw.1.1] at hd
      obtain ⟨d, hdd, rfl⟩ := inD (by have := hw.1.2; omega) hd
      obtain ⟨w, hww, rfl⟩ := inN (N := 3) (by decide) hv
      have := hw.1.2
      rw [nI_clamp (by omega), nI_clamp (by omega)] at h
      refine wd_go ok_R_dog [] 20 (fun R hR => ?_)
      conv => whnf
      try dsimp only
      refine br_f (by decide) ?_
      conv => whnf
      try dsimp only
      rw [ix4]
      refine ⟨vp_in_nI (by first | decide | omega) (by first | decide | omega), ?_⟩
      conv => whnf
      try dsimp only
      rw [nI_clamp (by omega)]
      exact h
theorem s_R_sign {i : Int32} (hw : wf (σ 1)) (h : Q (some (.int (aSign (σ 1) i))) σ τ) : Run wR G M_R_sign 0 [some (.ref 0), some (.int i)] [] σ τ Q := by
  refine wd_go ok_R_sign [] 20 (fun R hR => ?_)
  conv => whnf
  try dsimp only
  refine hR (k_R_sign_2 (Nat.le_of_ble_eq_true rfl) rfl (s_R_isSign ?_))
  cases hd : inB i 0 (σ 1 33 - 1) with
  | false =>
    refine wd_go ok_R_sign [] 20 (fun R hR => ?_)
    conv => whnf
    try dsimp only
    refine br_t rfl ?_
    conv => whnf
    try dsimp only
    rw [aSign, if_neg (fun z => by rw [hd] at z; cases z)] at h
    exact h
  | true =>
    rw [aSign, if_pos hd] at h
    rw [hw.2.1.1] at hd
    have := hw.2.1.2
    obtain ⟨i, hi, rfl⟩ := inD (by omega) hd
    rw [nI_clamp (by omega)] at h
    refine wd_go ok_R_sign [] 20 (fun R hR => ?_)
    conv => whnf
    try dsimp only
    refine br_f (by decide) ?_
    conv => whnf
    try dsimp only
    rw [il17, nI_add]
    refine ⟨vp_in_nI (by first | decide | omega) (by first | decide | omega), ?_⟩
    conv => whnf
    try dsimp only
    rw [nI_clamp (by omega)]
    exact h
theorem s_R_jam {i w : Int32} (hw : wf (σ 1)) (h : Q (some (.int (aJam (σ 1) i w))) σ τ) : Run wR G M_R_jam 0 [some (.ref 0), some (.int i), some (.int w)] [] σ τ Q := by
  refine wd_go ok_R_jam [] 20 (fun R hR => ?_)
  conv => whnf
  try dsimp only
  refine ⟨vp_in_nI (by first | decide | omega) (by first | decide | omega), ?_⟩
  conv => whnf
  try dsimp only
  refine hR (k_R_jam_13 (Nat.le_of_ble_eq_true rfl) (s_R_in2 (a := 0) (b := σ 1 43 - 1) rfl rfl ?_))
  cases hd : inB i 0 (σ 1 43 - 1) with
  | false =>
    refine wd_go ok_R_jam [] 20 (fun R hR => ?_)
    conv => whnf
    try dsimp only
    refine br_t rfl ?_
    conv => whnf
    try dsimp only
    rw [aJam, if_neg (fun z => by rw [hd] at z; cases z.1)] at h
    exact h
  | true =>
    refine wd_go ok_R_jam [] 20 (fun R hR => ?_)
    conv => whnf
    try dsimp only
    refine br_f (by decide) ?_
    conv => whnf
    try dsimp only
    refine hR (k_R_jam_20 (Nat.le_of_ble_eq_true rfl) (s_R_isPart ?_))
    cases hv : inB w 0 1 with
    | false =>
      refine wd_go ok_R_jam [] 20 (fun R hR => ?_)
      conv => whnf
      try dsimp only
      refine br_t rfl ?_
      conv => whnf
      try dsimp only
      rw [aJam, if_neg (fun z => by rw [hv] at z; cases z.2)] at h
      exact h
    | true =>
      rw [aJam, if_pos ⟨hd, hv⟩] at h
      rw [hw.2.2.1.1] at hd
      have := hw.2.2.1.2
      obtain ⟨i, hi, rfl⟩ := inD (by omega) hd
      obtain ⟨w, hww, rfl⟩ := inN (N := 1) (by decide) hv
      rw [nI_clamp (by omega), nI_clamp (by omega)] at h
      refine wd_go ok_R_jam [] 20 (fun R hR => ?_)
      conv => whnf
      try dsimp only
      refine br_f (by decide) ?_
      conv => whnf
      try dsimp only
      rw [ix35, nI_add]
      refine ⟨vp_in_nI (by first | decide | omega) (by first | decide | omega), ?_⟩
      conv => whnf
      try dsimp only
      rw [nI_clamp (by omega)]
      exact h
theorem s_R_runs {n w : Int32} (hw : wf (σ 1)) (h : ∀ σ', frR σ σ' → Q (some (.int (aRuns (σ 1) n w))) σ' τ) : Run wR G M_R_runs 0 [some (.ref 0), some (.int n), some (.int w)] [] σ τ Q := by
  refine wd_go ok_R_runs [] 20 (fun R hR => ?_)
  conv => whnf
  try dsimp only
  refine hR (k_R_runs_1 (Nat.le_of_ble_eq_true rfl) (s_R_isFar ?_))
  cases hn : inB n 0 200 with
  | false =>
    refine wd_go ok_R_runs [] 20 (fun R hR => ?_)
    conv => whnf
    try dsimp only
    refine br_t rfl ?_
    conv => whnf
    try dsimp only
    have h := h σ frR.rf
    rw [aRuns, if_neg (fun z => by rw [hn] at z; cases z.1)] at h
    exact h
  | true =>
    refine wd_go ok_R_runs [] 20 (fun R hR => ?_)
    conv => whnf
    try dsimp only
    refine br_f (by decide) ?_
    conv => whnf
    try dsimp only
    refine hR (k_R_runs_13 (Nat.le_of_ble_eq_true rfl) (s_R_in2 (a := 0) (b := 3) rfl rfl ?_))
    cases hv : inB w 0 3 with
    | false =>
      refine wd_go ok_R_runs [] 20 (fun R hR => ?_)
      conv => whnf
      try dsimp only
      refine nb_f rfl ?_
      conv => whnf
      try dsimp only
      have h := h σ frR.rf
      rw [aRuns, if_neg (fun z => by rw [hv] at z; cases z.2)] at h
      exact h
    | true =>
      obtain ⟨n, hnn, rfl⟩ := inN (N := 200) (by decide) hn
      obtain ⟨w, hww, rfl⟩ := inN (N := 3) (by decide) hv
      have h := h (mR σ (tksA n (stU σ))) (frR_tks (fun k hk => stU_o hk))
      rw [aRuns, if_pos ⟨hn, hv⟩, nI_clamp (by omega), nI_clamp (by omega)] at h
      have q := (eq_tksA (stU_wf hw) (stU_eq σ) n).1.2.2
      refine wd_go ok_R_runs [] 20 (fun R hR => ?_)
      conv => whnf
      try dsimp only
      refine nb_t (by decide) ?_
      conv => whnf
      try dsimp only
      refine hR (k_R_runs_22 (Nat.le_of_ble_eq_true rfl) rfl (s_R_starts ?_))
      refine wd_go ok_R_runs [] 20 (fun R hR => ?_)
      conv => whnf
      try dsimp only
      refine hR (k_R_runs_27 (Nat.le_of_ble_eq_true rfl) rfl (s_R_ticksGo (stU_wf hw) (by omega) ?_))
      rw [← q (14 + w) (by omega) (by omega)] at h
      match w, hww with
      | 0, _ =>
        refine wd_go ok_R_runs [] 20 (fun R hR => ?_)
        conv => whnf
        try dsimp only
        refine br_t rfl ?_
        conv => whnf
        try dsimp only
        exact h
      | 1, _ =>
        refine wd_go ok_R_runs [] 20 (fun R hR => ?_)
        conv => whnf
        try dsimp only
        refine br_f (by decide) (br_t rfl ?_)
        conv => whnf
        try dsimp only
        exact h
      | 2, _ =>
        refine wd_go ok_R_runs [] 20 (fun R hR => ?_)
        conv => whnf
        try dsimp only
        refine br_f (by decide) (br_f (by decide) (br_t rfl ?_))
        conv => whnf
        try dsimp only
        exact h
      | 3, _ =>
        refine wd_go ok_R_runs [] 20 (fun R hR => ?_)
        conv => whnf
        try dsimp only
        refine br_f (by decide) (br_f (by decide) (br_f (by decide) ?_))
        conv => whnf
        try dsimp only
        exact h
theorem s_R_ahead {d n w : Int32} (hw : wf (σ 1)) (h : ∀ σ', frR σ σ' → Q (some (.int (aAhead (σ 1) d n w))) σ' τ) : Run wR G M_R_ahead 0 [some (.ref 0), some (.int d), some (.int n), some (.int w)] [] σ τ Q := by
  refine wd_go ok_R_ahead [] 20 (fun R hR => ?_)
  conv => whnf
  try dsimp only
  refine hR (k_R_ahead_2 (Nat.le_of_ble_eq_true rfl) rfl (s_R_isDog ?_))
  cases hd : inB d 0 (σ 1 16 - 1) with
  | false =>
    refine wd_go ok_R_ahead [] 20 (fun R hR => ?_)
    conv => whnf
    try dsimp only
    refine br_t rfl ?_
    conv => whnf
    try dsimp only
    have h := h σ frR.rf
    rw [aAhead, if_neg (fun z => by rw [hd] at z; cases z.1)] at h
    exact h
  | true =>
    refine wd_go ok_R_ahead [] 20 (fun R hR => ?_)
    conv => whnf
    try dsimp only
    refine br_f (by decide) ?_
    conv => whnf
    try dsimp only
    refine hR (k_R_ahead_9 (Nat.le_of_ble_eq_true rfl) (s_R_isFar ?_))
    cases hn : inB n 0 200 with
    | false =>
      refine wd_go ok_R_ahead [] 20 (fun R hR => ?_)
      conv => whnf
      try dsimp only
      refine br_t rfl ?_
      conv => whnf
      try dsimp only
      have h := h σ frR.rf
      rw [aAhead, if_neg (fun z => by rw [hn] at z; cases z.2.1)] at h
      exact h
    | true =>
      refine wd_go ok_R_ahead [] 20 (fun R hR => ?_)
      conv => whnf
      try dsimp only
      refine br_f (by decide) ?_
      conv => whnf
      try dsimp only
      refine hR (k_R_ahead_21 (Nat.le_of_ble_eq_true rfl) (s_R_in2 (a := 0) (b := 2) rfl rfl ?_))
      cases hv : inB w 0 2 with
      | false =>
        refine wd_go ok_R_ahead [] 20 (fun R hR => ?_)
        conv => whnf
        try dsimp only
        refine nb_f rfl ?_
        conv => whnf
        try dsimp only
        have h := h σ frR.rf
        rw [aAhead, if_neg (fun z => by rw [hv] at z; cases z.2.2)] at h
        exact h
      | true =>
        have h := h (mR σ (tksA n.toNatClampNeg (stU σ))) (frR_tks (fun k hk => stU_o hk))
        rw [aAhead, if_pos ⟨hd, hn, hv⟩] at h
        rw [hw.1.1] at hd
        have hD4 := hw.1.2
        obtain ⟨d, hdd, rfl⟩ := inD (by omega) hd
        obtain ⟨n, hnn, rfl⟩ := inN (N := 200) (by decide) hn
        obtain ⟨w, hww, rfl⟩ := inN (N := 2) (by decide) hv
        rw [nI_clamp (by omega), nI_clamp (by omega), nI_clamp (by omega)] at h
        have q := (eq_tksA (stU_wf hw) (stU_eq σ) n).1
        refine wd_go ok_R_ahead [] 20 (fun R hR => ?_)
        conv => whnf
        try dsimp only
        refine nb_t (by decide) ?_
        conv => whnf
        try dsimp only
        refine hR (k_R_ahead_30 (Nat.le_of_ble_eq_true rfl) rfl (s_R_starts ?_))
        refine wd_go ok_R_ahead [] 20 (fun R hR => ?_)
        conv => whnf
        try dsimp only
        refine hR (k_R_ahead_35 (Nat.le_of_ble_eq_true rfl) rfl (s_R_ticksGo (stU_wf hw) (by omega) ?_))
        match w, hww with
        | 0, _ =>
          rw [if_neg (by decide), ← q.1 _ (by omega)] at h
          refine wd_go ok_R_ahead [] 20 (fun R hR => ?_)
          conv => whnf
          try dsimp only
          refine nb_t (by decide) ?_
          conv => whnf
          try dsimp only
          refine hR (k_R_ahead_57 (Nat.le_of_ble_eq_true rfl) rfl (s_R_of2 (by omega) ?_))
          refine wd_go ok_R_ahead [] 20 (fun R hR => ?_)
          conv => whnf
          try dsimp only
          exact h
        | 1, _ =>
          rw [if_neg (by decide), ← q.1 _ (by omega)] at h
          refine wd_go ok_R_ahead [] 20 (fun R hR => ?_)
          conv => whnf
          try dsimp only
          refine nb_t (by decide) ?_
          conv => whnf
          try dsimp only
          refine hR (k_R_ahead_57 (Nat.le_of_ble_eq_true rfl) rfl (s_R_of3 (by omega) ?_))
          refine wd_go ok_R_ahead [] 20 (fun R hR => ?_)
          conv => whnf
          try dsimp only
          exact h
        | 2, _ =>
          rw [if_pos (show nI 2 = 2 from rfl), ← q.2.1 _ (by omega)] at h
          refine wd_go ok_R_ahead [] 20 (fun R hR => ?_)
          conv => whnf
          try dsimp only
          refine nb_f rfl ?_
          conv => whnf
          try dsimp only
          refine ⟨vp_in_nI (by first | decide | omega) (by first | decide | omega), ?_⟩
          conv => whnf
          try dsimp only
          rw [nI_clamp (by omega)]
          exact h
end R
