/-! ANSWERS of the class: rule, dog, sign, jam, runs, ahead -/
section C
variable {G : wd_G} {σ : wd_S} {τ : wd_T} {Q : wd_P} {P : wRow}
theorem s_D_noDog {x : Int32} (hr : relC σ 10 P) (h : Q (some (.int (bI (!inB x 0 (P 16 - 1))))) σ τ) : Run wC G M_D_noDog 0 [some (.ref 0), some (.int x)] [] σ τ Q := by
  have e : σ 10 9 = P 16 := hr.1.1
  refine wd_go ok_D_noDog [] 20 (fun R hR => ?_)
  conv => whnf
  try dsimp only
  refine hR (k_D_noDog_11 (Nat.le_of_ble_eq_true rfl) (s_D_outside ?_))
  refine wd_go ok_D_noDog [] 20 (fun R hR => ?_)
  conv => whnf
  try dsimp only
  rw [e]
  exact ⟨bI_bit _, h⟩
theorem s_D_noSign {x : Int32} (hr : relC σ 10 P) (h : Q (some (.int (bI (!inB x 0 (P 33 - 1))))) σ τ) : Run wC G M_D_noSign 0 [some (.ref 0), some (.int x)] [] σ τ Q := by
  have e : σ 10 10 = P 33 := hr.1.2.1
  refine wd_go ok_D_noSign [] 20 (fun R hR => ?_)
  conv => whnf
  try dsimp only
  refine hR (k_D_noSign_11 (Nat.le_of_ble_eq_true rfl) (s_D_outside ?_))
  refine wd_go ok_D_noSign [] 20 (fun R hR => ?_)
  conv => whnf
  try dsimp only
  rw [e]
  exact ⟨bI_bit _, h⟩
theorem s_D_rule {w : Int32} (hr : relC σ 10 P) (hw : wf P) (h : Q (some (.int (aRule P w))) σ τ) : Run wC G M_D_rule 0 [some (.ref 0), some (.int w)] [] σ τ Q := by
  refine wd_go ok_D_rule [] 20 (fun R hR => ?_)
  conv => whnf
  try dsimp only
  refine ⟨fun e => ?_, fun e0 => ?_⟩
  · subst e
    conv => whnf
    try dsimp only
    rw [hr.1.1]
    exact h
  refine ⟨fun e => ?_, fun e1 => ?_⟩
  · subst e
    conv => whnf
    try dsimp only
    rw [hr.1.2.1]
    exact h
  refine ⟨fun e => ?_, fun e2 => ?_⟩
  · subst e
    conv => whnf
    try dsimp only
    rw [hr.1.2.2.1]
    exact h
  refine ⟨fun e => ?_, fun e3 => ?_⟩
  · subst e
    conv => whnf
    try dsimp only
    rw [hr.1.2.2.2.2.2.1]
    exact h
  refine ⟨fun e => ?_, fun e4 => ?_⟩
  · subst e
    conv => whnf
    try dsimp only
    rw [hr.1.2.2.2.2.2.2.1]
    exact h
  refine ⟨fun e => ?_, fun e5 => ?_⟩
  · subst e
    conv => whnf
    try dsimp only
    rw [hr.1.2.2.2.2.1]
    exact h
  refine ⟨fun e => ?_, fun e6 => ?_⟩
  · subst e
    conv => whnf
    try dsimp only
    refine hR (k_D_rule_104 (Nat.le_of_ble_eq_true rfl) rfl (s_stuck_10 hr hw.2.2.1 ?_))
    have h1 : Q (some (.int (bI (isStk P)))) σ τ := h
    cases hs : isStk P with
    | true =>
      rw [hs] at h1
      refine wd_go ok_D_rule [] 20 (fun R hR => ?_)
      conv => whnf
      try dsimp only
      refine br_f (by decide) ?_
      conv => whnf
      try dsimp only
      exact h1
    | false =>
      rw [hs] at h1
      refine wd_go ok_D_rule [] 20 (fun R hR => ?_)
      conv => whnf
      try dsimp only
      refine br_t rfl ?_
      conv => whnf
      try dsimp only
      exact h1
  refine ⟨fun e => ?_, fun e7 => ?_⟩
  · subst e
    conv => whnf
    try dsimp only
    rw [hr.1.2.2.2.2.2.2.2.2]
    exact h
  refine ⟨fun e => ?_, fun e8 => ?_⟩
  · subst e
    conv => whnf
    try dsimp only
    rw [hr.1.2.2.2.2.2.2.2.1]
    exact h
  conv => whnf
  try dsimp only
  have e : aRule P w = -1 := by simp only [aRule, e0, e1, e2, e3, e4, e5, e6, e7, e8, if_false]
  rw [e] at h
  exact h
theorem s_D_dog {d w : Int32} (hr : relC σ 10 P) (hw : wf P) (h : Q (some (.int (aDog P d w))) σ τ) : Run wC G M_D_dog 0 [some (.ref 0), some (.int d), some (.int w)] [] σ τ Q := by
  refine wd_go ok_D_dog [] 20 (fun R hR => ?_)
  conv => whnf
  try dsimp only
  refine hR (k_D_dog_2 (Nat.le_of_ble_eq_true rfl) rfl (s_D_noDog hr ?_))
  cases hd : inB d 0 (P 16 - 1) with
  | false =>
    refine wd_go ok_D_dog [] 20 (fun R hR => ?_)
    conv => whnf
    try dsimp only
    refine br_f (by decide) ?_
    conv => whnf
    try dsimp only
    rw [aDog, if_neg (fun z => by rw [hd] at z; cases z.1)] at h
    exact h
  | true =>
    have hd' := hd
    rw [hw.1.1] at hd'
    have := hw.1.2
    obtain ⟨d, hdd, rfl⟩ := inD (by omega) hd'
    obtain ⟨g1, g2, g3, g4⟩ := hr.2.1 d hdd
    refine wd_go ok_D_dog [] 20 (fun R hR => ?_)
    conv => whnf
    try dsimp only
    refine br_t rfl ?_
    conv => whnf
    try dsimp only
    refine ⟨fun e => ?_, fun e0 => ?_⟩
    · subst e
      have hv : inB (nI 0) 0 3 = true := by decide
      rw [aDog, if_pos ⟨hd, hv⟩, nI_clamp (by omega), nI_clamp (by omega)] at h
      conv => whnf
      try dsimp only
      refine ⟨vp_in_nI (by first | decide | omega) (by first | decide | omega), ?_⟩
      conv => whnf
      try dsimp only
      rw [nI_clamp (by omega), g1]
      exact h
    refine ⟨fun e => ?_, fun e1 => ?_⟩
    · subst e
      have hv : inB (nI 1) 0 3 = true := by decide
      rw [aDog, if_pos ⟨hd, hv⟩, nI_clamp (by omega), nI_clamp (by omega)] at h
      conv => whnf
      try dsimp only
      refine ⟨vp_in_nI (by first | decide | omega) (by first | decide | omega), ?_⟩
      conv => whnf
      try dsimp only
      rw [nI_clamp (by omega), g2]
      exact h
    refine ⟨fun e => ?_, fun e2 => ?_⟩
    · subst e
      have hv : inB (nI 2) 0 3 = true := by decide
      rw [aDog, if_pos ⟨hd, hv⟩, nI_clamp (by omega), nI_clamp (by omega)] at h
      conv => whnf
      try dsimp only
      refine ⟨vp_in_nI (by first | decide | omega) (by first | decide | omega), ?_⟩
      conv => whnf
      try dsimp only
      rw [nI_clamp (by omega), g3]
      exact h
    refine ⟨fun e => ?_, fun e3 => ?_⟩
    · subst e
      have hv : inB (nI 3) 0 3 = true := by decide
      rw [aDog, if_pos ⟨hd, hv⟩, nI_clamp (by omega), nI_clamp (by omega)] at h
      conv => whnf
      try dsimp only
      refine ⟨vp_in_nI (by first | decide | omega) (by first | decide | omega), ?_⟩
      conv => whnf
      try dsimp only
      rw [nI_clamp (by omega), g4]
      exact h
    conv => whnf
    try dsimp only
    have hv : inB w 0 3 = false := by
      cases hv : inB w 0 3 with
      | false => rfl
      | true =>
        obtain ⟨w, hww, rfl⟩ := inN (N := 3) (by decide) hv
        match w, hww with
        | 0, _ => exact absurd rfl e0
        | 1, _ => exact absurd rfl e1
        | 2, _ => exact absurd rfl e2
        | 3, _ => exact absurd rfl e3
    rw [aDog, if_neg (fun z => by rw [hv] at z; cases z.2)] at h
    exact h
theorem s_D_sign {i : Int32} (hr : relC σ 10 P) (hw : wf P) (h : Q (some (.int (aSign P i))) σ τ) : Run wC G M_D_sign 0 [some (.ref 0), some (.int i)] [] σ τ Q := by
  refine wd_go ok_D_sign [] 20 (fun R hR => ?_)
  conv => whnf
  try dsimp only
  refine hR (k_D_sign_2 (Nat.le_of_ble_eq_true rfl) rfl (s_D_noSign hr ?_))
  cases hd : inB i 0 (P 33 - 1) with
  | false =>
    refine wd_go ok_D_sign [] 20 (fun R hR => ?_)
    conv => whnf
    try dsimp only
    refine br_f (by decide) ?_
    conv => whnf
    try dsimp only
    rw [aSign, if_neg (fun z => by rw [hd] at z; cases z)] at h
    exact h
  | true =>
    rw [aSign, if_pos hd] at h
    rw [hw.2.1.1] at hd
    have := hw.2.1.2
    obtain ⟨i, hi, rfl⟩ := inD (by omega) hd
    rw [nI_clamp (by omega)] at h
    have g : σ 15 i = P (17 + i) := hr.2.2.1 i hi
    refine wd_go ok_D_sign [] 20 (fun R hR => ?_)
    conv => whnf
    try dsimp only
    refine br_t rfl ?_
    conv => whnf
    try dsimp only
    refine ⟨vp_in_nI (by first | decide | omega) (by first | decide | omega), ?_⟩
    conv => whnf
    try dsimp only
    rw [nI_clamp (by omega), g]
    exact h
theorem s_D_jam {i w : Int32} (hr : relC σ 10 P) (hw : wf P) (h : Q (some (.int (aJam P i w))) σ τ) : Run wC G M_D_jam 0 [some (.ref 0), some (.int i), some (.int w)] [] σ τ Q := by
  have e11 : σ 10 11 = P 43 := hr.1.2.2.1
  refine wd_go ok_D_jam [] 20 (fun R hR => ?_)
  conv => whnf
  try dsimp only
  rw [e11]
  refine hR (k_D_jam_11 (Nat.le_of_ble_eq_true rfl) (s_D_outside ?_))
  cases hd : inB i 0 (P 43 - 1) with
  | false =>
    refine wd_go ok_D_jam [] 20 (fun R hR => ?_)
    conv => whnf
    try dsimp only
    refine nb_t (by decide) ?_
    conv => whnf
    try dsimp only
    rw [aJam, if_neg (fun z => by rw [hd] at z; cases z.1)] at h
    exact h
  | true =>
    refine wd_go ok_D_jam [] 20 (fun R hR => ?_)
    conv => whnf
    try dsimp only
    refine nb_f rfl ?_
    conv => whnf
    try dsimp only
    refine hR (k_D_jam_20 (Nat.le_of_ble_eq_true rfl) (s_D_outside ?_))
    cases hv : inB w 0 1 with
    | false =>
      refine wd_go ok_D_jam [] 20 (fun R hR => ?_)
      conv => whnf
      try dsimp only
      refine br_f (by decide) ?_
      conv => whnf
      try dsimp only
      rw [aJam, if_neg (fun z => by rw [hv] at z; cases z.2)] at h
      exact h
    | true =>
      rw [aJam, if_pos ⟨hd, hv⟩] at h
      rw [hw.2.2.1.1] at hd
      have := hw.2.2.1.2
      obtain ⟨i, hi, rfl⟩ := inD (by omega) hd
      obtain ⟨g1, g2⟩ := hr.2.2.2.1 i hi
      obtain ⟨w, hww, rfl⟩ := inN (N := 1) (by decide) hv
      rw [nI_clamp (by omega), nI_clamp (by omega)] at h
      match w, hww with
      | 0, _ =>
        refine wd_go ok_D_jam [] 20 (fun R hR => ?_)
        conv => whnf
        try dsimp only
        refine br_t rfl ?_
        conv => whnf
        try dsimp only
        refine nb_f rfl ?_
        conv => whnf
        try dsimp only
        refine ⟨vp_in_nI (by first | decide | omega) (by first | decide | omega), ?_⟩
        conv => whnf
        try dsimp only
        rw [nI_clamp (by omega), g1]
        exact h
      | 1, _ =>
        refine wd_go ok_D_jam [] 20 (fun R hR => ?_)
        conv => whnf
        try dsimp only
        refine br_t rfl ?_
        conv => whnf
        try dsimp only
        refine nb_t (by decide) ?_
        conv => whnf
        try dsimp only
        refine ⟨vp_in_nI (by first | decide | omega) (by first | decide | omega), ?_⟩
        conv => whnf
        try dsimp only
        rw [nI_clamp (by omega), g2]
        rw [show 36 + 2 * i = 35 + 2 * i + 1 by omega]
        exact h
theorem s_D_runs {n w : Int32} (hr : relC σ 10 P) (hw : wf P) (h : ∀ σ', frD σ σ' → Q (some (.int (aRuns P n w))) σ' τ) : Run wC G M_D_runs 0 [some (.ref 0), some (.int n), some (.int w)] [] σ τ Q := by
  refine wd_go ok_D_runs [] 20 (fun R hR => ?_)
  conv => whnf
  try dsimp only
  refine hR (k_D_runs_5 (Nat.le_of_ble_eq_true rfl) (s_D_outside ?_))
  cases hn : inB n 0 200 with
  | false =>
    refine wd_go ok_D_runs [] 20 (fun R hR => ?_)
    conv => whnf
    try dsimp only
    refine nb_t (by decide) ?_
    conv => whnf
    try dsimp only
    have h := h σ frD.rf
    rw [aRuns, if_neg (fun z => by rw [hn] at z; cases z.1)] at h
    exact h
  | true =>
    refine wd_go ok_D_runs [] 20 (fun R hR => ?_)
    conv => whnf
    try dsimp only
    refine nb_f rfl ?_
    conv => whnf
    try dsimp only
    refine hR (k_D_runs_14 (Nat.le_of_ble_eq_true rfl) (s_D_outside ?_))
    cases hv : inB w 0 3 with
    | false =>
      refine wd_go ok_D_runs [] 20 (fun R hR => ?_)
      conv => whnf
      try dsimp only
      refine br_f (by decide) ?_
      conv => whnf
      try dsimp only
      have h := h σ frD.rf
      rw [aRuns, if_neg (fun z => by rw [hv] at z; cases z.2)] at h
      exact h
    | true =>
      obtain ⟨n, hnn, rfl⟩ := inN (N := 200) (by decide) hn
      obtain ⟨w, hww, rfl⟩ := inN (N := 3) (by decide) hv
      rw [aRuns, if_pos ⟨hn, hv⟩, nI_clamp (by omega), nI_clamp (by omega)] at h
      refine wd_go ok_D_runs [] 20 (fun R hR => ?_)
      conv => whnf
      try dsimp only
      refine br_t rfl ?_
      conv => whnf
      try dsimp only
      refine hR (k_D_runs_30 (Nat.le_of_ble_eq_true rfl) rfl (s_T_begin hr (wf_bd hw) (stP_is P) (fun σ1 r1 f1 => ?_)))
      refine wd_go ok_D_runs [] 20 (fun R hR => ?_)
      conv => whnf
      try dsimp only
      refine hR (k_D_runs_38 (Nat.le_of_ble_eq_true rfl) rfl (s_T_walk r1 hw (by omega) (fun σ2 r2 f2 => ?_)))
      have h := h σ2 (f1.tr f2).D
      obtain ⟨g1, g3, g4, g5, g6, g7, g2⟩ := r2
      match w, hww with
      | 0, _ =>
        refine wd_go ok_D_runs [] 20 (fun R hR => ?_)
        conv => whnf
        try dsimp only
        refine br_t rfl ?_
        conv => whnf
        try dsimp only
        rw [g3]
        exact h
      | 1, _ =>
        refine wd_go ok_D_runs [] 20 (fun R hR => ?_)
        conv => whnf
        try dsimp only
        refine br_f (by decide) (br_t rfl ?_)
        conv => whnf
        try dsimp only
        rw [g4]
        exact h
      | 2, _ =>
        refine wd_go ok_D_runs [] 20 (fun R hR => ?_)
        conv => whnf
        try dsimp only
        refine br_f (by decide) (br_f (by decide) (br_t rfl ?_))
        conv => whnf
        try dsimp only
        rw [g5]
        exact h
      | 3, _ =>
        refine wd_go ok_D_runs [] 20 (fun R hR => ?_)
        conv => whnf
        try dsimp only
        refine br_f (by decide) (br_f (by decide) (br_f (by decide) ?_))
        conv => whnf
        try dsimp only
        rw [g6]
        exact h
theorem s_D_ahead {d n w : Int32} (hr : relC σ 10 P) (hw : wf P) (h : ∀ σ', frD σ σ' → Q (some (.int (aAhead P d n w))) σ' τ) : Run wC G M_D_ahead 0 [some (.ref 0), some (.int d), some (.int n), some (.int w)] [] σ τ Q := by
  refine wd_go ok_D_ahead [] 20 (fun R hR => ?_)
  conv => whnf
  try dsimp only
  refine hR (k_D_ahead_2 (Nat.le_of_ble_eq_true rfl) rfl (s_D_noDog hr ?_))
  cases hd : inB d 0 (P 16 - 1) with
  | false =>
    refine wd_go ok_D_ahead [] 20 (fun R hR => ?_)
    conv => whnf
    try dsimp only
    refine nb_t (by decide) ?_
    conv => whnf
    try dsimp only
    have h := h σ frD.rf
    rw [aAhead, if_neg (fun z => by rw [hd] at z; cases z.1)] at h
    exact h
  | true =>
    refine wd_go ok_D_ahead [] 20 (fun R hR => ?_)
    conv => whnf
    try dsimp only
    refine nb_f rfl ?_
    conv => whnf
    try dsimp only
    refine hR (k_D_ahead_13 (Nat.le_of_ble_eq_true rfl) (s_D_outside ?_))
    cases hn : inB n 0 200 with
    | false =>
      refine wd_go ok_D_ahead [] 20 (fun R hR => ?_)
      conv => whnf
      try dsimp only
      refine nb_t (by decide) ?_
      conv => whnf
      try dsimp only
      have h := h σ frD.rf
      rw [aAhead, if_neg (fun z => by rw [hn] at z; cases z.2.1)] at h
      exact h
    | true =>
      refine wd_go ok_D_ahead [] 20 (fun R hR => ?_)
      conv => whnf
      try dsimp only
      refine nb_f rfl ?_
      conv => whnf
      try dsimp only
      refine hR (k_D_ahead_22 (Nat.le_of_ble_eq_true rfl) (s_D_outside ?_))
      cases hv : inB w 0 2 with
      | false =>
        refine wd_go ok_D_ahead [] 20 (fun R hR => ?_)
        conv => whnf
        try dsimp only
        refine br_f (by decide) ?_
        conv => whnf
        try dsimp only
        have h := h σ frD.rf
        rw [aAhead, if_neg (fun z => by rw [hv] at z; cases z.2.2)] at h
        exact h
      | true =>
        rw [aAhead, if_pos ⟨hd, hn, hv⟩] at h
        rw [hw.1.1] at hd
        have hD4 := hw.1.2
        obtain ⟨d, hdd, rfl⟩ := inD (by omega) hd
        obtain ⟨n, hnn, rfl⟩ := inN (N := 200) (by decide) hn
        obtain ⟨w, hww, rfl⟩ := inN (N := 2) (by decide) hv
        rw [nI_clamp (by omega), nI_clamp (by omega), nI_clamp (by omega)] at h
        refine wd_go ok_D_ahead [] 20 (fun R hR => ?_)
        conv => whnf
        try dsimp only
        refine br_t rfl ?_
        conv => whnf
        try dsimp only
        refine hR (k_D_ahead_38 (Nat.le_of_ble_eq_true rfl) rfl (s_T_begin hr (wf_bd hw) (stP_is P) (fun σ1 r1 f1 => ?_)))
        refine wd_go ok_D_ahead [] 20 (fun R hR => ?_)
        conv => whnf
        try dsimp only
        refine hR (k_D_ahead_46 (Nat.le_of_ble_eq_true rfl) rfl (s_T_walk r1 hw (by omega) (fun σ2 r2 f2 => ?_)))
        have h := h σ2 (f1.tr f2).D
        have hdd2 : d < dN (tksA n (stP P (-4))).1 := by rw [(tks_wf (u := stP P (-4)) hw n).2.1]; exact hdd
        obtain ⟨g1, g3, g4, g5, g6, g7, g2⟩ := r2
        obtain ⟨q1, q2, q3, q4⟩ := g1.2.1 d hdd2
        have q3 : σ2 23 d = (tksA n (stP P (-4))).1 (4 * d + 2) := q3
        have q4 : σ2 24 d = (tksA n (stP P (-4))).1 (4 * d + 3) := q4
        match w, hww with
        | 0, _ =>
          rw [if_neg (by decide)] at h
          refine wd_go ok_D_ahead [] 20 (fun R hR => ?_)
          conv => whnf
          try dsimp only
          refine br_t rfl ?_
          conv => whnf
          try dsimp only
          refine ⟨vp_in_nI (by first | decide | omega) (by first | decide | omega), ?_⟩
          conv => whnf
          try dsimp only
          rw [nI_clamp (by omega), q3]
          exact h
        | 1, _ =>
          rw [if_neg (by decide)] at h
          refine wd_go ok_D_ahead [] 20 (fun R hR => ?_)
          conv => whnf
          try dsimp only
          refine br_f (by decide) (br_t rfl ?_)
          conv => whnf
          try dsimp only
          refine ⟨vp_in_nI (by first | decide | omega) (by first | decide | omega), ?_⟩
          conv => whnf
          try dsimp only
          rw [nI_clamp (by omega), q4]
          exact h
        | 2, _ =>
          rw [if_pos (show nI 2 = 2 from rfl)] at h
          refine wd_go ok_D_ahead [] 20 (fun R hR => ?_)
          conv => whnf
          try dsimp only
          refine br_f (by decide) (br_f (by decide) ?_)
          conv => whnf
          try dsimp only
          refine ⟨vp_in_nI (by first | decide | omega) (by first | decide | omega), ?_⟩
          conv => whnf
          try dsimp only
          rw [nI_clamp (by omega), g2 d hdd2]
          exact h
end C
