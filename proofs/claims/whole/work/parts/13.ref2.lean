/-! THE REFERENCE: a tick -/
theorem ix35 (i : Nat) : (35 : Int32) + 2 * nI i = nI (35 + 2 * i) := by rw [il35, il2, pk_mul, nI_add]
theorem ix36 (i : Nat) : (35 : Int32) + 2 * nI i + 1 = nI (36 + 2 * i) := by rw [ix35, nI_1]; congr 1; omega
section R
variable {G : wd_G} {σ : wd_S} {τ : wd_T} {Q : wd_P}
theorem s_R_of0 {d : Nat} (hd : d < 4) (h : Q (some (.int (σ 2 (4 * d)))) σ τ) : Run wR G M_R_of 0 [some (.ref 0), some (.int (nI d)), some (.int 0)] [] σ τ Q := s_R_of (k := 0) hd (by decide) h
theorem s_R_of1 {d : Nat} (hd : d < 4) (h : Q (some (.int (σ 2 (4 * d + 1)))) σ τ) : Run wR G M_R_of 0 [some (.ref 0), some (.int (nI d)), some (.int 1)] [] σ τ Q := s_R_of (k := 1) hd (by decide) h
theorem s_R_of2 {d : Nat} (hd : d < 4) (h : Q (some (.int (σ 2 (4 * d + 2)))) σ τ) : Run wR G M_R_of 0 [some (.ref 0), some (.int (nI d)), some (.int 2)] [] σ τ Q := s_R_of (k := 2) hd (by decide) h
theorem s_R_of3 {d : Nat} (hd : d < 4) (h : Q (some (.int (σ 2 (4 * d + 3)))) σ τ) : Run wR G M_R_of 0 [some (.ref 0), some (.int (nI d)), some (.int 3)] [] σ τ Q := s_R_of (k := 3) hd (by decide) h
theorem s_R_bec2 {d : Nat} {v : Int32} (hd : d < 4) (h : Q none (wd_uc σ 2 (upd (σ 2) (4 * d + 2) v)) τ) : Run wR G M_R_becomesOf 0 [some (.ref 0), some (.int (nI d)), some (.int 2), some (.int v)] [] σ τ Q := s_R_becomesOf (k := 2) hd (by decide) h
theorem s_R_bec3 {d : Nat} {v : Int32} (hd : d < 4) (h : Q none (wd_uc σ 2 (upd (σ 2) (4 * d + 3) v)) τ) : Run wR G M_R_becomesOf 0 [some (.ref 0), some (.int (nI d)), some (.int 3), some (.int v)] [] σ τ Q := s_R_becomesOf (k := 3) hd (by decide) h
theorem l_R_isStuck {J : Nat} (hJ : σ 2 43 = nI J) (hJ4 : J ≤ 4) (h : Q (some (.int (bI (stkA (σ 2) J)))) σ τ) : ∀ (m i : Nat) (x : Option Value), J = i + m → Run wR G M_R_isStuck 4 [some (.ref 0), some (.int (bI (stkA (σ 2) i))), some (.int (nI i)), x] [] σ τ Q := by
  intro m
  induction m with
  | zero =>
    intro i x hi
    have e : i = J := by omega
    subst e
    refine wd_go ok_R_isStuck [4] 20 (fun R hR => ?_)
    conv => whnf
    try dsimp only
    refine ⟨vp_in_nI (by first | decide | omega) (by first | decide | omega), ?_⟩
    conv => whnf
    try dsimp only
    rw [cl43, hJ]
    refine br_t (nI_le (Nat.le_refl i) (by omega)) ?_
    conv => whnf
    try dsimp only
    exact ⟨bI_bit _, h⟩
  | succ m ih =>
    intro i x hi
    refine wd_go ok_R_isStuck [4] 60 (fun R hR => ?_)
    conv => whnf
    try dsimp only
    refine ⟨vp_in_nI (by first | decide | omega) (by first | decide | omega), ?_⟩
    conv => whnf
    try dsimp only
    rw [cl43, hJ]
    refine br_f (nI_ge (by omega) (by omega)) ?_
    conv => whnf
    try dsimp only
    rw [ix35]
    refine ⟨vp_in_nI (by first | decide | omega) (by first | decide | omega), ?_⟩
    conv => whnf
    try dsimp only
    rw [nI_clamp (by omega)]
    have key := fun x => ih (i + 1) x (by omega)
    rw [nI_succ] at key
    cases hb : stkA (σ 2) i with
    | true =>
      refine nb_t (show ¬ bI true = 0 by decide) ?_
      conv => whnf
      try dsimp only
      refine hR ?_
      have e : stkA (σ 2) (i + 1) = true := by rw [stkA, hb]; rfl
      rw [e] at key
      exact key _
    | false =>
      refine nb_f rfl ?_
      conv => whnf
      try dsimp only
      refine ⟨vp_in_nI (by first | decide | omega) (by first | decide | omega), ?_⟩
      conv => whnf
      try dsimp only
      rw [cl44]
      refine ⟨fun h1 => ?_, fun h1 => ?_⟩
      · conv => whnf
        try dsimp only
        refine hR ?_
        have e : stkA (σ 2) (i + 1) = false := by
          rw [stkA, hb, Bool.false_or]
          exact decide_eq_false (fun z => absurd z.1 (Int32.not_le.mpr h1))
        rw [e] at key
        exact key _
      · conv => whnf
        try dsimp only
        refine ⟨vp_in_nI (by first | decide | omega) (by first | decide | omega), ?_⟩
        conv => whnf
        try dsimp only
        rw [cl46]
        refine ⟨fun h2 => ?_, fun h2 => ?_⟩
        · conv => whnf
          try dsimp only
          refine hR ?_
          have e : stkA (σ 2) (i + 1) = false := by
            rw [stkA, hb, Bool.false_or]
            exact decide_eq_false (fun z => absurd z.2.1 (Int32.not_le.mpr h2))
          rw [e] at key
          exact key _
        · conv => whnf
          try dsimp only
          refine ⟨vp_in_nI (by first | decide | omega) (by first | decide | omega), ?_⟩
          conv => whnf
          try dsimp only
          rw [cl44, ix36]
          refine ⟨vp_in_nI (by first | decide | omega) (by first | decide | omega), ?_⟩
          conv => whnf
          try dsimp only
          rw [nI_clamp (by omega)]
          refine ⟨fun h3 => ?_, fun h3 => ?_⟩
          · conv => whnf
            try dsimp only
            refine hR ?_
            have e : stkA (σ 2) (i + 1) = false := by
              rw [stkA, hb, Bool.false_or]
              exact decide_eq_false (fun z => absurd z.2.2 (Int32.not_lt.mpr h3))
            rw [e] at key
            exact key _
          · conv => whnf
            try dsimp only
            refine hR ?_
            have e : stkA (σ 2) (i + 1) = true := by
              rw [stkA, hb, Bool.false_or]
              exact decide_eq_true ⟨Int32.not_lt.mp h1, Int32.not_lt.mp h2, Int32.not_le.mp h3⟩
            rw [e] at key
            exact key _
theorem s_R_isStuck (hw : wf (σ 2)) (h : Q (some (.int (bI (isStk (σ 2))))) σ τ) : Run wR G M_R_isStuck 0 [some (.ref 0), none, none, none] [] σ τ Q := by
  refine wd_go ok_R_isStuck [4] 20 (fun R hR => ?_)
  conv => whnf
  try dsimp only
  exact hR (l_R_isStuck hw.2.2.1.1 hw.2.2.1.2 h (jN (σ 2)) 0 none (by omega))
theorem s_R_bitesFed {d : Nat} (hd : d < 4) (h : Q (some (.int (bI (rwX (σ 2) d true)))) (wd_uc σ 2 (rwD (σ 2) d true)) τ) : Run wR G M_R_bitesFed 0 [some (.ref 0), some (.int (nI d)), none] [] σ τ Q := by
  refine wd_go ok_R_bitesFed [] 30 (fun R hR => ?_)
  conv => whnf
  try dsimp only
  refine hR (k_R_bitesFed_3 (Nat.le_of_ble_eq_true rfl) rfl (s_R_of0 hd ?_))
  refine wd_go ok_R_bitesFed [] 30 (fun R hR => ?_)
  conv => whnf
  try dsimp only
  by_cases hk : σ 2 (4 * d) = 1
  · refine nb_f hk ?_
    conv => whnf
    try dsimp only
    refine hR (k_R_bitesFed_15 (Nat.le_of_ble_eq_true rfl) rfl (s_R_of2 hd ?_))
    refine wd_go ok_R_bitesFed [] 30 (fun R hR => ?_)
    conv => whnf
    try dsimp only
    refine hR (k_R_bitesFed_21 (Nat.le_of_ble_eq_true rfl) rfl (s_R_of1 hd ?_))
    refine wd_go ok_R_bitesFed [] 30 (fun R hR => ?_)
    conv => whnf
    try dsimp only
    refine ⟨by decide, ?_⟩
    conv => whnf
    try dsimp only
    by_cases hc : σ 2 (4 * d + 2) < σ 2 (4 * d + 1) / 2
    · refine br_f (Int32.not_le.mpr hc) ?_
      conv => whnf
      try dsimp only
      refine ⟨Or.inr rfl, ?_⟩
      have e1 : rwX (σ 2) d true = true := by simp [rwX, dgX, hk, hc]
      have e2 : rwD (σ 2) d true = σ 2 := by simp [rwD, rwC, rwB, dgC, dgB, hk, hc, upd_self]
      rw [e1, e2, uc_self] at h
      exact h
    · refine br_t (Int32.not_lt.mp hc) ?_
      conv => whnf
      try dsimp only
      have h3 : ¬ (σ 2 (4 * d) = 3) := by rw [hk]; decide
      have h2 : ¬ (σ 2 (4 * d) = 2) := by rw [hk]; decide
      refine nb_t h3 ?_
      conv => whnf
      try dsimp only
      refine hR (k_R_bitesFed_51 (Nat.le_of_ble_eq_true rfl) rfl (s_R_bec2 hd ?_))
      refine wd_go ok_R_bitesFed [] 30 (fun R hR => ?_)
      conv => whnf
      try dsimp only
      refine br_f h2 ?_
      conv => whnf
      try dsimp only
      refine nb_t h3 ?_
      conv => whnf
      try dsimp only
      refine ⟨Or.inl rfl, ?_⟩
      have e1 : rwX (σ 2) d true = false := by simp [rwX, dgX, hc]
      have e2 : rwD (σ 2) d true = upd (σ 2) (4 * d + 2) 0 := by
        have : rwB (σ 2) d true = upd (σ 2) (4 * d + 2) 0 (4 * d + 3) := by
          rw [upd_n (by omega)]
          simp [rwB, dgB, hk, hc]
        rw [rwD, this]
        simp only [rwC, dgC, hk, hc]
        simp [upd_self]
      rw [e1, e2] at h
      exact h
  · refine nb_t hk ?_
    conv => whnf
    try dsimp only
    by_cases h3 : σ 2 (4 * d) = 3
    · refine nb_f h3 ?_
      conv => whnf
      try dsimp only
      refine hR (k_R_bitesFed_42 (Nat.le_of_ble_eq_true rfl) rfl (s_R_of2 hd ?_))
      refine wd_go ok_R_bitesFed [] 30 (fun R hR => ?_)
      conv => whnf
      try dsimp only
      refine ⟨by decide, ?_⟩
      conv => whnf
      try dsimp only
      refine hR (k_R_bitesFed_51 (Nat.le_of_ble_eq_true rfl) rfl (s_R_bec2 hd ?_))
      refine wd_go ok_R_bitesFed [] 30 (fun R hR => ?_)
      conv => whnf
      try dsimp only
      have h2 : ¬ (σ 2 (4 * d) = 2) := by rw [h3]; decide
      refine br_f h2 ?_
      conv => whnf
      try dsimp only
      refine nb_f h3 ?_
      conv => whnf
      try dsimp only
      refine hR (k_R_bitesFed_68 (Nat.le_of_ble_eq_true rfl) rfl (s_R_bec3 hd ?_))
      refine wd_go ok_R_bitesFed [] 30 (fun R hR => ?_)
      conv => whnf
      try dsimp only
      refine ⟨Or.inl rfl, ?_⟩
      have e1 : rwX (σ 2) d true = false := by simp [rwX, dgX, hk]
      have e2 : rwD (σ 2) d true = upd (upd (σ 2) (4 * d + 2) (σ 2 (4 * d + 2) / 2)) (4 * d + 3) 0 := by
        simp [rwD, rwC, rwB, dgC, dgB, h3]
      rw [e1, e2] at h
      rw [uc_uc, uc_s]
      exact h
    · refine nb_t h3 ?_
      conv => whnf
      try dsimp only
      refine hR (k_R_bitesFed_51 (Nat.le_of_ble_eq_true rfl) rfl (s_R_bec2 hd ?_))
      refine wd_go ok_R_bitesFed [] 30 (fun R hR => ?_)
      conv => whnf
      try dsimp only
      by_cases h2 : σ 2 (4 * d) = 2
      · refine br_t h2 ?_
        conv => whnf
        try dsimp only
        refine hR (k_R_bitesFed_68 (Nat.le_of_ble_eq_true rfl) rfl (s_R_bec3 hd ?_))
        refine wd_go ok_R_bitesFed [] 30 (fun R hR => ?_)
        conv => whnf
        try dsimp only
        refine ⟨Or.inl rfl, ?_⟩
        have e1 : rwX (σ 2) d true = false := by simp [rwX, dgX, hk]
        have e2 : rwD (σ 2) d true = upd (upd (σ 2) (4 * d + 2) 0) (4 * d + 3) 0 := by
          simp [rwD, rwC, rwB, dgC, dgB, h2]
        rw [e1, e2] at h
        rw [uc_uc, uc_s]
        exact h
      · refine br_f h2 ?_
        conv => whnf
        try dsimp only
        refine nb_t h3 ?_
        conv => whnf
        try dsimp only
        refine ⟨Or.inl rfl, ?_⟩
        have e1 : rwX (σ 2) d true = false := by simp [rwX, dgX, hk]
        have e2 : rwD (σ 2) d true = upd (σ 2) (4 * d + 2) 0 := by
          have : rwB (σ 2) d true = upd (σ 2) (4 * d + 2) 0 (4 * d + 3) := by
            rw [upd_n (by omega)]
            simp [rwB, dgB, hk, h2, h3]
          rw [rwD, this]
          simp only [rwC, dgC, hk, h3]
          simp [upd_self]
        rw [e1, e2] at h
        exact h
end R
