/-! LUCK, MEAN: the class -/
section C
variable {G : wd_G} {τ : wd_T} {Q : wd_P} {P : wRow}
theorem l_D_losing {σ0 : wd_S} {s n : Nat} (hw : wf P) (hn : n ≤ 8) (hs : s < 256) (h : ∀ σ', frD σ0 σ' → Q (some (.int (nI (lcA P s n)))) σ' τ) : ∀ (m i : Nat) (σ : wd_S) (l4 : Option Value), n = i + m → relT σ (lsA (stP P (-4)) s i) → frD σ0 σ → Run wC G M_D_resetsLosing 13 [some (.ref 0), some (.int (nI s)), some (.int (nI n)), some (.int (nI i)), l4] [] σ τ Q := by
  intro m
  induction m with
  | zero =>
    intro i σ l4 hi hr hf
    have e : i = n := by omega
    subst e
    refine wd_go ok_D_resetsLosing [13] 20 (fun R hR => ?_)
    conv => whnf
    try dsimp only
    refine br_t (nI_le (Nat.le_refl _) (by omega)) ?_
    conv => whnf
    try dsimp only
    rw [hr.2.1, lc_is]
    exact h σ hf
  | succ m ih =>
    intro i σ l4 hi hr hf
    have hwi := ls_wf (u := stP P (-4)) (s := s) hw i
    refine wd_go ok_D_resetsLosing [13] 20 (fun R hR => ?_)
    conv => whnf
    try dsimp only
    refine br_f (nI_ge (by omega) (by omega)) ?_
    conv => whnf
    try dsimp only
    refine hR (k_D_resetsLosing_25 (Nat.le_of_ble_eq_true rfl) rfl (s_next hr.1 hwi ?_))
    have fin : ∀ σ' l4, relT σ' (lsA (stP P (-4)) s (i + 1)) → frT (wd_uc σ 20 (upd (σ 20) 13 (plcA (lsA (stP P (-4)) s i).1 34))) σ' → Run wC G M_D_resetsLosing 13 [some (.ref 0), some (.int (nI s)), some (.int (nI n)), some (.int (nI i + 1)), l4] [] σ' τ Q := by
      intro σ' l4 hr' hf'
      rw [← nI_succ]
      exact ih (i + 1) σ' l4 (by omega) hr' (hf.tr ((frT.rf.uc (by omega)).tr hf').D)
    have stp := stp_tkL (bitA s i) (lsA (stP P (-4)) s i)
    refine wd_go ok_D_resetsLosing [13] 30 (fun R hR => ?_)
    conv => whnf
    try dsimp only
    cases hb : bitA s i with
    | true =>
      rw [hb] at stp
      refine nb_f ((bit_one (by omega) (by omega)).mpr hb) ?_
      conv => whnf
      try dsimp only
      refine hR (k_D_resetsLosing_49 (Nat.le_of_ble_eq_true rfl) rfl (s_T_step (relT_plc hwi hr) (plc_wf hwi).1 (fun σ' hr' hf' => ?_)))
      have hr' : relT σ' (lsA (stP P (-4)) s (i + 1)) := by
        rw [lsA, hb, ← stp]
        exact hr'
      refine wd_go ok_D_resetsLosing [13] 20 (fun R hR => ?_)
      conv => whnf
      try dsimp only
      exact hR (fin σ' _ hr' hf')
    | false =>
      rw [hb] at stp
      refine nb_t (fun z => by rw [bit_one (by omega) (by omega), hb] at z; cases z) ?_
      conv => whnf
      try dsimp only
      refine hR (k_D_resetsLosing_49 (Nat.le_of_ble_eq_true rfl) rfl (s_T_step (relT_plc hwi hr) (plc_wf hwi).1 (fun σ' hr' hf' => ?_)))
      have hr' : relT σ' (lsA (stP P (-4)) s (i + 1)) := by
        rw [lsA, hb, ← stp]
        exact hr'
      refine wd_go ok_D_resetsLosing [13] 20 (fun R hR => ?_)
      conv => whnf
      try dsimp only
      exact hR (fin σ' _ hr' hf')
theorem s_D_losing {σ : wd_S} {s n : Nat} (hr : relC σ 10 P) (hw : wf P) (hn : n ≤ 8) (hs : s < 256) (h : ∀ σ', frD σ σ' → Q (some (.int (nI (lcA P s n)))) σ' τ) : Run wC G M_D_resetsLosing 0 [some (.ref 0), some (.int (nI s)), some (.int (nI n)), none, none] [] σ τ Q := by
  refine wd_go ok_D_resetsLosing [13] 20 (fun R hR => ?_)
  conv => whnf
  try dsimp only
  refine hR (k_D_resetsLosing_8 (Nat.le_of_ble_eq_true rfl) rfl (s_T_begin hr (wf_bd hw) (stP_is P) (fun σ1 r1 f1 => ?_)))
  refine wd_go ok_D_resetsLosing [13] 20 (fun R hR => ?_)
  conv => whnf
  try dsimp only
  exact hR (l_D_losing hw hn hs h n 0 σ1 none (by omega) r1 f1.D)
theorem l_D_luck {σ0 : wd_S} {v n : Nat} {w : Int32} (hr : relC σ0 10 P) (hw : wf P) (hv : v ≤ 10) (hn : n ≤ 8) (h : ∀ σ', frD σ0 σ' → Q (some (.long (lN (frA (quA P v n (2 ^ n)) (10 ^ n) w)))) σ' τ) : ∀ (m s : Nat) (σ : wd_S) (l7 l8 : Option Value), 2 ^ n = s + m → frD σ0 σ → Run wC G M_D_luck 39 [some (.ref 0), some (.int (nI v)), some (.int (nI n)), some (.int w), some (.long (lN (quA P v n s))), none, some (.int (nI s)), l7, l8] [] σ τ Q := by
  have hp := p2 hn
  have b3 := p10 hn
  have b4 : 0 < 10 ^ n := Nat.pow_pos (by decide)
  intro m
  induction m with
  | zero =>
    intro s σ l7 l8 hs hf
    have e : s = 2 ^ n := by omega
    have b1 := qu_le (P := P) hv hn s
    refine wd_go ok_D_luck [39] 20 (fun R hR => ?_)
    conv => whnf
    try dsimp only
    rw [shl_one hn]
    refine br_t (nI_le (by omega) (by omega)) ?_
    conv => whnf
    try dsimp only
    rw [il10]
    refine hR (k_D_luck_91 (Nat.le_of_ble_eq_true rfl) (s_D_power (by decide) (by omega) ?_))
    refine wd_go ok_D_luck [39] 20 (fun R hR => ?_)
    conv => whnf
    try dsimp only
    refine hR (k_D_luck_95 (Nat.le_of_ble_eq_true rfl) (s_D_part (by omega) (by omega) b4 ?_))
    refine wd_go ok_D_luck [39] 20 (fun R hR => ?_)
    conv => whnf
    try dsimp only
    rw [e]
    exact ⟨rfl, h σ hf⟩
  | succ m ih =>
    intro s σ l7 l8 hs hf
    have hl := lc_le (P := P) (s := s) n
    have hwl := Nat.le_trans (wy_le (s := s) hv n) b3
    refine wd_go ok_D_luck [39] 20 (fun R hR => ?_)
    conv => whnf
    try dsimp only
    rw [shl_one hn]
    refine br_f (nI_ge (by omega) (by omega)) ?_
    conv => whnf
    try dsimp only
    refine hR (k_D_luck_51 (Nat.le_of_ble_eq_true rfl) (s_D_weightOf hv hn (by omega) ?_))
    have fin : ∀ σ' x, frD σ0 σ' → x = lN (quA P v n (s + 1)) → Run wC G M_D_luck 39 [some (.ref 0), some (.int (nI v)), some (.int (nI n)), some (.int w), some (.long x), none, some (.int (nI s + 1)), some (.long (lN (wyA v s n))), none] [] σ' τ Q := by
      intro σ' x hf' hx
      rw [hx, ← nI_succ]
      exact ih (s + 1) σ' _ _ (by omega) hf'
    rw [quA] at fin
    refine wd_go ok_D_luck [39] 20 (fun R hR => ?_)
    conv => whnf
    try dsimp only
    by_cases hz : wyA v s n = 0
    · refine br_t ?_ ?_
      · rw [lg_cmp_le, hz]
        exact Int64.le_refl _
      conv => whnf
      try dsimp only
      exact hR (fin σ _ hf (by rw [hz]; simp))
    · refine br_f ?_ ?_
      · rw [lg_cmp_le, l0, pk_lLE (by omega) (by decide)]
        omega
      conv => whnf
      try dsimp only
      refine hR (k_D_luck_67 (Nat.le_of_ble_eq_true rfl) rfl (s_D_losing (hf.C hr) hw hn (by omega) (fun σ' f' => ?_)))
      refine wd_go ok_D_luck [39] 20 (fun R hR => ?_)
      conv => whnf
      try dsimp only
      by_cases hq : lcA P s n = 0
      · refine nb_f (by rw [hq]; rfl) ?_
        conv => whnf
        try dsimp only
        exact hR (fin σ' _ (hf.tr f') (by rw [if_pos hq, lN_add]))
      · refine nb_t (nI_ne0 (by omega) (by omega)) ?_
        conv => whnf
        try dsimp only
        exact hR (fin σ' _ (hf.tr f') (by rw [if_neg hq, Nat.add_zero]))
theorem l_D_mean {σ0 : wd_S} {v n : Nat} {w : Int32} (hr : relC σ0 10 P) (hw : wf P) (hv : v ≤ 10) (hn : n ≤ 8) (h : ∀ σ', frD σ0 σ' → Q (some (.long (lN (frA (meA P v n (2 ^ n)) (10 ^ n) w)))) σ' τ) : ∀ (m s : Nat) (σ : wd_S) (l7 l8 : Option Value), 2 ^ n = s + m → frD σ0 σ → Run wC G M_D_mean 39 [some (.ref 0), some (.int (nI v)), some (.int (nI n)), some (.int w), some (.long (lN (meA P v n s))), none, some (.int (nI s)), l7, l8] [] σ τ Q := by
  have hp := p2 hn
  have b3 := p10 hn
  have b4 : 0 < 10 ^ n := Nat.pow_pos (by decide)
  intro m
  induction m with
  | zero =>
    intro s σ l7 l8 hs hf
    have e : s = 2 ^ n := by omega
    have b1 := me_le (P := P) hv hn s
    refine wd_go ok_D_mean [39] 20 (fun R hR => ?_)
    conv => whnf
    try dsimp only
    rw [shl_one hn]
    refine br_t (nI_le (by omega) (by omega)) ?_
    conv => whnf
    try dsimp only
    rw [il10]
    refine hR (k_D_mean_90 (Nat.le_of_ble_eq_true rfl) (s_D_power (by decide) (by omega) ?_))
    refine wd_go ok_D_mean [39] 20 (fun R hR => ?_)
    conv => whnf
    try dsimp only
    refine hR (k_D_mean_94 (Nat.le_of_ble_eq_true rfl) (s_D_part (by omega) (by omega) b4 ?_))
    refine wd_go ok_D_mean [39] 20 (fun R hR => ?_)
    conv => whnf
    try dsimp only
    rw [e]
    exact ⟨rfl, h σ hf⟩
  | succ m ih =>
    intro s σ l7 l8 hs hf
    have hl := lc_le (P := P) (s := s) n
    have hwl := Nat.le_trans (wy_le (s := s) hv n) b3
    refine wd_go ok_D_mean [39] 20 (fun R hR => ?_)
    conv => whnf
    try dsimp only
    rw [shl_one hn]
    refine br_f (nI_ge (by omega) (by omega)) ?_
    conv => whnf
    try dsimp only
    refine hR (k_D_mean_51 (Nat.le_of_ble_eq_true rfl) (s_D_weightOf hv hn (by omega) ?_))
    have fin : ∀ σ' x, frD σ0 σ' → x = lN (meA P v n (s + 1)) → Run wC G M_D_mean 39 [some (.ref 0), some (.int (nI v)), some (.int (nI n)), some (.int w), some (.long x), none, some (.int (nI s + 1)), some (.long (lN (wyA v s n))), none] [] σ' τ Q := by
      intro σ' x hf' hx
      rw [hx, ← nI_succ]
      exact ih (s + 1) σ' _ _ (by omega) hf'
    rw [meA] at fin
    refine wd_go ok_D_mean [39] 20 (fun R hR => ?_)
    conv => whnf
    try dsimp only
    by_cases hz : wyA v s n = 0
    · refine br_t ?_ ?_
      · rw [lg_cmp_le, hz]
        exact Int64.le_refl _
      conv => whnf
      try dsimp only
      exact hR (fin σ _ hf (by rw [hz, Nat.zero_mul, Nat.add_zero]))
    · refine br_f ?_ ?_
      · rw [lg_cmp_le, l0, pk_lLE (by omega) (by decide)]
        omega
      conv => whnf
      try dsimp only
      refine hR (k_D_mean_71 (Nat.le_of_ble_eq_true rfl) rfl (s_D_losing (hf.C hr) hw hn (by omega) (fun σ' f' => ?_)))
      refine wd_go ok_D_mean [39] 20 (fun R hR => ?_)
      conv => whnf
      try dsimp only
      rw [nI_l (by omega), lN_mul, lN_add]
      exact hR (fin σ' _ (hf.tr f') rfl)
theorem s_D_luck {σ : wd_S} {v n w : Int32} (hr : relC σ 10 P) (hw : wf P) (h : ∀ σ', frD σ σ' → Q (some (.long (aLuck P v n w))) σ' τ) : Run wC G M_D_luck 0 [some (.ref 0), some (.int v), some (.int n), some (.int w), none, none, none, none, none] [] σ τ Q := by
  rw [aLuck] at h
  refine wd_go ok_D_luck [39] 20 (fun R hR => ?_)
  conv => whnf
  try dsimp only
  refine hR (k_D_luck_4 (Nat.le_of_ble_eq_true rfl) (s_D_outside ?_))
  cases hv : inB v 0 10 with
  | false =>
    refine wd_go ok_D_luck [39] 20 (fun R hR => ?_)
    conv => whnf
    try dsimp only
    refine nb_t (by decide) ?_
    conv => whnf
    try dsimp only
    rw [if_neg (fun z => by rw [hv] at z; cases z.1)] at h
    exact ⟨rfl, h σ frD.rf⟩
  | true =>
    refine wd_go ok_D_luck [39] 20 (fun R hR => ?_)
    conv => whnf
    try dsimp only
    refine nb_f rfl ?_
    conv => whnf
    try dsimp only
    refine hR (k_D_luck_14 (Nat.le_of_ble_eq_true rfl) (s_D_outside ?_))
    cases hn : inB n 0 8 with
    | false =>
      refine wd_go ok_D_luck [39] 20 (fun R hR => ?_)
      conv => whnf
      try dsimp only
      refine nb_t (by decide) ?_
      conv => whnf
      try dsimp only
      rw [if_neg (fun z => by rw [hn] at z; cases z.2.1)] at h
      exact ⟨rfl, h σ frD.rf⟩
    | true =>
      refine wd_go ok_D_luck [39] 20 (fun R hR => ?_)
      conv => whnf
      try dsimp only
      refine nb_f rfl ?_
      conv => whnf
      try dsimp only
      refine hR (k_D_luck_23 (Nat.le_of_ble_eq_true rfl) (s_D_outside ?_))
      cases hp : inB w 0 1 with
      | false =>
        refine wd_go ok_D_luck [39] 20 (fun R hR => ?_)
        conv => whnf
        try dsimp only
        refine br_f (by decide) ?_
        conv => whnf
        try dsimp only
        rw [if_neg (fun z => by rw [hp] at z; cases z.2.2)] at h
        exact ⟨rfl, h σ frD.rf⟩
      | true =>
        rw [if_pos ⟨hv, hn, hp⟩] at h
        obtain ⟨v, hvv, rfl⟩ := inN (N := 10) (by decide) hv
        obtain ⟨n, hnn, rfl⟩ := inN (N := 8) (by decide) hn
        rw [nI_clamp (by omega), nI_clamp (by omega)] at h
        refine wd_go ok_D_luck [39] 20 (fun R hR => ?_)
        conv => whnf
        try dsimp only
        refine br_t rfl ?_
        conv => whnf
        try dsimp only
        exact hR (l_D_luck hr hw hvv hnn h (2 ^ n) 0 σ none none (by omega) frD.rf)
theorem s_D_mean {σ : wd_S} {v n w : Int32} (hr : relC σ 10 P) (hw : wf P) (h : ∀ σ', frD σ σ' → Q (some (.long (aMean P v n w))) σ' τ) : Run wC G M_D_mean 0 [some (.ref 0), some (.int v), some (.int n), some (.int w), none, none, none, none, none] [] σ τ Q := by
  rw [aMean] at h
  refine wd_go ok_D_mean [39] 20 (fun R hR => ?_)
  conv => whnf
  try dsimp only
  refine hR (k_D_mean_4 (Nat.le_of_ble_eq_true rfl) (s_D_outside ?_))
  cases hv : inB v 0 10 with
  | false =>
    refine wd_go ok_D_mean [39] 20 (fun R hR => ?_)
    conv => whnf
    try dsimp only
    refine nb_t (by decide) ?_
    conv => whnf
    try dsimp only
    rw [if_neg (fun z => by rw [hv] at z; cases z.1)] at h
    exact ⟨rfl, h σ frD.rf⟩
  | true =>
    refine wd_go ok_D_mean [39] 20 (fun R hR => ?_)
    conv => whnf
    try dsimp only
    refine nb_f rfl ?_
    conv => whnf
    try dsimp only
    refine hR (k_D_mean_14 (Nat.le_of_ble_eq_true rfl) (s_D_outside ?_))
    cases hn : inB n 0 8 with
    | false =>
      refine wd_go ok_D_mean [39] 20 (fun R hR => ?_)
      conv => whnf
      try dsimp only
      refine nb_t (by decide) ?_
      conv => whnf
      try dsimp only
      rw [if_neg (fun z => by rw [hn] at z; cases z.2.1)] at h
      exact ⟨rfl, h σ frD.rf⟩
    | true =>
      refine wd_go ok_D_mean [39] 20 (fun R hR => ?_)
      conv => whnf
      try dsimp only
      refine nb_f rfl ?_
      conv => whnf
      try dsimp only
      refine hR (k_D_mean_23 (Nat.le_of_ble_eq_true rfl) (s_D_outside ?_))
      cases hp : inB w 0 1 with
      | false =>
        refine wd_go ok_D_mean [39] 20 (fun R hR => ?_)
        conv => whnf
        try dsimp only
        refine br_f (by decide) ?_
        conv => whnf
        try dsimp only
        rw [if_neg (fun z => by rw [hp] at z; cases z.2.2)] at h
        exact ⟨rfl, h σ frD.rf⟩
      | true =>
        rw [if_pos ⟨hv, hn, hp⟩] at h
        obtain ⟨v, hvv, rfl⟩ := inN (N := 10) (by decide) hv
        obtain ⟨n, hnn, rfl⟩ := inN (N := 8) (by decide) hn
        rw [nI_clamp (by omega), nI_clamp (by omega)] at h
        refine wd_go ok_D_mean [39] 20 (fun R hR => ?_)
        conv => whnf
        try dsimp only
        refine br_t rfl ?_
        conv => whnf
        try dsimp only
        exact hR (l_D_mean hr hw hvv hnn h (2 ^ n) 0 σ none none (by omega) frD.rf)
end C
