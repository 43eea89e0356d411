/-! THE CLASS: signs, dogs, resets of a pack -/
theorem min999 {r : Nat} (h : r ≤ 999) : (if (999 : Int32) < nI r + 1 then 999 else nI r + 1) = if nI r < 999 then nI r + 1 else (999 : Int32) := by
  by_cases h1 : r < 999
  · rw [if_neg (show ¬ (999 : Int32) < nI r + 1 by rw [il999, nI_1]; exact nI_nlt (by omega) (by decide)), if_pos (show nI r < 999 by rw [il999]; exact nI_lt h1 (by decide))]
  · have e : r = 999 := by omega
    subst e
    decide
theorem k03 {x : Int32} (h : ∃ k : Nat, x = nI k ∧ k ≤ 3) : x = 0 ∨ x = 1 ∨ x = 2 ∨ x = 3 := by
  obtain ⟨k, rfl, hk⟩ := h
  match k, hk with
  | 0, _ => exact Or.inl rfl
  | 1, _ => exact Or.inr (Or.inl rfl)
  | 2, _ => exact Or.inr (Or.inr (Or.inl rfl))
  | 3, _ => exact Or.inr (Or.inr (Or.inr rfl))
section C
variable {G : wd_G} {σ : wd_S} {τ : wd_T} {Q : wd_P}
theorem s_next {n : wRow} (hr : relC σ 20 n) (hw : wf n) (h : Q (some (.int (sgnA n))) (wd_uc σ 20 (upd (σ 20) 13 (plcA n 34))) τ) : Run wC G M_P_nextSign 0 [some (.ref 20), none] [] σ τ Q := by
  have e10 : σ 20 10 = n 33 := hr.1.2.1
  have e13 : σ 20 13 = n 34 := hr.1.2.2.2.2.1
  have hP := hw.2.2.2.2.1
  have hS := hw.2.1
  have same : isStk n = true ∨ sN n = 0 → Q (some (.int 0)) σ τ := by
    intro z
    rw [sgnA, plcA, if_pos z, if_pos z, ← e13, upd_self, uc_self] at h
    exact h
  refine wd_go ok_P_nextSign [] 30 (fun R hR => ?_)
  conv => whnf
  try dsimp only
  rw [e10, e13, hP.1, hS.1]
  rcases Nat.eq_zero_or_pos (sN n) with h0 | h0
  · refine br_t (nI_le (by omega) (by omega)) ?_
    conv => whnf
    try dsimp only
    exact same (Or.inr h0)
  · refine br_f (nI_ge (by omega) (by omega)) ?_
    conv => whnf
    try dsimp only
    refine hR (k_P_nextSign_12 (Nat.le_of_ble_eq_true rfl) rfl (s_stuck_20 hr hw.2.2.1 ?_))
    cases hst : isStk n with
    | true =>
      refine wd_go ok_P_nextSign [] 30 (fun R hR => ?_)
      conv => whnf
      try dsimp only
      refine br_f (by decide) ?_
      conv => whnf
      try dsimp only
      exact same (Or.inl hst)
    | false =>
      have hn0 : ¬ (isStk n = true ∨ sN n = 0) := fun z => by
        rcases z with z | z
        · rw [hst] at z; cases z
        · omega
      rw [sgnA, plcA, if_neg hn0, if_neg hn0, upd_s] at h
      have es : σ 25 (pN n) = n (17 + pN n) := hr.2.2.1 _ (by omega)
      refine wd_go ok_P_nextSign [] 40 (fun R hR => ?_)
      conv => whnf
      try dsimp only
      refine br_t rfl ?_
      conv => whnf
      try dsimp only
      rw [e13, hP.1]
      refine ⟨vp_in_nI (by first | decide | omega) (by first | decide | omega), ?_⟩
      conv => whnf
      try dsimp only
      rw [nI_clamp (by omega), es, e10, e13, hP.1, hS.1, nI_1]
      by_cases hl : pN n + 1 < sN n
      · rw [if_pos hl] at h
        refine br_f (nI_ge hl (by omega)) ?_
        conv => whnf
        try dsimp only
        rw [e13, hP.1, nI_1]
        exact h
      · rw [if_neg hl] at h
        refine br_t (nI_le (by omega) (by omega)) ?_
        conv => whnf
        try dsimp only
        exact h
theorem s_fed_10 {n : wRow} {d : Nat} (hr : relC σ 10 n) (hw : dN n ≤ 4) (hk4 : ∃ k : Nat, n (4 * d) = nI k ∧ k ≤ 3) (hd : d < dN n) (h : Q (some (.int (bI (rwX n d true)))) (wd_uc (wd_uc σ 13 (upd (σ 13) d (rwC n d true))) 14 (upd (σ 14) d (rwB n d true))) τ) : Run wC G M_P_bitesFed 0 [some (.ref 10), some (.int (nI d))] [] σ τ Q := by
  have hd4 : d < 4 := Nat.lt_of_lt_of_le hd hw
  have e1 : σ 11 d = n (4 * d) := (hr.2.1 d hd).1
  have e2 : σ 12 d = n (4 * d + 1) := (hr.2.1 d hd).2.1
  have e3 : σ 13 d = n (4 * d + 2) := (hr.2.1 d hd).2.2.1
  have e4 : σ 14 d = n (4 * d + 3) := (hr.2.1 d hd).2.2.2
  have u3 : upd (σ 13) d (n (4 * d + 2)) = σ 13 := by rw [← e3, upd_self]
  have u4 : upd (σ 14) d (n (4 * d + 3)) = σ 14 := by rw [← e4, upd_self]
  have c4 : ∀ f, wd_uc (wd_uc σ 13 f) 14 (σ 14) = wd_uc σ 13 f := fun f => by
    have : σ 14 = wd_uc σ 13 f 14 := rfl
    rw [this, uc_self]
  refine wd_go ok_P_bitesFed [] 40 (fun R hR => ?_)
  conv => whnf
  try dsimp only
  refine ⟨vp_in_nI (by first | decide | omega) (by first | decide | omega), ?_⟩
  conv => whnf
  try dsimp only
  rw [nI_clamp (by omega), e1]
  rcases k03 hk4 with hk | hk | hk | hk
  · refine br_f (by rw [hk]; decide) (br_f (by rw [hk]; decide) (br_f (by rw [hk]; decide) ?_))
    conv => whnf
    try dsimp only
    refine ⟨vp_in_nI (by first | decide | omega) (by first | decide | omega), ?_⟩
    conv => whnf
    try dsimp only
    refine ⟨Or.inl rfl, ?_⟩
    rw [nI_clamp (by omega)]
    have x1 : rwX n d true = false := by simp [rwX, dgX, hk]
    have x2 : rwC n d true = 0 := by simp [rwC, dgC, hk]
    have x3 : rwB n d true = n (4 * d + 3) := by simp [rwB, dgB, hk]
    rw [x1, x2, x3, u4, c4] at h
    exact h
  · refine br_t (by rw [hk]; rfl) ?_
    conv => whnf
    try dsimp only
    refine ⟨vp_in_nI (by first | decide | omega) (by first | decide | omega), ?_⟩
    conv => whnf
    try dsimp only
    refine ⟨vp_in_nI (by first | decide | omega) (by first | decide | omega), ?_⟩
    conv => whnf
    try dsimp only
    rw [nI_clamp (by omega), e2, e3]
    refine ⟨by decide, ?_⟩
    conv => whnf
    try dsimp only
    refine ⟨fun hc => ?_, fun hc => ?_⟩
    · conv => whnf
      try dsimp only
      refine ⟨vp_in_nI (by first | decide | omega) (by first | decide | omega), ?_⟩
      conv => whnf
      try dsimp only
      refine ⟨Or.inl rfl, ?_⟩
      rw [nI_clamp (by omega)]
      have hc := Int32.not_lt.mpr hc
      have x1 : rwX n d true = false := by simp [rwX, dgX, hc]
      have x2 : rwC n d true = 0 := by simp [rwC, dgC, hk, hc]
      have x3 : rwB n d true = n (4 * d + 3) := by simp [rwB, dgB, hk]
      rw [x1, x2, x3, u4, c4] at h
      exact h
    · conv => whnf
      try dsimp only
      refine ⟨Or.inr rfl, ?_⟩
      have hc := Int32.not_le.mp hc
      have x1 : rwX n d true = true := by simp [rwX, dgX, hk, hc]
      have x2 : rwC n d true = n (4 * d + 2) := by simp [rwC, dgC, hk, hc]
      have x3 : rwB n d true = n (4 * d + 3) := by simp [rwB, dgB, hk]
      rw [x1, x2, x3, u3, u4, c4, uc_self] at h
      exact h
  · refine br_f (by rw [hk]; decide) (br_t (by rw [hk]; rfl) ?_)
    conv => whnf
    try dsimp only
    refine ⟨vp_in_nI (by first | decide | omega) (by first | decide | omega), ?_⟩
    conv => whnf
    try dsimp only
    refine ⟨vp_in_nI (by first | decide | omega) (by first | decide | omega), ?_⟩
    conv => whnf
    try dsimp only
    refine ⟨Or.inl rfl, ?_⟩
    rw [nI_clamp (by omega), uc_n (show (14 : Nat) ≠ 13 by decide)]
    have x1 : rwX n d true = false := by simp [rwX, dgX, hk]
    have x2 : rwC n d true = 0 := by simp [rwC, dgC, hk]
    have x3 : rwB n d true = 0 := by simp [rwB, dgB, hk]
    rw [x1, x2, x3] at h
    exact h
  · refine br_f (by rw [hk]; decide) (br_f (by rw [hk]; decide) (br_t (by rw [hk]; rfl) ?_))
    conv => whnf
    try dsimp only
    refine ⟨vp_in_nI (by first | decide | omega) (by first | decide | omega), ?_⟩
    conv => whnf
    try dsimp only
    refine ⟨by decide, ?_⟩
    conv => whnf
    try dsimp only
    refine ⟨vp_in_nI (by first | decide | omega) (by first | decide | omega), ?_⟩
    conv => whnf
    try dsimp only
    refine ⟨vp_in_nI (by first | decide | omega) (by first | decide | omega), ?_⟩
    conv => whnf
    try dsimp only
    refine ⟨Or.inl rfl, ?_⟩
    rw [nI_clamp (by omega), uc_n (show (14 : Nat) ≠ 13 by decide), e3]
    have x1 : rwX n d true = false := by simp [rwX, dgX, hk]
    have x2 : rwC n d true = n (4 * d + 2) / 2 := by simp [rwC, dgC, hk]
    have x3 : rwB n d true = 0 := by simp [rwB, dgB, hk]
    rw [x1, x2, x3] at h
    exact h
theorem s_anew_10 {x y : Int32} (h : Q none (wd_uc (wd_uc (wd_uc σ 10 (upd (upd (upd (upd (σ 10) 15 (if 999 < σ 10 15 + 1 then 999 else σ 10 15 + 1)) 17 x) 13 0) 16 y)) 13 (fil (fun _ => 0) (σ 13) 4)) 14 (fil (fun _ => 0) (σ 14) 4)) τ) : Run wC G M_P_beginAnew 0 [some (.ref 10), some (.int x), some (.int y)] [] σ τ Q := by
  refine wd_go ok_P_beginAnew [] 40 (fun R hR => ?_)
  conv => whnf
  try dsimp only
  refine ⟨Nat.le_of_ble_eq_true rfl, ?_⟩
  conv => whnf
  try dsimp only
  refine hR (k_P_beginAnew_36 (Nat.le_of_ble_eq_true rfl) (s_fill_13 ?_))
  refine wd_go ok_P_beginAnew [] 40 (fun R hR => ?_)
  conv => whnf
  try dsimp only
  refine hR (k_P_beginAnew_44 (Nat.le_of_ble_eq_true rfl) (s_fill_14 ?_))
  refine wd_go ok_P_beginAnew [] 40 (fun R hR => ?_)
  conv => whnf
  try dsimp only
  refine ⟨rfl, ?_⟩
  simp only [uc_uc, uc_s]
  exact h
theorem s_fed_20 {n : wRow} {d : Nat} (hr : relC σ 20 n) (hw : dN n ≤ 4) (hk4 : ∃ k : Nat, n (4 * d) = nI k ∧ k ≤ 3) (hd : d < dN n) (h : Q (some (.int (bI (rwX n d true)))) (wd_uc (wd_uc σ 23 (upd (σ 23) d (rwC n d true))) 24 (upd (σ 24) d (rwB n d true))) τ) : Run wC G M_P_bitesFed 0 [some (.ref 20), some (.int (nI d))] [] σ τ Q := by
  have hd4 : d < 4 := Nat.lt_of_lt_of_le hd hw
  have e1 : σ 21 d = n (4 * d) := (hr.2.1 d hd).1
  have e2 : σ 22 d = n (4 * d + 1) := (hr.2.1 d hd).2.1
  have e3 : σ 23 d = n (4 * d + 2) := (hr.2.1 d hd).2.2.1
  have e4 : σ 24 d = n (4 * d + 3) := (hr.2.1 d hd).2.2.2
  have u3 : upd (σ 23) d (n (4 * d + 2)) = σ 23 := by rw [← e3, upd_self]
  have u4 : upd (σ 24) d (n (4 * d + 3)) = σ 24 := by rw [← e4, upd_self]
  have c4 : ∀ f, wd_uc (wd_uc σ 23 f) 24 (σ 24) = wd_uc σ 23 f := fun f => by
    have : σ 24 = wd_uc σ 23 f 24 := rfl
    rw [this, uc_self]
  refine wd_go ok_P_bitesFed [] 40 (fun R hR => ?_)
  conv => whnf
  try dsimp only
  refine ⟨vp_in_nI (by first | decide | omega) (by first | decide | omega), ?_⟩
  conv => whnf
  try dsimp only
  rw [nI_clamp (by omega), e1]
  rcases k03 hk4 with hk | hk | hk | hk
  · refine br_f (by rw [hk]; decide) (br_f (by rw [hk]; decide) (br_f (by rw [hk]; decide) ?_))
    conv => whnf
    try dsimp only
    refine ⟨vp_in_nI (by first | decide | omega) (by first | decide | omega), ?_⟩
    conv => whnf
    try dsimp only
    refine ⟨Or.inl rfl, ?_⟩
    rw [nI_clamp (by omega)]
    have x1 : rwX n d true = false := by simp [rwX, dgX, hk]
    have x2 : rwC n d true = 0 := by simp [rwC, dgC, hk]
    have x3 : rwB n d true = n (4 * d + 3) := by simp [rwB, dgB, hk]
    rw [x1, x2, x3, u4, c4] at h
    exact h
  · refine br_t (by rw [hk]; rfl) ?_
    conv => whnf
    try dsimp only
    refine ⟨vp_in_nI (by first | decide | omega) (by first | decide | omega), ?_⟩
    conv => whnf
    try dsimp only
    refine ⟨vp_in_nI (by first | decide | omega) (by first | decide | omega), ?_⟩
    conv => whnf
    try dsimp only
    rw [nI_clamp (by omega), e2, e3]
    refine ⟨by decide, ?_⟩
    conv => whnf
    try dsimp only
    refine ⟨fun hc => ?_, fun hc => ?_⟩
    · conv => whnf
      try dsimp only
      refine ⟨vp_in_nI (by first | decide | omega) (by first | decide | omega), ?_⟩
      conv => whnf
      try dsimp only
      refine ⟨Or.inl rfl, ?_⟩
      rw [nI_clamp (by omega)]
      have hc := Int32.not_lt.mpr hc
      have x1 : rwX n d true = false := by simp [rwX, dgX, hc]
      have x2 : rwC n d true = 0 := by simp [rwC, dgC, hk, hc]
      have x3 : rwB n d true = n (4 * d + 3) := by simp [rwB, dgB, hk]
      rw [x1, x2, x3, u4, c4] at h
      exact h
    · conv => whnf
      try dsimp only
      refine ⟨Or.inr rfl, ?_⟩
      have hc := Int32.not_le.mp hc
      have x1 : rwX n d true = true := by simp [rwX, dgX, hk, hc]
      have x2 : rwC n d true = n (4 * d + 2) := by simp [rwC, dgC, hk, hc]
      have x3 : rwB n d true = n (4 * d + 3) := by simp [rwB, dgB, hk]
      rw [x1, x2, x3, u3, u4, c4, uc_self] at h
      exact h
  · refine br_f (by rw [hk]; decide) (br_t (by rw [hk]; rfl) ?_)
    conv => whnf
    try dsimp only
    refine ⟨vp_in_nI (by first | decide | omega) (by first | decide | omega), ?_⟩
    conv => whnf
    try dsimp only
    refine ⟨vp_in_nI (by first | decide | omega) (by first | decide | omega), ?_⟩
    conv => whnf
    try dsimp only
    refine ⟨Or.inl rfl, ?_⟩
    rw [nI_clamp (by omega), uc_n (show (24 : Nat) ≠ 23 by decide)]
    have x1 : rwX n d true = false := by simp [rwX, dgX, hk]
    have x2 : rwC n d true = 0 := by simp [rwC, dgC, hk]
    have x3 : rwB n d true = 0 := by simp [rwB, dgB, hk]
    rw [x1, x2, x3] at h
    exact h
  · refine br_f (by rw [hk]; decide) (br_f (by rw [hk]; decide) (br_t (by rw [hk]; rfl) ?_))
    conv => whnf
    try dsimp only
    refine ⟨vp_in_nI (by first | decide | omega) (by first | decide | omega), ?_⟩
    conv => whnf
    try dsimp only
    refine ⟨by decide, ?_⟩
    conv => whnf
    try dsimp only
    refine ⟨vp_in_nI (by first | decide | omega) (by first | decide | omega), ?_⟩
    conv => whnf
    try dsimp only
    refine ⟨vp_in_nI (by first | decide | omega) (by first | decide | omega), ?_⟩
    conv => whnf
    try dsimp only
    refine ⟨Or.inl rfl, ?_⟩
    rw [nI_clamp (by omega), uc_n (show (24 : Nat) ≠ 23 by decide), e3]
    have x1 : rwX n d true = false := by simp [rwX, dgX, hk]
    have x2 : rwC n d true = n (4 * d + 2) / 2 := by simp [rwC, dgC, hk]
    have x3 : rwB n d true = 0 := by simp [rwB, dgB, hk]
    rw [x1, x2, x3] at h
    exact h
theorem s_anew_20 {x y : Int32} (h : Q none (wd_uc (wd_uc (wd_uc σ 20 (upd (upd (upd (upd (σ 20) 15 (if 999 < σ 20 15 + 1 then 999 else σ 20 15 + 1)) 17 x) 13 0) 16 y)) 23 (fil (fun _ => 0) (σ 23) 4)) 24 (fil (fun _ => 0) (σ 24) 4)) τ) : Run wC G M_P_beginAnew 0 [some (.ref 20), some (.int x), some (.int y)] [] σ τ Q := by
  refine wd_go ok_P_beginAnew [] 40 (fun R hR => ?_)
  conv => whnf
  try dsimp only
  refine ⟨Nat.le_of_ble_eq_true rfl, ?_⟩
  conv => whnf
  try dsimp only
  refine hR (k_P_beginAnew_36 (Nat.le_of_ble_eq_true rfl) (s_fill_23 ?_))
  refine wd_go ok_P_beginAnew [] 40 (fun R hR => ?_)
  conv => whnf
  try dsimp only
  refine hR (k_P_beginAnew_44 (Nat.le_of_ble_eq_true rfl) (s_fill_24 ?_))
  refine wd_go ok_P_beginAnew [] 40 (fun R hR => ?_)
  conv => whnf
  try dsimp only
  refine ⟨rfl, ?_⟩
  simp only [uc_uc, uc_s]
  exact h
theorem s_unfed {n : wRow} {d : Nat} (hr : relC σ 20 n) (hw : dN n ≤ 4) (hk4 : ∃ k : Nat, n (4 * d) = nI k ∧ k ≤ 3) (hb : wd_bit (n (4 * d + 3))) (hd : d < dN n) (h : Q (some (.int (bI (rwX n d false)))) (wd_uc (wd_uc σ 23 (upd (σ 23) d (rwC n d false))) 24 (upd (σ 24) d (rwB n d false))) τ) : Run wC G M_P_bitesUnfed 0 [some (.ref 20), some (.int (nI d))] [] σ τ Q := by
  have hd4 : d < 4 := Nat.lt_of_lt_of_le hd hw
  have e1 : σ 21 d = n (4 * d) := (hr.2.1 d hd).1
  have e2 : σ 22 d = n (4 * d + 1) := (hr.2.1 d hd).2.1
  have e3 : σ 23 d = n (4 * d + 2) := (hr.2.1 d hd).2.2.1
  have e4 : σ 24 d = n (4 * d + 3) := (hr.2.1 d hd).2.2.2
  have u4 : upd (σ 24) d (n (4 * d + 3)) = σ 24 := by rw [← e4, upd_self]
  have c4 : ∀ f, wd_uc (wd_uc σ 23 f) 24 (σ 24) = wd_uc σ 23 f := fun f => by
    have : σ 24 = wd_uc σ 23 f 24 := rfl
    rw [this, uc_self]
  refine wd_go ok_P_bitesUnfed [] 90 (fun R hR => ?_)
  conv => whnf
  try dsimp only
  refine ⟨vp_in_nI (by first | decide | omega) (by first | decide | omega), ?_⟩
  conv => whnf
  try dsimp only
  refine ⟨vp_in_nI (by first | decide | omega) (by first | decide | omega), ?_⟩
  conv => whnf
  try dsimp only
  refine ⟨vp_in_nI (by first | decide | omega) (by first | decide | omega), ?_⟩
  conv => whnf
  try dsimp only
  refine ⟨vp_in_nI (by first | decide | omega) (by first | decide | omega), ?_⟩
  conv => whnf
  try dsimp only
  rw [nI_clamp (by omega), uc_s, upd_s, uc_n (show (22 : Nat) ≠ 23 by decide), e2, e3]
  by_cases hl : n (4 * d + 2) + 1 ≤ n (4 * d + 1)
  · refine br_f (Int32.not_lt.mpr hl) ?_
    conv => whnf
    try dsimp only
    refine ⟨Or.inl rfl, ?_⟩
    have x1 : rwX n d false = false := by simp [rwX, dgX, hl]
    have x2 : rwC n d false = n (4 * d + 2) + 1 := by simp [rwC, dgC, hl]
    have x3 : rwB n d false = n (4 * d + 3) := by simp [rwB, dgB, hl]
    rw [x1, x2, x3, u4, c4] at h
    exact h
  · refine br_t (Int32.not_le.mp hl) ?_
    conv => whnf
    try dsimp only
    refine ⟨vp_in_nI (by first | decide | omega) (by first | decide | omega), ?_⟩
    conv => whnf
    try dsimp only
    rw [nI_clamp (by omega), uc_n (show (21 : Nat) ≠ 23 by decide), e1]
    have bite : n (4 * d) < 2 → Q (some (.int 1)) (wd_uc σ 23 (upd (σ 23) d (n (4 * d + 2) + 1))) τ := by
      intro hk
      have x1 : rwX n d false = true := by simp [rwX, dgX, hl, hk]
      have x2 : rwC n d false = n (4 * d + 2) + 1 := by simp [rwC, dgC, hl, hk]
      have x3 : rwB n d false = n (4 * d + 3) := by simp [rwB, dgB, hl, hk]
      rw [x1, x2, x3, u4, c4] at h
      exact h
    by_cases hk0 : n (4 * d) = 0
    · refine br_t hk0 ?_
      conv => whnf
      try dsimp only
      exact ⟨Or.inr rfl, bite (by rw [hk0]; decide)⟩
    · refine br_f hk0 ?_
      conv => whnf
      try dsimp only
      refine ⟨vp_in_nI (by first | decide | omega) (by first | decide | omega), ?_⟩
      conv => whnf
      try dsimp only
      rw [nI_clamp (by omega), uc_n (show (21 : Nat) ≠ 23 by decide), e1]
      by_cases hk1 : n (4 * d) = 1
      · refine nb_f hk1 ?_
        conv => whnf
        try dsimp only
        exact ⟨Or.inr rfl, bite (by rw [hk1]; decide)⟩
      · refine nb_t hk1 ?_
        conv => whnf
        try dsimp only
        refine ⟨vp_in_nI (by first | decide | omega) (by first | decide | omega), ?_⟩
        conv => whnf
        try dsimp only
        refine ⟨vp_in_nI (by first | decide | omega) (by first | decide | omega), ?_⟩
        conv => whnf
        try dsimp only
        refine ⟨vp_in_nI (by first | decide | omega) (by first | decide | omega), ?_⟩
        conv => whnf
        try dsimp only
        refine ⟨vp_in_nI (by first | decide | omega) (by first | decide | omega), ?_⟩
        conv => whnf
        try dsimp only
        have hk : ¬ n (4 * d) < 2 := by
          rcases k03 hk4 with z | z | z | z
          · exact absurd z hk0
          · exact absurd z hk1
          · rw [z]; decide
          · rw [z]; decide
        have x1 : rwX n d false = decide (n (4 * d + 3) + 1 = 2) := by simp [rwX, dgX, hl, hk]
        have x2 : rwC n d false = 0 := by simp [rwC, dgC, hl, hk]
        have x3 : rwB n d false = n (4 * d + 3) + 1 := by simp [rwB, dgB, hl, hk]
        rw [x1, x2, x3] at h
        rw [nI_clamp (by omega), uc_n (show (24 : Nat) ≠ 23 by decide), uc_n (show (24 : Nat) ≠ 23 by decide), uc_s, upd_s, e4]
        have em : wd_uc (wd_uc (wd_uc σ 23 (upd (σ 23) d (n (4 * d + 2) + 1))) 24 (upd (σ 24) d (n (4 * d + 3) + 1))) 23 (upd ((wd_uc (wd_uc σ 23 (upd (σ 23) d (n (4 * d + 2) + 1))) 24 (upd (σ 24) d (n (4 * d + 3) + 1))) 23) d 0) = wd_uc (wd_uc σ 23 (upd (σ 23) d 0)) 24 (upd (σ 24) d (n (4 * d + 3) + 1)) := by
          rw [uc_n (show (23 : Nat) ≠ 24 by decide), uc_s, upd_upd, uc_comm (c := 24) (d := 23) _ (by decide), uc_uc]
        rcases hb with hb | hb
        · rw [hb] at h em ⊢
          refine br_t (by decide) ?_
          conv => whnf
          try dsimp only
          refine ⟨Or.inl rfl, ?_⟩
          rw [em]
          exact h
        · rw [hb] at h em ⊢
          refine br_f (by decide) ?_
          conv => whnf
          try dsimp only
          refine ⟨Or.inr rfl, ?_⟩
          rw [em]
          exact h
end C
