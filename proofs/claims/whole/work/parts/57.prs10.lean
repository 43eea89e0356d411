/-! THE TEXT: the end of a line of the class, whether there is a line -/
section C
variable {G : wd_G} {τ : wd_T} {Q : wd_P} {b : Nat → Nat} {L : Nat}
theorem s_A_semiF {σ : wd_S} (hf : ¬ σ 4 3 = 0) (h : Q none σ τ) : Run wC G M_A_takeSemicolon 0 [some (.ref 4)] [] σ τ Q := by
  refine wd_go ok_A_takeSemicolon [] 20 (fun R hR => ?_)
  conv => whnf
  try dsimp only
  refine ⟨fun hs => ?_, fun hs => ?_⟩
  · conv => whnf
    try dsimp only
    refine hR (k_A_takeSemicolon_14 (Nat.le_of_ble_eq_true rfl) rfl (s_A_readTokenF hf ?_))
    refine wd_go ok_A_takeSemicolon [] 20 (fun R hR => ?_)
    conv => whnf
    try dsimp only
    exact ⟨rfl, h⟩
  · conv => whnf
    try dsimp only
    refine hR (k_A_takeSemicolon_10 (Nat.le_of_ble_eq_true rfl) rfl (s_A_refuseF hf ?_))
    refine wd_go ok_A_takeSemicolon [] 20 (fun R hR => ?_)
    conv => whnf
    try dsimp only
    refine hR (k_A_takeSemicolon_14 (Nat.le_of_ble_eq_true rfl) rfl (s_A_readTokenF hf ?_))
    refine wd_go ok_A_takeSemicolon [] 20 (fun R hR => ?_)
    conv => whnf
    try dsimp only
    exact ⟨rfl, h⟩
theorem s_A_semi {σ : wd_S} {p : Nat} (ht : tpC σ b L) (hp : σ 4 6 = nI p) (hpL : p ≤ L) (hf : σ 4 3 = 0) (h1 : ¬ σ 4 7 = 3 → Q none (wd_uc σ 4 (upd (upd (σ 4) 3 2) 4 (σ 4 8))) τ) (h2 : σ 4 7 = 3 → ∀ σ', tokC σ b L p σ' → Q none σ' τ) : Run wC G M_A_takeSemicolon 0 [some (.ref 4)] [] σ τ Q := by
  refine wd_go ok_A_takeSemicolon [] 20 (fun R hR => ?_)
  conv => whnf
  try dsimp only
  by_cases hs : σ 4 7 = 3
  · refine br_t hs ?_
    conv => whnf
    try dsimp only
    refine hR (k_A_takeSemicolon_14 (Nat.le_of_ble_eq_true rfl) rfl (s_A_readToken ht hp hpL hf (fun σ' t' => ?_)))
    refine wd_go ok_A_takeSemicolon [] 20 (fun R hR => ?_)
    conv => whnf
    try dsimp only
    exact ⟨rfl, h2 hs σ' t'⟩
  · refine br_f hs ?_
    conv => whnf
    try dsimp only
    refine hR (k_A_takeSemicolon_10 (Nat.le_of_ble_eq_true rfl) rfl (s_A_refuse ?_))
    rw [if_pos hf]
    refine wd_go ok_A_takeSemicolon [] 20 (fun R hR => ?_)
    conv => whnf
    try dsimp only
    refine hR (k_A_takeSemicolon_14 (Nat.le_of_ble_eq_true rfl) rfl (s_A_readTokenF (show ¬ (2 : Int32) = 0 by decide) ?_))
    refine wd_go ok_A_takeSemicolon [] 20 (fun R hR => ?_)
    conv => whnf
    try dsimp only
    exact ⟨rfl, h1 hs⟩
theorem s_A_hasLine {σ : wd_S} (h : Q (some (.int (bI (decide (σ 4 3 = 0 ∧ ¬ σ 4 7 = 0))))) σ τ) : Run wC G M_A_hasLine 0 [some (.ref 4)] [] σ τ Q := by
  refine wd_go ok_A_hasLine [] 20 (fun R hR => ?_)
  conv => whnf
  try dsimp only
  by_cases h3 : σ 4 3 = 0
  · refine nb_f h3 ?_
    conv => whnf
    try dsimp only
    by_cases h7 : σ 4 7 = 0
    · rw [decide_eq_false (fun z => z.2 h7)] at h
      refine br_t h7 ?_
      conv => whnf
      try dsimp only
      exact ⟨Or.inl rfl, h⟩
    · rw [decide_eq_true ⟨h3, h7⟩] at h
      refine br_f h7 ?_
      conv => whnf
      try dsimp only
      exact ⟨Or.inr rfl, h⟩
  · rw [decide_eq_false (fun z => h3 z.1)] at h
    refine nb_t h3 ?_
    conv => whnf
    try dsimp only
    exact ⟨Or.inl rfl, h⟩
end C
