/-! THE TEXT: a number of the class is taken -/
section C
variable {G : wd_G} {τ : wd_T} {Q : wd_P} {b : Nat → Nat} {L : Nat}
theorem s_A_takeNumber {σ : wd_S} {p : Nat} {lo hi : Int32} (ht : tpC σ b L) (hp : σ 4 6 = nI p) (hpL : p ≤ L) (hf : σ 4 3 = 0) (h1 : ∀ c : Int32, (¬ σ 4 7 = 2 ∧ c = 2) ∨ (σ 4 7 = 2 ∧ inB (σ 4 9) lo hi = false ∧ c = 3) → Q (some (.int (σ 4 9))) (wd_uc σ 4 (upd (upd (σ 4) 3 c) 4 (σ 4 8))) τ) (h2 : σ 4 7 = 2 → inB (σ 4 9) lo hi = true → ∀ σ', tokC σ b L p σ' → Q (some (.int (σ 4 9))) σ' τ) : Run wC G M_A_takeNumber 0 [some (.ref 4), some (.int lo), some (.int hi), none] [] σ τ Q := by
  have fin : ∀ c : Int32, ¬ c = 0 → Q (some (.int (σ 4 9))) (wd_uc σ 4 (upd (upd (σ 4) 3 c) 4 (σ 4 8))) τ → Run wC G M_A_takeNumber 33 [some (.ref 4), some (.int lo), some (.int hi), none] [] (wd_uc σ 4 (upd (upd (σ 4) 3 c) 4 (σ 4 8))) τ Q := by
    intro c hc h
    refine wd_go ok_A_takeNumber [] 20 (fun R hR => ?_)
    conv => whnf
    try dsimp only
    refine hR (k_A_takeNumber_39 (Nat.le_of_ble_eq_true rfl) rfl (s_A_readTokenF (show ¬ c = 0 from hc) ?_))
    refine wd_go ok_A_takeNumber [] 20 (fun R hR => ?_)
    conv => whnf
    try dsimp only
    exact h
  refine wd_go ok_A_takeNumber [33] 20 (fun R hR => ?_)
  conv => whnf
  try dsimp only
  by_cases hs : σ 4 7 = 2
  · refine br_t hs ?_
    conv => whnf
    try dsimp only
    refine hR (k_A_takeNumber_22 (Nat.le_of_ble_eq_true rfl) (s_D_outside ?_))
    cases hi2 : inB (σ 4 9) lo hi with
    | true =>
      refine wd_go ok_A_takeNumber [] 20 (fun R hR => ?_)
      conv => whnf
      try dsimp only
      refine br_t rfl ?_
      conv => whnf
      try dsimp only
      refine hR (k_A_takeNumber_39 (Nat.le_of_ble_eq_true rfl) rfl (s_A_readToken ht hp hpL hf (fun σ' t' => ?_)))
      refine wd_go ok_A_takeNumber [] 20 (fun R hR => ?_)
      conv => whnf
      try dsimp only
      exact h2 hs hi2 σ' t'
    | false =>
      refine wd_go ok_A_takeNumber [33] 20 (fun R hR => ?_)
      conv => whnf
      try dsimp only
      refine br_f (by decide) ?_
      conv => whnf
      try dsimp only
      refine hR (k_A_takeNumber_30 (Nat.le_of_ble_eq_true rfl) rfl (s_A_refuse ?_))
      rw [if_pos hf]
      exact fin 3 (by decide) (h1 3 (Or.inr ⟨hs, hi2, rfl⟩))
  · refine br_f hs ?_
    conv => whnf
    try dsimp only
    refine hR (k_A_takeNumber_10 (Nat.le_of_ble_eq_true rfl) rfl (s_A_refuse ?_))
    rw [if_pos hf]
    refine wd_go ok_A_takeNumber [33] 20 (fun R hR => ?_)
    conv => whnf
    try dsimp only
    exact hR (fin 2 (by decide) (h1 2 (Or.inl ⟨hs, rfl⟩)))
end C
