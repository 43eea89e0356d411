/-! THE TEXT: numbers of the class -/
section C
variable {G : wd_G} {τ : wd_T} {Q : wd_P} {b : Nat → Nat} {L : Nat}
theorem s_A_readTokenF {σ : wd_S} (hf : ¬ σ 4 3 = 0) (h : Q none σ τ) : Run wC G M_A_readToken 0 [some (.ref 4)] [] σ τ Q := by
  refine wd_go ok_A_readToken [] 20 (fun R hR => ?_)
  conv => whnf
  try dsimp only
  refine br_f hf ?_
  conv => whnf
  try dsimp only
  exact ⟨rfl, h⟩
theorem s_A_refuseF {σ : wd_S} {c : Int32} (hf : ¬ σ 4 3 = 0) (h : Q none σ τ) : Run wC G M_A_refuse 0 [some (.ref 4), some (.int c)] [] σ τ Q := s_A_refuse (by rw [if_neg hf]; exact h)
theorem s_A_takeNumberF {σ : wd_S} {lo hi : Int32} (hf : ¬ σ 4 3 = 0) (h : Q (some (.int (σ 4 9))) σ τ) : Run wC G M_A_takeNumber 0 [some (.ref 4), some (.int lo), some (.int hi), none] [] σ τ Q := by
  have fin : Run wC G M_A_takeNumber 33 [some (.ref 4), some (.int lo), some (.int hi), none] [] σ τ Q := by
    refine wd_go ok_A_takeNumber [] 20 (fun R hR => ?_)
    conv => whnf
    try dsimp only
    refine hR (k_A_takeNumber_39 (Nat.le_of_ble_eq_true rfl) rfl (s_A_readTokenF hf ?_))
    refine wd_go ok_A_takeNumber [] 20 (fun R hR => ?_)
    conv => whnf
    try dsimp only
    exact h
  refine wd_go ok_A_takeNumber [33] 20 (fun R hR => ?_)
  conv => whnf
  try dsimp only
  refine ⟨fun hs => ?_, fun hs => ?_⟩
  · conv => whnf
    try dsimp only
    refine hR (k_A_takeNumber_22 (Nat.le_of_ble_eq_true rfl) (s_D_outside ?_))
    cases inB (σ 4 9) lo hi with
    | true =>
      refine wd_go ok_A_takeNumber [33] 20 (fun R hR => ?_)
      conv => whnf
      try dsimp only
      refine br_t rfl ?_
      conv => whnf
      try dsimp only
      exact hR fin
    | false =>
      refine wd_go ok_A_takeNumber [33] 20 (fun R hR => ?_)
      conv => whnf
      try dsimp only
      refine br_f (by decide) ?_
      conv => whnf
      try dsimp only
      refine hR (k_A_takeNumber_30 (Nat.le_of_ble_eq_true rfl) rfl (s_A_refuseF hf ?_))
      exact fin
  · conv => whnf
    try dsimp only
    refine hR (k_A_takeNumber_10 (Nat.le_of_ble_eq_true rfl) rfl (s_A_refuseF hf ?_))
    refine wd_go ok_A_takeNumber [33] 20 (fun R hR => ?_)
    conv => whnf
    try dsimp only
    exact hR fin
end C
