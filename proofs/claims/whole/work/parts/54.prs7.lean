/-! THE TEXT: numbers -/
section R
variable {G : wd_G} {τ : wd_T} {Q : wd_P} {b : Nat → Nat} {L : Nat}
/-- a fault is there: nothing is read -/
theorem s_R_readsF {σ : wd_S} (hf : 0 < σ 0 11) (h : Q none σ τ) : Run wR G M_R_reads 0 [some (.ref 0), none] [] σ τ Q := by
  refine wd_go ok_R_reads [] 20 (fun R hR => ?_)
  conv => whnf
  try dsimp only
  refine br_f (Int32.not_le.mpr hf) ?_
  conv => whnf
  try dsimp only
  exact ⟨rfl, h⟩
theorem s_R_readNumber {σ : wd_S} {p : Nat} {lo hi : Int32} (ht : tpR σ b L) (hp : σ 0 7 = nI p) (hpL : p ≤ L) (hf : σ 0 11 = 0) (h1 : ∀ c : Int32, (¬ σ 0 9 = 2 ∧ c = 2) ∨ (σ 0 9 = 2 ∧ inB (σ 0 10) lo hi = false ∧ c = 3) → Q (some (.int 0)) (wd_uc σ 0 (upd (upd (σ 0) 11 c) 12 (σ 0 8))) τ) (h2 : σ 0 9 = 2 → inB (σ 0 10) lo hi = true → ∀ σ', tokR σ b L p σ' → Q (some (.int (σ 0 10))) σ' τ) : Run wR G M_R_readNumber 0 [some (.ref 0), some (.int lo), some (.int hi), none] [] σ τ Q := by
  refine wd_go ok_R_readNumber [] 30 (fun R hR => ?_)
  conv => whnf
  try dsimp only
  refine nb_f hf ?_
  conv => whnf
  try dsimp only
  by_cases hs : σ 0 9 = 2
  · refine nb_f hs ?_
    conv => whnf
    try dsimp only
    refine hR (k_R_readNumber_22 (Nat.le_of_ble_eq_true rfl) rfl (s_R_requires (g := true) ?_))
    rw [if_pos (Or.inl rfl)]
    refine wd_go ok_R_readNumber [] 30 (fun R hR => ?_)
    conv => whnf
    try dsimp only
    refine nb_f hf ?_
    conv => whnf
    try dsimp only
    refine hR (k_R_readNumber_42 (Nat.le_of_ble_eq_true rfl) (s_R_in2 rfl rfl ?_))
    refine wd_go ok_R_readNumber [] 30 (fun R hR => ?_)
    conv => whnf
    try dsimp only
    refine hR (k_R_readNumber_46 (Nat.le_of_ble_eq_true rfl) rfl (s_R_requires ?_))
    cases hi2 : inB (σ 0 10) lo hi with
    | true =>
      rw [if_pos (Or.inl rfl)]
      refine wd_go ok_R_readNumber [] 30 (fun R hR => ?_)
      conv => whnf
      try dsimp only
      refine nb_f hf ?_
      conv => whnf
      try dsimp only
      refine hR (k_R_readNumber_66 (Nat.le_of_ble_eq_true rfl) rfl (s_R_reads ht hp hpL hf (fun σ' t' => ?_)))
      refine wd_go ok_R_readNumber [] 30 (fun R hR => ?_)
      conv => whnf
      try dsimp only
      exact h2 hs hi2 σ' t'
    | false =>
      rw [if_neg (fun z => z.elim (fun y => by cases y) (fun y => y hf))]
      refine wd_go ok_R_readNumber [] 30 (fun R hR => ?_)
      conv => whnf
      try dsimp only
      refine nb_t (show ¬ (3 : Int32) = 0 by decide) ?_
      conv => whnf
      try dsimp only
      refine hR (k_R_readNumber_66 (Nat.le_of_ble_eq_true rfl) rfl (s_R_readsF (show (0 : Int32) < 3 by decide) ?_))
      refine wd_go ok_R_readNumber [] 30 (fun R hR => ?_)
      conv => whnf
      try dsimp only
      exact h1 3 (Or.inr ⟨hs, hi2, rfl⟩)
  · refine nb_t hs ?_
    conv => whnf
    try dsimp only
    refine hR (k_R_readNumber_22 (Nat.le_of_ble_eq_true rfl) rfl (s_R_requires (g := false) ?_))
    rw [if_neg (fun z => z.elim (fun y => by cases y) (fun y => y hf))]
    refine wd_go ok_R_readNumber [] 30 (fun R hR => ?_)
    conv => whnf
    try dsimp only
    refine nb_t (show ¬ (2 : Int32) = 0 by decide) ?_
    conv => whnf
    try dsimp only
    refine nb_t (show ¬ (2 : Int32) = 0 by decide) ?_
    conv => whnf
    try dsimp only
    refine hR (k_R_readNumber_66 (Nat.le_of_ble_eq_true rfl) rfl (s_R_readsF (show (0 : Int32) < 2 by decide) ?_))
    refine wd_go ok_R_readNumber [] 30 (fun R hR => ?_)
    conv => whnf
    try dsimp only
    exact h1 2 (Or.inl ⟨hs, rfl⟩)
end R
