/-! THE TEXT: tokens of the class -/
/-- the tape of the class: L bytes b -/
def tpC (σ : wd_S) (b : Nat → Nat) (L : Nat) : Prop := σ 4 2 = nI L ∧ L ≤ 160 ∧ ∀ i, i < L → σ 5 i = nI (b i) ∧ b i < 128
section C
variable {G : wd_G} {τ : wd_T} {Q : wd_P} {b : Nat → Nat} {L : Nat}
theorem tpC.u4 {σ : wd_S} {f : wRow} (h : tpC σ b L) (hf : f 2 = σ 4 2) : tpC (wd_uc σ 4 f) b L := ⟨(show f 2 = nI L from hf.trans h.1), h.2.1, h.2.2⟩
theorem s_A_isLetter {σ : wd_S} {c : Nat} (hc : c < 128) (h : Q (some (.int (bI (isLt c)))) σ τ) : Run wC G M_A_isLetter 0 [some (.int (nI c))] [] σ τ Q := by
  rw [isLt] at h
  refine wd_go ok_A_isLetter [] 20 (fun R hR => ?_)
  conv => whnf
  try dsimp only
  by_cases h1 : c < 97
  · rw [decide_eq_false (fun z => by omega)] at h
    refine br_t (nI_lt (b := 97) h1 (by decide)) ?_
    conv => whnf
    try dsimp only
    exact ⟨Or.inl rfl, h⟩
  · refine br_f (nI_nlt (b := 97) (by omega) (by omega)) ?_
    conv => whnf
    try dsimp only
    by_cases h2 : 122 < c
    · rw [decide_eq_false (fun z => by omega)] at h
      refine br_t (nI_lt (a := 122) h2 (by omega)) ?_
      conv => whnf
      try dsimp only
      exact ⟨Or.inl rfl, h⟩
    · rw [decide_eq_true (by omega)] at h
      refine br_f (nI_nlt (a := 122) (by omega) (by decide)) ?_
      conv => whnf
      try dsimp only
      exact ⟨Or.inr rfl, h⟩
theorem s_A_isFigure {σ : wd_S} {c : Nat} (hc : c < 128) (h : Q (some (.int (bI (isFg c)))) σ τ) : Run wC G M_A_isFigure 0 [some (.int (nI c))] [] σ τ Q := by
  rw [isFg] at h
  refine wd_go ok_A_isFigure [] 20 (fun R hR => ?_)
  conv => whnf
  try dsimp only
  by_cases h1 : c < 48
  · rw [decide_eq_false (fun z => by omega)] at h
    refine br_t (nI_lt (b := 48) h1 (by decide)) ?_
    conv => whnf
    try dsimp only
    exact ⟨Or.inl rfl, h⟩
  · refine br_f (nI_nlt (b := 48) (by omega) (by omega)) ?_
    conv => whnf
    try dsimp only
    by_cases h2 : 57 < c
    · rw [decide_eq_false (fun z => by omega)] at h
      refine br_t (nI_lt (a := 57) h2 (by omega)) ?_
      conv => whnf
      try dsimp only
      exact ⟨Or.inl rfl, h⟩
    · rw [decide_eq_true (by omega)] at h
      refine br_f (nI_nlt (a := 57) (by omega) (by decide)) ?_
      conv => whnf
      try dsimp only
      exact ⟨Or.inr rfl, h⟩
theorem s_A_refuse {σ : wd_S} {c : Int32} (h : Q none (if σ 4 3 = 0 then wd_uc σ 4 (upd (upd (σ 4) 3 c) 4 (σ 4 8)) else σ) τ) : Run wC G M_A_refuse 0 [some (.ref 4), some (.int c)] [] σ τ Q := by
  refine wd_go ok_A_refuse [] 20 (fun R hR => ?_)
  conv => whnf
  try dsimp only
  by_cases hz : σ 4 3 = 0
  · rw [if_pos hz] at h
    refine nb_f hz ?_
    conv => whnf
    try dsimp only
    refine ⟨rfl, ?_⟩
    rw [uc_s, uc_uc, upd_n (show (8 : Nat) ≠ 3 by decide)]
    exact h
  · rw [if_neg hz] at h
    refine nb_t hz ?_
    conv => whnf
    try dsimp only
    exact ⟨rfl, h⟩
theorem l_A_name {σ0 : wd_S} {e : Nat} (ht : tpC σ0 b L) (h : Q none (wd_uc σ0 4 (upd (σ0 4) 6 (nI e))) τ) : ∀ (m p : Nat), L = p + m → skA (fun i => isLt (b i)) m p = e → Run wC G M_A_readName 5 [some (.ref 4)] [] (wd_uc σ0 4 (upd (σ0 4) 6 (nI p))) τ Q := by
  have hL := ht.2.1
  have e2 : ∀ x, (wd_uc σ0 4 (upd (σ0 4) 6 x)) 4 2 = nI L := fun x => ht.1
  have e6 : ∀ x, (wd_uc σ0 4 (upd (σ0 4) 6 x)) 4 6 = x := fun x => rfl
  intro m
  induction m with
  | zero =>
    intro p hp hs
    rw [skA] at hs
    subst hs
    refine wd_go ok_A_readName [5] 20 (fun R hR => ?_)
    conv => whnf
    try dsimp only
    rw [e2, e6]
    refine br_t (nI_le (by omega) (by omega)) ?_
    conv => whnf
    try dsimp only
    exact ⟨rfl, h⟩
  | succ m ih =>
    intro p hp hs
    rw [skA] at hs
    have bp := ht.2.2 p (by omega)
    refine wd_go ok_A_readName [5] 20 (fun R hR => ?_)
    conv => whnf
    try dsimp only
    rw [e2, e6]
    refine br_f (nI_ge (by omega) (by omega)) ?_
    conv => whnf
    try dsimp only
    rw [e6]
    refine ⟨vp_in_nI (by first | decide | omega) (by first | decide | omega), ?_⟩
    conv => whnf
    try dsimp only
    rw [nI_clamp (by omega), uc_n (c' := 5) (c := 4) (by decide), bp.1]
    refine hR (k_A_readName_25 (Nat.le_of_ble_eq_true rfl) (s_A_isLetter bp.2 ?_))
    cases hz : isLt (b p) with
    | true =>
      rw [if_pos hz] at hs
      refine wd_go ok_A_readName [5] 20 (fun R hR => ?_)
      conv => whnf
      try dsimp only
      refine br_f (by decide) ?_
      conv => whnf
      try dsimp only
      rw [uc_s, upd_s, uc_uc, upd_upd]
      refine hR ?_
      have := ih (p + 1) (by omega) hs
      rw [nI_succ] at this
      exact this
    | false =>
      rw [if_neg (by rw [hz]; decide)] at hs
      subst hs
      refine wd_go ok_A_readName [5] 20 (fun R hR => ?_)
      conv => whnf
      try dsimp only
      refine br_t rfl ?_
      conv => whnf
      try dsimp only
      exact ⟨rfl, h⟩
end C
