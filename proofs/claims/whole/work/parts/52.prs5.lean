/-! THE TEXT: a token of the class -/
def tokC (σ : wd_S) (b : Nat → Nat) (L p : Nat) (σ' : wd_S) : Prop := (∀ c, c ≠ 4 → σ' c = σ c) ∧ (∀ k, (k < 3 ∨ k = 5 ∨ 9 < k) → σ' 4 k = σ 4 k) ∧ ((tokS b L (spS b L p)).2.2.2 = true → σ' 4 7 = nI (tokS b L (spS b L p)).1 ∧ σ' 4 6 = nI (tokS b L (spS b L p)).2.1 ∧ σ' 4 8 = nI (spS b L p) ∧ ((tokS b L (spS b L p)).1 = 2 → σ' 4 9 = (tokS b L (spS b L p)).2.2.1) ∧ σ' 4 3 = 0) ∧ ((tokS b L (spS b L p)).2.2.2 = false → σ' 4 3 = 1 ∧ σ' 4 4 = nI (spS b L p))
theorem n69 (f : wRow) (a v c : Int32) : upd (upd (upd f 6 a) 9 v) 6 c = upd (upd f 6 c) 9 v := by
  rw [upd_comm _ (show (9 : Nat) ≠ 6 by decide), upd_upd]
section C
variable {G : wd_G} {τ : wd_T} {Q : wd_P} {b : Nat → Nat} {L : Nat}
theorem l_A_figs {σ0 : wd_S} {s e : Nat} (ht : tpC σ0 b L) (h : Run wC G M_A_readNumber 73 [some (.ref 4)] [] (wd_uc σ0 4 (upd (upd (σ0 4) 6 (nI e)) 9 (vlA b s (e - s)))) τ Q) : ∀ (m p : Nat), L = p + m → s ≤ p → skA (fun i => isFg (b i)) m p = e → Run wC G M_A_readNumber 10 [some (.ref 4)] [] (wd_uc σ0 4 (upd (upd (σ0 4) 6 (nI p)) 9 (vlA b s (p - s)))) τ Q := by
  have hL := ht.2.1
  have e2 : ∀ x y, (wd_uc σ0 4 (upd (upd (σ0 4) 6 x) 9 y)) 4 2 = nI L := fun x y => ht.1
  have e6 : ∀ x y, (wd_uc σ0 4 (upd (upd (σ0 4) 6 x) 9 y)) 4 6 = x := fun x y => rfl
  intro m
  induction m with
  | zero =>
    intro p hp hsp hs
    rw [skA] at hs
    subst hs
    refine wd_go ok_A_readNumber [10, 73] 20 (fun R hR => ?_)
    conv => whnf
    try dsimp only
    rw [e2, e6]
    refine br_t (nI_le (by omega) (by omega)) ?_
    conv => whnf
    try dsimp only
    exact hR h
  | succ m ih =>
    intro p hp hsp hs
    rw [skA] at hs
    have bp := ht.2.2 p (by omega)
    refine wd_go ok_A_readNumber [10, 73] 20 (fun R hR => ?_)
    conv => whnf
    try dsimp only
    rw [e2, e6]
    refine br_f (nI_ge (by omega) (by omega)) ?_
    conv => whnf
    try dsimp only
    rw [e6]
    refine ⟨vp_in_nI (by first | decide | omega) (by first | decide | omega), ?_⟩
    conv => whnf
    try dsimp only
    rw [nI_clamp (by omega), uc_n (c' := 5) (c := 4) (by decide), bp.1]
    refine hR (k_A_readNumber_30 (Nat.le_of_ble_eq_true rfl) (s_A_isFigure bp.2 ?_))
    cases hz : isFg (b p) with
    | true =>
      rw [if_pos hz] at hs
      have nxt := ih (p + 1) (by omega) (by omega) hs
      refine wd_go ok_A_readNumber [10, 73] 30 (fun R hR => ?_)
      conv => whnf
      try dsimp only
      refine br_f (by decide) ?_
      conv => whnf
      try dsimp only
      rw [e6]
      refine ⟨vp_in_nI (by first | decide | omega) (by first | decide | omega), ?_⟩
      conv => whnf
      try dsimp only
      rw [nI_clamp (by omega), uc_n (c' := 5) (c := 4) (by decide), bp.1]
      simp only [uc_s, uc_uc, upd_s, upd_upd]
      rw [n69, upd_n (show (6 : Nat) ≠ 9 by decide), upd_s]
      refine hR ?_
      have q1 : p + 1 - s = p - s + 1 := by omega
      have q2 : s + (p - s) = p := by omega
      rw [q1, vlA, q2, nI_succ] at nxt
      exact nxt
    | false =>
      rw [if_neg (by rw [hz]; decide)] at hs
      subst hs
      refine wd_go ok_A_readNumber [10, 73] 20 (fun R hR => ?_)
      conv => whnf
      try dsimp only
      refine br_t rfl ?_
      conv => whnf
      try dsimp only
      exact hR h
theorem l_A_spaces {σ0 : wd_S} {e : Nat} (ht : tpC σ0 b L) (h : Run wC G M_A_readToken 46 [some (.ref 4)] [] (wd_uc σ0 4 (upd (σ0 4) 6 (nI e))) τ Q) : ∀ (m p : Nat), L = p + m → skA (fun i => decide (b i = 32)) m p = e → Run wC G M_A_readToken 8 [some (.ref 4)] [] (wd_uc σ0 4 (upd (σ0 4) 6 (nI p))) τ Q := by
  have hL := ht.2.1
  have e2 : ∀ x, (wd_uc σ0 4 (upd (σ0 4) 6 x)) 4 2 = nI L := fun x => ht.1
  have e6 : ∀ x, (wd_uc σ0 4 (upd (σ0 4) 6 x)) 4 6 = x := fun x => rfl
  intro m
  induction m with
  | zero =>
    intro p hp hs
    rw [skA] at hs
    subst hs
    refine wd_go ok_A_readToken [8, 46] 20 (fun R hR => ?_)
    conv => whnf
    try dsimp only
    rw [e2, e6]
    refine br_t (nI_le (by omega) (by omega)) ?_
    conv => whnf
    try dsimp only
    exact hR h
  | succ m ih =>
    intro p hp hs
    rw [skA] at hs
    have bp := ht.2.2 p (by omega)
    have bp2 := bp.2
    refine wd_go ok_A_readToken [8, 46] 20 (fun R hR => ?_)
    conv => whnf
    try dsimp only
    rw [e2, e6]
    refine br_f (nI_ge (by omega) (by omega)) ?_
    conv => whnf
    try dsimp only
    rw [e6]
    refine ⟨vp_in_nI (by first | decide | omega) (by first | decide | omega), ?_⟩
    conv => whnf
    try dsimp only
    rw [nI_clamp (by omega), uc_n (c' := 5) (c := 4) (by decide), bp.1]
    by_cases hz : b p = 32
    · rw [if_pos (decide_eq_true hz)] at hs
      refine nb_f (by rw [hz]; rfl) ?_
      conv => whnf
      try dsimp only
      rw [uc_s, upd_s, uc_uc, upd_upd]
      refine hR ?_
      have := ih (p + 1) (by omega) hs
      rw [nI_succ] at this
      exact this
    · rw [if_neg (by rw [decide_eq_false hz]; decide)] at hs
      subst hs
      refine nb_t (fun z => hz ((nI_eq (b := 32) (by omega) (by decide)).mp z)) ?_
      conv => whnf
      try dsimp only
      exact hR h
end C
