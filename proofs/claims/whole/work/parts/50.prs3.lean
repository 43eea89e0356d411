/-! THE TEXT: tokens -/
def skA (f : Nat → Bool) : Nat → Nat → Nat
  | 0, p => p
  | m + 1, p => if f p = true then skA f m (p + 1) else p
theorem sk_le (f : Nat → Bool) : ∀ m p, p ≤ skA f m p ∧ skA f m p ≤ p + m
  | 0, p => ⟨Nat.le_refl p, Nat.le_refl p⟩
  | m + 1, p => by
    have := sk_le f m (p + 1)
    rw [skA]
    split
    · omega
    · omega
def isLt (c : Nat) : Bool := decide (97 ≤ c ∧ c ≤ 122)
def isFg (c : Nat) : Bool := decide (48 ≤ c ∧ c ≤ 57)
def vlA (b : Nat → Nat) (p : Nat) : Nat → Int32
  | 0 => 0
  | k + 1 => vlA b p k * 10 + nI (b (p + k)) - 48
/-- begun, sort, pos, value, good -/
def tokS (b : Nat → Nat) (L s : Nat) : Nat × Nat × Int32 × Bool := if s = L then (0, s, 0, true) else if isLt (b s) = true then (1, skA (fun i => isLt (b i)) (L - s) s, 0, true) else if isFg (b s) = true then (2, skA (fun i => isFg (b i)) (L - s) s, vlA b s (skA (fun i => isFg (b i)) (L - s) s - s), decide (skA (fun i => isFg (b i)) (L - s) s ≤ s + 2)) else (3, s + 1, 0, decide (b s = 59))
def spS (b : Nat → Nat) (L p : Nat) : Nat := skA (fun i => decide (b i = 32)) (L - p) p
/-- what the reference holds behind a token -/
def tokR (σ : wd_S) (b : Nat → Nat) (L p : Nat) (σ' : wd_S) : Prop := (∀ c, c ≠ 0 → σ' c = σ c) ∧ (∀ k, (k < 7 ∨ 12 < k) → σ' 0 k = σ 0 k) ∧ σ' 0 8 = nI (spS b L p) ∧ ((tokS b L (spS b L p)).2.2.2 = true → σ' 0 9 = nI (tokS b L (spS b L p)).1 ∧ σ' 0 7 = nI (tokS b L (spS b L p)).2.1 ∧ ((tokS b L (spS b L p)).1 = 2 → σ' 0 10 = (tokS b L (spS b L p)).2.2.1) ∧ σ' 0 11 = 0) ∧ ((tokS b L (spS b L p)).2.2.2 = false → σ' 0 11 = 1 ∧ σ' 0 12 = nI (spS b L p))
section R
variable {G : wd_G} {τ : wd_T} {Q : wd_P} {b : Nat → Nat} {L : Nat}
theorem tpR.u0 {σ : wd_S} {f : wRow} (h : tpR σ b L) (hf : f 6 = σ 0 6) : tpR (wd_uc σ 0 f) b L := ⟨(show f 6 = nI L from hf.trans h.1), h.2.1, h.2.2⟩
theorem l_R_spaces {σ0 : wd_S} {e : Nat} (ht : tpR σ0 b L) (h : Run wR G M_R_reads 34 [some (.ref 0), none] [] (wd_uc σ0 0 (upd (σ0 0) 7 (nI e))) τ Q) : ∀ (m p : Nat), L = p + m → skA (fun i => decide (b i = 32)) m p = e → Run wR G M_R_reads 8 [some (.ref 0), none] [] (wd_uc σ0 0 (upd (σ0 0) 7 (nI p))) τ Q := by
  have hL := ht.2.1
  intro m
  induction m with
  | zero =>
    intro p hp hs
    rw [skA] at hs
    subst hs
    refine wd_go ok_R_reads [8, 34] 20 (fun R hR => ?_)
    conv => whnf
    try dsimp only
    rw [uc_s, upd_s]
    refine hR (k_R_reads_13 (Nat.le_of_ble_eq_true rfl) rfl (s_R_byteAt (ht.u0 (upd_n (by decide))) (by omega) ?_))
    rw [show btA b L p = -1 from if_neg (by omega)]
    refine wd_go ok_R_reads [8, 34] 20 (fun R hR => ?_)
    conv => whnf
    try dsimp only
    refine nb_t (by decide) ?_
    conv => whnf
    try dsimp only
    exact hR h
  | succ m ih =>
    intro p hp hs
    rw [skA] at hs
    have bp := (ht.2.2 p (by omega)).2
    refine wd_go ok_R_reads [8, 34] 20 (fun R hR => ?_)
    conv => whnf
    try dsimp only
    rw [uc_s, upd_s]
    refine hR (k_R_reads_13 (Nat.le_of_ble_eq_true rfl) rfl (s_R_byteAt (ht.u0 (upd_n (by decide))) (by omega) ?_))
    rw [show btA b L p = nI (b p) from if_pos (by omega)]
    refine wd_go ok_R_reads [8, 34] 20 (fun R hR => ?_)
    conv => whnf
    try dsimp only
    by_cases hz : b p = 32
    · rw [if_pos (decide_eq_true hz)] at hs
      refine nb_f (by rw [hz]; rfl) ?_
      conv => whnf
      try dsimp only
      rw [uc_s, upd_s, uc_uc, upd_upd]
      refine hR ?_
      have := ih (p + 1) (by omega) hs
      rw [nI_succ] at this
      exact this
    · rw [if_neg (by rw [decide_eq_false hz]; decide)] at hs
      subst hs
      refine nb_t (fun z => hz ((nI_eq (b := 32) (by omega) (by decide)).mp z)) ?_
      conv => whnf
      try dsimp only
      exact hR h
end R
