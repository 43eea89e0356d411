/-! THE TEXT: small methods of the reference -/
/-- a tape: L bytes b -/
def btA (b : Nat → Nat) (L p : Nat) : Int32 := if p < L then nI (b p) else -1
def tpR (σ : wd_S) (b : Nat → Nat) (L : Nat) : Prop := σ 0 6 = nI L ∧ L ≤ 160 ∧ ∀ i, i < L → σ 5 i = nI (b i) ∧ b i < 128
/-- bytes as a word tells -/
def wdB (b : Nat → Nat) : Nat → List Nat → Bool
  | _, [] => true
  | p, x :: xs => decide (b p = x) && wdB b (p + 1) xs
def lnB (b : Nat → Nat) (p q : Nat) (w : List Nat) : Bool := decide (q = p + w.length) && wdB b p w
def lnK (b : Nat → Nat) (p q : Nat) : Int32 := if lnB b p q [112, 108, 97, 105, 110] = true then 0 else if lnB b p q [119, 105, 110, 100, 111, 119] = true then 1 else if lnB b p q [116, 119, 105, 99, 101] = true then 2 else if lnB b p q [104, 97, 108, 102] = true then 3 else if lnB b p q [115, 105, 103, 110, 115] = true then 4 else if lnB b p q [106, 97, 109] = true then 5 else -4
section R
variable {G : wd_G} {τ : wd_T} {Q : wd_P} {σ : wd_S} {b : Nat → Nat} {L : Nat}
theorem s_R_byteAt {p : Nat} (ht : tpR σ b L) (hp : p < 2 ^ 30) (h : Q (some (.int (btA b L p))) σ τ) : Run wR G M_R_byteAt 0 [some (.ref 0), some (.int (nI p))] [] σ τ Q := by
  obtain ⟨h1, h2, h3⟩ := ht
  rw [btA] at h
  refine wd_go ok_R_byteAt [] 20 (fun R hR => ?_)
  conv => whnf
  try dsimp only
  rw [h1]
  by_cases hz : p < L
  · rw [if_pos hz] at h
    refine br_f (nI_ge hz (by omega)) ?_
    conv => whnf
    try dsimp only
    refine ⟨vp_in_nI (by first | decide | omega) (by first | decide | omega), ?_⟩
    conv => whnf
    try dsimp only
    rw [nI_clamp (by omega), (h3 p hz).1]
    exact h
  · rw [if_neg hz] at h
    refine br_t (nI_le (by omega) (by omega)) ?_
    conv => whnf
    try dsimp only
    exact h
theorem s_R_requires {g : Bool} {c : Int32} (h : Q none (if g = true ∨ ¬ σ 0 11 = 0 then σ else wd_uc σ 0 (upd (upd (σ 0) 11 c) 12 (σ 0 8))) τ) : Run wR G M_R_requires 0 [some (.ref 0), some (.int (bI g)), some (.int c)] [] σ τ Q := by
  refine wd_go ok_R_requires [] 20 (fun R hR => ?_)
  conv => whnf
  try dsimp only
  cases g with
  | true =>
    rw [if_pos (Or.inl rfl)] at h
    refine nb_t (by decide) ?_
    conv => whnf
    try dsimp only
    exact ⟨rfl, h⟩
  | false =>
    refine nb_f rfl ?_
    conv => whnf
    try dsimp only
    by_cases hz : σ 0 11 = 0
    · rw [if_neg (fun z => z.elim (fun y => by cases y) (fun y => y hz))] at h
      refine nb_f hz ?_
      conv => whnf
      try dsimp only
      refine ⟨rfl, ?_⟩
      rw [uc_s, uc_uc, upd_n (show (8 : Nat) ≠ 11 by decide)]
      exact h
    · rw [if_pos (Or.inr hz)] at h
      refine nb_t hz ?_
      conv => whnf
      try dsimp only
      exact ⟨rfl, h⟩
theorem s_R_is {p q n x y z : Nat} (ht : tpR σ b L) (hp : σ 0 8 = nI p) (hq : σ 0 7 = nI q) (hpq : p ≤ q) (hqL : q ≤ L) (hn : n < 100) (hn3 : 3 ≤ n) (hx : x < 128) (hy : y < 128) (hz : z < 128) (h : Q (some (.int (bI (decide (q = p + n) && (decide (b p = x) && (decide (b (p + 1) = y) && decide (b (p + 2) = z))))))) σ τ) : Run wR G M_R_is 0 [some (.ref 0), some (.int (nI n)), some (.int (nI x)), some (.int (nI y)), some (.int (nI z))] [] σ τ Q := by
  have hL := ht.2.1
  refine wd_go ok_R_is [] 20 (fun R hR => ?_)
  conv => whnf
  try dsimp only
  rw [hp, hq, pk_sub hpq]
  by_cases h0 : q = p + n
  · rw [decide_eq_true h0, Bool.true_and] at h
    have bt : ∀ j, j < 3 → btA b L (p + j) = nI (b (p + j)) := fun j hj => if_pos (by omega)
    refine nb_f ((nI_eq (by omega) (by omega)).mpr (by omega)) ?_
    conv => whnf
    try dsimp only
    rw [hp]
    refine hR (k_R_is_18 (Nat.le_of_ble_eq_true rfl) rfl (s_R_byteAt ht (by omega) ?_))
    have b0 := (ht.2.2 p (by omega)).2
    have b1 := (ht.2.2 (p + 1) (by omega)).2
    have b2 := (ht.2.2 (p + 2) (by omega)).2
    rw [show btA b L p = nI (b p) from bt 0 (by decide)]
    refine wd_go ok_R_is [] 20 (fun R hR => ?_)
    conv => whnf
    try dsimp only
    by_cases e0 : b p = x
    · rw [decide_eq_true e0, Bool.true_and] at h
      refine nb_f ((nI_eq (by omega) (by omega)).mpr e0) ?_
      conv => whnf
      try dsimp only
      rw [hp, il1, nI_add]
      refine hR (k_R_is_32 (Nat.le_of_ble_eq_true rfl) rfl (s_R_byteAt ht (by omega) ?_))
      rw [bt 1 (by decide)]
      refine wd_go ok_R_is [] 20 (fun R hR => ?_)
      conv => whnf
      try dsimp only
      by_cases e1 : b (p + 1) = y
      · rw [decide_eq_true e1, Bool.true_and] at h
        refine nb_f ((nI_eq (by omega) (by omega)).mpr e1) ?_
        conv => whnf
        try dsimp only
        rw [hp, il2, nI_add]
        refine hR (k_R_is_46 (Nat.le_of_ble_eq_true rfl) rfl (s_R_byteAt ht (by omega) ?_))
        rw [bt 2 (by decide)]
        refine wd_go ok_R_is [] 20 (fun R hR => ?_)
        conv => whnf
        try dsimp only
        by_cases e2 : b (p + 2) = z
        · rw [decide_eq_true e2] at h
          refine nb_f ((nI_eq (by omega) (by omega)).mpr e2) ?_
          conv => whnf
          try dsimp only
          exact ⟨Or.inr rfl, h⟩
        · rw [decide_eq_false e2] at h
          refine nb_t (fun w => e2 ((nI_eq (by omega) (by omega)).mp w)) ?_
          conv => whnf
          try dsimp only
          exact ⟨Or.inl rfl, h⟩
      · rw [decide_eq_false e1, Bool.false_and] at h
        refine nb_t (fun w => e1 ((nI_eq (by omega) (by omega)).mp w)) ?_
        conv => whnf
        try dsimp only
        exact ⟨Or.inl rfl, h⟩
    · rw [decide_eq_false e0, Bool.false_and] at h
      refine nb_t (fun w => e0 ((nI_eq (by omega) (by omega)).mp w)) ?_
      conv => whnf
      try dsimp only
      exact ⟨Or.inl rfl, h⟩
  · rw [decide_eq_false h0, Bool.false_and] at h
    refine nb_t (fun w => h0 ?_) ?_
    · have := (nI_eq (by omega) (by omega)).mp w
      omega
    conv => whnf
    try dsimp only
    exact ⟨Or.inl rfl, h⟩
end R
