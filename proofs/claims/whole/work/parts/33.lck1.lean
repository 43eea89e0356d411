/-! LUCK, MEAN: numbers of both -/
theorem gcd_st {x y : Nat} : Nat.gcd y (x % y) = Nat.gcd x y := by
  rw [Nat.gcd_comm x y, Nat.gcd_rec y x, Nat.gcd_comm]
theorem l0 : (0 : Int64) = lN 0 := rfl
theorem l1 : (1 : Int64) = lN 1 := rfl
theorem lN_n0 {y : Nat} (h : 0 < y) (hy : y < 2 ^ 63) : ¬ lN y = 0 := fun e => by
  rw [l0, pk_lEQ hy (by decide)] at e
  omega
/-- two turns of Euclid halve the smaller one -/
theorem eu_half {y r : Nat} (hr : r < y) (h0 : 0 < r) : 2 * (y % r) < y := by
  have h1 := Nat.mod_lt y h0
  have h2 := Nat.mod_add_div y r
  have h3 : 1 ≤ y / r := (Nat.one_le_div_iff h0).mpr (Nat.le_of_lt hr)
  have h4 : r * 1 ≤ r * (y / r) := Nat.mul_le_mul_left r h3
  omega
def frA (q a : Nat) (w : Int32) : Nat := (if w = 0 then q else a) / Nat.gcd q a
section R
variable {G : wd_G} {τ : wd_T} {Q : wd_P} {σ : wd_S}
theorem l_R_common {a b : Int64} : ∀ (y x : Nat) (l8 l9 : Option Value), x < 2 ^ 63 → y < 2 ^ 63 → Q (some (.long (lN (Nat.gcd x y)))) σ τ → Run wR G M_R_common 6 [some (.long a), none, some (.long b), none, some (.long (lN x)), none, some (.long (lN y)), none, l8, l9] [] σ τ Q := by
  intro y
  induction y using Nat.strongRecOn with
  | ind y ih =>
    intro x l8 l9 hx hy h
    refine wd_go ok_R_common [6] 20 (fun R hR => ?_)
    conv => whnf
    try dsimp only
    rcases Nat.eq_zero_or_pos y with e | e
    · subst e
      refine br_t ?_ ?_
      · exact (lg_cmp_eq _ _).mpr rfl
      conv => whnf
      try dsimp only
      rw [Nat.gcd_zero_right] at h
      exact ⟨rfl, h⟩
    · refine br_f (fun z => lN_n0 e hy ((lg_cmp_eq _ _).mp z)) ?_
      conv => whnf
      try dsimp only
      refine ⟨lN_n0 e hy, ?_⟩
      conv => whnf
      try dsimp only
      rw [pk_lRem hx e hy]
      refine hR ?_
      have := Nat.mod_lt x e
      exact ih (x % y) this y _ _ hy (by omega) (by rw [gcd_st]; exact h)
theorem s_R_common {x y : Nat} (hx : x < 2 ^ 63) (hy : y < 2 ^ 63) (h : Q (some (.long (lN (Nat.gcd x y)))) σ τ) : Run wR G M_R_common 0 [some (.long (lN x)), none, some (.long (lN y)), none, none, none, none, none, none, none] [] σ τ Q := by
  refine wd_go ok_R_common [6] 20 (fun R hR => ?_)
  conv => whnf
  try dsimp only
  exact hR (l_R_common y x none none hx hy h)
theorem s_R_lowest {q a : Nat} {w : Int32} (hq : q < 2 ^ 63) (ha : a < 2 ^ 63) (h0 : 0 < a) (h : Q (some (.long (lN (frA q a w)))) σ τ) : Run wR G M_R_lowest 0 [some (.long (lN q)), none, some (.long (lN a)), none, some (.int w), none, none] [] σ τ Q := by
  have hg : 0 < Nat.gcd q a := Nat.gcd_pos_of_pos_right q h0
  have hg2 : Nat.gcd q a ≤ a := Nat.gcd_le_right q h0
  rw [frA] at h
  refine wd_go ok_R_lowest [] 20 (fun R hR => ?_)
  conv => whnf
  try dsimp only
  refine hR (k_R_lowest_2 (Nat.le_of_ble_eq_true rfl) (s_R_common ha hq ?_))
  rw [Nat.gcd_comm a q]
  refine wd_go ok_R_lowest [] 20 (fun R hR => ?_)
  conv => whnf
  try dsimp only
  by_cases hz : w = 0
  · rw [if_pos hz] at h
    refine nb_f hz ?_
    conv => whnf
    try dsimp only
    refine ⟨lN_n0 hg (by omega), ?_⟩
    conv => whnf
    try dsimp only
    rw [pk_lDiv hq hg (by omega)]
    exact ⟨rfl, h⟩
  · rw [if_neg hz] at h
    refine nb_t hz ?_
    conv => whnf
    try dsimp only
    refine ⟨lN_n0 hg (by omega), ?_⟩
    conv => whnf
    try dsimp only
    rw [pk_lDiv ha hg (by omega)]
    exact ⟨rfl, h⟩
end R
section C
variable {G : wd_G} {τ : wd_T} {Q : wd_P} {σ : wd_S}
theorem l_D_common {a b : Int64} {g : Nat} (h : Q (some (.long (lN g))) σ τ) : ∀ (t x y i : Nat) (l9 l10 : Option Value), x < 2 ^ 63 → y < 2 ^ 63 → y < 2 ^ t → i + 2 * t ≤ 126 → Nat.gcd x y = g → Run wC G M_D_commonDivisor 9 [some (.long a), none, some (.long b), none, some (.long (lN x)), none, some (.long (lN y)), none, some (.int (nI i)), l9, l10] [] σ τ Q := by
  have one : ∀ (x y i : Nat) (l9 l10 : Option Value), x < 2 ^ 63 → y < 2 ^ 63 → i < 128 → Nat.gcd x y = g → (0 < y → ∀ l9 l10, Run wC G M_D_commonDivisor 9 [some (.long a), none, some (.long b), none, some (.long (lN y)), none, some (.long (lN (x % y))), none, some (.int (nI (i + 1))), l9, l10] [] σ τ Q) → Run wC G M_D_commonDivisor 9 [some (.long a), none, some (.long b), none, some (.long (lN x)), none, some (.long (lN y)), none, some (.int (nI i)), l9, l10] [] σ τ Q := by
    intro x y i l9 l10 hx hy hi hg hk
    refine wd_go ok_D_commonDivisor [9] 20 (fun R hR => ?_)
    conv => whnf
    try dsimp only
    refine br_f (nI_ge (b := 128) (by omega) (by decide)) ?_
    conv => whnf
    try dsimp only
    rcases Nat.eq_zero_or_pos y with e | e
    · subst e
      refine br_t ?_ ?_
      · exact (lg_cmp_eq _ _).mpr rfl
      conv => whnf
      try dsimp only
      rw [Nat.gcd_zero_right] at hg
      rw [hg]
      exact ⟨rfl, h⟩
    · refine br_f (fun z => lN_n0 e hy ((lg_cmp_eq _ _).mp z)) ?_
      conv => whnf
      try dsimp only
      refine ⟨lN_n0 e hy, ?_⟩
      conv => whnf
      try dsimp only
      rw [pk_lRem hx e hy]
      refine hR ?_
      have := hk e (some (.long (lN (x % y)))) none
      rw [nI_succ] at this
      exact this
  intro t
  induction t with
  | zero =>
    intro x y i l9 l10 hx hy h0 hi hg
    refine one x y i l9 l10 hx hy (by omega) hg (fun e => ?_)
    rw [Nat.pow_zero] at h0
    omega
  | succ t ih =>
    intro x y i l9 l10 hx hy h0 hi hg
    refine one x y i l9 l10 hx hy (by omega) hg (fun e l9 l10 => ?_)
    have h1 := Nat.mod_lt x e
    refine one y (x % y) (i + 1) l9 l10 hy (by omega) (by omega) (by rw [gcd_st]; exact hg) (fun e2 l9 l10 => ?_)
    have h2 := eu_half h1 e2
    refine ih (x % y) (y % (x % y)) (i + 1 + 1) l9 l10 (by omega) (by omega) ?_ (by omega) (by rw [gcd_st, gcd_st]; exact hg)
    rw [Nat.pow_succ] at h0
    omega
theorem s_D_part {q a : Nat} {w : Int32} (hq : q < 2 ^ 63) (ha : a < 2 ^ 60) (h0 : 0 < a) (h : Q (some (.long (lN (frA q a w)))) σ τ) : Run wC G M_D_partOfFraction 0 [some (.long (lN q)), none, some (.long (lN a)), none, some (.int w), none, none] [] σ τ Q := by
  have hg : 0 < Nat.gcd q a := Nat.gcd_pos_of_pos_right q h0
  have hg2 : Nat.gcd q a ≤ a := Nat.gcd_le_right q h0
  rw [frA] at h
  have com : ∀ {Q' : wd_P}, Q' (some (.long (lN (Nat.gcd q a)))) σ τ → Run wC G M_D_commonDivisor 0 [some (.long (lN q)), none, some (.long (lN a)), none, none, none, none, none, none, none, none] [] σ τ Q' := by
    intro Q' h'
    refine wd_go ok_D_commonDivisor [9] 20 (fun R hR => ?_)
    conv => whnf
    try dsimp only
    exact hR (l_D_common h' 60 q a 0 none none hq (by omega) ha (by omega) rfl)
  refine wd_go ok_D_partOfFraction [] 20 (fun R hR => ?_)
  conv => whnf
  try dsimp only
  refine hR (k_D_partOfFraction_2 (Nat.le_of_ble_eq_true rfl) (com ?_))
  refine wd_go ok_D_partOfFraction [] 20 (fun R hR => ?_)
  conv => whnf
  try dsimp only
  refine nb_t (fun z => lN_n0 hg (by omega) ((lg_cmp_eq _ _).mp z)) ?_
  conv => whnf
  try dsimp only
  by_cases hz : w = 0
  · rw [if_pos hz] at h
    refine nb_f hz ?_
    conv => whnf
    try dsimp only
    refine ⟨lN_n0 hg (by omega), ?_⟩
    conv => whnf
    try dsimp only
    rw [pk_lDiv hq hg (by omega)]
    exact ⟨rfl, h⟩
  · rw [if_neg hz] at h
    refine nb_t hz ?_
    conv => whnf
    try dsimp only
    refine ⟨lN_n0 hg (by omega), ?_⟩
    conv => whnf
    try dsimp only
    rw [pk_lDiv (by omega) hg (by omega)]
    exact ⟨rfl, h⟩
theorem l_D_power {v e : Nat} (hv : v < 2 ^ 31) (he : e < 2 ^ 31) (h : Q (some (.long (lN (v ^ e)))) σ τ) : ∀ (m i : Nat), e = i + m → Run wC G M_D_power 5 [some (.int (nI v)), some (.int (nI e)), some (.long (lN (v ^ i))), none, some (.int (nI i))] [] σ τ Q := by
  intro m
  induction m with
  | zero =>
    intro i hi
    have e' : i = e := by omega
    subst e'
    refine wd_go ok_D_power [5] 20 (fun R hR => ?_)
    conv => whnf
    try dsimp only
    refine br_t (nI_le (Nat.le_refl _) he) ?_
    conv => whnf
    try dsimp only
    exact ⟨rfl, h⟩
  | succ m ih =>
    intro i hi
    refine wd_go ok_D_power [5] 20 (fun R hR => ?_)
    conv => whnf
    try dsimp only
    refine br_f (nI_ge (by omega) he) ?_
    conv => whnf
    try dsimp only
    refine hR ?_
    have := ih (i + 1) (by omega)
    rw [Nat.pow_succ, ← lN_mul, nI_succ] at this
    rw [nI_l hv]
    exact this
theorem s_D_power {v e : Nat} (hv : v < 2 ^ 31) (he : e < 2 ^ 31) (h : Q (some (.long (lN (v ^ e)))) σ τ) : Run wC G M_D_power 0 [some (.int (nI v)), some (.int (nI e)), none, none, none] [] σ τ Q := by
  refine wd_go ok_D_power [5] 20 (fun R hR => ?_)
  conv => whnf
  try dsimp only
  exact hR (l_D_power hv he h e 0 (by omega))
end C
/-- the bits of s below n, counted -/
def bitA (s k : Nat) : Bool := decide (s / 2 ^ k % 2 = 1)
def pcA (s : Nat) : Nat → Nat
  | 0 => 0
  | k + 1 => pcA s k + (bitA s k).toNat
theorem pc_le (s : Nat) : ∀ n, pcA s n ≤ n
  | 0 => Nat.le_refl 0
  | n + 1 => by
    have := pc_le s n
    rw [pcA]
    cases bitA s n <;> simp only [Bool.toNat_true, Bool.toNat_false] <;> omega
theorem pc_hi {s n : Nat} (h : s < 2 ^ n) : ∀ m, pcA s (n + m) = pcA s n
  | 0 => rfl
  | m + 1 => by
    rw [← Nat.add_assoc, pcA, pc_hi h m]
    have : s / 2 ^ (n + m) = 0 := Nat.div_eq_of_lt (Nat.lt_of_lt_of_le h (Nat.pow_le_pow_right (by decide) (by omega)))
    rw [bitA, this]
    rfl
/-- the ways of a set of losses -/
def wyA (v s : Nat) : Nat → Nat
  | 0 => 1
  | k + 1 => wyA v s k * (cond (bitA s k) v (10 - v))
theorem wy_pow (v s : Nat) : ∀ n, wyA v s n = v ^ pcA s n * (10 - v) ^ (n - pcA s n)
  | 0 => rfl
  | n + 1 => by
    have hp := pc_le s n
    rw [wyA, pcA, wy_pow v s n]
    cases bitA s n with
    | true =>
      simp only [cond_true, Bool.toNat_true]
      rw [show n + 1 - (pcA s n + 1) = n - pcA s n by omega, Nat.pow_succ, Nat.mul_right_comm]
    | false =>
      simp only [cond_false, Bool.toNat_false, Nat.add_zero]
      rw [show n + 1 - pcA s n = n - pcA s n + 1 by omega, Nat.pow_succ, Nat.mul_assoc]
theorem wy_le {v s : Nat} (hv : v ≤ 10) : ∀ n, wyA v s n ≤ 10 ^ n
  | 0 => Nat.le_refl 1
  | n + 1 => by
    rw [wyA, Nat.pow_succ]
    refine Nat.mul_le_mul (wy_le hv n) ?_
    cases bitA s n
    · exact Nat.sub_le 10 v
    · exact hv
