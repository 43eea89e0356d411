/-! THE REFERENCE: small methods -/
theorem w_le (a b : Int32) : a.toInt64 ≤ b.toInt64 ↔ a ≤ b := by
  rw [Int64.le_iff_toInt_le, Int32.le_iff_toInt_le]
  simp
theorem w_lt (a b : Int32) : a.toInt64 < b.toInt64 ↔ a < b := by
  rw [Int64.lt_iff_toInt_lt, Int32.lt_iff_toInt_lt]
  simp
def inB (x a b : Int32) : Bool := decide (a ≤ x ∧ x ≤ b)
section R
variable {G : wd_G} {σ : wd_S} {τ : wd_T} {Q : wd_P}
theorem s_R_in {x a b : Int64} (h : Q (some (.int (bI (decide (a ≤ x ∧ x ≤ b))))) σ τ) : Run wR G M_R_in 0 [some (.long x), none, some (.long a), none, some (.long b), none] [] σ τ Q := by
  refine wd_go ok_R_in [] 30 (fun R hR => ?_)
  conv => whnf
  try dsimp only
  refine ⟨fun h1 => ?_, fun h1 => ?_⟩
  · conv => whnf
    try dsimp only
    refine ⟨Or.inl rfl, ?_⟩
    rw [lg_cmp_lt] at h1
    rw [decide_eq_false (fun z => absurd z.1 (Int64.not_le.mpr h1))] at h
    exact h
  · conv => whnf
    try dsimp only
    rw [lg_cmp_lt] at h1
    refine ⟨fun h2 => ?_, fun h2 => ?_⟩
    · conv => whnf
      try dsimp only
      refine ⟨Or.inl rfl, ?_⟩
      rw [lg_cmp_gt] at h2
      rw [decide_eq_false (fun z => absurd z.2 (Int64.not_le.mpr h2))] at h
      exact h
    · conv => whnf
      try dsimp only
      refine ⟨Or.inr rfl, ?_⟩
      rw [lg_cmp_gt] at h2
      rw [decide_eq_true ⟨Int64.not_lt.mp h1, Int64.not_lt.mp h2⟩] at h
      exact h
theorem s_R_in2 {x a b : Int32} {a' b' : Int64} (ha : a.toInt64 = a') (hb : b.toInt64 = b') (h : Q (some (.int (bI (inB x a b)))) σ τ) : Run wR G M_R_in 0 [some (.long x.toInt64), none, some (.long a'), none, some (.long b'), none] [] σ τ Q := by
  refine s_R_in ?_
  subst ha; subst hb
  rw [show decide (a.toInt64 ≤ x.toInt64 ∧ x.toInt64 ≤ b.toInt64) = inB x a b by unfold inB; simp only [w_le]]
  exact h
theorem s_R_flag {b : Int32} (hb : wd_bit b) (h : Q (some (.int b)) σ τ) : Run wR G M_R_flag 0 [some (.int b)] [] σ τ Q := by
  refine wd_go ok_R_flag [] 30 (fun R hR => ?_)
  conv => whnf
  try dsimp only
  refine ⟨fun h1 => ?_, fun h1 => ?_⟩
  · conv => whnf
    try dsimp only
    rw [h1] at h
    exact h
  · conv => whnf
    try dsimp only
    rcases hb with hb | hb
    · exact absurd hb h1
    · rw [hb] at h
      exact h
theorem s_R_isDog {x : Int32} (h : Q (some (.int (bI (inB x 0 (σ 1 16 - 1))))) σ τ) : Run wR G M_R_isDog 0 [some (.ref 0), some (.int x)] [] σ τ Q := by
  refine wd_go ok_R_isDog [] 30 (fun R hR => ?_)
  conv => whnf
  try dsimp only
  refine ⟨vp_in_nI (by first | decide | omega) (by first | decide | omega), ?_⟩
  conv => whnf
  try dsimp only
  refine hR (k_R_isDog_13 (Nat.le_of_ble_eq_true rfl) (s_R_in2 (a := 0) (b := σ 1 16 - 1) rfl rfl ?_))
  refine wd_go ok_R_isDog [] 30 (fun R hR => ?_)
  conv => whnf
  try dsimp only
  exact ⟨bI_bit _, h⟩
theorem s_R_isSign {x : Int32} (h : Q (some (.int (bI (inB x 0 (σ 1 33 - 1))))) σ τ) : Run wR G M_R_isSign 0 [some (.ref 0), some (.int x)] [] σ τ Q := by
  refine wd_go ok_R_isSign [] 30 (fun R hR => ?_)
  conv => whnf
  try dsimp only
  refine ⟨vp_in_nI (by first | decide | omega) (by first | decide | omega), ?_⟩
  conv => whnf
  try dsimp only
  refine hR (k_R_isSign_13 (Nat.le_of_ble_eq_true rfl) (s_R_in2 (a := 0) (b := σ 1 33 - 1) rfl rfl ?_))
  refine wd_go ok_R_isSign [] 30 (fun R hR => ?_)
  conv => whnf
  try dsimp only
  exact ⟨bI_bit _, h⟩
theorem s_R_isPart {x : Int32} (h : Q (some (.int (bI (inB x 0 1)))) σ τ) : Run wR G M_R_isPart 0 [some (.int x)] [] σ τ Q := by
  refine wd_go ok_R_isPart [] 30 (fun R hR => ?_)
  conv => whnf
  try dsimp only
  refine hR (k_R_isPart_4 (Nat.le_of_ble_eq_true rfl) (s_R_in2 (a := 0) (b := 1) rfl rfl ?_))
  refine wd_go ok_R_isPart [] 30 (fun R hR => ?_)
  conv => whnf
  try dsimp only
  exact ⟨bI_bit _, h⟩
theorem s_R_isFar {x : Int32} (h : Q (some (.int (bI (inB x 0 200)))) σ τ) : Run wR G M_R_isFar 0 [some (.int x)] [] σ τ Q := by
  refine wd_go ok_R_isFar [] 30 (fun R hR => ?_)
  conv => whnf
  try dsimp only
  refine hR (k_R_isFar_6 (Nat.le_of_ble_eq_true rfl) (s_R_in2 (a := 0) (b := 200) rfl rfl ?_))
  refine wd_go ok_R_isFar [] 30 (fun R hR => ?_)
  conv => whnf
  try dsimp only
  exact ⟨bI_bit _, h⟩
theorem ix4 (d k : Nat) : (4 : Int32) * nI d + nI k = nI (4 * d + k) := by rw [il4, pk_mul, nI_add]
theorem s_R_of {d k : Nat} (hd : d < 4) (hk : k < 4) (h : Q (some (.int (σ 2 (4 * d + k)))) σ τ) : Run wR G M_R_of 0 [some (.ref 0), some (.int (nI d)), some (.int (nI k))] [] σ τ Q := by
  refine wd_go ok_R_of [] 30 (fun R hR => ?_)
  conv => whnf
  try dsimp only
  rw [ix4]
  refine ⟨vp_in_nI (by first | decide | omega) (by first | decide | omega), ?_⟩
  conv => whnf
  try dsimp only
  rw [nI_clamp (by omega)]
  exact h
theorem s_R_becomesOf {d k : Nat} {v : Int32} (hd : d < 4) (hk : k < 4) (h : Q none (wd_uc σ 2 (upd (σ 2) (4 * d + k) v)) τ) : Run wR G M_R_becomesOf 0 [some (.ref 0), some (.int (nI d)), some (.int (nI k)), some (.int v)] [] σ τ Q := by
  refine wd_go ok_R_becomesOf [] 30 (fun R hR => ?_)
  conv => whnf
  try dsimp only
  rw [ix4]
  refine ⟨vp_in_nI (by first | decide | omega) (by first | decide | omega), ?_⟩
  conv => whnf
  try dsimp only
  refine ⟨rfl, ?_⟩
  rw [nI_clamp (by omega)]
  exact h
theorem s_R_becomes {k : Nat} {v : Int32} (hk : k < 183) (h : Q (some (.int (σ 1 k))) (wd_uc σ 1 (upd (σ 1) k v)) τ) : Run wR G M_R_becomes 0 [some (.ref 0), some (.int (nI k)), some (.int v), none] [] σ τ Q := by
  refine wd_go ok_R_becomes [] 30 (fun R hR => ?_)
  conv => whnf
  try dsimp only
  refine ⟨vp_in_nI (by first | decide | omega) (by first | decide | omega), ?_⟩
  conv => whnf
  try dsimp only
  refine ⟨vp_in_nI (by first | decide | omega) (by first | decide | omega), ?_⟩
  conv => whnf
  try dsimp only
  rw [nI_clamp (by omega)]
  exact h
end R
