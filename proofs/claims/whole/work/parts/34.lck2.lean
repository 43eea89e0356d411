/-! LUCK, MEAN: the class's weights -/
def bcS (x k : Int32) : Int32 := (x.toUInt32 >>> (k.toUInt32 &&& Int32.toUInt32 31)).toInt32
def bcA1 (x : Int32) : Int32 := x - (bcS x 1 &&& 1431655765)
def bcA2 (x : Int32) : Int32 := (x &&& 858993459) + (bcS x 2 &&& 858993459)
def bcA3 (x : Int32) : Int32 := (x + bcS x 4) &&& 252645135
def bcA4 (x : Int32) : Int32 := x + bcS x 8
def bcA5 (x : Int32) : Int32 := x + bcS x 16
def bcA (x : Int32) : Int32 := bcA5 (bcA4 (bcA3 (bcA2 (bcA1 x)))) &&& 63
theorem bc_is {s : Nat} (hs : s < 256) : bcA (nI s) = nI (pcA s 8) := co_dec (N := 256) (P := fun s => bcA (nI s) = nI (pcA s 8)) (by decide +kernel) hs
section C
variable {G : wd_G} {τ : wd_T} {Q : wd_P} {σ : wd_S}
theorem s_bitCount {s : Nat} (hs : s < 256) (h : Q (some (.int (nI (pcA s 8)))) σ τ) : Run wC G M_J6_bitCount 0 [some (.int (nI s))] [] σ τ Q := by
  refine wd_go ok_J6_bitCount [] 60 (fun R hR => ?_)
  conv => whnf
  try dsimp only
  rw [← bc_is hs] at h
  exact h
theorem s_D_weightOf {s v n : Nat} (hv : v ≤ 10) (hn : n ≤ 8) (hs : s < 2 ^ n) (h : Q (some (.long (lN (wyA v s n)))) σ τ) : Run wC G M_D_weightOf 0 [some (.int (nI s)), some (.int (nI v)), some (.int (nI n)), none] [] σ τ Q := by
  have h8 : s < 256 := Nat.lt_of_lt_of_le hs (Nat.pow_le_pow_right (n := 2) (by decide) hn)
  have hp := pc_hi hs (8 - n)
  rw [show n + (8 - n) = 8 by omega] at hp
  have hl := pc_le s n
  rw [wy_pow, ← lN_mul] at h
  refine wd_go ok_D_weightOf [] 20 (fun R hR => ?_)
  conv => whnf
  try dsimp only
  refine hR (k_D_weightOf_1 (Nat.le_of_ble_eq_true rfl) (s_bitCount h8 ?_))
  rw [hp]
  refine wd_go ok_D_weightOf [] 20 (fun R hR => ?_)
  conv => whnf
  try dsimp only
  refine hR (k_D_weightOf_7 (Nat.le_of_ble_eq_true rfl) (s_D_power (by omega) (by omega) ?_))
  refine wd_go ok_D_weightOf [] 20 (fun R hR => ?_)
  conv => whnf
  try dsimp only
  rw [il10, pk_sub hv, pk_sub hl]
  refine hR (k_D_weightOf_17 (Nat.le_of_ble_eq_true rfl) (s_D_power (by omega) (by omega) ?_))
  refine wd_go ok_D_weightOf [] 20 (fun R hR => ?_)
  conv => whnf
  try dsimp only
  exact ⟨rfl, h⟩
end C
