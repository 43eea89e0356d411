/-! THE REFERENCE: dogs that are not fed, a reset, the dogs of a tick -/
theorem zerA_n {n : wRow} {j : Nat} : ∀ {k : Nat}, (∀ d, d < k → j ≠ 4 * d + 2 ∧ j ≠ 4 * d + 3) → zerA n k j = n j
  | 0, _ => rfl
  | k + 1, h => by
    rw [zerA, upd_n (h k (by omega)).2, upd_n (h k (by omega)).1]
    exact zerA_n (fun d hd => h d (by omega))
theorem zerA_hi {n : wRow} {j k : Nat} (hk : k ≤ 4) (hj : 16 ≤ j) : zerA n k j = n j := zerA_n (fun d hd => by omega)
theorem rwD_n {n : wRow} {d j : Nat} {fed : Bool} (h2 : j ≠ 4 * d + 2) (h3 : j ≠ 4 * d + 3) : rwD n d fed j = n j := by
  rw [rwD, upd_n h3, upd_n h2]
theorem dogsA_o {u : wU} {s : Int32} {k : Nat} (h6 : k ≠ 16) (h7 : k ≠ 17) : ∀ n, (dogsA u s n).2.2 k = u.2.2 k
  | 0 => rfl
  | n + 1 => by
    rw [dogsA]
    split
    · exact dogsA_o h6 h7 n
    · rw [dogA]
      dsimp only
      rw [upd_n h7, upd_n h6]
      exact dogsA_o h6 h7 n
theorem dogsA_n {u : wU} {s : Int32} {j : Nat} : ∀ {k : Nat}, (∀ d, d < k → j ≠ 4 * d + 2 ∧ j ≠ 4 * d + 3) → (dogsA u s k).1 j = u.1 j
  | 0, _ => rfl
  | k + 1, h => by
    rw [dogsA]
    split
    · exact dogsA_n (fun d hd => h d (by omega))
    · rw [dogA]
      dsimp only
      rw [rwD_n (h k (by omega)).1 (h k (by omega)).2]
      exact dogsA_n (fun d hd => h d (by omega))
theorem dogsA_b {u : wU} {s : Int32} {j : Nat} : ∀ {k : Nat}, k ≤ j → (dogsA u s k).2.1 j = u.2.1 j
  | 0, _ => rfl
  | k + 1, h => by
    rw [dogsA]
    split
    · exact dogsA_b (by omega)
    · rw [dogA]
      dsimp only
      rw [upd_n (by omega)]
      exact dogsA_b (by omega)
theorem rw_same {n m : wRow} {d : Nat} {fed : Bool} (h : ∀ k, k < 4 → n (4 * d + k) = m (4 * d + k)) : rwX n d fed = rwX m d fed ∧ rwC n d fed = rwC m d fed ∧ rwB n d fed = rwB m d fed ∧ rwK n d fed = rwK m d fed := by
  have h0 := h 0 (by omega)
  have h1 := h 1 (by omega)
  have h2 := h 2 (by omega)
  have h3 := h 3 (by omega)
  rw [Nat.add_zero] at h0
  unfold rwX rwC rwB rwK
  rw [h0, h1, h2, h3]
  exact ⟨rfl, rfl, rfl, rfl⟩
theorem dogsA_at {u : wU} {s : Int32} {d : Nat} : ∀ k, k < 4 → (dogsA u s d).1 (4 * d + k) = u.1 (4 * d + k) := fun k hk => dogsA_n (fun e he => by omega)
theorem mskA_lt {u : wU} {s : Int32} : ∀ n, mskA u s n < 2 ^ n
  | 0 => by
    show 0 < 1
    decide
  | n + 1 => by
    have := mskA_lt (u := u) (s := s) n
    rw [mskA]
    split
    · rw [Nat.pow_succ]; omega
    · cases rwX u.1 n (fdA s n) <;> simp only [cond_true, cond_false] <;> rw [Nat.pow_succ] <;> omega
theorem msk_or : ∀ i, i < 4 → ∀ m, m < 16 → m < 2 ^ i → nI m ||| ((1 : Int32) <<< (nI i &&& 31)) = nI (m + 2 ^ i) := by decide +kernel
theorem msk_or0 : ∀ i, i < 4 → ∀ m, m < 16 → nI m ||| ((0 : Int32) <<< (nI i &&& 31)) = nI m := by decide +kernel
theorem fst_lo : ∀ m, m < 16 → ∀ j, j < 4 → j < fstA m → (nI m >>> (nI j &&& 31)) &&& 1 = 0 := by decide +kernel
theorem fst_at : ∀ m, m < 16 → 0 < m → ¬ (nI m >>> (nI (fstA m) &&& 31)) &&& 1 = 0 := by decide +kernel
theorem fst_lt (m : Nat) : fstA m < 4 := by unfold fstA; split <;> (try split) <;> (try split) <;> omega
section R
variable {G : wd_G} {σ : wd_S} {τ : wd_T} {Q : wd_P}
theorem s_R_bitesLate {d : Nat} (hd : d < 4) (h1 : σ 2 (4 * d) < 2 → Q (some (.int 1)) σ τ) (h2 : ¬ σ 2 (4 * d) < 2 → Q (some (.int (bI (decide (σ 2 (4 * d + 3) + 1 = 2))))) (wd_uc (wd_uc σ 0 (upd (σ 0) 16 (σ 0 16 + 1))) 2 (upd (upd (σ 2) (4 * d + 3) (σ 2 (4 * d + 3) + 1)) (4 * d + 2) 0)) τ) : Run wR G M_R_bitesLate 0 [some (.ref 0), some (.int (nI d))] [] σ τ Q := by
  refine wd_go ok_R_bitesLate [] 30 (fun R hR => ?_)
  conv => whnf
  try dsimp only
  refine hR (k_R_bitesLate_3 (Nat.le_of_ble_eq_true rfl) rfl (s_R_of0 hd ?_))
  refine wd_go ok_R_bitesLate [] 30 (fun R hR => ?_)
  conv => whnf
  try dsimp only
  refine ⟨fun hk => ?_, fun hk => ?_⟩
  · conv => whnf
    try dsimp only
    have h2 := h2 (Int32.not_lt.mpr hk)
    refine hR (k_R_bitesLate_28 (Nat.le_of_ble_eq_true rfl) rfl (s_R_of3 hd ?_))
    refine wd_go ok_R_bitesLate [] 30 (fun R hR => ?_)
    conv => whnf
    try dsimp only
    refine hR (k_R_bitesLate_33 (Nat.le_of_ble_eq_true rfl) rfl (s_R_bec3 hd ?_))
    refine wd_go ok_R_bitesLate [] 30 (fun R hR => ?_)
    conv => whnf
    try dsimp only
    refine hR (k_R_bitesLate_40 (Nat.le_of_ble_eq_true rfl) rfl (s_R_bec2 hd ?_))
    refine wd_go ok_R_bitesLate [] 30 (fun R hR => ?_)
    conv => whnf
    try dsimp only
    refine hR (k_R_bitesLate_46 (Nat.le_of_ble_eq_true rfl) rfl (s_R_of3 hd ?_))
    refine wd_go ok_R_bitesLate [] 30 (fun R hR => ?_)
    conv => whnf
    try dsimp only
    simp only [uc_uc, uc_s]
    rw [upd_n (show 4 * d + 3 ≠ 4 * d + 2 by omega), upd_s]
    rw [uc_n (show (2 : Nat) ≠ 0 by decide)]
    by_cases hb : σ 2 (4 * d + 3) + 1 = 2
    · refine nb_f hb ?_
      conv => whnf
      try dsimp only
      rw [decide_eq_true hb] at h2
      exact ⟨Or.inr rfl, h2⟩
    · refine nb_t hb ?_
      conv => whnf
      try dsimp only
      rw [decide_eq_false hb] at h2
      exact ⟨Or.inl rfl, h2⟩
  · conv => whnf
    try dsimp only
    exact ⟨Or.inr rfl, h1 (Int32.not_le.mp hk)⟩
theorem s_R_bitesUnfed {d : Nat} (hd : d < 4) (h : Q (some (.int (bI (rwX (σ 2) d false)))) (wd_uc (wd_uc σ 0 (upd (σ 0) 16 (σ 0 16 + rwK (σ 2) d false))) 2 (rwD (σ 2) d false)) τ) : Run wR G M_R_bitesUnfed 0 [some (.ref 0), some (.int (nI d))] [] σ τ Q := by
  have e0 : upd (σ 2) (4 * d + 2) (σ 2 (4 * d + 2) + 1) (4 * d) = σ 2 (4 * d) := upd_n (by omega)
  have e1 : upd (σ 2) (4 * d + 2) (σ 2 (4 * d + 2) + 1) (4 * d + 1) = σ 2 (4 * d + 1) := upd_n (by omega)
  have e3 : upd (σ 2) (4 * d + 2) (σ 2 (4 * d + 2) + 1) (4 * d + 3) = σ 2 (4 * d + 3) := upd_n (by omega)
  refine wd_go ok_R_bitesUnfed [] 30 (fun R hR => ?_)
  conv => whnf
  try dsimp only
  refine hR (k_R_bitesUnfed_6 (Nat.le_of_ble_eq_true rfl) rfl (s_R_of2 hd ?_))
  refine wd_go ok_R_bitesUnfed [] 30 (fun R hR => ?_)
  conv => whnf
  try dsimp only
  refine hR (k_R_bitesUnfed_11 (Nat.le_of_ble_eq_true rfl) rfl (s_R_bec2 hd ?_))
  refine wd_go ok_R_bitesUnfed [] 30 (fun R hR => ?_)
  conv => whnf
  try dsimp only
  refine hR (k_R_bitesUnfed_17 (Nat.le_of_ble_eq_true rfl) rfl (s_R_of2 hd ?_))
  refine wd_go ok_R_bitesUnfed [] 30 (fun R hR => ?_)
  conv => whnf
  try dsimp only
  refine hR (k_R_bitesUnfed_23 (Nat.le_of_ble_eq_true rfl) rfl (s_R_of1 hd ?_))
  refine wd_go ok_R_bitesUnfed [] 30 (fun R hR => ?_)
  conv => whnf
  try dsimp only
  simp only [uc_s, upd_s]
  rw [e1]
  refine ⟨fun hl => ?_, fun hl => ?_⟩
  · conv => whnf
    try dsimp only
    refine ⟨Or.inl rfl, ?_⟩
    have x1 : rwX (σ 2) d false = false := by simp [rwX, dgX, hl]
    have x2 : rwK (σ 2) d false = 0 := by simp [rwK, dgK, hl]
    have x3 : rwD (σ 2) d false = upd (σ 2) (4 * d + 2) (σ 2 (4 * d + 2) + 1) := by
      have : rwB (σ 2) d false = upd (σ 2) (4 * d + 2) (σ 2 (4 * d + 2) + 1) (4 * d + 3) := by
        rw [e3]
        simp [rwB, dgB, hl]
      have x4 : rwC (σ 2) d false = σ 2 (4 * d + 2) + 1 := by simp [rwC, dgC, hl]
      rw [rwD, this, x4, upd_self]
    have x5 : σ 0 16 + 0 = σ 0 16 := by simp
    rw [x1, x2, x3, x5, upd_self, uc_self] at h
    exact h
  · conv => whnf
    try dsimp only
    refine hR (k_R_bitesUnfed_31 (Nat.le_of_ble_eq_true rfl) rfl (s_R_bitesLate hd (fun hk => ?_) (fun hk => ?_)))
    · rw [uc_s, e0] at hk
      refine wd_go ok_R_bitesUnfed [] 30 (fun R hR => ?_)
      conv => whnf
      try dsimp only
      refine br_f (by decide) ?_
      conv => whnf
      try dsimp only
      refine ⟨Or.inr rfl, ?_⟩
      have x1 : rwX (σ 2) d false = true := by simp [rwX, dgX, hl, hk]
      have x2 : rwK (σ 2) d false = 0 := by simp [rwK, dgK, hl, hk]
      have x3 : rwD (σ 2) d false = upd (σ 2) (4 * d + 2) (σ 2 (4 * d + 2) + 1) := by
        have : rwB (σ 2) d false = upd (σ 2) (4 * d + 2) (σ 2 (4 * d + 2) + 1) (4 * d + 3) := by
          rw [e3]
          simp [rwB, dgB, hl, hk]
        have x4 : rwC (σ 2) d false = σ 2 (4 * d + 2) + 1 := by simp [rwC, dgC, hl, hk]
        rw [rwD, this, x4, upd_self]
      have x5 : σ 0 16 + 0 = σ 0 16 := by simp
      rw [x1, x2, x3, x5, upd_self, uc_self] at h
      exact h
    · rw [uc_s, e0] at hk
      have x1 : rwX (σ 2) d false = decide (σ 2 (4 * d + 3) + 1 = 2) := by simp [rwX, dgX, hl, hk]
      have x2 : rwK (σ 2) d false = 1 := by simp [rwK, dgK, hl, hk]
      have x3 : rwD (σ 2) d false = upd (upd (σ 2) (4 * d + 2) 0) (4 * d + 3) (σ 2 (4 * d + 3) + 1) := by
        simp [rwD, rwC, rwB, dgC, dgB, hl, hk]
      rw [x1, x2, x3] at h
      have x6 : wd_uc (wd_uc (wd_uc σ 2 (upd (σ 2) (4 * d + 2) (σ 2 (4 * d + 2) + 1))) 0 (upd ((wd_uc σ 2 (upd (σ 2) (4 * d + 2) (σ 2 (4 * d + 2) + 1))) 0) 16 ((wd_uc σ 2 (upd (σ 2) (4 * d + 2) (σ 2 (4 * d + 2) + 1))) 0 16 + 1))) 2 (upd (upd ((wd_uc σ 2 (upd (σ 2) (4 * d + 2) (σ 2 (4 * d + 2) + 1))) 2) (4 * d + 3) ((wd_uc σ 2 (upd (σ 2) (4 * d + 2) (σ 2 (4 * d + 2) + 1))) 2 (4 * d + 3) + 1)) (4 * d + 2) 0) = wd_uc (wd_uc σ 0 (upd (σ 0) 16 (σ 0 16 + 1))) 2 (upd (upd (σ 2) (4 * d + 2) 0) (4 * d + 3) (σ 2 (4 * d + 3) + 1)) := by
        rw [uc_n (show (0 : Nat) ≠ 2 by decide), uc_s, e3, uc_comm (c := 2) (d := 0) _ (by decide), uc_uc, upd_comm (k := 4 * d + 3) (j := 4 * d + 2) _ (by omega), upd_upd]
      have x7 : (wd_uc σ 2 (upd (σ 2) (4 * d + 2) (σ 2 (4 * d + 2) + 1))) 2 (4 * d + 3) = σ 2 (4 * d + 3) := by rw [uc_s, e3]
      rw [x6, x7]
      generalize wd_uc (wd_uc σ 0 (upd (σ 0) 16 (σ 0 16 + 1))) 2 (upd (upd (σ 2) (4 * d + 2) 0) (4 * d + 3) (σ 2 (4 * d + 3) + 1)) = σ9 at h ⊢
      cases hb : decide (σ 2 (4 * d + 3) + 1 = 2) with
      | true =>
        rw [hb] at h
        refine wd_go ok_R_bitesUnfed [] 30 (fun R hR => ?_)
        conv => whnf
        try dsimp only
        refine br_f (by decide) ?_
        conv => whnf
        try dsimp only
        exact ⟨Or.inr rfl, h⟩
      | false =>
        rw [hb] at h
        refine wd_go ok_R_bitesUnfed [] 30 (fun R hR => ?_)
        conv => whnf
        try dsimp only
        refine br_t rfl ?_
        conv => whnf
        try dsimp only
        exact ⟨Or.inl rfl, h⟩
theorem l_R_resets {D : Nat} {x y : Int32} (hD : σ 2 16 = nI D) (hD4 : D ≤ 4) (h : Q none (wd_uc σ 2 (zerA (σ 2) D)) τ) : ∀ (m i : Nat), D = i + m → Run wR G M_R_resets 71 [some (.ref 0), some (.int x), some (.int y), some (.int (nI i))] [] (wd_uc σ 2 (zerA (σ 2) i)) τ Q := by
  intro m
  induction m with
  | zero =>
    intro i hi
    have e : i = D := by omega
    subst e
    refine wd_go ok_R_resets [71] 20 (fun R hR => ?_)
    conv => whnf
    try dsimp only
    refine ⟨vp_in_nI (by first | decide | omega) (by first | decide | omega), ?_⟩
    conv => whnf
    try dsimp only
    rw [cl16, uc_s, zerA_hi hD4 (by omega), hD]
    refine br_t (nI_le (Nat.le_refl i) (by omega)) ?_
    conv => whnf
    try dsimp only
    exact ⟨rfl, h⟩
  | succ m ih =>
    intro i hi
    refine wd_go ok_R_resets [71] 20 (fun R hR => ?_)
    conv => whnf
    try dsimp only
    refine ⟨vp_in_nI (by first | decide | omega) (by first | decide | omega), ?_⟩
    conv => whnf
    try dsimp only
    rw [cl16, uc_s, zerA_hi (by omega) (by omega), hD]
    refine br_f (nI_ge (by omega) (by omega)) ?_
    conv => whnf
    try dsimp only
    refine hR (k_R_resets_86 (Nat.le_of_ble_eq_true rfl) rfl (s_R_bec2 (by omega) ?_))
    refine wd_go ok_R_resets [71] 20 (fun R hR => ?_)
    conv => whnf
    try dsimp only
    refine hR (k_R_resets_93 (Nat.le_of_ble_eq_true rfl) rfl (s_R_bec3 (by omega) ?_))
    refine wd_go ok_R_resets [71] 20 (fun R hR => ?_)
    conv => whnf
    try dsimp only
    refine hR ?_
    simp only [uc_uc, uc_s]
    have := ih (i + 1) (by omega)
    rw [nI_succ] at this
    exact this
theorem s_R_resets {x y : Int32} (hw : σ 2 16 = nI (dN (σ 2)) ∧ dN (σ 2) ≤ 4) (h : Q none (wd_uc (wd_uc σ 0 (upd (σ 0) 14 (σ 0 14 + 1))) 2 (rstN (σ 2) x y)) τ) : Run wR G M_R_resets 0 [some (.ref 0), some (.int x), some (.int y), none] [] σ τ Q := by
  have go : ∀ v, v = (if σ 2 45 < 999 then σ 2 45 + 1 else 999) → Run wR G M_R_resets 44 [some (.ref 0), some (.int x), some (.int y), none] [.int v, .int 45, .ref 2] (wd_uc σ 0 (upd (σ 0) 14 (σ 0 14 + 1))) τ Q := by
    intro v hv
    refine wd_go ok_R_resets [71] 30 (fun R hR => ?_)
    conv => whnf
    try dsimp only
    refine ⟨vp_in_nI (by first | decide | omega) (by first | decide | omega), ?_⟩
    conv => whnf
    try dsimp only
    refine ⟨vp_in_nI (by first | decide | omega) (by first | decide | omega), ?_⟩
    conv => whnf
    try dsimp only
    refine ⟨vp_in_nI (by first | decide | omega) (by first | decide | omega), ?_⟩
    conv => whnf
    try dsimp only
    refine ⟨vp_in_nI (by first | decide | omega) (by first | decide | omega), ?_⟩
    conv => whnf
    try dsimp only
    refine hR ?_
    simp only [uc_uc, uc_s, cl45, cl47, cl34, cl46]
    rw [uc_n (show (2 : Nat) ≠ 0 by decide)]
    have hD : (upd (upd (upd (upd (σ 2) 45 v) 47 x) 34 0) 46 y) 16 = nI (dN (σ 2)) := by
      rw [upd_n (by decide), upd_n (by decide), upd_n (by decide), upd_n (by decide)]
      exact hw.1
    have := l_R_resets (G := G) (τ := τ) (Q := Q) (x := x) (y := y) (σ := wd_uc (wd_uc σ 0 (upd (σ 0) 14 (σ 0 14 + 1))) 2 (upd (upd (upd (upd (σ 2) 45 v) 47 x) 34 0) 46 y)) (D := dN (σ 2)) (by rw [uc_s]; exact hD) hw.2 (by
      rw [uc_uc, uc_s, hv]
      exact h) (dN (σ 2)) 0 (by omega)
    rw [uc_s, uc_uc] at this
    exact this
  refine wd_go ok_R_resets [44] 40 (fun R hR => ?_)
  conv => whnf
  try dsimp only
  refine ⟨vp_in_nI (by first | decide | omega) (by first | decide | omega), ?_⟩
  conv => whnf
  try dsimp only
  refine ⟨fun hr => ?_, fun hr => ?_⟩
  · conv => whnf
    try dsimp only
    have hr : 999 ≤ σ 2 45 := hr
    refine hR (go _ ?_)
    rw [if_neg (Int32.not_lt.mpr hr)]
  · conv => whnf
    try dsimp only
    refine ⟨vp_in_nI (by first | decide | omega) (by first | decide | omega), ?_⟩
    conv => whnf
    try dsimp only
    have hr : ¬ 999 ≤ σ 2 45 := hr
    refine hR (go _ ?_)
    rw [if_pos (Int32.not_le.mp hr)]
    rfl
end R
