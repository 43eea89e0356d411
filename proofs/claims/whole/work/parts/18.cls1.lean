/-! THE CLASS: a pack at the cells b, b + 1 .. b + 9 is as a row says, where it counts -/
def relC (σ : wd_S) (b : Nat) (n : wRow) : Prop :=
  (σ b 9 = n 16 ∧ σ b 10 = n 33 ∧ σ b 11 = n 43 ∧ σ b 12 = n 48 ∧ σ b 13 = n 34 ∧ σ b 14 = n 44 ∧ σ b 15 = n 45 ∧ σ b 16 = n 46 ∧ σ b 17 = n 47) ∧
  (∀ d, d < dN n → σ (b + 1) d = n (4 * d) ∧ σ (b + 2) d = n (4 * d + 1) ∧ σ (b + 3) d = n (4 * d + 2) ∧ σ (b + 4) d = n (4 * d + 3)) ∧
  (∀ i, i < sN n → σ (b + 5) i = n (17 + i)) ∧
  (∀ i, i < jN n → σ (b + 6) i = n (35 + 2 * i) ∧ σ (b + 7) i = n (36 + 2 * i)) ∧
  (∀ i, i < eN n → σ (b + 8) i = n (49 + 2 * i) ∧ σ (b + 9) i = n (50 + 2 * i))
theorem relC_kept {σ σ' : wd_S} {b : Nat} {n : wRow} (h : relC σ b n) (hc : ∀ j, j < 10 → σ' (b + j) = σ (b + j)) : relC σ' b n := by
  have e0 := hc 0 (by decide)
  rw [Nat.add_zero] at e0
  unfold relC
  rw [e0, hc 1 (by decide), hc 2 (by decide), hc 3 (by decide), hc 4 (by decide), hc 5 (by decide), hc 6 (by decide), hc 7 (by decide), hc 8 (by decide), hc 9 (by decide)]
  exact h
theorem relC_13 {σ : wd_S} {b : Nat} {n : wRow} (hw : dN n ≤ 4 ∧ sN n ≤ 16 ∧ jN n ≤ 4 ∧ eN n ≤ 6) (h : relC σ b n) (v : Int32) : relC (wd_uc σ b (upd (σ b) 13 v)) b (upd n 34 v) := by
  obtain ⟨⟨h1, h2, h3, h4, h5, h6, h7, h8, h9⟩, hd, hs, hj, he⟩ := h
  have d1 : dN (upd n 34 v) = dN n := rfl
  have d2 : sN (upd n 34 v) = sN n := rfl
  have d3 : jN (upd n 34 v) = jN n := rfl
  have d4 : eN (upd n 34 v) = eN n := rfl
  refine ⟨?_, fun d hdd => ?_, fun i hi => ?_, fun i hi => ?_, fun i hi => ?_⟩
  · rw [uc_s]
    simp [upd, h1, h2, h3, h4, h5, h6, h7, h8, h9]
  · rw [d1] at hdd
    rw [uc_n (by omega), uc_n (by omega), uc_n (by omega), uc_n (by omega), upd_n (by omega), upd_n (by omega), upd_n (by omega), upd_n (by omega)]
    exact hd d hdd
  · rw [d2] at hi
    rw [uc_n (by omega), upd_n (by omega)]
    exact hs i hi
  · rw [d3] at hi
    rw [uc_n (by omega), uc_n (by omega), upd_n (by omega), upd_n (by omega)]
    exact hj i hi
  · rw [d4] at hi
    rw [uc_n (by omega), uc_n (by omega), upd_n (by omega), upd_n (by omega)]
    exact he i hi
theorem relC_14 {σ : wd_S} {b : Nat} {n : wRow} (hw : dN n ≤ 4 ∧ sN n ≤ 16 ∧ jN n ≤ 4 ∧ eN n ≤ 6) (h : relC σ b n) (v : Int32) : relC (wd_uc σ b (upd (σ b) 14 v)) b (upd n 44 v) := by
  obtain ⟨⟨h1, h2, h3, h4, h5, h6, h7, h8, h9⟩, hd, hs, hj, he⟩ := h
  have d1 : dN (upd n 44 v) = dN n := rfl
  have d2 : sN (upd n 44 v) = sN n := rfl
  have d3 : jN (upd n 44 v) = jN n := rfl
  have d4 : eN (upd n 44 v) = eN n := rfl
  refine ⟨?_, fun d hdd => ?_, fun i hi => ?_, fun i hi => ?_, fun i hi => ?_⟩
  · rw [uc_s]
    simp [upd, h1, h2, h3, h4, h5, h6, h7, h8, h9]
  · rw [d1] at hdd
    rw [uc_n (by omega), uc_n (by omega), uc_n (by omega), uc_n (by omega), upd_n (by omega), upd_n (by omega), upd_n (by omega), upd_n (by omega)]
    exact hd d hdd
  · rw [d2] at hi
    rw [uc_n (by omega), upd_n (by omega)]
    exact hs i hi
  · rw [d3] at hi
    rw [uc_n (by omega), uc_n (by omega), upd_n (by omega), upd_n (by omega)]
    exact hj i hi
  · rw [d4] at hi
    rw [uc_n (by omega), uc_n (by omega), upd_n (by omega), upd_n (by omega)]
    exact he i hi
theorem relC_15 {σ : wd_S} {b : Nat} {n : wRow} (hw : dN n ≤ 4 ∧ sN n ≤ 16 ∧ jN n ≤ 4 ∧ eN n ≤ 6) (h : relC σ b n) (v : Int32) : relC (wd_uc σ b (upd (σ b) 15 v)) b (upd n 45 v) := by
  obtain ⟨⟨h1, h2, h3, h4, h5, h6, h7, h8, h9⟩, hd, hs, hj, he⟩ := h
  have d1 : dN (upd n 45 v) = dN n := rfl
  have d2 : sN (upd n 45 v) = sN n := rfl
  have d3 : jN (upd n 45 v) = jN n := rfl
  have d4 : eN (upd n 45 v) = eN n := rfl
  refine ⟨?_, fun d hdd => ?_, fun i hi => ?_, fun i hi => ?_, fun i hi => ?_⟩
  · rw [uc_s]
    simp [upd, h1, h2, h3, h4, h5, h6, h7, h8, h9]
  · rw [d1] at hdd
    rw [uc_n (by omega), uc_n (by omega), uc_n (by omega), uc_n (by omega), upd_n (by omega), upd_n (by omega), upd_n (by omega), upd_n (by omega)]
    exact hd d hdd
  · rw [d2] at hi
    rw [uc_n (by omega), upd_n (by omega)]
    exact hs i hi
  · rw [d3] at hi
    rw [uc_n (by omega), uc_n (by omega), upd_n (by omega), upd_n (by omega)]
    exact hj i hi
  · rw [d4] at hi
    rw [uc_n (by omega), uc_n (by omega), upd_n (by omega), upd_n (by omega)]
    exact he i hi
theorem relC_16 {σ : wd_S} {b : Nat} {n : wRow} (hw : dN n ≤ 4 ∧ sN n ≤ 16 ∧ jN n ≤ 4 ∧ eN n ≤ 6) (h : relC σ b n) (v : Int32) : relC (wd_uc σ b (upd (σ b) 16 v)) b (upd n 46 v) := by
  obtain ⟨⟨h1, h2, h3, h4, h5, h6, h7, h8, h9⟩, hd, hs, hj, he⟩ := h
  have d1 : dN (upd n 46 v) = dN n := rfl
  have d2 : sN (upd n 46 v) = sN n := rfl
  have d3 : jN (upd n 46 v) = jN n := rfl
  have d4 : eN (upd n 46 v) = eN n := rfl
  refine ⟨?_, fun d hdd => ?_, fun i hi => ?_, fun i hi => ?_, fun i hi => ?_⟩
  · rw [uc_s]
    simp [upd, h1, h2, h3, h4, h5, h6, h7, h8, h9]
  · rw [d1] at hdd
    rw [uc_n (by omega), uc_n (by omega), uc_n (by omega), uc_n (by omega), upd_n (by omega), upd_n (by omega), upd_n (by omega), upd_n (by omega)]
    exact hd d hdd
  · rw [d2] at hi
    rw [uc_n (by omega), upd_n (by omega)]
    exact hs i hi
  · rw [d3] at hi
    rw [uc_n (by omega), uc_n (by omega), upd_n (by omega), upd_n (by omega)]
    exact hj i hi
  · rw [d4] at hi
    rw [uc_n (by omega), uc_n (by omega), upd_n (by omega), upd_n (by omega)]
    exact he i hi
theorem relC_17 {σ : wd_S} {b : Nat} {n : wRow} (hw : dN n ≤ 4 ∧ sN n ≤ 16 ∧ jN n ≤ 4 ∧ eN n ≤ 6) (h : relC σ b n) (v : Int32) : relC (wd_uc σ b (upd (σ b) 17 v)) b (upd n 47 v) := by
  obtain ⟨⟨h1, h2, h3, h4, h5, h6, h7, h8, h9⟩, hd, hs, hj, he⟩ := h
  have d1 : dN (upd n 47 v) = dN n := rfl
  have d2 : sN (upd n 47 v) = sN n := rfl
  have d3 : jN (upd n 47 v) = jN n := rfl
  have d4 : eN (upd n 47 v) = eN n := rfl
  refine ⟨?_, fun d hdd => ?_, fun i hi => ?_, fun i hi => ?_, fun i hi => ?_⟩
  · rw [uc_s]
    simp [upd, h1, h2, h3, h4, h5, h6, h7, h8, h9]
  · rw [d1] at hdd
    rw [uc_n (by omega), uc_n (by omega), uc_n (by omega), uc_n (by omega), upd_n (by omega), upd_n (by omega), upd_n (by omega), upd_n (by omega)]
    exact hd d hdd
  · rw [d2] at hi
    rw [uc_n (by omega), upd_n (by omega)]
    exact hs i hi
  · rw [d3] at hi
    rw [uc_n (by omega), uc_n (by omega), upd_n (by omega), upd_n (by omega)]
    exact hj i hi
  · rw [d4] at hi
    rw [uc_n (by omega), uc_n (by omega), upd_n (by omega), upd_n (by omega)]
    exact he i hi
theorem relC_dog {σ : wd_S} {b d : Nat} {n : wRow} {x y : Int32} (hw : dN n ≤ 4) (hd : d < dN n) (h : relC σ b n) : relC (wd_uc (wd_uc σ (b + 3) (upd (σ (b + 3)) d x)) (b + 4) (upd (σ (b + 4)) d y)) b (upd (upd n (4 * d + 2) x) (4 * d + 3) y) := by
  have hi : ∀ j, 16 ≤ j → upd (upd n (4 * d + 2) x) (4 * d + 3) y j = n j := fun j hj => by rw [upd_n (by omega), upd_n (by omega)]
  have d1 : dN (upd (upd n (4 * d + 2) x) (4 * d + 3) y) = dN n := by unfold dN; rw [hi 16 (by decide)]
  have d2 : sN (upd (upd n (4 * d + 2) x) (4 * d + 3) y) = sN n := by unfold sN; rw [hi 33 (by decide)]
  have d3 : jN (upd (upd n (4 * d + 2) x) (4 * d + 3) y) = jN n := by unfold jN; rw [hi 43 (by decide)]
  have d4 : eN (upd (upd n (4 * d + 2) x) (4 * d + 3) y) = eN n := by unfold eN; rw [hi 48 (by decide)]
  obtain ⟨h0, hdg, hs, hj, he⟩ := h
  refine ⟨?_, fun e hee => ?_, fun i hh => ?_, fun i hh => ?_, fun i hh => ?_⟩
  · rw [uc_n (by omega), uc_n (by omega)]
    rw [hi 16 (by decide), hi 33 (by decide), hi 43 (by decide), hi 48 (by decide), hi 34 (by decide), hi 44 (by decide), hi 45 (by decide), hi 46 (by decide), hi 47 (by decide)]
    exact h0
  · rw [d1] at hee
    obtain ⟨g1, g2, g3, g4⟩ := hdg e hee
    rw [uc_n (c' := b + 1) (by omega), uc_n (c' := b + 1) (by omega), uc_n (c' := b + 2) (by omega), uc_n (c' := b + 2) (by omega), uc_n (c' := b + 3) (by omega), uc_s, uc_s]
    rw [upd_n (j := 4 * e) (by omega), upd_n (j := 4 * e) (by omega), upd_n (j := 4 * e + 1) (by omega), upd_n (j := 4 * e + 1) (by omega), upd_n (j := 4 * e + 2) (k := 4 * d + 3) (by omega)]
    by_cases hed : e = d
    · subst hed
      rw [upd_s, upd_s, upd_s, upd_s]
      exact ⟨g1, g2, rfl, rfl⟩
    · rw [upd_n hed, upd_n hed, upd_n (j := 4 * e + 2) (by omega), upd_n (j := 4 * e + 3) (by omega), upd_n (j := 4 * e + 3) (by omega)]
      exact ⟨g1, g2, g3, g4⟩
  · rw [d2] at hh
    rw [uc_n (by omega), uc_n (by omega), hi _ (by omega)]
    exact hs i hh
  · rw [d3] at hh
    rw [uc_n (by omega), uc_n (by omega), uc_n (by omega), uc_n (by omega), hi _ (by omega), hi _ (by omega)]
    exact hj i hh
  · rw [d4] at hh
    rw [uc_n (by omega), uc_n (by omega), uc_n (by omega), uc_n (by omega), hi _ (by omega), hi _ (by omega)]
    exact he i hh
section C
variable {G : wd_G} {σ : wd_S} {τ : wd_T} {Q : wd_P}
theorem s_D_outside {x a b : Int32} (h : Q (some (.int (bI (!inB x a b)))) σ τ) : Run wC G M_D_outside 0 [some (.int x), some (.int a), some (.int b)] [] σ τ Q := by
  refine wd_go ok_D_outside [] 30 (fun R hR => ?_)
  conv => whnf
  try dsimp only
  refine ⟨fun h1 => ?_, fun h1 => ?_⟩
  · conv => whnf
    try dsimp only
    have e : inB x a b = false := decide_eq_false (fun z => absurd z.1 (Int32.not_le.mpr h1))
    rw [e] at h
    exact ⟨Or.inr rfl, h⟩
  · conv => whnf
    try dsimp only
    refine ⟨fun h2 => ?_, fun h2 => ?_⟩
    · conv => whnf
      try dsimp only
      have e : inB x a b = true := decide_eq_true ⟨Int32.not_lt.mp h1, h2⟩
      rw [e] at h
      exact ⟨Or.inl rfl, h⟩
    · conv => whnf
      try dsimp only
      have e : inB x a b = false := decide_eq_false (fun z => absurd z.2 h2)
      rw [e] at h
      exact ⟨Or.inr rfl, h⟩
theorem l_fill_2 {v : Int32} (h : Q none (wd_uc σ 2 (fil (fun _ => v) (σ 2) 4)) τ) : ∀ (m i : Nat), 4 = i + m → Run wC G M_J7_fill 5 [some (.ref 2), some (.int v), some (.int (nI i)), some (.int (nI 4))] [] (wd_uc σ 2 (fil (fun _ => v) (σ 2) i)) τ Q := by
  intro m
  induction m with
  | zero =>
    intro i hi
    have e : i = 4 := by omega
    subst e
    refine wd_go ok_J7_fill [5] 20 (fun R hR => ?_)
    conv => whnf
    try dsimp only
    refine br_t (by decide) ?_
    conv => whnf
    try dsimp only
    exact ⟨rfl, h⟩
  | succ m ih =>
    intro i hi
    refine wd_go ok_J7_fill [5] 20 (fun R hR => ?_)
    conv => whnf
    try dsimp only
    refine br_f (nI_ge (by omega) (by decide)) ?_
    conv => whnf
    try dsimp only
    refine ⟨vp_in_nI (by first | decide | omega) (by first | decide | omega), ?_⟩
    conv => whnf
    try dsimp only
    refine hR ?_
    rw [nI_clamp (by omega), uc_uc, uc_s]
    have e : upd (fil (fun _ => v) (σ 2) i) i v = fil (fun _ => v) (σ 2) (i + 1) := fil_s (fun _ => v) (σ 2) i
    rw [e]
    have := ih (i + 1) (by omega)
    rw [nI_succ] at this
    exact this
theorem s_fill_2 {v : Int32} (h : Q none (wd_uc σ 2 (fil (fun _ => v) (σ 2) 4)) τ) : Run wC G M_J7_fill 0 [some (.ref 2), some (.int v), none, none] [] σ τ Q := by
  refine wd_go ok_J7_fill [5] 20 (fun R hR => ?_)
  conv => whnf
  try dsimp only
  refine hR ?_
  have := l_fill_2 (G := G) (τ := τ) (Q := Q) (σ := σ) (v := v) h 4 0 (by omega)
  rw [fil_0, uc_self] at this
  exact this
theorem l_fill_3 {v : Int32} (h : Q none (wd_uc σ 3 (fil (fun _ => v) (σ 3) 41)) τ) : ∀ (m i : Nat), 41 = i + m → Run wC G M_J7_fill 5 [some (.ref 3), some (.int v), some (.int (nI i)), some (.int (nI 41))] [] (wd_uc σ 3 (fil (fun _ => v) (σ 3) i)) τ Q := by
  intro m
  induction m with
  | zero =>
    intro i hi
    have e : i = 41 := by omega
    subst e
    refine wd_go ok_J7_fill [5] 20 (fun R hR => ?_)
    conv => whnf
    try dsimp only
    refine br_t (by decide) ?_
    conv => whnf
    try dsimp only
    exact ⟨rfl, h⟩
  | succ m ih =>
    intro i hi
    refine wd_go ok_J7_fill [5] 20 (fun R hR => ?_)
    conv => whnf
    try dsimp only
    refine br_f (nI_ge (by omega) (by decide)) ?_
    conv => whnf
    try dsimp only
    refine ⟨vp_in_nI (by first | decide | omega) (by first | decide | omega), ?_⟩
    conv => whnf
    try dsimp only
    refine hR ?_
    rw [nI_clamp (by omega), uc_uc, uc_s]
    have e : upd (fil (fun _ => v) (σ 3) i) i v = fil (fun _ => v) (σ 3) (i + 1) := fil_s (fun _ => v) (σ 3) i
    rw [e]
    have := ih (i + 1) (by omega)
    rw [nI_succ] at this
    exact this
theorem s_fill_3 {v : Int32} (h : Q none (wd_uc σ 3 (fil (fun _ => v) (σ 3) 41)) τ) : Run wC G M_J7_fill 0 [some (.ref 3), some (.int v), none, none] [] σ τ Q := by
  refine wd_go ok_J7_fill [5] 20 (fun R hR => ?_)
  conv => whnf
  try dsimp only
  refine hR ?_
  have := l_fill_3 (G := G) (τ := τ) (Q := Q) (σ := σ) (v := v) h 41 0 (by omega)
  rw [fil_0, uc_self] at this
  exact this
theorem l_fill_8 {v : Int32} (h : Q none (wd_uc σ 8 (fil (fun _ => v) (σ 8) 4)) τ) : ∀ (m i : Nat), 4 = i + m → Run wC G M_J7_fill 5 [some (.ref 8), some (.int v), some (.int (nI i)), some (.int (nI 4))] [] (wd_uc σ 8 (fil (fun _ => v) (σ 8) i)) τ Q := by
  intro m
  induction m with
  | zero =>
    intro i hi
    have e : i = 4 := by omega
    subst e
    refine wd_go ok_J7_fill [5] 20 (fun R hR => ?_)
    conv => whnf
    try dsimp only
    refine br_t (by decide) ?_
    conv => whnf
    try dsimp only
    exact ⟨rfl, h⟩
  | succ m ih =>
    intro i hi
    refine wd_go ok_J7_fill [5] 20 (fun R hR => ?_)
    conv => whnf
    try dsimp only
    refine br_f (nI_ge (by omega) (by decide)) ?_
    conv => whnf
    try dsimp only
    refine ⟨vp_in_nI (by first | decide | omega) (by first | decide | omega), ?_⟩
    conv => whnf
    try dsimp only
    refine hR ?_
    rw [nI_clamp (by omega), uc_uc, uc_s]
    have e : upd (fil (fun _ => v) (σ 8) i) i v = fil (fun _ => v) (σ 8) (i + 1) := fil_s (fun _ => v) (σ 8) i
    rw [e]
    have := ih (i + 1) (by omega)
    rw [nI_succ] at this
    exact this
theorem s_fill_8 {v : Int32} (h : Q none (wd_uc σ 8 (fil (fun _ => v) (σ 8) 4)) τ) : Run wC G M_J7_fill 0 [some (.ref 8), some (.int v), none, none] [] σ τ Q := by
  refine wd_go ok_J7_fill [5] 20 (fun R hR => ?_)
  conv => whnf
  try dsimp only
  refine hR ?_
  have := l_fill_8 (G := G) (τ := τ) (Q := Q) (σ := σ) (v := v) h 4 0 (by omega)
  rw [fil_0, uc_self] at this
  exact this
theorem l_fill_13 {v : Int32} (h : Q none (wd_uc σ 13 (fil (fun _ => v) (σ 13) 4)) τ) : ∀ (m i : Nat), 4 = i + m → Run wC G M_J7_fill 5 [some (.ref 13), some (.int v), some (.int (nI i)), some (.int (nI 4))] [] (wd_uc σ 13 (fil (fun _ => v) (σ 13) i)) τ Q := by
  intro m
  induction m with
  | zero =>
    intro i hi
    have e : i = 4 := by omega
    subst e
    refine wd_go ok_J7_fill [5] 20 (fun R hR => ?_)
    conv => whnf
    try dsimp only
    refine br_t (by decide) ?_
    conv => whnf
    try dsimp only
    exact ⟨rfl, h⟩
  | succ m ih =>
    intro i hi
    refine wd_go ok_J7_fill [5] 20 (fun R hR => ?_)
    conv => whnf
    try dsimp only
    refine br_f (nI_ge (by omega) (by decide)) ?_
    conv => whnf
    try dsimp only
    refine ⟨vp_in_nI (by first | decide | omega) (by first | decide | omega), ?_⟩
    conv => whnf
    try dsimp only
    refine hR ?_
    rw [nI_clamp (by omega), uc_uc, uc_s]
    have e : upd (fil (fun _ => v) (σ 13) i) i v = fil (fun _ => v) (σ 13) (i + 1) := fil_s (fun _ => v) (σ 13) i
    rw [e]
    have := ih (i + 1) (by omega)
    rw [nI_succ] at this
    exact this
theorem s_fill_13 {v : Int32} (h : Q none (wd_uc σ 13 (fil (fun _ => v) (σ 13) 4)) τ) : Run wC G M_J7_fill 0 [some (.ref 13), some (.int v), none, none] [] σ τ Q := by
  refine wd_go ok_J7_fill [5] 20 (fun R hR => ?_)
  conv => whnf
  try dsimp only
  refine hR ?_
  have := l_fill_13 (G := G) (τ := τ) (Q := Q) (σ := σ) (v := v) h 4 0 (by omega)
  rw [fil_0, uc_self] at this
  exact this
theorem l_fill_14 {v : Int32} (h : Q none (wd_uc σ 14 (fil (fun _ => v) (σ 14) 4)) τ) : ∀ (m i : Nat), 4 = i + m → Run wC G M_J7_fill 5 [some (.ref 14), some (.int v), some (.int (nI i)), some (.int (nI 4))] [] (wd_uc σ 14 (fil (fun _ => v) (σ 14) i)) τ Q := by
  intro m
  induction m with
  | zero =>
    intro i hi
    have e : i = 4 := by omega
    subst e
    refine wd_go ok_J7_fill [5] 20 (fun R hR => ?_)
    conv => whnf
    try dsimp only
    refine br_t (by decide) ?_
    conv => whnf
    try dsimp only
    exact ⟨rfl, h⟩
  | succ m ih =>
    intro i hi
    refine wd_go ok_J7_fill [5] 20 (fun R hR => ?_)
    conv => whnf
    try dsimp only
    refine br_f (nI_ge (by omega) (by decide)) ?_
    conv => whnf
    try dsimp only
    refine ⟨vp_in_nI (by first | decide | omega) (by first | decide | omega), ?_⟩
    conv => whnf
    try dsimp only
    refine hR ?_
    rw [nI_clamp (by omega), uc_uc, uc_s]
    have e : upd (fil (fun _ => v) (σ 14) i) i v = fil (fun _ => v) (σ 14) (i + 1) := fil_s (fun _ => v) (σ 14) i
    rw [e]
    have := ih (i + 1) (by omega)
    rw [nI_succ] at this
    exact this
theorem s_fill_14 {v : Int32} (h : Q none (wd_uc σ 14 (fil (fun _ => v) (σ 14) 4)) τ) : Run wC G M_J7_fill 0 [some (.ref 14), some (.int v), none, none] [] σ τ Q := by
  refine wd_go ok_J7_fill [5] 20 (fun R hR => ?_)
  conv => whnf
  try dsimp only
  refine hR ?_
  have := l_fill_14 (G := G) (τ := τ) (Q := Q) (σ := σ) (v := v) h 4 0 (by omega)
  rw [fil_0, uc_self] at this
  exact this
theorem l_fill_23 {v : Int32} (h : Q none (wd_uc σ 23 (fil (fun _ => v) (σ 23) 4)) τ) : ∀ (m i : Nat), 4 = i + m → Run wC G M_J7_fill 5 [some (.ref 23), some (.int v), some (.int (nI i)), some (.int (nI 4))] [] (wd_uc σ 23 (fil (fun _ => v) (σ 23) i)) τ Q := by
  intro m
  induction m with
  | zero =>
    intro i hi
    have e : i = 4 := by omega
    subst e
    refine wd_go ok_J7_fill [5] 20 (fun R hR => ?_)
    conv => whnf
    try dsimp only
    refine br_t (by decide) ?_
    conv => whnf
    try dsimp only
    exact ⟨rfl, h⟩
  | succ m ih =>
    intro i hi
    refine wd_go ok_J7_fill [5] 20 (fun R hR => ?_)
    conv => whnf
    try dsimp only
    refine br_f (nI_ge (by omega) (by decide)) ?_
    conv => whnf
    try dsimp only
    refine ⟨vp_in_nI (by first | decide | omega) (by first | decide | omega), ?_⟩
    conv => whnf
    try dsimp only
    refine hR ?_
    rw [nI_clamp (by omega), uc_uc, uc_s]
    have e : upd (fil (fun _ => v) (σ 23) i) i v = fil (fun _ => v) (σ 23) (i + 1) := fil_s (fun _ => v) (σ 23) i
    rw [e]
    have := ih (i + 1) (by omega)
    rw [nI_succ] at this
    exact this
theorem s_fill_23 {v : Int32} (h : Q none (wd_uc σ 23 (fil (fun _ => v) (σ 23) 4)) τ) : Run wC G M_J7_fill 0 [some (.ref 23), some (.int v), none, none] [] σ τ Q := by
  refine wd_go ok_J7_fill [5] 20 (fun R hR => ?_)
  conv => whnf
  try dsimp only
  refine hR ?_
  have := l_fill_23 (G := G) (τ := τ) (Q := Q) (σ := σ) (v := v) h 4 0 (by omega)
  rw [fil_0, uc_self] at this
  exact this
theorem l_fill_24 {v : Int32} (h : Q none (wd_uc σ 24 (fil (fun _ => v) (σ 24) 4)) τ) : ∀ (m i : Nat), 4 = i + m → Run wC G M_J7_fill 5 [some (.ref 24), some (.int v), some (.int (nI i)), some (.int (nI 4))] [] (wd_uc σ 24 (fil (fun _ => v) (σ 24) i)) τ Q := by
  intro m
  induction m with
  | zero =>
    intro i hi
    have e : i = 4 := by omega
    subst e
    refine wd_go ok_J7_fill [5] 20 (fun R hR => ?_)
    conv => whnf
    try dsimp only
    refine br_t (by decide) ?_
    conv => whnf
    try dsimp only
    exact ⟨rfl, h⟩
  | succ m ih =>
    intro i hi
    refine wd_go ok_J7_fill [5] 20 (fun R hR => ?_)
    conv => whnf
    try dsimp only
    refine br_f (nI_ge (by omega) (by decide)) ?_
    conv => whnf
    try dsimp only
    refine ⟨vp_in_nI (by first | decide | omega) (by first | decide | omega), ?_⟩
    conv => whnf
    try dsimp only
    refine hR ?_
    rw [nI_clamp (by omega), uc_uc, uc_s]
    have e : upd (fil (fun _ => v) (σ 24) i) i v = fil (fun _ => v) (σ 24) (i + 1) := fil_s (fun _ => v) (σ 24) i
    rw [e]
    have := ih (i + 1) (by omega)
    rw [nI_succ] at this
    exact this
theorem s_fill_24 {v : Int32} (h : Q none (wd_uc σ 24 (fil (fun _ => v) (σ 24) 4)) τ) : Run wC G M_J7_fill 0 [some (.ref 24), some (.int v), none, none] [] σ τ Q := by
  refine wd_go ok_J7_fill [5] 20 (fun R hR => ?_)
  conv => whnf
  try dsimp only
  refine hR ?_
  have := l_fill_24 (G := G) (τ := τ) (Q := Q) (σ := σ) (v := v) h 4 0 (by omega)
  rw [fil_0, uc_self] at this
  exact this
theorem l_fill_60 {v : Int32} (h : Q none (wd_uc σ 60 (fil (fun _ => v) (σ 60) 40)) τ) : ∀ (m i : Nat), 40 = i + m → Run wC G M_J7_fill 5 [some (.ref 60), some (.int v), some (.int (nI i)), some (.int (nI 40))] [] (wd_uc σ 60 (fil (fun _ => v) (σ 60) i)) τ Q := by
  intro m
  induction m with
  | zero =>
    intro i hi
    have e : i = 40 := by omega
    subst e
    refine wd_go ok_J7_fill [5] 20 (fun R hR => ?_)
    conv => whnf
    try dsimp only
    refine br_t (by decide) ?_
    conv => whnf
    try dsimp only
    exact ⟨rfl, h⟩
  | succ m ih =>
    intro i hi
    refine wd_go ok_J7_fill [5] 20 (fun R hR => ?_)
    conv => whnf
    try dsimp only
    refine br_f (nI_ge (by omega) (by decide)) ?_
    conv => whnf
    try dsimp only
    refine ⟨vp_in_nI (by first | decide | omega) (by first | decide | omega), ?_⟩
    conv => whnf
    try dsimp only
    refine hR ?_
    rw [nI_clamp (by omega), uc_uc, uc_s]
    have e : upd (fil (fun _ => v) (σ 60) i) i v = fil (fun _ => v) (σ 60) (i + 1) := fil_s (fun _ => v) (σ 60) i
    rw [e]
    have := ih (i + 1) (by omega)
    rw [nI_succ] at this
    exact this
theorem s_fill_60 {v : Int32} (h : Q none (wd_uc σ 60 (fil (fun _ => v) (σ 60) 40)) τ) : Run wC G M_J7_fill 0 [some (.ref 60), some (.int v), none, none] [] σ τ Q := by
  refine wd_go ok_J7_fill [5] 20 (fun R hR => ?_)
  conv => whnf
  try dsimp only
  refine hR ?_
  have := l_fill_60 (G := G) (τ := τ) (Q := Q) (σ := σ) (v := v) h 40 0 (by omega)
  rw [fil_0, uc_self] at this
  exact this
theorem l_fill_61 {v : Int32} (h : Q none (wd_uc σ 61 (fil (fun _ => v) (σ 61) 40)) τ) : ∀ (m i : Nat), 40 = i + m → Run wC G M_J7_fill 5 [some (.ref 61), some (.int v), some (.int (nI i)), some (.int (nI 40))] [] (wd_uc σ 61 (fil (fun _ => v) (σ 61) i)) τ Q := by
  intro m
  induction m with
  | zero =>
    intro i hi
    have e : i = 40 := by omega
    subst e
    refine wd_go ok_J7_fill [5] 20 (fun R hR => ?_)
    conv => whnf
    try dsimp only
    refine br_t (by decide) ?_
    conv => whnf
    try dsimp only
    exact ⟨rfl, h⟩
  | succ m ih =>
    intro i hi
    refine wd_go ok_J7_fill [5] 20 (fun R hR => ?_)
    conv => whnf
    try dsimp only
    refine br_f (nI_ge (by omega) (by decide)) ?_
    conv => whnf
    try dsimp only
    refine ⟨vp_in_nI (by first | decide | omega) (by first | decide | omega), ?_⟩
    conv => whnf
    try dsimp only
    refine hR ?_
    rw [nI_clamp (by omega), uc_uc, uc_s]
    have e : upd (fil (fun _ => v) (σ 61) i) i v = fil (fun _ => v) (σ 61) (i + 1) := fil_s (fun _ => v) (σ 61) i
    rw [e]
    have := ih (i + 1) (by omega)
    rw [nI_succ] at this
    exact this
theorem s_fill_61 {v : Int32} (h : Q none (wd_uc σ 61 (fil (fun _ => v) (σ 61) 40)) τ) : Run wC G M_J7_fill 0 [some (.ref 61), some (.int v), none, none] [] σ τ Q := by
  refine wd_go ok_J7_fill [5] 20 (fun R hR => ?_)
  conv => whnf
  try dsimp only
  refine hR ?_
  have := l_fill_61 (G := G) (τ := τ) (Q := Q) (σ := σ) (v := v) h 40 0 (by omega)
  rw [fil_0, uc_self] at this
  exact this
theorem l_fill_62 {v : Int32} (h : Q none (wd_uc σ 62 (fil (fun _ => v) (σ 62) 40)) τ) : ∀ (m i : Nat), 40 = i + m → Run wC G M_J7_fill 5 [some (.ref 62), some (.int v), some (.int (nI i)), some (.int (nI 40))] [] (wd_uc σ 62 (fil (fun _ => v) (σ 62) i)) τ Q := by
  intro m
  induction m with
  | zero =>
    intro i hi
    have e : i = 40 := by omega
    subst e
    refine wd_go ok_J7_fill [5] 20 (fun R hR => ?_)
    conv => whnf
    try dsimp only
    refine br_t (by decide) ?_
    conv => whnf
    try dsimp only
    exact ⟨rfl, h⟩
  | succ m ih =>
    intro i hi
    refine wd_go ok_J7_fill [5] 20 (fun R hR => ?_)
    conv => whnf
    try dsimp only
    refine br_f (nI_ge (by omega) (by decide)) ?_
    conv => whnf
    try dsimp only
    refine ⟨vp_in_nI (by first | decide | omega) (by first | decide | omega), ?_⟩
    conv => whnf
    try dsimp only
    refine hR ?_
    rw [nI_clamp (by omega), uc_uc, uc_s]
    have e : upd (fil (fun _ => v) (σ 62) i) i v = fil (fun _ => v) (σ 62) (i + 1) := fil_s (fun _ => v) (σ 62) i
    rw [e]
    have := ih (i + 1) (by omega)
    rw [nI_succ] at this
    exact this
theorem s_fill_62 {v : Int32} (h : Q none (wd_uc σ 62 (fil (fun _ => v) (σ 62) 40)) τ) : Run wC G M_J7_fill 0 [some (.ref 62), some (.int v), none, none] [] σ τ Q := by
  refine wd_go ok_J7_fill [5] 20 (fun R hR => ?_)
  conv => whnf
  try dsimp only
  refine hR ?_
  have := l_fill_62 (G := G) (τ := τ) (Q := Q) (σ := σ) (v := v) h 40 0 (by omega)
  rw [fil_0, uc_self] at this
  exact this
theorem l_fill_63 {v : Int32} (h : Q none (wd_uc σ 63 (fil (fun _ => v) (σ 63) 40)) τ) : ∀ (m i : Nat), 40 = i + m → Run wC G M_J7_fill 5 [some (.ref 63), some (.int v), some (.int (nI i)), some (.int (nI 40))] [] (wd_uc σ 63 (fil (fun _ => v) (σ 63) i)) τ Q := by
  intro m
  induction m with
  | zero =>
    intro i hi
    have e : i = 40 := by omega
    subst e
    refine wd_go ok_J7_fill [5] 20 (fun R hR => ?_)
    conv => whnf
    try dsimp only
    refine br_t (by decide) ?_
    conv => whnf
    try dsimp only
    exact ⟨rfl, h⟩
  | succ m ih =>
    intro i hi
    refine wd_go ok_J7_fill [5] 20 (fun R hR => ?_)
    conv => whnf
    try dsimp only
    refine br_f (nI_ge (by omega) (by decide)) ?_
    conv => whnf
    try dsimp only
    refine ⟨vp_in_nI (by first | decide | omega) (by first | decide | omega), ?_⟩
    conv => whnf
    try dsimp only
    refine hR ?_
    rw [nI_clamp (by omega), uc_uc, uc_s]
    have e : upd (fil (fun _ => v) (σ 63) i) i v = fil (fun _ => v) (σ 63) (i + 1) := fil_s (fun _ => v) (σ 63) i
    rw [e]
    have := ih (i + 1) (by omega)
    rw [nI_succ] at this
    exact this
theorem s_fill_63 {v : Int32} (h : Q none (wd_uc σ 63 (fil (fun _ => v) (σ 63) 40)) τ) : Run wC G M_J7_fill 0 [some (.ref 63), some (.int v), none, none] [] σ τ Q := by
  refine wd_go ok_J7_fill [5] 20 (fun R hR => ?_)
  conv => whnf
  try dsimp only
  refine hR ?_
  have := l_fill_63 (G := G) (τ := τ) (Q := Q) (σ := σ) (v := v) h 40 0 (by omega)
  rw [fil_0, uc_self] at this
  exact this
theorem l_stuck_10 {n : wRow} (hr : relC σ 10 n) (hJ : n 43 = nI (jN n) ∧ jN n ≤ 4) (h : Q (some (.int (bI (isStk n)))) σ τ) : ∀ (m i : Nat), jN n = i + m → stkA n i = false → Run wC G M_P_isStuck 2 [some (.ref 10), some (.int (nI i))] [] σ τ Q := by
  have e11 : σ 10 11 = n 43 := hr.1.2.2.1
  have e14 : σ 10 14 = n 44 := hr.1.2.2.2.2.2.1
  have e16 : σ 10 16 = n 46 := hr.1.2.2.2.2.2.2.2.1
  intro m
  induction m with
  | zero =>
    intro i hi hs
    have e : i = jN n := by omega
    refine wd_go ok_P_isStuck [2] 20 (fun R hR => ?_)
    conv => whnf
    try dsimp only
    rw [e11, hJ.1]
    refine br_t (nI_le (by omega) (by omega)) ?_
    conv => whnf
    try dsimp only
    refine ⟨Or.inl rfl, ?_⟩
    rw [isStk, ← e, hs] at h
    exact h
  | succ m ih =>
    intro i hi hs
    have ej : σ 16 i = n (35 + 2 * i) := (hr.2.2.2.1 i (by omega)).1
    have ek : σ 17 i = n (36 + 2 * i) := (hr.2.2.2.1 i (by omega)).2
    have key : stkA n (i + 1) = false → Run wC G M_P_isStuck 2 [some (.ref 10), some (.int (nI i + 1))] [] σ τ Q := by
      intro h0
      have := ih (i + 1) (by omega) h0
      rw [nI_succ] at this
      exact this
    refine wd_go ok_P_isStuck [2] 60 (fun R hR => ?_)
    conv => whnf
    try dsimp only
    rw [e11, hJ.1]
    refine br_f (nI_ge (by omega) (by omega)) ?_
    conv => whnf
    try dsimp only
    refine ⟨vp_in_nI (by first | decide | omega) (by first | decide | omega), ?_⟩
    conv => whnf
    try dsimp only
    rw [nI_clamp (by omega), e14, ej]
    refine ⟨fun h1 => ?_, fun h1 => ?_⟩
    · conv => whnf
      try dsimp only
      refine hR (key ?_)
      rw [stkA, hs, Bool.false_or]
      exact decide_eq_false (fun z => absurd z.1 (Int32.not_le.mpr h1))
    · conv => whnf
      try dsimp only
      refine ⟨vp_in_nI (by first | decide | omega) (by first | decide | omega), ?_⟩
      conv => whnf
      try dsimp only
      rw [nI_clamp (by omega), ej, e16]
      refine ⟨fun h2 => ?_, fun h2 => ?_⟩
      · conv => whnf
        try dsimp only
        refine hR (key ?_)
        rw [stkA, hs, Bool.false_or]
        exact decide_eq_false (fun z => absurd z.2.1 (Int32.not_le.mpr h2))
      · conv => whnf
        try dsimp only
        refine ⟨vp_in_nI (by first | decide | omega) (by first | decide | omega), ?_⟩
        conv => whnf
        try dsimp only
        refine ⟨vp_in_nI (by first | decide | omega) (by first | decide | omega), ?_⟩
        conv => whnf
        try dsimp only
        rw [nI_clamp (by omega), ej, ek, e14]
        refine ⟨fun h3 => ?_, fun h3 => ?_⟩
        · conv => whnf
          try dsimp only
          refine hR (key ?_)
          rw [stkA, hs, Bool.false_or]
          exact decide_eq_false (fun z => absurd z.2.2 (Int32.not_lt.mpr h3))
        · conv => whnf
          try dsimp only
          refine ⟨Or.inr rfl, ?_⟩
          have e1 : stkA n (i + 1) = true := by
            rw [stkA, hs, Bool.false_or]
            exact decide_eq_true ⟨Int32.not_lt.mp h1, Int32.not_lt.mp h2, Int32.not_le.mp h3⟩
          have mono : ∀ q, stkA n (i + 1 + q) = true := by
            intro q
            induction q with
            | zero => exact e1
            | succ q iq => rw [← Nat.add_assoc, stkA, iq, Bool.true_or]
          have e2 : isStk n = true := by
            have := mono m
            rw [isStk, hi, show i + (m + 1) = i + 1 + m by omega]
            exact this
          rw [e2] at h
          exact h
theorem s_stuck_10 {n : wRow} (hr : relC σ 10 n) (hJ : n 43 = nI (jN n) ∧ jN n ≤ 4) (h : Q (some (.int (bI (isStk n)))) σ τ) : Run wC G M_P_isStuck 0 [some (.ref 10), none] [] σ τ Q := by
  refine wd_go ok_P_isStuck [2] 20 (fun R hR => ?_)
  conv => whnf
  try dsimp only
  exact hR (l_stuck_10 hr hJ h (jN n) 0 (by omega) rfl)
theorem l_stuck_20 {n : wRow} (hr : relC σ 20 n) (hJ : n 43 = nI (jN n) ∧ jN n ≤ 4) (h : Q (some (.int (bI (isStk n)))) σ τ) : ∀ (m i : Nat), jN n = i + m → stkA n i = false → Run wC G M_P_isStuck 2 [some (.ref 20), some (.int (nI i))] [] σ τ Q := by
  have e11 : σ 20 11 = n 43 := hr.1.2.2.1
  have e14 : σ 20 14 = n 44 := hr.1.2.2.2.2.2.1
  have e16 : σ 20 16 = n 46 := hr.1.2.2.2.2.2.2.2.1
  intro m
  induction m with
  | zero =>
    intro i hi hs
    have e : i = jN n := by omega
    refine wd_go ok_P_isStuck [2] 20 (fun R hR => ?_)
    conv => whnf
    try dsimp only
    rw [e11, hJ.1]
    refine br_t (nI_le (by omega) (by omega)) ?_
    conv => whnf
    try dsimp only
    refine ⟨Or.inl rfl, ?_⟩
    rw [isStk, ← e, hs] at h
    exact h
  | succ m ih =>
    intro i hi hs
    have ej : σ 26 i = n (35 + 2 * i) := (hr.2.2.2.1 i (by omega)).1
    have ek : σ 27 i = n (36 + 2 * i) := (hr.2.2.2.1 i (by omega)).2
    have key : stkA n (i + 1) = false → Run wC G M_P_isStuck 2 [some (.ref 20), some (.int (nI i + 1))] [] σ τ Q := by
      intro h0
      have := ih (i + 1) (by omega) h0
      rw [nI_succ] at this
      exact this
    refine wd_go ok_P_isStuck [2] 60 (fun R hR => ?_)
    conv => whnf
    try dsimp only
    rw [e11, hJ.1]
    refine br_f (nI_ge (by omega) (by omega)) ?_
    conv => whnf
    try dsimp only
    refine ⟨vp_in_nI (by first | decide | omega) (by first | decide | omega), ?_⟩
    conv => whnf
    try dsimp only
    rw [nI_clamp (by omega), e14, ej]
    refine ⟨fun h1 => ?_, fun h1 => ?_⟩
    · conv => whnf
      try dsimp only
      refine hR (key ?_)
      rw [stkA, hs, Bool.false_or]
      exact decide_eq_false (fun z => absurd z.1 (Int32.not_le.mpr h1))
    · conv => whnf
      try dsimp only
      refine ⟨vp_in_nI (by first | decide | omega) (by first | decide | omega), ?_⟩
      conv => whnf
      try dsimp only
      rw [nI_clamp (by omega), ej, e16]
      refine ⟨fun h2 => ?_, fun h2 => ?_⟩
      · conv => whnf
        try dsimp only
        refine hR (key ?_)
        rw [stkA, hs, Bool.false_or]
        exact decide_eq_false (fun z => absurd z.2.1 (Int32.not_le.mpr h2))
      · conv => whnf
        try dsimp only
        refine ⟨vp_in_nI (by first | decide | omega) (by first | decide | omega), ?_⟩
        conv => whnf
        try dsimp only
        refine ⟨vp_in_nI (by first | decide | omega) (by first | decide | omega), ?_⟩
        conv => whnf
        try dsimp only
        rw [nI_clamp (by omega), ej, ek, e14]
        refine ⟨fun h3 => ?_, fun h3 => ?_⟩
        · conv => whnf
          try dsimp only
          refine hR (key ?_)
          rw [stkA, hs, Bool.false_or]
          exact decide_eq_false (fun z => absurd z.2.2 (Int32.not_lt.mpr h3))
        · conv => whnf
          try dsimp only
          refine ⟨Or.inr rfl, ?_⟩
          have e1 : stkA n (i + 1) = true := by
            rw [stkA, hs, Bool.false_or]
            exact decide_eq_true ⟨Int32.not_lt.mp h1, Int32.not_lt.mp h2, Int32.not_le.mp h3⟩
          have mono : ∀ q, stkA n (i + 1 + q) = true := by
            intro q
            induction q with
            | zero => exact e1
            | succ q iq => rw [← Nat.add_assoc, stkA, iq, Bool.true_or]
          have e2 : isStk n = true := by
            have := mono m
            rw [isStk, hi, show i + (m + 1) = i + 1 + m by omega]
            exact this
          rw [e2] at h
          exact h
theorem s_stuck_20 {n : wRow} (hr : relC σ 20 n) (hJ : n 43 = nI (jN n) ∧ jN n ≤ 4) (h : Q (some (.int (bI (isStk n)))) σ τ) : Run wC G M_P_isStuck 0 [some (.ref 20), none] [] σ τ Q := by
  refine wd_go ok_P_isStuck [2] 20 (fun R hR => ?_)
  conv => whnf
  try dsimp only
  exact hR (l_stuck_20 hr hJ h (jN n) 0 (by omega) rfl)
end C
