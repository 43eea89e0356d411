/-! THE TEXT: the reference's text, whole -/
def aText (x : Nat × pX) : Int32 := match x.2 with
  | .inl e => -10 - nI e.2
  | .inr _ => nI x.1
def txR (σ : wd_S) (b : Nat → Nat) (L : Nat) (σ' : wd_S) : Prop := (∀ c, c ≠ 0 → c ≠ 1 → c ≠ 3 → c ≠ 4 → σ' c = σ c) ∧ (∀ k, 12 < k → σ' 0 k = σ 0 k) ∧ σ' 0 6 = 0 ∧ match (txA b L).2 with
  | .inl e => σ' 0 11 = nI e.1 ∧ σ' 1 = σ 1 ∧ σ' 3 = σ 3
  | .inr y => σ' 0 11 = 0 ∧ (∀ j, j < 61 → σ' 1 j = y.2.2.2.2 j) ∧ (∀ j, 61 ≤ j → σ' 1 j = σ 1 j) ∧ σ' 3 0 = 0 ∧ σ' 3 1 = 0
theorem ok_txF {b : Nat → Nat} {L : Nat} : ∀ (m n : Nat) {y : pY}, okY L y → okX L 0 (txF b L m n y).2
  | 0, n, y, hy => ⟨Nat.zero_le _, hy⟩
  | m + 1, n, y, hy => by
    rw [txF]
    split
    · exact ⟨Nat.zero_le _, hy⟩
    · rename_i ht
      have o := ok_liL (b := b) hy ht
      generalize liL b L y = x at o
      cases x with
      | inl e => exact o
      | inr y' => exact ok_txF m (n + 1) o.2
theorem ok_txA {b : Nat → Nat} {L : Nat} : okX L 0 (txA b L).2 := by
  unfold txA
  have o := ok_ntk (b := b) (p := 0) (Nat.zero_le L) d0_ok
  generalize ntk b L 0 d0 = x at o
  cases x with
  | inl e => exact o
  | inr y => exact ok_txF (L + 1) 0 o.2
section R
variable {G : wd_G} {τ : wd_T} {Q : wd_P} {b : Nat → Nat} {L : Nat} {σ : wd_S}
theorem l_R_draft0 (h : Run wR G M_R_firstDraft 21 [some (.ref 0), some (.int (nI 61))] [] (wd_uc σ 4 (fil (fun _ => 0) (σ 4) 61)) τ Q) : ∀ (m i : Nat), 61 = i + m → Run wR G M_R_firstDraft 2 [some (.ref 0), some (.int (nI i))] [] (wd_uc σ 4 (fil (fun _ => 0) (σ 4) i)) τ Q := by
  intro m
  induction m with
  | zero =>
    intro i hi
    have e : i = 61 := by omega
    subst e
    refine wd_go ok_R_firstDraft [2, 21] 20 (fun R hR => ?_)
    conv => whnf
    try dsimp only
    refine br_t (by decide) ?_
    conv => whnf
    try dsimp only
    exact hR h
  | succ m ih =>
    intro i hi
    refine wd_go ok_R_firstDraft [2, 21] 20 (fun R hR => ?_)
    conv => whnf
    try dsimp only
    refine br_f (show ¬ (61 : Int32) ≤ nI i from nI_ge (b := 61) (by omega) (by decide)) ?_
    conv => whnf
    try dsimp only
    refine ⟨vp_in_nI (by first | decide | omega) (by first | decide | omega), ?_⟩
    conv => whnf
    try dsimp only
    refine hR ?_
    rw [uc_uc, uc_s, nI_clamp (by omega), nI_1]
    have := ih (i + 1) (by omega)
    rw [← fil_s (fun _ => 0) (σ 4) i] at this
    exact this
theorem s_R_firstDraft (h : ∀ D, (∀ j, j < 61 → D j = d0 j) → Q none (wd_uc (wd_uc σ 4 D) 0 (upd (σ 0) 4 0)) τ) : Run wR G M_R_firstDraft 0 [some (.ref 0), none] [] σ τ Q := by
  refine wd_go ok_R_firstDraft [2] 20 (fun R hR => ?_)
  conv => whnf
  try dsimp only
  refine hR ?_
  have key := l_R_draft0 (G := G) (τ := τ) (Q := Q) (σ := σ) ?_ 61 0 (by omega)
  · rw [fil_0, uc_self] at key
    exact key
  · refine wd_go ok_R_firstDraft [] 20 (fun R hR => ?_)
    conv => whnf
    try dsimp only
    refine ⟨vp_in_nI (by first | decide | omega) (by first | decide | omega), ?_⟩
    conv => whnf
    try dsimp only
    refine ⟨Or.inl rfl, ?_⟩
    conv => whnf
    try dsimp only
    refine ⟨rfl, ?_⟩
    rw [uc_uc, uc_s, cl47]
    refine h _ (fun j hj => ?_)
    unfold d0
    by_cases e : j = 47
    · subst e
      rw [upd_s, if_pos rfl]
    · rw [upd_n e, fil_lt hj, if_neg e]
theorem l_R_keepD (h : Run wR G M_R_keepDraft 26 [some (.ref 0), some (.int (nI 61))] [] (wd_uc σ 1 (fil (σ 4) (σ 1) 61)) τ Q) : ∀ (m i : Nat), 61 = i + m → Run wR G M_R_keepDraft 2 [some (.ref 0), some (.int (nI i))] [] (wd_uc σ 1 (fil (σ 4) (σ 1) i)) τ Q := by
  intro m
  induction m with
  | zero =>
    intro i hi
    have e : i = 61 := by omega
    subst e
    refine wd_go ok_R_keepDraft [2, 26] 20 (fun R hR => ?_)
    conv => whnf
    try dsimp only
    refine br_t (by decide) ?_
    conv => whnf
    try dsimp only
    exact hR h
  | succ m ih =>
    intro i hi
    refine wd_go ok_R_keepDraft [2, 26] 20 (fun R hR => ?_)
    conv => whnf
    try dsimp only
    refine br_f (show ¬ (61 : Int32) ≤ nI i from nI_ge (b := 61) (by omega) (by decide)) ?_
    conv => whnf
    try dsimp only
    refine ⟨vp_in_nI (by first | decide | omega) (by first | decide | omega), ?_⟩
    conv => whnf
    try dsimp only
    refine ⟨vp_in_nI (by first | decide | omega) (by first | decide | omega), ?_⟩
    conv => whnf
    try dsimp only
    refine hR ?_
    rw [uc_uc, uc_s, nI_clamp (by omega), nI_1, uc_n (c' := 4) (by decide)]
    have := ih (i + 1) (by omega)
    rw [← fil_s (σ 4) (σ 1) i] at this
    exact this
theorem s_R_keepDraft (h : Q none (wd_uc (wd_uc σ 1 (fil (σ 4) (σ 1) 61)) 3 (upd (upd (σ 3) 0 0) 1 0)) τ) : Run wR G M_R_keepDraft 0 [some (.ref 0), none] [] σ τ Q := by
  refine wd_go ok_R_keepDraft [2] 20 (fun R hR => ?_)
  conv => whnf
  try dsimp only
  refine hR ?_
  have key := l_R_keepD (G := G) (τ := τ) (Q := Q) (σ := σ) ?_ 61 0 (by omega)
  · rw [fil_0, uc_self] at key
    exact key
  · refine wd_go ok_R_keepDraft [] 20 (fun R hR => ?_)
    conv => whnf
    try dsimp only
    refine ⟨vp_in_nI (by first | decide | omega) (by first | decide | omega), ?_⟩
    conv => whnf
    try dsimp only
    refine ⟨vp_in_nI (by first | decide | omega) (by first | decide | omega), ?_⟩
    conv => whnf
    try dsimp only
    refine ⟨rfl, ?_⟩
    rw [uc_uc, uc_s, cl0, cl1, uc_n (c' := 3) (by decide)]
    exact h
theorem l_R_text {σ0 : wd_S} {X : Nat × pX} (ht0 : tpR σ0 b L) (h : ∀ σ', frL σ0 σ' → rX σ' X.2 → Run wR G M_R_text 44 [some (.ref 0), some (.int (nI X.1))] [] σ' τ Q) : ∀ (m n : Nat) (y : pY) (σ : wd_S), L < y.1 + m → okY L y → rX σ (.inr y) → σ 0 4 = bI (decide (0 < sN y.2.2.2.2)) → frL σ0 σ → txF b L m n y = X → Run wR G M_R_text 20 [some (.ref 0), some (.int (nI n))] [] σ τ Q := by
  intro m
  induction m with
  | zero =>
    intro n y σ hm hy
    have := okY_s hy
    omega
  | succ m ih =>
    intro n y σ hm hy hx hs hf hX
    have h3 := hy.2.2.2.1
    rw [txF] at hX
    refine wd_go ok_R_text [20, 44] 20 (fun R hR => ?_)
    conv => whnf
    try dsimp only
    refine nb_f hx.1.1 ?_
    conv => whnf
    try dsimp only
    rw [hx.1.2.2.2.1]
    by_cases e0 : y.2.1 = 0
    · rw [if_pos e0] at hX
      refine br_t (by rw [e0]; rfl) ?_
      conv => whnf
      try dsimp only
      subst hX
      exact hR (h σ hf hx)
    · rw [if_neg e0] at hX
      refine br_f (fun z => e0 ((nI_eq (b := 0) (by omega) (by decide)).mp z)) ?_
      conv => whnf
      try dsimp only
      refine hR (k_R_text_35 (Nat.le_of_ble_eq_true rfl) rfl (s_R_readLine (hf.t ht0) hy hx hs (fun σ1 f1 x1 s1 => ?_)))
      have o1 := ok_liL (b := b) hy e0
      generalize hX1 : liL b L y = X1 at hX x1 s1 o1
      refine wd_go ok_R_text [20, 44] 20 (fun R hR => ?_)
      conv => whnf
      try dsimp only
      refine hR ?_
      rw [nI_1]
      cases X1 with
      | inl e =>
        dsimp only at hX
        subst hX
        refine wd_go ok_R_text [20, 44] 20 (fun R hR => ?_)
        conv => whnf
        try dsimp only
        refine nb_t (rT_ne x1.1) ?_
        conv => whnf
        try dsimp only
        exact hR (h σ1 (hf.tr f1) x1)
      | inr y1 =>
        have l1 := o1.1
        exact ih (n + 1) y1 σ1 (by omega) o1.2 x1 (s1 y1 rfl) (hf.tr f1) hX
theorem s_R_text (ht : tpR σ b L) (h : ∀ σ', txR σ b L σ' → Q (some (.int (aText (txA b L)))) σ' τ) : Run wR G M_R_text 0 [some (.ref 0), none] [] σ τ Q := by
  have fin : ∀ σ', frL σ σ' → rX σ' (txA b L).2 → Run wR G M_R_text 44 [some (.ref 0), some (.int (nI (txA b L).1))] [] σ' τ Q := by
    intro σ1 f1 x1
    unfold txR aText at h
    generalize hX : txA b L = X at h x1
    obtain ⟨n, X⟩ := X
    dsimp only at h x1 ⊢
    cases X with
    | inl e =>
      dsimp only at h
      refine wd_go ok_R_text [] 20 (fun R hR => ?_)
      conv => whnf
      try dsimp only
      refine br_f (show ¬ σ1 0 11 ≤ 0 from Int32.not_le.mpr x1.1.2.1) ?_
      conv => whnf
      try dsimp only
      have e12 : (wd_uc σ1 0 (upd (σ1 0) 6 0)) 0 12 = nI e.2 := x1.1.2.2
      rw [e12]
      refine h _ ⟨fun c h0 h1 h3 h4 => ?_, fun k hk => ?_, rfl, x1.1.1, ?_, ?_⟩
      · rw [uc_n h0]
        exact f1.1 c h0 h4
      · rw [uc_s, upd_n (by omega)]
        exact f1.2 k (by omega)
      · exact f1.1 1 (by decide) (by decide)
      · exact f1.1 3 (by decide) (by decide)
    | inr y =>
      dsimp only at h
      refine wd_go ok_R_text [] 20 (fun R hR => ?_)
      conv => whnf
      try dsimp only
      refine br_t (show σ1 0 11 ≤ 0 by rw [x1.1.1]; decide) ?_
      conv => whnf
      try dsimp only
      refine hR (k_R_text_65 (Nat.le_of_ble_eq_true rfl) rfl (s_R_keepDraft ?_))
      refine wd_go ok_R_text [] 20 (fun R hR => ?_)
      conv => whnf
      try dsimp only
      have hr : ∀ j, j < 61 → σ1 4 j = y.2.2.2.2 j := x1.2
      refine h _ ⟨fun c h0 h1 h3 h4 => ?_, fun k hk => ?_, rfl, x1.1.1, fun j hj => ?_, fun j hj => ?_, rfl, rfl⟩
      · rw [uc_n h3, uc_n h1, uc_n h0]
        exact f1.1 c h0 h4
      · rw [uc_n (by decide), uc_n (by decide), uc_s, upd_n (by omega)]
        exact f1.2 k (by omega)
      · rw [uc_n (by decide), uc_s, fil_lt hj, uc_n (by decide)]
        exact hr j hj
      · rw [uc_n (by decide), uc_s, uc_n (by decide), uc_n (by decide), f1.1 1 (by decide) (by decide)]
        exact if_neg (by omega)
  refine wd_go ok_R_text [] 20 (fun R hR => ?_)
  conv => whnf
  try dsimp only
  refine hR (k_R_text_13 (Nat.le_of_ble_eq_true rfl) rfl (s_R_firstDraft (fun D hD => ?_)))
  simp only [uc_uc, uc_s]
  have f1 : frL σ (wd_uc (wd_uc (wd_uc σ 0 (upd (upd (σ 0) 11 0) 7 0)) 4 D) 0 (upd (upd (upd (σ 0) 11 0) 7 0) 4 0)) := by
    refine ⟨fun c h0 h4 => ?_, fun k hk => ?_⟩
    · rw [uc_n h0, uc_n h4, uc_n h0]
    · rw [uc_s, upd_n (by omega), upd_n (by omega), upd_n (by omega)]
  have e4 : (wd_uc (wd_uc (wd_uc σ 0 (upd (upd (σ 0) 11 0) 7 0)) 4 D) 0 (upd (upd (upd (σ 0) 11 0) 7 0) 4 0)) 4 = D := rfl
  have e7 : (wd_uc (wd_uc (wd_uc σ 0 (upd (upd (σ 0) 11 0) 7 0)) 4 D) 0 (upd (upd (upd (σ 0) 11 0) 7 0) 4 0)) 0 7 = nI 0 := rfl
  have e11 : (wd_uc (wd_uc (wd_uc σ 0 (upd (upd (σ 0) 11 0) 7 0)) 4 D) 0 (upd (upd (upd (σ 0) 11 0) 7 0) 4 0)) 0 11 = 0 := rfl
  have e0 : (wd_uc (wd_uc (wd_uc σ 0 (upd (upd (σ 0) 11 0) 7 0)) 4 D) 0 (upd (upd (upd (σ 0) 11 0) 7 0) 4 0)) 0 4 = 0 := rfl
  generalize wd_uc (wd_uc (wd_uc σ 0 (upd (upd (σ 0) 11 0) 7 0)) 4 D) 0 (upd (upd (upd (σ 0) 11 0) 7 0) 4 0) = σ1 at f1 e4 e7 e11 e0
  refine wd_go ok_R_text [20] 20 (fun R hR => ?_)
  conv => whnf
  try dsimp only
  refine hR (k_R_text_17 (Nat.le_of_ble_eq_true rfl) rfl (s_R_tok (D := d0) (f1.t ht) e7 (Nat.zero_le L) e11 (fun σ2 j2 t2 => ?_)))
  have x2 : rX σ2 (ntk b L 0 d0) := ntk_rX t2 (by rw [j2.1 4 (by decide), e4]; exact hD)
  have f2 : frL σ σ2 := f1.tr j2.Q.L
  have o2 := ok_ntk (b := b) (p := 0) (Nat.zero_le L) d0_ok
  have s2 : σ2 0 4 = 0 := (j2.2 4 (by omega)).trans e0
  have hA : txA b L = (match ntk b L 0 d0 with
    | .inl e => (0, .inl e)
    | .inr y => txF b L (L + 1) 0 y) := rfl
  generalize hX2 : ntk b L 0 d0 = X2 at x2 o2 hA
  cases X2 with
  | inl e =>
    dsimp only at hA
    refine wd_go ok_R_text [44] 20 (fun R hR => ?_)
    conv => whnf
    try dsimp only
    refine nb_t (rT_ne x2.1) ?_
    conv => whnf
    try dsimp only
    rw [hA] at fin
    exact hR (fin σ2 f2 x2)
  | inr y =>
    dsimp only at hA
    refine l_R_text (σ0 := σ) (X := txA b L) ht fin (L + 1) 0 y σ2 (by omega) o2.2 x2 ?_ f2 hA.symm
    rw [ntk_D hX2]
    exact s2
end R
