/-! THE TEXT: the class's text, whole -/
def txC (σ : wd_S) (b : Nat → Nat) (L : Nat) (σ' : wd_S) : Prop := (∀ c, c ≠ 4 → (c < 10 ∨ 20 ≤ c) → (c < 30 ∨ 40 ≤ c) → c ≠ 65 → σ' c = σ c) ∧ σ' 4 2 = 0 ∧ dfC σ' ∧ (∀ k, 12 ≤ k → σ' 30 k = σ 30 k) ∧ match (txA b L).2 with
  | .inl e => σ' 4 3 = nI e.1 ∧ (∀ c, 10 ≤ c → c < 20 → σ' c = σ c) ∧ σ' 65 = σ 65
  | .inr y => σ' 4 3 = 0 ∧ relC σ' 10 y.2.2.2.2 ∧ σ' 65 0 = 0 ∧ σ' 65 1 = 0
/-- the draft's fields that no line changes -/
def dfF (σ : wd_S) : Prop := σ 30 12 = 0 ∧ σ 30 13 = 0 ∧ σ 30 14 = 0 ∧ σ 30 15 = 0 ∧ σ 30 16 = 0 ∧ σ 30 17 = -4
section C
variable {G : wd_G} {τ : wd_T} {Q : wd_P} {b : Nat → Nat} {L : Nat} {σ : wd_S}
theorem s_P_empty (h : Q none (wd_uc σ 30 (upd (upd (upd (σ 30) 9 0) 10 0) 11 0)) τ) : Run wC G M_P_empty 0 [some (.ref 30)] [] σ τ Q := by
  refine wd_go ok_P_empty [] 20 (fun R hR => ?_)
  conv => whnf
  try dsimp only
  refine ⟨rfl, ?_⟩
  simp only [uc_uc, uc_s]
  exact h
theorem s_A_begin (ht : tpC σ b L) (hf : dfF σ) (h : ∀ σ', frW σ σ' → cX σ' (ntk b L 0 d0) → σ' 4 5 = 0 → Q none σ' τ) : Run wC G M_A_begin 0 [some (.ref 4)] [] σ τ Q := by
  obtain ⟨g1, g2, g3, g4, g5, g6⟩ := hf
  refine wd_go ok_A_begin [] 20 (fun R hR => ?_)
  conv => whnf
  try dsimp only
  refine hR (k_A_begin_4 (Nat.le_of_ble_eq_true rfl) rfl (s_P_empty ?_))
  refine wd_go ok_A_begin [] 20 (fun R hR => ?_)
  conv => whnf
  try dsimp only
  simp only [uc_uc, uc_s]
  rw [uc_n (c' := 4) (by decide)]
  have fw : frW σ (wd_uc (wd_uc σ 30 (upd (upd (upd (σ 30) 9 0) 10 0) 11 0)) 4 (upd (upd (upd (σ 4) 3 0) 5 0) 6 0)) := by
    refine ⟨fun c hc hr => ?_, fun k hk => ?_, fun k hk => ?_, rfl, rfl⟩
    · rw [uc_n hc, uc_n (by omega)]
    · rw [uc_s, upd_n (by omega), upd_n (by omega), upd_n (by omega)]
    · rw [uc_n (by decide), uc_s, upd_n (by omega), upd_n (by omega), upd_n (by omega)]
  have r0 : relC (wd_uc (wd_uc σ 30 (upd (upd (upd (σ 30) 9 0) 10 0) 11 0)) 4 (upd (upd (upd (σ 4) 3 0) 5 0) 6 0)) 30 d0 := by
    refine ⟨⟨rfl, rfl, rfl, g1, g2, g3, g4, g5, g6⟩, fun d hd => ?_, fun i hi => ?_, fun i hi => ?_, fun i hi => ?_⟩
    · exact absurd hd (Nat.not_lt_zero d)
    · exact absurd hi (Nat.not_lt_zero i)
    · exact absurd hi (Nat.not_lt_zero i)
    · exact absurd hi (Nat.not_lt_zero i)
  have e6 : (wd_uc (wd_uc σ 30 (upd (upd (upd (σ 30) 9 0) 10 0) 11 0)) 4 (upd (upd (upd (σ 4) 3 0) 5 0) 6 0)) 4 6 = nI 0 := rfl
  have e3 : (wd_uc (wd_uc σ 30 (upd (upd (upd (σ 30) 9 0) 10 0) 11 0)) 4 (upd (upd (upd (σ 4) 3 0) 5 0) 6 0)) 4 3 = 0 := rfl
  have e5 : (wd_uc (wd_uc σ 30 (upd (upd (upd (σ 30) 9 0) 10 0) 11 0)) 4 (upd (upd (upd (σ 4) 3 0) 5 0) 6 0)) 4 5 = 0 := rfl
  generalize wd_uc (wd_uc σ 30 (upd (upd (upd (σ 30) 9 0) 10 0) 11 0)) 4 (upd (upd (upd (σ 4) 3 0) 5 0) 6 0) = σ1 at fw r0 e6 e3 e5
  refine hR (k_A_begin_23 (Nat.le_of_ble_eq_true rfl) rfl (s_A_tok (fw.t ht) e6 (Nat.zero_le L) e3 r0 (fun σ2 k2 x2 => ?_)))
  refine wd_go ok_A_begin [] 20 (fun R hR => ?_)
  conv => whnf
  try dsimp only
  exact ⟨rfl, h σ2 (fw.tr k2.P.W) x2 ((k2.2 5 (by omega)).trans e5)⟩
theorem l_D_text {σ0 : wd_S} {X : Nat × pX} (ht0 : tpC σ0 b L) (hz0 : dfC σ0) (h : ∀ σ' x, frW σ0 σ' → cX σ' X.2 → σ' 4 5 = nI X.1 → Run wC G M_D_text 39 [some (.ref 0), some (.int x)] [] σ' τ Q) : ∀ (m n : Nat) (y : pY) (σ : wd_S), L < y.1 + m → n ≤ y.1 → okY L y → cX σ (.inr y) → frW σ0 σ → σ 4 5 = nI n → txF b L m n y = X → Run wC G M_D_text 9 [some (.ref 0), some (.int (nI n))] [] σ τ Q := by
  have hL := ht0.2.1
  intro m
  induction m with
  | zero =>
    intro n y σ hm hn hy
    have := okY_s hy
    omega
  | succ m ih =>
    intro n y σ hm hn hy hx hf h5 hX
    have h3 := hy.2.2.2.1
    have hs := okY_s hy
    rw [txF] at hX
    by_cases e0 : y.2.1 = 0
    · rw [if_pos e0] at hX
      subst hX
      refine wd_go ok_D_text [39] 20 (fun R hR => ?_)
      conv => whnf
      try dsimp only
      refine ⟨fun h16 => ?_, fun h16 => ?_⟩
      · conv => whnf
        try dsimp only
        exact hR (h σ _ hf hx h5)
      · conv => whnf
        try dsimp only
        refine hR (k_D_text_20 (Nat.le_of_ble_eq_true rfl) rfl (s_A_hasLine ?_))
        rw [decide_eq_false (fun z => z.2 (by rw [hx.2.2.1, e0]; rfl))]
        refine wd_go ok_D_text [39] 20 (fun R hR => ?_)
        conv => whnf
        try dsimp only
        refine br_t rfl ?_
        conv => whnf
        try dsimp only
        exact hR (h σ _ hf hx h5)
    · rw [if_neg e0] at hX
      have hq := hy.2.2.1 e0
      have hqL := hy.2.1
      refine wd_go ok_D_text [39] 20 (fun R hR => ?_)
      conv => whnf
      try dsimp only
      refine br_f (show ¬ (160 : Int32) ≤ nI n from nI_ge (b := 160) (by omega) (by decide)) ?_
      conv => whnf
      try dsimp only
      refine hR (k_D_text_20 (Nat.le_of_ble_eq_true rfl) rfl (s_A_hasLine ?_))
      rw [decide_eq_true ⟨hx.1, fun z => e0 (by rw [hx.2.2.1] at z; exact (nI_eq (b := 0) (by omega) (by decide)).mp z)⟩]
      refine wd_go ok_D_text [9, 39] 20 (fun R hR => ?_)
      conv => whnf
      try dsimp only
      refine br_f (by decide) ?_
      conv => whnf
      try dsimp only
      refine hR (k_D_text_30 (Nat.le_of_ble_eq_true rfl) rfl (s_A_readLine (hf.t ht0) (hf.d hz0) hy hx (fun σ1 f1 x1 g5 => ?_)))
      have o1 := ok_liL (b := b) hy e0
      generalize hX1 : liL b L y = X1 at hX x1 o1
      rw [h5, nI_1] at g5
      refine wd_go ok_D_text [9, 39] 20 (fun R hR => ?_)
      conv => whnf
      try dsimp only
      refine hR ?_
      rw [nI_1]
      cases X1 with
      | inl e =>
        dsimp only at hX
        subst hX
        refine wd_go ok_D_text [39] 20 (fun R hR => ?_)
        conv => whnf
        try dsimp only
        refine ⟨fun h16 => ?_, fun h16 => ?_⟩
        · conv => whnf
          try dsimp only
          exact hR (h σ1 _ (hf.tr f1) x1 g5)
        · conv => whnf
          try dsimp only
          refine hR (k_D_text_20 (Nat.le_of_ble_eq_true rfl) rfl (s_A_hasLine ?_))
          rw [decide_eq_false (fun z => x1.2.1 z.1)]
          refine wd_go ok_D_text [39] 20 (fun R hR => ?_)
          conv => whnf
          try dsimp only
          refine br_t rfl ?_
          conv => whnf
          try dsimp only
          exact hR (h σ1 _ (hf.tr f1) x1 g5)
      | inr y1 =>
        have l1 := o1.1
        exact ih (n + 1) y1 σ1 (by omega) (by omega) o1.2 x1 (hf.tr f1) g5 hX
theorem l_D_kept {x : Int32} (h : Q (some (.int (σ 4 5))) (wd_uc σ 65 (upd (upd (σ 65) 0 0) 1 0)) τ) : Run wC G M_D_text 82 [some (.ref 0), some (.int x)] [] σ τ Q := by
  refine wd_go ok_D_text [] 60 (fun R hR => ?_)
  conv => whnf
  try dsimp only
  refine br_f (by decide) ?_
  conv => whnf
  try dsimp only
  refine ⟨vp_in_nI (by first | decide | omega) (by first | decide | omega), ?_⟩
  conv => whnf
  try dsimp only
  refine br_f (by decide) ?_
  conv => whnf
  try dsimp only
  refine ⟨vp_in_nI (by first | decide | omega) (by first | decide | omega), ?_⟩
  conv => whnf
  try dsimp only
  refine br_t (by decide) ?_
  conv => whnf
  try dsimp only
  rw [uc_uc, uc_s]
  exact h
theorem s_D_text (ht : tpC σ b L) (hz : dfC σ) (hf : dfF σ) (h : ∀ σ', txC σ b L σ' → Q (some (.int (aText (txA b L)))) σ' τ) : Run wC G M_D_text 0 [some (.ref 0), none] [] σ τ Q := by
  have o := ok_txA (b := b) (L := L)
  have fin : ∀ σ' x, frW σ σ' → cX σ' (txA b L).2 → σ' 4 5 = nI (txA b L).1 → Run wC G M_D_text 39 [some (.ref 0), some (.int x)] [] σ' τ Q := by
    intro σ1 x f1 x1 g5
    unfold txC aText at h
    generalize hX : txA b L = X at h x1 g5 o
    obtain ⟨n, X⟩ := X
    dsimp only at h x1 g5 o
    have fr2 : ∀ c, c ≠ 4 → (c < 30 ∨ 40 ≤ c) → (wd_uc σ1 4 (upd (σ1 4) 2 0)) c = σ c := fun c hc hr => by
      rw [uc_n hc]
      exact f1.1 c hc hr
    have z2 : dfC (wd_uc σ1 4 (upd (σ1 4) 2 0)) := fun d hd => f1.d hz d hd
    have f30 : ∀ k, 12 ≤ k → (wd_uc σ1 4 (upd (σ1 4) 2 0)) 30 k = σ 30 k := fun k hk => by
      rw [uc_n (by decide)]
      exact f1.2.2.1 k hk
    cases X with
    | inl e =>
      dsimp only at h
      refine wd_go ok_D_text [] 20 (fun R hR => ?_)
      conv => whnf
      try dsimp only
      refine br_f (show ¬ σ1 4 3 = 0 from x1.2.1) ?_
      conv => whnf
      try dsimp only
      have e4 : (wd_uc σ1 4 (upd (σ1 4) 2 0)) 4 4 = nI e.2 := x1.2.2
      rw [e4]
      exact h _ ⟨fun c h4 h1 h3 h6 => fr2 c h4 h3, rfl, z2, f30, x1.1, fun c h1 h2 => fr2 c (by omega) (by omega), fr2 65 (by decide) (by decide)⟩
    | inr y =>
      dsimp only at h
      refine wd_go ok_D_text [] 20 (fun R hR => ?_)
      conv => whnf
      try dsimp only
      refine br_t (show σ1 4 3 = 0 from x1.1) ?_
      conv => whnf
      try dsimp only
      have e5 : (wd_uc σ1 4 (upd (σ1 4) 2 0)) 4 5 = nI n := g5
      have e3 : (wd_uc σ1 4 (upd (σ1 4) 2 0)) 4 3 = 0 := x1.1
      have e2 : (wd_uc σ1 4 (upd (σ1 4) 2 0)) 4 2 = 0 := rfl
      have r2 : relC (wd_uc σ1 4 (upd (σ1 4) 2 0)) 30 y.2.2.2.2 := relC_kept x1.2.2.2.2.2 (fun j hj => uc_n (by omega))
      generalize wd_uc σ1 4 (upd (σ1 4) 2 0) = σ2 at fr2 z2 f30 e5 e3 e2 r2
      refine hR (k_D_text_79 (Nat.le_of_ble_eq_true rfl) rfl (s_copy_10_30 (fun σ3 c3 f3 => ?_)))
      refine l_D_kept ?_
      rw [f3 4 (by omega), e5]
      refine h _ ⟨fun c h4 h1 h3 h6 => ?_, ?_, fun d hd => ?_, fun k hk => ?_, ?_, ?_, rfl, rfl⟩
      · rw [uc_n h6, f3 c h1]
        exact fr2 c h4 h3
      · rw [uc_n (by decide), f3 4 (by omega)]
        exact e2
      · rw [uc_n (by decide), uc_n (by decide), f3 33 (by omega), f3 34 (by omega)]
        exact z2 d hd
      · rw [uc_n (by decide), f3 30 (by omega)]
        exact f30 k hk
      · rw [uc_n (by decide), f3 4 (by omega)]
        exact e3
      · exact relC_kept (c3 _ (wf_bd o.2.2.2.2.2.1) r2) (fun j hj => uc_n (by omega))
  refine wd_go ok_D_text [] 20 (fun R hR => ?_)
  conv => whnf
  try dsimp only
  refine hR (k_D_text_4 (Nat.le_of_ble_eq_true rfl) rfl (s_A_begin ht hf (fun σ1 f1 x1 g5 => ?_)))
  have o1 := ok_ntk (b := b) (p := 0) (Nat.zero_le L) d0_ok
  have hA : txA b L = (match ntk b L 0 d0 with
    | .inl e => (0, .inl e)
    | .inr y => txF b L (L + 1) 0 y) := rfl
  generalize hX1 : ntk b L 0 d0 = X1 at x1 o1 hA
  cases X1 with
  | inl e =>
    dsimp only at hA
    refine wd_go ok_D_text [39] 20 (fun R hR => ?_)
    conv => whnf
    try dsimp only
    refine br_f (by decide) ?_
    conv => whnf
    try dsimp only
    refine hR (k_D_text_20 (Nat.le_of_ble_eq_true rfl) rfl (s_A_hasLine ?_))
    rw [decide_eq_false (fun z => x1.2.1 z.1)]
    refine wd_go ok_D_text [39] 20 (fun R hR => ?_)
    conv => whnf
    try dsimp only
    refine br_t rfl ?_
    conv => whnf
    try dsimp only
    rw [hA] at fin
    exact hR (fin σ1 _ f1 x1 g5)
  | inr y =>
    dsimp only at hA
    refine wd_go ok_D_text [9] 20 (fun R hR => ?_)
    conv => whnf
    try dsimp only
    exact hR (l_D_text (σ0 := σ) (X := txA b L) ht hz fin (L + 1) 0 y σ1 (by omega) (Nat.zero_le _) o1.2 x1 f1 g5 hA.symm)
end C
