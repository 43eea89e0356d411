/-! THE TEXT: a token of the class, whole -/
section C
variable {G : wd_G} {τ : wd_T} {Q : wd_P} {b : Nat → Nat} {L : Nat}
theorem s_A_readName {σ : wd_S} {s : Nat} (ht : tpC σ b L) (h6 : σ 4 6 = nI s) (hs : s ≤ L) (h : Q none (wd_uc σ 4 (upd (upd (σ 4) 7 1) 6 (nI (skA (fun i => isLt (b i)) (L - s) s)))) τ) : Run wC G M_A_readName 0 [some (.ref 4)] [] σ τ Q := by
  refine wd_go ok_A_readName [5] 20 (fun R hR => ?_)
  conv => whnf
  try dsimp only
  have key := l_A_name (G := G) (τ := τ) (Q := Q) (σ0 := wd_uc σ 4 (upd (σ 4) 7 1)) (e := skA (fun i => isLt (b i)) (L - s) s) (ht.u4 (upd_n (by decide))) (by rw [uc_uc, uc_s]; exact h) (L - s) s (by omega) rfl
  have e6 : upd ((wd_uc σ 4 (upd (σ 4) 7 1)) 4) 6 (nI s) = (wd_uc σ 4 (upd (σ 4) 7 1)) 4 := by
    rw [← h6]
    exact upd_self ((wd_uc σ 4 (upd (σ 4) 7 1)) 4) 6
  rw [e6, uc_self] at key
  exact hR key
theorem s_A_readNumber {σ : wd_S} {s e : Nat} (ht : tpC σ b L) (h6 : σ 4 6 = nI s) (h8 : σ 4 8 = nI s) (h3 : σ 4 3 = 0) (hs : s ≤ L) (he : skA (fun i => isFg (b i)) (L - s) s = e) (h : ∀ f, (∀ k, (k < 3 ∨ k = 5 ∨ 9 < k) → f k = σ 4 k) → (e ≤ s + 2 → f 7 = 2 ∧ f 6 = nI e ∧ f 8 = nI s ∧ f 9 = vlA b s (e - s) ∧ f 3 = 0) → (¬ e ≤ s + 2 → f 3 = 1 ∧ f 4 = nI s) → Q none (wd_uc σ 4 f) τ) : Run wC G M_A_readNumber 0 [some (.ref 4)] [] σ τ Q := by
  have hL := ht.2.1
  have hse := sk_le (fun i => isFg (b i)) (L - s) s
  rw [he] at hse
  refine wd_go ok_A_readNumber [10] 20 (fun R hR => ?_)
  conv => whnf
  try dsimp only
  simp only [uc_uc, uc_s]
  have key := l_A_figs (G := G) (τ := τ) (Q := Q) (σ0 := wd_uc σ 4 (upd (upd (σ 4) 7 2) 9 0)) (s := s) (e := e) (ht.u4 ((upd_n (by decide)).trans (upd_n (by decide)))) ?_ (L - s) s (by omega) (Nat.le_refl s) he
  · have e6 : upd ((wd_uc σ 4 (upd (upd (σ 4) 7 2) 9 0)) 4) 6 (nI s) = (wd_uc σ 4 (upd (upd (σ 4) 7 2) 9 0)) 4 := by
      rw [← h6]
      exact upd_self ((wd_uc σ 4 (upd (upd (σ 4) 7 2) 9 0)) 4) 6
    have e9 : upd ((wd_uc σ 4 (upd (upd (σ 4) 7 2) 9 0)) 4) 9 0 = (wd_uc σ 4 (upd (upd (σ 4) 7 2) 9 0)) 4 := upd_self ((wd_uc σ 4 (upd (upd (σ 4) 7 2) 9 0)) 4) 9
    rw [e6, Nat.sub_self, vlA, e9, uc_self] at key
    exact hR key
  · rw [uc_uc, uc_s]
    have fr : ∀ {x y : Int32} {k : Nat}, (k < 3 ∨ k = 5 ∨ 9 < k) → (upd (upd (upd (upd (σ 4) 7 2) 9 0) 6 x) 9 y) k = σ 4 k := fun {x y k} hk => by rw [upd_n (by omega), upd_n (by omega), upd_n (by omega), upd_n (by omega)]
    have g8 : ∀ {x y : Int32}, (upd (upd (upd (upd (σ 4) 7 2) 9 0) 6 x) 9 y) 8 = nI s := fun {x y} => h8
    refine wd_go ok_A_readNumber [] 20 (fun R hR => ?_)
    conv => whnf
    try dsimp only
    by_cases h2 : e ≤ s + 2
    · refine br_t (show nI e - (upd (upd (upd (upd (σ 4) 7 2) 9 0) 6 (nI e)) 9 (vlA b s (e - s))) 8 ≤ (2 : Int32) by rw [g8, pk_sub (by omega)]; exact nI_le (b := 2) (by omega) (by decide)) ?_
      conv => whnf
      try dsimp only
      exact ⟨rfl, h _ (fun k hk => fr hk) (fun _ => ⟨rfl, rfl, h8, rfl, h3⟩) (fun z => absurd h2 z)⟩
    · refine br_f (show ¬ nI e - (upd (upd (upd (upd (σ 4) 7 2) 9 0) 6 (nI e)) 9 (vlA b s (e - s))) 8 ≤ (2 : Int32) by rw [g8, pk_sub (by omega)]; exact nI_ge (a := 2) (by omega) (by omega)) ?_
      conv => whnf
      try dsimp only
      refine hR (k_A_readNumber_88 (Nat.le_of_ble_eq_true rfl) rfl (s_A_refuse ?_))
      have c3 : (wd_uc σ 4 (upd (upd (upd (upd (σ 4) 7 2) 9 0) 6 (nI e)) 9 (vlA b s (e - s)))) 4 3 = 0 := h3
      rw [if_pos c3]
      refine wd_go ok_A_readNumber [] 20 (fun R hR => ?_)
      conv => whnf
      try dsimp only
      refine ⟨rfl, ?_⟩
      rw [uc_uc, uc_s]
      exact h _ (fun k hk => by rw [upd_n (by omega), upd_n (by omega)]; exact fr hk) (fun z => absurd z h2) (fun _ => ⟨rfl, h8⟩)
theorem s_A_readToken {σ : wd_S} {p : Nat} (ht : tpC σ b L) (hp : σ 4 6 = nI p) (hpL : p ≤ L) (hf : σ 4 3 = 0) (h : ∀ σ', tokC σ b L p σ' → Q none σ' τ) : Run wC G M_A_readToken 0 [some (.ref 4)] [] σ τ Q := by
  have hL := ht.2.1
  have hs := sk_le (fun i => decide (b i = 32)) (L - p) p
  refine wd_go ok_A_readToken [8, 46] 20 (fun R hR => ?_)
  conv => whnf
  try dsimp only
  refine br_t hf ?_
  conv => whnf
  try dsimp only
  refine hR ?_
  have key := l_A_spaces (G := G) (τ := τ) (Q := Q) (σ0 := σ) (e := spS b L p) ht ?_ (L - p) p (by omega) rfl
  · rw [← hp, upd_self, uc_self] at key
    exact key
  simp only [tokC, spS] at h ⊢
  generalize skA (fun i => decide (b i = 32)) (L - p) p = s at h hs ⊢
  have hs2 : s ≤ L := by omega
  have ts : tpC (wd_uc σ 4 (upd (upd (σ 4) 6 (nI s)) 8 (nI s))) b L := ht.u4 ((upd_n (by decide)).trans (upd_n (by decide)))
  have fr : ∀ {k : Nat}, (k < 3 ∨ k = 5 ∨ 9 < k) → (upd (upd (σ 4) 6 (nI s)) 8 (nI s)) k = σ 4 k := fun {k} hk => by rw [upd_n (by omega), upd_n (by omega)]
  have e2 : (upd (upd (σ 4) 6 (nI s)) 8 (nI s)) 2 = nI L := ht.1
  have e6 : (upd (upd (σ 4) 6 (nI s)) 8 (nI s)) 6 = nI s := rfl
  rw [tokS] at h
  refine wd_go ok_A_readToken [] 60 (fun R hR => ?_)
  conv => whnf
  try dsimp only
  simp only [uc_s, uc_uc, upd_s]
  rw [e2, e6]
  by_cases hE : s = L
  · rw [if_pos hE] at h
    refine br_f (nI_nlt (by omega) (by omega)) ?_
    conv => whnf
    try dsimp only
    refine ⟨rfl, h _ ⟨fun c hc => ?_, fun k hk => ?_, fun _ => ⟨rfl, rfl, rfl, fun z => (by cases z), hf⟩, fun z => (by cases z)⟩⟩
    · rw [uc_n hc, uc_n hc]
    · rw [uc_s, upd_n (by omega), uc_s]
      exact fr hk
  · rw [if_neg hE] at h
    have bs := ht.2.2 s (by omega)
    have bs2 := bs.2
    have e6w : (wd_uc σ 4 (upd (upd (σ 4) 6 (nI s)) 8 (nI s))) 4 6 = nI s := rfl
    have e5w : (wd_uc σ 4 (upd (upd (σ 4) 6 (nI s)) 8 (nI s))) 5 s = nI (b s) := bs.1
    refine br_t (nI_lt (by omega) (by omega)) ?_
    conv => whnf
    try dsimp only
    rw [e6w]
    refine ⟨vp_in_nI (by first | decide | omega) (by first | decide | omega), ?_⟩
    conv => whnf
    try dsimp only
    rw [nI_clamp (by omega), e5w]
    by_cases h59 : b s = 59
    · rw [h59, show isLt 59 = false by decide, show isFg 59 = false by decide, if_neg (by decide), if_neg (by decide), decide_eq_true rfl] at h
      refine nb_f (by rw [h59]; rfl) ?_
      conv => whnf
      try dsimp only
      refine ⟨rfl, h _ ⟨fun c hc => ?_, fun k hk => ?_, fun _ => ⟨rfl, ?_, rfl, fun z => (by cases z), hf⟩, fun z => (by cases z)⟩⟩
      · rw [uc_n hc, uc_n hc, uc_n hc]
      · rw [uc_s, upd_n (by omega), uc_s, upd_n (by omega), uc_s]
        exact fr hk
      · show nI s + 1 = nI (s + 1)
        exact nI_1 s
    · rw [decide_eq_false h59] at h
      refine nb_t (fun z => h59 ((nI_eq (b := 59) (by omega) (by decide)).mp z)) ?_
      conv => whnf
      try dsimp only
      rw [e6w]
      refine ⟨vp_in_nI (by first | decide | omega) (by first | decide | omega), ?_⟩
      conv => whnf
      try dsimp only
      rw [nI_clamp (by omega), e5w]
      refine hR (k_A_readToken_114 (Nat.le_of_ble_eq_true rfl) (s_A_isLetter bs2 ?_))
      cases hl : isLt (b s) with
      | true =>
        rw [hl, if_pos rfl] at h
        refine wd_go ok_A_readToken [] 20 (fun R hR => ?_)
        conv => whnf
        try dsimp only
        refine br_f (by decide) ?_
        conv => whnf
        try dsimp only
        refine hR (k_A_readToken_121 (Nat.le_of_ble_eq_true rfl) rfl (s_A_readName ts rfl hs2 ?_))
        refine wd_go ok_A_readToken [] 20 (fun R hR => ?_)
        conv => whnf
        try dsimp only
        refine ⟨rfl, h _ ⟨fun c hc => ?_, fun k hk => ?_, fun _ => ⟨rfl, rfl, rfl, fun z => (by cases z), hf⟩, fun z => (by cases z)⟩⟩
        · rw [uc_n hc, uc_n hc]
        · rw [uc_s, upd_n (by omega), upd_n (by omega), uc_s]
          exact fr hk
      | false =>
        rw [hl, if_neg (by decide)] at h
        refine wd_go ok_A_readToken [] 20 (fun R hR => ?_)
        conv => whnf
        try dsimp only
        refine br_t rfl ?_
        conv => whnf
        try dsimp only
        rw [e6w]
        refine ⟨vp_in_nI (by first | decide | omega) (by first | decide | omega), ?_⟩
        conv => whnf
        try dsimp only
        rw [nI_clamp (by omega), e5w]
        refine hR (k_A_readToken_136 (Nat.le_of_ble_eq_true rfl) (s_A_isFigure bs2 ?_))
        cases hg : isFg (b s) with
        | true =>
          rw [hg, if_pos rfl] at h
          refine wd_go ok_A_readToken [] 20 (fun R hR => ?_)
          conv => whnf
          try dsimp only
          refine br_f (by decide) ?_
          conv => whnf
          try dsimp only
          refine hR (k_A_readToken_143 (Nat.le_of_ble_eq_true rfl) rfl (s_A_readNumber (s := s) ts rfl rfl hf hs2 rfl (fun f g1 g2 g3 => ?_)))
          refine wd_go ok_A_readToken [] 20 (fun R hR => ?_)
          conv => whnf
          try dsimp only
          refine ⟨rfl, h _ ⟨fun c hc => ?_, fun k hk => ?_, fun z => ?_, fun z => ?_⟩⟩
          · rw [uc_n hc, uc_n hc]
          · rw [uc_s, g1 k hk, uc_s]
            exact fr hk
          · obtain ⟨a1, a2, a3, a4, a5⟩ := g2 (of_decide_eq_true z)
            exact ⟨a1, a2, a3, fun _ => a4, a5⟩
          · exact g3 (of_decide_eq_false z)
        | false =>
          rw [hg, if_neg (by decide)] at h
          refine wd_go ok_A_readToken [] 20 (fun R hR => ?_)
          conv => whnf
          try dsimp only
          refine br_t rfl ?_
          conv => whnf
          try dsimp only
          refine hR (k_A_readToken_151 (Nat.le_of_ble_eq_true rfl) rfl (s_A_refuse ?_))
          have c3 : (wd_uc σ 4 (upd (upd (σ 4) 6 (nI s)) 8 (nI s))) 4 3 = 0 := hf
          rw [if_pos c3]
          refine wd_go ok_A_readToken [] 20 (fun R hR => ?_)
          conv => whnf
          try dsimp only
          refine ⟨rfl, h _ ⟨fun c hc => ?_, fun k hk => ?_, fun z => (by cases z), fun _ => ⟨rfl, rfl⟩⟩⟩
          · rw [uc_n hc, uc_n hc]
          · rw [uc_s, upd_n (by omega), upd_n (by omega), uc_s]
            exact fr hk
end C
