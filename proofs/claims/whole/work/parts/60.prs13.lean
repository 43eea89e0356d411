/-! THE TEXT: a dog, signs, a jam of the class -/
section C
variable {G : wd_G} {τ : wd_T} {Q : wd_P} {b : Nat → Nat} {L : Nat}
theorem s_A_readDog {σ : wd_S} {y : pY} {k : Nat} (hk : k ≤ 3) (ht : tpC σ b L) (hz : dfC σ) (hy : okY L y) (hx : cX σ (.inr y)) (h : ∀ σ', frP σ σ' → cX σ' (dgL b L (nI k) y) → Q none σ' τ) : Run wC G M_A_readDog 0 [some (.ref 4), some (.int (nI k))] [] σ τ Q := by
  obtain ⟨f3, f6, f7, f8, f9, hr⟩ := id hx
  have hw := hy.2.2.2.2.1
  have h16 := hw.1
  have h9 : σ 30 9 = nI (dN y.2.2.2.2) := hr.1.1.trans h16.1
  have h4 := h16.2
  unfold dgL at h
  refine wd_go ok_A_readDog [] 20 (fun R hR => ?_)
  conv => whnf
  try dsimp only
  rw [h9]
  by_cases hd : dN y.2.2.2.2 < 4
  · rw [if_pos hd] at h
    refine br_t (nI_lt (b := 4) hd (by decide)) ?_
    conv => whnf
    try dsimp only
    refine hR (k_A_readDog_17 (Nat.le_of_ble_eq_true rfl) rfl (s_A_tok ht f6 hy.2.1 f3 hr (fun σ1 k1 x1 => ?_)))
    have o1 := ok_ntk (b := b) hy.2.1 hy.2.2.2.2
    generalize hX1 : ntk b L y.2.2.1 y.2.2.2.2 = X1 at h x1 o1
    refine wd_go ok_A_readDog [] 20 (fun R hR => ?_)
    conv => whnf
    try dsimp only
    cases X1 with
    | inl e =>
      refine hR (k_A_readDog_29 (Nat.le_of_ble_eq_true rfl) rfl (s_A_takeNumberF x1.2.1 ?_))
      refine (k_A_readDog_32 (Nat.le_of_ble_eq_true rfl) rfl (s_addDogF ((congrFun (k1.1 30 (by decide)) 9).trans h9) h4 (fun σ2 p2 e2 => ?_)))
      refine wd_go ok_A_readDog [] 20 (fun R hR => ?_)
      conv => whnf
      try dsimp only
      exact ⟨rfl, h _ (k1.P.tr p2) (cX_l x1 e2)⟩
    | inr y1 =>
      have eD := ntk_D hX1
      refine hR (k_A_readDog_29 (Nat.le_of_ble_eq_true rfl) rfl (s_A_num (k1.t ht) o1.2 x1 (fun σ2 r k2 x2 er => ?_)))
      have hm := nmK_map (b := b) (L := L) (lo := 1) (hi := 20) (g := adD (nI k)) (y := y1)
      have h := fun σ' f x => h σ' f x
      simp only [bnd] at h
      rw [hm] at h
      generalize hX2 : nmK b L 1 20 (fun _ D => D) y1 = X2 at h x2
      have e30 : σ2 30 9 = nI (dN y.2.2.2.2) := by rw [k2.1 30 (by decide), k1.1 30 (by decide)]; exact h9
      cases X2 with
      | inl e =>
        refine (k_A_readDog_32 (Nat.le_of_ble_eq_true rfl) rfl (s_addDogF e30 h4 (fun σ3 p3 e3 => ?_)))
        refine wd_go ok_A_readDog [] 20 (fun R hR => ?_)
        conv => whnf
        try dsimp only
        exact ⟨rfl, h _ ((k1.tr k2).P.tr p3) (cX_l x2 e3)⟩
      | inr y2 =>
        have e2 := nmK_D hX2
        obtain ⟨t2, b2⟩ := nmK_2 hX2
        rw [er t2]
        refine (k_A_readDog_32 (Nat.le_of_ble_eq_true rfl) rfl (s_addDog e30 hd ?_))
        refine wd_go ok_A_readDog [] 20 (fun R hR => ?_)
        conv => whnf
        try dsimp only
        refine ⟨rfl, h _ ((k1.tr k2).P.tr (frP_30 (by decide) (frP_a (by decide) (frP_a (by decide) frP.rf)) rfl)) ⟨x2.1, x2.2.1, x2.2.2.1, x2.2.2.2.1, x2.2.2.2.2.1, ?_⟩⟩
        have r2 : relC σ2 30 y.2.2.2.2 := relC_K (k1.tr k2) hr
        have r3 := relC_adD (k := nI k) (n := y1.2.2.2.1) hy.2.2.2.2 ((k1.tr k2).P.d hz) hd r2
        rw [eD]
        exact r3
  · rw [if_neg hd] at h
    have e4 : dN y.2.2.2.2 = 4 := by omega
    refine br_f (by rw [e4]; decide) ?_
    conv => whnf
    try dsimp only
    refine hR (k_A_readDog_13 (Nat.le_of_ble_eq_true rfl) rfl (s_A_refuse ?_))
    rw [if_pos f3]
    have q := cX_f (c := 5) (n := 5) hx rfl (by decide)
    generalize wd_uc σ 4 (upd (upd (σ 4) 3 5) 4 (σ 4 8)) = σ1 at q
    refine wd_go ok_A_readDog [] 20 (fun R hR => ?_)
    conv => whnf
    try dsimp only
    refine hR (k_A_readDog_17 (Nat.le_of_ble_eq_true rfl) rfl (s_A_readTokenF q.2.2.1 ?_))
    refine wd_go ok_A_readDog [] 20 (fun R hR => ?_)
    conv => whnf
    try dsimp only
    refine hR (k_A_readDog_29 (Nat.le_of_ble_eq_true rfl) rfl (s_A_takeNumberF q.2.2.1 ?_))
    refine (k_A_readDog_32 (Nat.le_of_ble_eq_true rfl) rfl (s_addDogF ((congrFun (q.1.1 30 (by decide)) 9).trans h9) h4 (fun σ2 p2 e2 => ?_)))
    refine wd_go ok_A_readDog [] 20 (fun R hR => ?_)
    conv => whnf
    try dsimp only
    exact ⟨rfl, h _ (q.1.P.tr p2) (cX_l q.2 e2)⟩
theorem s_A_readJam {σ : wd_S} {y : pY} (ht : tpC σ b L) (hy : okY L y) (hx : cX σ (.inr y)) (h : ∀ σ', frP σ σ' → cX σ' (jmL b L y) → Q none σ' τ) : Run wC G M_A_readJam 0 [some (.ref 4), none] [] σ τ Q := by
  obtain ⟨f3, f6, f7, f8, f9, hr⟩ := id hx
  have hw := hy.2.2.2.2.1
  have h43 := hw.2.2.1
  have h11 : σ 30 11 = nI (jN y.2.2.2.2) := hr.1.2.2.1.trans h43.1
  have h4 := h43.2
  have fin : ∀ {σ1 : wd_S} {e : Nat × Nat} {r : Int32}, cX σ1 (.inl e) → σ1 30 11 = nI (jN y.2.2.2.2) → (∀ σ', frP σ1 σ' → cX σ' (.inl e) → Q none σ' τ) → Run wC G M_A_readJam 28 [some (.ref 4), some (.int r)] [] σ1 τ Q := by
    intro σ1 e r q h9 h
    refine wd_go ok_A_readJam [] 20 (fun R hR => ?_)
    conv => whnf
    try dsimp only
    refine hR (k_A_readJam_37 (Nat.le_of_ble_eq_true rfl) rfl (s_A_takeNumberF q.2.1 ?_))
    refine (k_A_readJam_40 (Nat.le_of_ble_eq_true rfl) rfl (s_addJamF h9 h4 (fun σ2 p2 e2 => ?_)))
    refine wd_go ok_A_readJam [] 20 (fun R hR => ?_)
    conv => whnf
    try dsimp only
    exact ⟨rfl, h _ p2 (cX_l q e2)⟩
  unfold jmL at h
  refine wd_go ok_A_readJam [] 20 (fun R hR => ?_)
  conv => whnf
  try dsimp only
  rw [h11]
  by_cases hd : jN y.2.2.2.2 < 4
  · rw [if_pos hd] at h
    refine br_t (nI_lt (b := 4) hd (by decide)) ?_
    conv => whnf
    try dsimp only
    refine hR (k_A_readJam_17 (Nat.le_of_ble_eq_true rfl) rfl (s_A_tok ht f6 hy.2.1 f3 hr (fun σ1 k1 x1 => ?_)))
    have o1 := ok_ntk (b := b) hy.2.1 hy.2.2.2.2
    generalize hX1 : ntk b L y.2.2.1 y.2.2.2.2 = X1 at h x1 o1
    refine wd_go ok_A_readJam [28] 20 (fun R hR => ?_)
    conv => whnf
    try dsimp only
    cases X1 with
    | inl e =>
      refine hR (k_A_readJam_24 (Nat.le_of_ble_eq_true rfl) rfl (s_A_takeNumberF x1.2.1 ?_))
      refine wd_go ok_A_readJam [28] 20 (fun R hR => ?_)
      conv => whnf
      try dsimp only
      exact hR (fin x1 ((congrFun (k1.1 30 (by decide)) 11).trans h11) (fun σ' f' x' => h σ' (k1.P.tr f') x'))
    | inr y1 =>
      have eD := ntk_D hX1
      refine hR (k_A_readJam_24 (Nat.le_of_ble_eq_true rfl) rfl (s_A_num (k1.t ht) o1.2 x1 (fun σ2 r k2 x2 er => ?_)))
      simp only [bnd] at h
      have o2 : okX L y1.2.2.1 (nmK b L 0 99 (fun _ D => D) y1) := ok_nmK o1.2 (fun _ => o1.2.2.2.2.2)
      generalize hX2 : nmK b L 0 99 (fun _ D => D) y1 = X2 at h x2 o2
      have e30 : σ2 30 11 = nI (jN y.2.2.2.2) := by rw [k2.1 30 (by decide), k1.1 30 (by decide)]; exact h11
      refine wd_go ok_A_readJam [28] 20 (fun R hR => ?_)
      conv => whnf
      try dsimp only
      cases X2 with
      | inl e => exact hR (fin x2 e30 (fun σ' f' x' => h σ' ((k1.tr k2).P.tr f') x'))
      | inr y2 =>
        have eD2 := nmK_D hX2
        obtain ⟨t2, b2⟩ := nmK_2 hX2
        rw [er t2]
        refine hR ?_
        refine wd_go ok_A_readJam [] 20 (fun R hR => ?_)
        conv => whnf
        try dsimp only
        refine hR (k_A_readJam_37 (Nat.le_of_ble_eq_true rfl) rfl (s_A_num ((k1.tr k2).t ht) o2.2 x2 (fun σ3 r3 k3 x3 er3 => ?_)))
        have hm := nmK_map (b := b) (L := L) (lo := 1) (hi := 40) (g := adJ y1.2.2.2.1) (y := y2)
        simp only [hm] at h
        generalize hX3 : nmK b L 1 40 (fun _ D => D) y2 = X3 at h x3
        have e31 : σ3 30 11 = nI (jN y.2.2.2.2) := by rw [k3.1 30 (by decide)]; exact e30
        have k13 := (k1.tr k2).tr k3
        cases X3 with
        | inl e =>
          refine (k_A_readJam_40 (Nat.le_of_ble_eq_true rfl) rfl (s_addJamF e31 h4 (fun σ4 p4 e4 => ?_)))
          refine wd_go ok_A_readJam [] 20 (fun R hR => ?_)
          conv => whnf
          try dsimp only
          exact ⟨rfl, h _ (k13.P.tr p4) (cX_l x3 e4)⟩
        | inr y3 =>
          obtain ⟨t3, b3⟩ := nmK_2 hX3
          rw [er3 t3]
          refine (k_A_readJam_40 (Nat.le_of_ble_eq_true rfl) rfl (s_addJam_30 e31 hd ?_))
          refine wd_go ok_A_readJam [] 20 (fun R hR => ?_)
          conv => whnf
          try dsimp only
          refine ⟨rfl, h _ (k13.P.tr (frP_30 (by decide) (frP_a (by decide) (frP_a (by decide) frP.rf)) rfl)) ⟨x3.1, x3.2.1, x3.2.2.1, x3.2.2.2.1, x3.2.2.2.2.1, ?_⟩⟩
          have r3 := relC_adJ (t := y1.2.2.2.1) (n := y2.2.2.2.1) hw hd (relC_K k13 hr)
          rw [eD2, eD]
          exact r3
  · rw [if_neg hd] at h
    have e4 : jN y.2.2.2.2 = 4 := by omega
    refine br_f (by rw [e4]; decide) ?_
    conv => whnf
    try dsimp only
    refine hR (k_A_readJam_13 (Nat.le_of_ble_eq_true rfl) rfl (s_A_refuse ?_))
    rw [if_pos f3]
    have q := cX_f (c := 5) (n := 5) hx rfl (by decide)
    generalize wd_uc σ 4 (upd (upd (σ 4) 3 5) 4 (σ 4 8)) = σ1 at q
    refine wd_go ok_A_readJam [] 20 (fun R hR => ?_)
    conv => whnf
    try dsimp only
    refine hR (k_A_readJam_17 (Nat.le_of_ble_eq_true rfl) rfl (s_A_readTokenF q.2.2.1 ?_))
    refine wd_go ok_A_readJam [] 20 (fun R hR => ?_)
    conv => whnf
    try dsimp only
    refine hR (k_A_readJam_24 (Nat.le_of_ble_eq_true rfl) rfl (s_A_takeNumberF q.2.2.1 ?_))
    refine wd_go ok_A_readJam [28] 20 (fun R hR => ?_)
    conv => whnf
    try dsimp only
    exact hR (fin q.2 ((congrFun (q.1.1 30 (by decide)) 11).trans h11) (fun σ' f' x' => h σ' (q.1.P.tr f') x'))
/-- a fault is there: the row of signs ends -/
theorem l_A_signsF {σ : wd_S} {x : Int32} (hf : ¬ σ 4 3 = 0) (h : Q none σ τ) : Run wC G M_A_readSigns 35 [some (.ref 4), some (.int x)] [] σ τ Q := by
  refine wd_go ok_A_readSigns [] 20 (fun R hR => ?_)
  conv => whnf
  try dsimp only
  refine ⟨fun hb => ?_, fun hb => ?_⟩
  · conv => whnf
    try dsimp only
    exact ⟨rfl, h⟩
  · conv => whnf
    try dsimp only
    refine nb_t hf ?_
    conv => whnf
    try dsimp only
    exact ⟨rfl, h⟩
theorem l_A_signs {σ0 : wd_S} {X : pX} (ht0 : tpC σ0 b L) (h : ∀ σ', frP σ0 σ' → cX σ' X → Q none σ' τ) : ∀ (m i : Nat) (y : pY) (σ : wd_S), 17 = i + m → sN y.2.2.2.2 = i → okY L y → cX σ (.inr y) → frP σ0 σ → sgF b L m y = X → Run wC G M_A_readSigns 35 [some (.ref 4), some (.int (nI i))] [] σ τ Q := by
  intro m
  induction m with
  | zero =>
    intro i y σ hi hs hy hx hp hX
    have := hy.2.2.2.2.1.2.1.2
    omega
  | succ m ih =>
    intro i y σ hi hs hy hx hp hX
    obtain ⟨f3, f6, f7, f8, f9, hr⟩ := id hx
    have hw := hy.2.2.2.2.1
    have h33 := hw.2.1
    have h16 := h33.2
    have h10 : σ 30 10 = nI (sN y.2.2.2.2) := hr.1.2.1.trans h33.1
    have hy3 := hy.2.2.2.1
    rw [sgF] at hX
    refine wd_go ok_A_readSigns [] 30 (fun R hR => ?_)
    conv => whnf
    try dsimp only
    refine br_f (show ¬ (16 : Int32) < nI i from nI_nlt (a := 16) (by omega) (by decide)) ?_
    conv => whnf
    try dsimp only
    refine nb_f f3 ?_
    conv => whnf
    try dsimp only
    rw [f7]
    by_cases h2 : y.2.1 = 2
    · rw [if_pos h2] at hX
      refine nb_f (by rw [h2]; rfl) ?_
      conv => whnf
      try dsimp only
      by_cases h15 : i = 16
      · rw [if_neg (by omega)] at hX
        refine nb_f (by rw [h15]; rfl) ?_
        conv => whnf
        try dsimp only
        refine hR (k_A_readSigns_64 (Nat.le_of_ble_eq_true rfl) rfl (s_A_refuse ?_))
        rw [if_pos f3]
        have q := cX_f (c := 5) (n := 5) hx rfl (by decide)
        generalize wd_uc σ 4 (upd (upd (σ 4) 3 5) 4 (σ 4 8)) = σ1 at q
        refine wd_go ok_A_readSigns [] 20 (fun R hR => ?_)
        conv => whnf
        try dsimp only
        refine hR (k_A_readSigns_75 (Nat.le_of_ble_eq_true rfl) rfl (s_A_takeNumberF q.2.2.1 ?_))
        refine (k_A_readSigns_78 (Nat.le_of_ble_eq_true rfl) rfl (s_addSignF ((congrFun (q.1.1 30 (by decide)) 10).trans h10) h16 (fun σ2 p2 e2 => ?_)))
        refine wd_go ok_A_readSigns [35] 20 (fun R hR => ?_)
        conv => whnf
        try dsimp only
        have x2 := cX_l q.2 e2
        exact hR (l_A_signsF x2.2.1 (h _ (hp.tr (q.1.P.tr p2)) (by rw [← hX]; exact x2)))
      · rw [if_pos (by omega)] at hX
        refine nb_t (fun z => h15 ((nI_eq (b := 16) (by omega) (by decide)).mp z)) ?_
        conv => whnf
        try dsimp only
        refine hR (k_A_readSigns_75 (Nat.le_of_ble_eq_true rfl) rfl (s_A_num (hp.t ht0) hy hx (fun σ2 r k2 x2 er => ?_)))
        rw [nmK_map] at hX
        have hm : nmK b L 0 15 adS y = _ := nmK_map
        have o2 : okX L y.2.2.1 (nmK b L 0 15 adS y) := ok_nmK hy (fun hv => adS_ok hy.2.2.2.2 (by omega) hv)
        rw [hm] at o2
        generalize hX2 : nmK b L 0 15 (fun _ D => D) y = X2 at hX x2 o2
        have e30 : σ2 30 10 = nI (sN y.2.2.2.2) := by rw [k2.1 30 (by decide)]; exact h10
        cases X2 with
        | inl e =>
          refine (k_A_readSigns_78 (Nat.le_of_ble_eq_true rfl) rfl (s_addSignF e30 h16 (fun σ3 p3 e3 => ?_)))
          refine wd_go ok_A_readSigns [35] 20 (fun R hR => ?_)
          conv => whnf
          try dsimp only
          have x3 := cX_l x2 e3
          refine hR (l_A_signsF x3.2.1 (h _ (hp.tr (k2.P.tr p3)) ?_))
          rw [← hX]
          exact x3
        | inr y2 =>
          rw [er h2]
          refine (k_A_readSigns_78 (Nat.le_of_ble_eq_true rfl) rfl (s_addSign_30 e30 (by omega) ?_))
          refine wd_go ok_A_readSigns [35] 20 (fun R hR => ?_)
          conv => whnf
          try dsimp only
          refine hR ?_
          have e1 : nI i + 1 = nI (i + 1) := nI_1 i
          rw [e1]
          refine ih (i + 1) (y2.1, y2.2.1, y2.2.2.1, y2.2.2.2.1, adS y.2.2.2.1 y.2.2.2.2) _ (by omega) ?_ o2.2 ⟨x2.1, x2.2.1, x2.2.2.1, x2.2.2.2.1, x2.2.2.2.2.1, ?_⟩ (hp.tr (k2.P.tr (frP_30 (by decide) (frP_a (by decide) frP.rf) rfl))) hX
          · show sN (adS y.2.2.2.1 y.2.2.2.2) = i + 1
            rw [← hs]
            exact ckN (by omega)
          · exact relC_adS hw (by omega) (relC_K k2 hr)
    · rw [if_neg h2] at hX
      refine nb_t (fun z => h2 ((nI_eq (b := 2) (by omega) (by decide)).mp z)) ?_
      conv => whnf
      try dsimp only
      refine ⟨rfl, h _ hp ?_⟩
      rw [← hX]
      exact hx
theorem s_A_readSigns {σ : wd_S} {y : pY} (ht : tpC σ b L) (hy : okY L y) (hx : cX σ (.inr y)) (h : ∀ σ', frP σ σ' → cX σ' (sgL b L y) → Q none σ' τ) : Run wC G M_A_readSigns 0 [some (.ref 4), none] [] σ τ Q := by
  obtain ⟨f3, f6, f7, f8, f9, hr⟩ := id hx
  have hw := hy.2.2.2.2.1
  have h33 := hw.2.1
  have h10 : σ 30 10 = nI (sN y.2.2.2.2) := hr.1.2.1.trans h33.1
  have h16 := h33.2
  unfold sgL at h
  refine wd_go ok_A_readSigns [] 20 (fun R hR => ?_)
  conv => whnf
  try dsimp only
  rw [h10]
  by_cases hd : sN y.2.2.2.2 = 0
  · rw [if_pos hd] at h
    refine br_t (by rw [hd]; decide) ?_
    conv => whnf
    try dsimp only
    refine hR (k_A_readSigns_16 (Nat.le_of_ble_eq_true rfl) rfl (s_A_tok ht f6 hy.2.1 f3 hr (fun σ1 k1 x1 => ?_)))
    have o1 := ok_ntk (b := b) hy.2.1 hy.2.2.2.2
    generalize hX1 : ntk b L y.2.2.1 y.2.2.2.2 = X1 at h x1 o1
    refine wd_go ok_A_readSigns [] 20 (fun R hR => ?_)
    conv => whnf
    try dsimp only
    cases X1 with
    | inl e =>
      refine hR (k_A_readSigns_27 (Nat.le_of_ble_eq_true rfl) rfl (s_A_takeNumberF x1.2.1 ?_))
      refine (k_A_readSigns_30 (Nat.le_of_ble_eq_true rfl) rfl (s_addSignF ((congrFun (k1.1 30 (by decide)) 10).trans h10) h16 (fun σ2 p2 e2 => ?_)))
      refine wd_go ok_A_readSigns [35] 20 (fun R hR => ?_)
      conv => whnf
      try dsimp only
      have x2 := cX_l x1 e2
      exact hR (l_A_signsF x2.2.1 (h _ (k1.P.tr p2) x2))
    | inr y1 =>
      have eD := ntk_D hX1
      have s1 : sN y1.2.2.2.2 = 0 := by rw [eD]; exact hd
      refine hR (k_A_readSigns_27 (Nat.le_of_ble_eq_true rfl) rfl (s_A_num (k1.t ht) o1.2 x1 (fun σ2 r k2 x2 er => ?_)))
      simp only [bnd] at h
      have hm : nmK b L 0 15 adS y1 = _ := nmK_map
      have o2 : okX L y1.2.2.1 (nmK b L 0 15 adS y1) := ok_nmK o1.2 (fun hv => adS_ok o1.2.2.2.2.2 (by omega) hv)
      rw [hm] at o2
      rw [hm] at h
      generalize hX2 : nmK b L 0 15 (fun _ D => D) y1 = X2 at h x2 o2
      have e30 : σ2 30 10 = nI (sN y1.2.2.2.2) := by rw [k2.1 30 (by decide), k1.1 30 (by decide), eD]; exact h10
      cases X2 with
      | inl e =>
        refine (k_A_readSigns_30 (Nat.le_of_ble_eq_true rfl) rfl (s_addSignF e30 (by omega) (fun σ3 p3 e3 => ?_)))
        refine wd_go ok_A_readSigns [35] 20 (fun R hR => ?_)
        conv => whnf
        try dsimp only
        have x3 := cX_l x2 e3
        exact hR (l_A_signsF x3.2.1 (h _ ((k1.tr k2).P.tr p3) x3))
      | inr y2 =>
        obtain ⟨t2, b2⟩ := nmK_2 hX2
        rw [er t2]
        refine (k_A_readSigns_30 (Nat.le_of_ble_eq_true rfl) rfl (s_addSign_30 e30 (by omega) ?_))
        refine wd_go ok_A_readSigns [35] 20 (fun R hR => ?_)
        conv => whnf
        try dsimp only
        refine hR ?_
        refine l_A_signs (σ0 := σ) ht h 16 1 (y2.1, y2.2.1, y2.2.2.1, y2.2.2.2.1, adS y1.2.2.2.1 y1.2.2.2.2) _ (by omega) ?_ o2.2 ⟨x2.1, x2.2.1, x2.2.2.1, x2.2.2.2.1, x2.2.2.2.2.1, ?_⟩ ((k1.tr k2).P.tr (frP_30 (by decide) (frP_a (by decide) frP.rf) rfl)) rfl
        · show sN (adS y1.2.2.2.1 y1.2.2.2.2) = 1
          rw [show (1 : Nat) = sN y1.2.2.2.2 + 1 by omega]
          exact ckN (by omega)
        · refine relC_adS o1.2.2.2.2.2.1 (by omega) ?_
          rw [eD]
          exact relC_K (k1.tr k2) hr
  · rw [if_neg hd] at h
    refine br_f (show ¬ nI (sN y.2.2.2.2) ≤ 0 from nI_ge (a := 0) (by omega) (by omega)) ?_
    conv => whnf
    try dsimp only
    refine hR (k_A_readSigns_12 (Nat.le_of_ble_eq_true rfl) rfl (s_A_refuse ?_))
    rw [if_pos f3]
    have q := cX_f (c := 4) (n := 4) hx rfl (by decide)
    generalize wd_uc σ 4 (upd (upd (σ 4) 3 4) 4 (σ 4 8)) = σ1 at q
    refine wd_go ok_A_readSigns [] 20 (fun R hR => ?_)
    conv => whnf
    try dsimp only
    refine hR (k_A_readSigns_16 (Nat.le_of_ble_eq_true rfl) rfl (s_A_readTokenF q.2.2.1 ?_))
    refine wd_go ok_A_readSigns [] 20 (fun R hR => ?_)
    conv => whnf
    try dsimp only
    refine hR (k_A_readSigns_27 (Nat.le_of_ble_eq_true rfl) rfl (s_A_takeNumberF q.2.2.1 ?_))
    refine (k_A_readSigns_30 (Nat.le_of_ble_eq_true rfl) rfl (s_addSignF ((congrFun (q.1.1 30 (by decide)) 10).trans h10) h16 (fun σ2 p2 e2 => ?_)))
    refine wd_go ok_A_readSigns [35] 20 (fun R hR => ?_)
    conv => whnf
    try dsimp only
    have x2 := cX_l q.2 e2
    exact hR (l_A_signsF x2.2.1 (h _ (q.1.P.tr p2) x2))
end C
