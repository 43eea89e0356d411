/-! THE TEXT: a line of the reference -/
def frL (σ σ' : wd_S) : Prop := (∀ c, c ≠ 0 → c ≠ 4 → σ' c = σ c) ∧ ∀ k, (k < 4 ∨ k = 5 ∨ k = 6 ∨ 12 < k) → σ' 0 k = σ 0 k
theorem frL.rf {σ : wd_S} : frL σ σ := ⟨fun _ _ _ => rfl, fun _ _ => rfl⟩
theorem frL.tr {a b c : wd_S} (h : frL a b) (g : frL b c) : frL a c := ⟨fun q hq hr => (g.1 q hq hr).trans (h.1 q hq hr), fun k hk => (g.2 k hk).trans (h.2 k hk)⟩
theorem frQ.L {a b : wd_S} (h : frQ a b) : frL a b := ⟨h.1, fun k hk => h.2 k (by omega)⟩
theorem frL.t {a c : wd_S} {b : Nat → Nat} {L : Nat} (h : frL a c) (t : tpR a b L) : tpR c b L := ⟨(h.2 6 (by omega)).trans t.1, t.2.1, fun i hi => by rw [h.1 5 (by decide) (by decide)]; exact t.2.2 i hi⟩
theorem frL_4 {σ : wd_S} {x : Int32} : frL σ (wd_uc σ 0 (upd (σ 0) 4 x)) := ⟨fun q hq _ => uc_n hq, fun k hk => by rw [uc_s, upd_n (by omega)]⟩
theorem rT_4 {σ : wd_S} {x : Int32} {X : pX} (h : rT σ X) : rT (wd_uc σ 0 (upd (σ 0) 4 x)) X := by
  cases X with
  | inl e => exact h
  | inr y => exact h
theorem rX_4 {σ : wd_S} {x : Int32} {X : pX} (h : rX σ X) : rX (wd_uc σ 0 (upd (σ 0) 4 x)) X := by
  refine ⟨rT_4 h.1, ?_⟩
  cases X with
  | inl e => trivial
  | inr y => exact h.2
theorem sm_D {b : Nat → Nat} {L : Nat} {y z : pY} (h : smL b L y = .inr z) : z.2.2.2.2 = y.2.2.2.2 := by
  unfold smL at h
  split at h
  · exact ntk_D h
  · cases h
theorem adS_n {v : Int32} {D : wRow} (h : sN D < 16) : sN (adS v D) = sN D + 1 := ckN (by omega)
theorem sgF_n {b : Nat → Nat} {L : Nat} : ∀ (m : Nat) {y z : pY}, sgF b L m y = .inr z → sN y.2.2.2.2 ≤ sN z.2.2.2.2
  | 0, y, z, h => by
    rw [sgF] at h
    cases h
    exact Nat.le_refl _
  | m + 1, y, z, h => by
    rw [sgF] at h
    split at h
    · split at h
      · rename_i hs
        generalize hx : nmK b L 0 15 adS y = x at h
        cases x with
        | inl e => cases h
        | inr y' =>
          have e := nmK_D hx
          have := sgF_n m (show sgF b L m y' = .inr z from h)
          rw [e, adS_n hs] at this
          omega
      · cases h
    · cases h
      exact Nat.le_refl _
section R
variable {G : wd_G} {τ : wd_T} {Q : wd_P} {b : Nat → Nat} {L : Nat} {σ : wd_S}
theorem rl_F129 {k : Int32} (hp : 0 < σ 0 11) (h : Q none σ τ) : Run wR G M_R_readLine 129 [some (.ref 0), some (.int k)] [] σ τ Q := by
  refine wd_go ok_R_readLine [] 20 (fun R hR => ?_)
  conv => whnf
  try dsimp only
  refine hR (k_R_readLine_130 (Nat.le_of_ble_eq_true rfl) rfl (s_R_readsF hp ?_))
  refine wd_go ok_R_readLine [] 20 (fun R hR => ?_)
  conv => whnf
  try dsimp only
  refine br_f (Int32.not_le.mpr hp) ?_
  conv => whnf
  try dsimp only
  exact ⟨rfl, h⟩
theorem rl_F108 {k : Int32} (hp : 0 < σ 0 11) (h : ∀ x, Q none (wd_uc σ 0 (upd (σ 0) 4 x)) τ) : Run wR G M_R_readLine 108 [some (.ref 0), some (.int k)] [] σ τ Q := by
  refine wd_go ok_R_readLine [129] 20 (fun R hR => ?_)
  conv => whnf
  try dsimp only
  refine ⟨fun h4 => ?_, fun h4 => ?_⟩
  · conv => whnf
    try dsimp only
    refine ⟨Or.inr rfl, ?_⟩
    conv => whnf
    try dsimp only
    exact hR (rl_F129 hp (h 1))
  · conv => whnf
    try dsimp only
    refine ⟨fun h5 => ?_, fun h5 => ?_⟩
    · conv => whnf
      try dsimp only
      refine ⟨Or.inl rfl, ?_⟩
      conv => whnf
      try dsimp only
      exact hR (rl_F129 hp (h 0))
    · conv => whnf
      try dsimp only
      refine ⟨Or.inr rfl, ?_⟩
      conv => whnf
      try dsimp only
      exact hR (rl_F129 hp (h 1))
theorem rl_F86 {k : Int32} (hf : ¬ σ 0 11 = 0) (hp : 0 < σ 0 11) (h : ∀ x, Q none (wd_uc σ 0 (upd (σ 0) 4 x)) τ) : Run wR G M_R_readLine 86 [some (.ref 0), some (.int k)] [] σ τ Q := by
  refine wd_go ok_R_readLine [] 20 (fun R hR => ?_)
  conv => whnf
  try dsimp only
  refine ⟨fun h4 => ?_, fun h4 => ?_⟩
  · conv => whnf
    try dsimp only
    refine hR (k_R_readLine_105 (Nat.le_of_ble_eq_true rfl) rfl (s_R_requires (g := true) ?_))
    rw [if_pos (Or.inl rfl)]
    exact rl_F108 hp h
  · conv => whnf
    try dsimp only
    refine ⟨fun h5 => ?_, fun h5 => ?_⟩
    · conv => whnf
      try dsimp only
      refine hR (k_R_readLine_105 (Nat.le_of_ble_eq_true rfl) rfl (s_R_requires (g := false) ?_))
      rw [if_pos (Or.inr hf)]
      exact rl_F108 hp h
    · conv => whnf
      try dsimp only
      refine hR (k_R_readLine_105 (Nat.le_of_ble_eq_true rfl) rfl (s_R_requires (g := true) ?_))
      rw [if_pos (Or.inl rfl)]
      exact rl_F108 hp h
theorem rl_F60 {k : Int32} (hf : ¬ σ 0 11 = 0) (hp : 0 < σ 0 11) (h : ∀ x, Q none (wd_uc σ 0 (upd (σ 0) 4 x)) τ) : Run wR G M_R_readLine 60 [some (.ref 0), some (.int k)] [] σ τ Q := by
  refine wd_go ok_R_readLine [] 20 (fun R hR => ?_)
  conv => whnf
  try dsimp only
  refine ⟨fun h4 => ?_, fun h4 => ?_⟩
  · conv => whnf
    try dsimp only
    refine hR (k_R_readLine_83 (Nat.le_of_ble_eq_true rfl) rfl (s_R_requires (g := true) ?_))
    rw [if_pos (Or.inl rfl)]
    exact rl_F86 hf hp h
  · conv => whnf
    try dsimp only
    refine ⟨vp_in_nI (by first | decide | omega) (by first | decide | omega), ?_⟩
    conv => whnf
    try dsimp only
    refine ⟨fun h5 => ?_, fun h5 => ?_⟩
    · conv => whnf
      try dsimp only
      refine hR (k_R_readLine_83 (Nat.le_of_ble_eq_true rfl) rfl (s_R_requires (g := false) ?_))
      rw [if_pos (Or.inr hf)]
      exact rl_F86 hf hp h
    · conv => whnf
      try dsimp only
      refine hR (k_R_readLine_83 (Nat.le_of_ble_eq_true rfl) rfl (s_R_requires (g := true) ?_))
      rw [if_pos (Or.inl rfl)]
      exact rl_F86 hf hp h
theorem rl_F34 {k : Int32} (hf : ¬ σ 0 11 = 0) (hp : 0 < σ 0 11) (h : ∀ x, Q none (wd_uc σ 0 (upd (σ 0) 4 x)) τ) : Run wR G M_R_readLine 34 [some (.ref 0), some (.int k)] [] σ τ Q := by
  refine wd_go ok_R_readLine [] 20 (fun R hR => ?_)
  conv => whnf
  try dsimp only
  refine ⟨fun h4 => ?_, fun h4 => ?_⟩
  · conv => whnf
    try dsimp only
    refine hR (k_R_readLine_57 (Nat.le_of_ble_eq_true rfl) rfl (s_R_requires (g := true) ?_))
    rw [if_pos (Or.inl rfl)]
    exact rl_F60 hf hp h
  · conv => whnf
    try dsimp only
    refine ⟨vp_in_nI (by first | decide | omega) (by first | decide | omega), ?_⟩
    conv => whnf
    try dsimp only
    refine ⟨fun h5 => ?_, fun h5 => ?_⟩
    · conv => whnf
      try dsimp only
      refine hR (k_R_readLine_57 (Nat.le_of_ble_eq_true rfl) rfl (s_R_requires (g := false) ?_))
      rw [if_pos (Or.inr hf)]
      exact rl_F60 hf hp h
    · conv => whnf
      try dsimp only
      refine hR (k_R_readLine_57 (Nat.le_of_ble_eq_true rfl) rfl (s_R_requires (g := true) ?_))
      rw [if_pos (Or.inl rfl)]
      exact rl_F60 hf hp h
/-! no fault -/
theorem rl_146 {k : Int32} {x : pX} (ht : tpR σ b L) (hx : rX σ x) (ho : okX L 0 x) (h : ∀ σ', frQ σ σ' → rX σ' (bnd x (smL b L)) → Q none σ' τ) : Run wR G M_R_readLine 146 [some (.ref 0), some (.int k)] [] σ τ Q := by
  cases x with
  | inl e =>
    refine wd_go ok_R_readLine [] 20 (fun R hR => ?_)
    conv => whnf
    try dsimp only
    refine nb_t (rT_ne hx.1) ?_
    conv => whnf
    try dsimp only
    refine hR (k_R_readLine_172 (Nat.le_of_ble_eq_true rfl) rfl (s_R_readsF hx.1.2.1 ?_))
    refine wd_go ok_R_readLine [] 20 (fun R hR => ?_)
    conv => whnf
    try dsimp only
    exact ⟨rfl, h σ frQ.rf hx⟩
  | inr y =>
    have h3 := ho.2.2.2.2.1
    have h := fun σ' f => h σ' f
    simp only [bnd, smL] at h
    refine wd_go ok_R_readLine [] 20 (fun R hR => ?_)
    conv => whnf
    try dsimp only
    refine nb_f hx.1.1 ?_
    conv => whnf
    try dsimp only
    rw [hx.1.2.2.2.1]
    by_cases e3 : y.2.1 = 3
    · rw [if_pos e3] at h
      refine nb_f (by rw [e3]; rfl) ?_
      conv => whnf
      try dsimp only
      refine hR (k_R_readLine_168 (Nat.le_of_ble_eq_true rfl) rfl (s_R_requires (g := true) ?_))
      rw [if_pos (Or.inl rfl)]
      refine wd_go ok_R_readLine [] 20 (fun R hR => ?_)
      conv => whnf
      try dsimp only
      refine hR (k_R_readLine_172 (Nat.le_of_ble_eq_true rfl) rfl (s_R_tok (D := y.2.2.2.2) ht hx.1.2.1 ho.2.2.1 hx.1.1 (fun σ' j t => ?_)))
      refine wd_go ok_R_readLine [] 20 (fun R hR => ?_)
      conv => whnf
      try dsimp only
      refine ⟨rfl, h σ' j.Q (ntk_rX t ?_)⟩
      rw [j.1 4 (by decide)]
      exact hx.2
    · rw [if_neg e3] at h
      refine nb_t (fun z => e3 ((nI_eq (b := 3) (by omega) (by decide)).mp z)) ?_
      conv => whnf
      try dsimp only
      refine hR (k_R_readLine_168 (Nat.le_of_ble_eq_true rfl) rfl (s_R_requires (g := false) ?_))
      rw [if_neg (fun z => z.elim (fun y => by cases y) (fun y => y hx.1.1))]
      have q := rT_f (c := 2) (n := 2) hx.1 rfl (by decide)
      generalize wd_uc σ 0 (upd (upd (σ 0) 11 2) 12 (σ 0 8)) = σ1 at q
      refine wd_go ok_R_readLine [] 20 (fun R hR => ?_)
      conv => whnf
      try dsimp only
      refine hR (k_R_readLine_172 (Nat.le_of_ble_eq_true rfl) rfl (s_R_readsF q.2.2.1 ?_))
      refine wd_go ok_R_readLine [] 20 (fun R hR => ?_)
      conv => whnf
      try dsimp only
      exact ⟨rfl, h σ1 q.1.Q (rX_l q.2 rfl)⟩
theorem rl_129 {k : Int32} {y : pY} {f : pY → pX} (ht : tpR σ b L) (hy : okY L y) (hx : rX σ (.inr y)) (hok : ∀ y1, okY L y1 → y1.2.2.2.2 = y.2.2.2.2 → okX L 0 (f y1))
    (hl : ∀ (σ1 : wd_S) (y1 : pY) (Q1 : wd_P), tpR σ1 b L → okY L y1 → y1.2.2.2.2 = y.2.2.2.2 → rX σ1 (.inr y1) → (∀ σ', frQ σ1 σ' → rX σ' (f y1) → Q1 none σ' τ) → Run wR G M_R_readLineOf 0 [some (.ref 0), some (.int k)] [] σ1 τ Q1)
    (h : ∀ σ', frQ σ σ' → rX σ' (bnd (bnd (ntk b L y.2.2.1 y.2.2.2.2) f) (smL b L)) → Q none σ' τ) : Run wR G M_R_readLine 129 [some (.ref 0), some (.int k)] [] σ τ Q := by
  have hp := hx.1
  refine wd_go ok_R_readLine [] 20 (fun R hR => ?_)
  conv => whnf
  try dsimp only
  refine hR (k_R_readLine_130 (Nat.le_of_ble_eq_true rfl) rfl (s_R_tok (D := y.2.2.2.2) ht hp.2.1 hy.2.1 hp.1 (fun σ1 j t => ?_)))
  have x1 : rX σ1 (ntk b L y.2.2.1 y.2.2.2.2) := ntk_rX t (by rw [j.1 4 (by decide)]; exact hx.2)
  have o1 := ok_ntk (b := b) hy.2.1 hy.2.2.2.2
  generalize hX1 : ntk b L y.2.2.1 y.2.2.2.2 = X1 at h x1 o1
  cases X1 with
  | inl e =>
    refine wd_go ok_R_readLine [] 20 (fun R hR => ?_)
    conv => whnf
    try dsimp only
    refine br_f (Int32.not_le.mpr x1.1.2.1) ?_
    conv => whnf
    try dsimp only
    exact ⟨rfl, h σ1 j.Q x1⟩
  | inr y1 =>
    refine wd_go ok_R_readLine [] 20 (fun R hR => ?_)
    conv => whnf
    try dsimp only
    refine br_t (by rw [x1.1.1]; decide) ?_
    conv => whnf
    try dsimp only
    have eD := ntk_D hX1
    refine hR (k_R_readLine_143 (Nat.le_of_ble_eq_true rfl) rfl (hl σ1 y1 _ (j.t ht) o1.2 eD x1 (fun σ2 f2 x2 => ?_)))
    exact rl_146 (f2.t (j.t ht)) x2 (hok y1 o1.2 eD) (fun σ' f3 x3 => h σ' (j.Q.tr (f2.tr f3)) x3)
theorem rl_108 {k : Int32} (hk : ¬ k = 4) (hb : wd_bit (σ 0 4)) (h : Run wR G M_R_readLine 129 [some (.ref 0), some (.int k)] [] σ τ Q) : Run wR G M_R_readLine 108 [some (.ref 0), some (.int k)] [] σ τ Q := by
  refine wd_go ok_R_readLine [129] 20 (fun R hR => ?_)
  conv => whnf
  try dsimp only
  rcases hb with hb | hb
  · refine nb_f hb ?_
    conv => whnf
    try dsimp only
    refine nb_t hk ?_
    conv => whnf
    try dsimp only
    refine ⟨Or.inl rfl, ?_⟩
    conv => whnf
    try dsimp only
    rw [← hb, upd_self, uc_self]
    exact hR h
  · refine nb_t (by rw [hb]; decide) ?_
    conv => whnf
    try dsimp only
    refine ⟨Or.inr rfl, ?_⟩
    conv => whnf
    try dsimp only
    rw [← hb, upd_self, uc_self]
    exact hR h
theorem rl_86 {k : Int32} (hk : ¬ k = 4) (hb : wd_bit (σ 0 4)) (h : Run wR G M_R_readLine 129 [some (.ref 0), some (.int k)] [] σ τ Q) : Run wR G M_R_readLine 86 [some (.ref 0), some (.int k)] [] σ τ Q := by
  refine wd_go ok_R_readLine [] 20 (fun R hR => ?_)
  conv => whnf
  try dsimp only
  refine nb_t hk ?_
  conv => whnf
  try dsimp only
  refine hR (k_R_readLine_105 (Nat.le_of_ble_eq_true rfl) rfl (s_R_requires (g := true) ?_))
  rw [if_pos (Or.inl rfl)]
  exact rl_108 hk hb h
theorem rl_60 {k : Int32} (hk : ¬ k = 5) (h : Run wR G M_R_readLine 86 [some (.ref 0), some (.int k)] [] σ τ Q) : Run wR G M_R_readLine 60 [some (.ref 0), some (.int k)] [] σ τ Q := by
  refine wd_go ok_R_readLine [] 20 (fun R hR => ?_)
  conv => whnf
  try dsimp only
  refine nb_t hk ?_
  conv => whnf
  try dsimp only
  refine hR (k_R_readLine_83 (Nat.le_of_ble_eq_true rfl) rfl (s_R_requires (g := true) ?_))
  rw [if_pos (Or.inl rfl)]
  exact h
theorem rl_34 {k : Int32} (hk : 4 ≤ k) (h : Run wR G M_R_readLine 60 [some (.ref 0), some (.int k)] [] σ τ Q) : Run wR G M_R_readLine 34 [some (.ref 0), some (.int k)] [] σ τ Q := by
  refine wd_go ok_R_readLine [] 20 (fun R hR => ?_)
  conv => whnf
  try dsimp only
  refine br_t hk ?_
  conv => whnf
  try dsimp only
  refine hR (k_R_readLine_57 (Nat.le_of_ble_eq_true rfl) rfl (s_R_requires (g := true) ?_))
  rw [if_pos (Or.inl rfl)]
  exact h
/-- the line's kind is known -/
theorem rl_18 {k : Int32} {y : pY} (hk : k = -4 ∨ ∃ n : Nat, n ≤ 5 ∧ k = nI n) (ht : tpR σ b L) (hy : okY L y) (hx : rX σ (.inr y)) (hs : σ 0 4 = bI (decide (0 < sN y.2.2.2.2))) (h : ∀ σ', frL σ σ' → rX σ' (bnd (lnL b L k y) (smL b L)) → (∀ z, bnd (lnL b L k y) (smL b L) = .inr z → σ' 0 4 = bI (decide (0 < sN z.2.2.2.2))) → Q none σ' τ) : Run wR G M_R_readLine 18 [some (.ref 0), some (.int k)] [] σ τ Q := by
  have hb : wd_bit (σ 0 4) := by rw [hs]; exact bI_bit _
  have f0 := hx.1.1
  have hr : ∀ j, j < 61 → σ 4 j = y.2.2.2.2 j := hx.2
  have hw := hy.2.2.2.2.1
  rcases hk with rfl | ⟨n, hn, rfl⟩
  · have h := h
    simp only [lnL, if_true, bnd] at h
    refine wd_go ok_R_readLine [] 20 (fun R hR => ?_)
    conv => whnf
    try dsimp only
    refine br_t rfl ?_
    conv => whnf
    try dsimp only
    refine hR (k_R_readLine_31 (Nat.le_of_ble_eq_true rfl) rfl (s_R_requires (g := false) ?_))
    rw [if_neg (fun z => z.elim (fun y => by cases y) (fun y => y f0))]
    have q := rT_f (c := 2) (n := 2) hx.1 rfl (by decide)
    generalize wd_uc σ 0 (upd (upd (σ 0) 11 2) 12 (σ 0 8)) = σ1 at q
    exact rl_F34 (rT_ne q.2) q.2.2.1 (fun x => h _ (q.1.Q.L.tr frL_4) (rX_l (rT_4 q.2) rfl) (fun z hz => by cases hz))
  · have hn4 : ¬ nI n = -4 := nI_nm4 (by omega)
    rw [lnL, if_neg hn4] at h
    refine wd_go ok_R_readLine [] 20 (fun R hR => ?_)
    conv => whnf
    try dsimp only
    refine br_f hn4 ?_
    conv => whnf
    try dsimp only
    refine hR (k_R_readLine_31 (Nat.le_of_ble_eq_true rfl) rfl (s_R_requires (g := true) ?_))
    rw [if_pos (Or.inl rfl)]
    by_cases e4 : n = 4
    · subst e4
      rw [if_pos (show nI 4 = (4 : Int32) from rfl), sgL] at h
      refine rl_34 (by decide) (rl_60 (by decide) ?_)
      refine wd_go ok_R_readLine [129] 20 (fun R hR => ?_)
      conv => whnf
      try dsimp only
      refine nb_f rfl ?_
      conv => whnf
      try dsimp only
      rw [hs]
      by_cases hz : sN y.2.2.2.2 = 0
      · rw [if_pos hz] at h
        refine nb_f (by rw [hz]; rfl) ?_
        conv => whnf
        try dsimp only
        refine hR (k_R_readLine_105 (Nat.le_of_ble_eq_true rfl) rfl (s_R_requires (g := true) ?_))
        rw [if_pos (Or.inl rfl)]
        refine wd_go ok_R_readLine [129] 20 (fun R hR => ?_)
        conv => whnf
        try dsimp only
        rw [hs]
        refine nb_f (by rw [hz]; rfl) ?_
        conv => whnf
        try dsimp only
        refine nb_f rfl ?_
        conv => whnf
        try dsimp only
        refine ⟨Or.inr rfl, ?_⟩
        conv => whnf
        try dsimp only
        refine hR ?_
        refine rl_129 (y := y) (f := fun y1 => bnd (nmK b L 0 15 adS y1) (sgF b L 16)) (ht.u0 (upd_n (by decide))) hy (rX_4 hx) (fun y1 o1 e1 => ?_) (fun σ1 y1 Q1 t1 o1 e1 x1 h1 => s_R_lineSigns t1 o1 (by rw [e1]; exact hz) x1 h1) (fun σ' f' x' => h σ' (frL_4.tr f'.L) x' (fun z hz' => ?_))
        · refine ok_bnd (okX_le (ok_nmK o1 (fun hv => adS_ok o1.2.2.2.2 (by rw [e1]; omega) hv)) (Nat.zero_le _)) (fun y2 _ o2 => okX_le (ok_sgF 16 o2) (Nat.zero_le _))
        · rw [f'.2 4 (by omega)]
          generalize hX1 : ntk b L y.2.2.1 y.2.2.2.2 = X1 at hz'
          cases X1 with
          | inl e => cases hz'
          | inr y1 =>
            have e1 := ntk_D hX1
            simp only [bnd] at hz'
            generalize hX2 : nmK b L 0 15 adS y1 = X2 at hz'
            cases X2 with
            | inl e => cases hz'
            | inr y2 =>
              have e2 := nmK_D hX2
              dsimp only at hz'
              generalize hX3 : sgF b L 16 y2 = X3 at hz'
              cases X3 with
              | inl e => cases hz'
              | inr y3 =>
                have l3 := sgF_n 16 hX3
                rw [e2, adS_n (by rw [e1]; omega)] at l3
                have e4 := sm_D hz'
                rw [e4, decide_eq_true (by omega)]
                rfl
      · rw [if_neg hz] at h
        refine nb_t (by rw [decide_eq_true (by omega)]; decide) ?_
        conv => whnf
        try dsimp only
        refine hR (k_R_readLine_105 (Nat.le_of_ble_eq_true rfl) rfl (s_R_requires (g := false) ?_))
        rw [if_neg (fun z => z.elim (fun y => by cases y) (fun y => y f0))]
        have q := rT_f (c := 4) (n := 4) hx.1 rfl (by decide)
        generalize wd_uc σ 0 (upd (upd (σ 0) 11 4) 12 (σ 0 8)) = σ1 at q
        exact rl_F108 q.2.2.1 (fun x => h _ (q.1.Q.L.tr frL_4) (rX_l (rT_4 q.2) rfl) (fun z hz => by cases hz))
    · have k4 : ¬ nI n = 4 := fun z => e4 ((nI_eq (b := 4) (by omega) (by decide)).mp z)
      rw [if_neg k4] at h
      by_cases e5 : n = 5
      · subst e5
        rw [if_pos (show nI 5 = (5 : Int32) from rfl), jmL] at h
        have h43 : σ 4 43 = nI (jN y.2.2.2.2) := (hr 43 (by decide)).trans hw.2.2.1.1
        have h4 := hw.2.2.1.2
        refine rl_34 (by decide) ?_
        refine wd_go ok_R_readLine [] 20 (fun R hR => ?_)
        conv => whnf
        try dsimp only
        refine nb_f rfl ?_
        conv => whnf
        try dsimp only
        refine ⟨vp_in_nI (by first | decide | omega) (by first | decide | omega), ?_⟩
        conv => whnf
        try dsimp only
        rw [cl43, h43]
        by_cases hz : jN y.2.2.2.2 < 4
        · rw [if_pos hz] at h
          refine br_f (show ¬ (4 : Int32) ≤ nI (jN y.2.2.2.2) from nI_ge (b := 4) hz (by decide)) ?_
          conv => whnf
          try dsimp only
          refine hR (k_R_readLine_83 (Nat.le_of_ble_eq_true rfl) rfl (s_R_requires (g := true) ?_))
          rw [if_pos (Or.inl rfl)]
          refine rl_86 k4 hb ?_
          refine rl_129 (y := y) (f := fun y1 => bnd (nmK b L 0 99 (fun _ D => D) y1) (nmK b L 1 40 (adJ y1.2.2.2.1))) ht hy hx (fun y1 o1 e1 => ?_) (fun σ1 y1 Q1 t1 o1 e1 x1 h1 => s_R_lineJam t1 o1 (by rw [e1]; exact hz) x1 h1) (fun σ' f' x' => h σ' f'.L x' (fun z hz' => ?_))
          · have o2 : okX L y1.2.2.1 (nmK b L 0 99 (fun _ D => D) y1) := ok_nmK o1 (fun _ => o1.2.2.2.2)
            generalize hX2 : nmK b L 0 99 (fun _ D => D) y1 = X2 at o2
            cases X2 with
            | inl e => exact o2
            | inr y2 =>
              have e2 : y2.2.2.2.2 = y1.2.2.2.2 := nmK_D hX2
              exact okX_le (ok_nmK o2.2 (fun _ => adJ_ok o2.2.2.2.2.2 (by rw [e2, e1]; exact hz))) (Nat.zero_le _)
          · rw [f'.2 4 (by omega), hs]
            generalize hX1 : ntk b L y.2.2.1 y.2.2.2.2 = X1 at hz'
            cases X1 with
            | inl e => cases hz'
            | inr y1 =>
              have e1 := ntk_D hX1
              simp only [bnd] at hz'
              generalize hX2 : nmK b L 0 99 (fun _ D => D) y1 = X2 at hz'
              cases X2 with
              | inl e => cases hz'
              | inr y2 =>
                have e2 : y2.2.2.2.2 = y1.2.2.2.2 := nmK_D hX2
                dsimp only at hz'
                generalize hX3 : nmK b L 1 40 (adJ y1.2.2.2.1) y2 = X3 at hz'
                cases X3 with
                | inl e => cases hz'
                | inr y3 =>
                  have e3 := nmK_D hX3
                  have e4 := sm_D hz'
                  have e5 : sN z.2.2.2.2 = sN y.2.2.2.2 := by
                    rw [e4, e3, e2, e1]
                    unfold sN adJ
                    rw [upd_n (by omega), upd_n (by omega), upd_n (by omega)]
                  rw [e5]
        · rw [if_neg hz] at h
          have e4 : jN y.2.2.2.2 = 4 := by omega
          refine br_t (by rw [e4]; decide) ?_
          conv => whnf
          try dsimp only
          refine hR (k_R_readLine_83 (Nat.le_of_ble_eq_true rfl) rfl (s_R_requires (g := false) ?_))
          rw [if_neg (fun z => z.elim (fun y => by cases y) (fun y => y f0))]
          have q := rT_f (c := 5) (n := 5) hx.1 rfl (by decide)
          generalize wd_uc σ 0 (upd (upd (σ 0) 11 5) 12 (σ 0 8)) = σ1 at q
          exact rl_F86 (rT_ne q.2) q.2.2.1 (fun x => h _ (q.1.Q.L.tr frL_4) (rX_l (rT_4 q.2) rfl) (fun z hz => by cases hz))
      · have k5 : ¬ nI n = 5 := fun z => e5 ((nI_eq (b := 5) (by omega) (by decide)).mp z)
        rw [if_neg k5, dgL] at h
        have h16 : σ 4 16 = nI (dN y.2.2.2.2) := (hr 16 (by decide)).trans hw.1.1
        have h4 := hw.1.2
        refine wd_go ok_R_readLine [] 20 (fun R hR => ?_)
        conv => whnf
        try dsimp only
        refine br_f (show ¬ (4 : Int32) ≤ nI n from nI_ge (b := 4) (by omega) (by decide)) ?_
        conv => whnf
        try dsimp only
        refine ⟨vp_in_nI (by first | decide | omega) (by first | decide | omega), ?_⟩
        conv => whnf
        try dsimp only
        rw [cl16, h16]
        by_cases hz : dN y.2.2.2.2 < 4
        · rw [if_pos hz] at h
          refine br_f (show ¬ (4 : Int32) ≤ nI (dN y.2.2.2.2) from nI_ge (b := 4) hz (by decide)) ?_
          conv => whnf
          try dsimp only
          refine hR (k_R_readLine_57 (Nat.le_of_ble_eq_true rfl) rfl (s_R_requires (g := true) ?_))
          rw [if_pos (Or.inl rfl)]
          refine rl_60 k5 (rl_86 k4 hb ?_)
          refine rl_129 (y := y) (f := nmK b L 1 20 (adD (nI n))) ht hy hx (fun y1 o1 e1 => okX_le (ok_nmK o1 (fun _ => adD_ok o1.2.2.2.2 (by rw [e1]; exact hz) (by omega))) (Nat.zero_le _)) (fun σ1 y1 Q1 t1 o1 e1 x1 h1 => s_R_lineDog (by omega) t1 o1 (by rw [e1]; exact hz) x1 h1) (fun σ' f' x' => h σ' f'.L x' (fun z hz' => ?_))
          rw [f'.2 4 (by omega), hs]
          generalize hX1 : ntk b L y.2.2.1 y.2.2.2.2 = X1 at hz'
          cases X1 with
          | inl e => cases hz'
          | inr y1 =>
            have e1 := ntk_D hX1
            simp only [bnd] at hz'
            generalize hX3 : nmK b L 1 20 (adD (nI n)) y1 = X3 at hz'
            cases X3 with
            | inl e => cases hz'
            | inr y3 =>
              have e3 := nmK_D hX3
              have e4 := sm_D hz'
              have e5 : sN z.2.2.2.2 = sN y.2.2.2.2 := by
                rw [e4, e3, e1]
                unfold sN adD
                rw [upd_n (by omega), upd_n (by omega), upd_n (by omega)]
              rw [e5]
        · rw [if_neg hz] at h
          have e4 : dN y.2.2.2.2 = 4 := by omega
          refine br_t (by rw [e4]; decide) ?_
          conv => whnf
          try dsimp only
          refine hR (k_R_readLine_57 (Nat.le_of_ble_eq_true rfl) rfl (s_R_requires (g := false) ?_))
          rw [if_neg (fun z => z.elim (fun y => by cases y) (fun y => y f0))]
          have q := rT_f (c := 5) (n := 5) hx.1 rfl (by decide)
          generalize wd_uc σ 0 (upd (upd (σ 0) 11 5) 12 (σ 0 8)) = σ1 at q
          exact rl_F60 (rT_ne q.2) q.2.2.1 (fun x => h _ (q.1.Q.L.tr frL_4) (rX_l (rT_4 q.2) rfl) (fun z hz => by cases hz))
theorem s_R_readLine {y : pY} (ht : tpR σ b L) (hy : okY L y) (hx : rX σ (.inr y)) (hs : σ 0 4 = bI (decide (0 < sN y.2.2.2.2))) (h : ∀ σ', frL σ σ' → rX σ' (liL b L y) → (∀ z, liL b L y = .inr z → σ' 0 4 = bI (decide (0 < sN z.2.2.2.2))) → Q none σ' τ) : Run wR G M_R_readLine 0 [some (.ref 0), none] [] σ τ Q := by
  have h3 := hy.2.2.2.1
  unfold liL at h
  refine wd_go ok_R_readLine [18] 20 (fun R hR => ?_)
  conv => whnf
  try dsimp only
  rw [hx.1.2.2.2.1]
  by_cases e1 : y.2.1 = 1
  · rw [if_pos e1] at h
    refine nb_f (by rw [e1]; rfl) ?_
    conv => whnf
    try dsimp only
    refine hR (k_R_readLine_9 (Nat.le_of_ble_eq_true rfl) rfl (s_R_lineNow ht hx.1.2.2.1 hx.1.2.1 hy.1 hy.2.1 ?_))
    refine wd_go ok_R_readLine [18] 20 (fun R hR => ?_)
    conv => whnf
    try dsimp only
    exact hR (rl_18 (lnK_is b y.1 y.2.2.1) ht hy hx hs h)
  · rw [if_neg e1] at h
    refine nb_t (fun z => e1 ((nI_eq (b := 1) (by omega) (by decide)).mp z)) ?_
    conv => whnf
    try dsimp only
    refine hR (rl_18 (k := -4) (Or.inl rfl) ht hy hx hs ?_)
    rw [lnL, if_pos rfl]
    exact h
end R
