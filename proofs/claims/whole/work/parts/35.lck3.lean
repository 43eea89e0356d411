/-! LUCK, MEAN: the reference -/
def lsA (u : wU) (s : Nat) : Nat → wU
  | 0 => u
  | k + 1 => tkA (bitA s k) (lsA u s k)
def lcA (P : wRow) (s : Nat) : Nat → Nat
  | 0 => 0
  | k + 1 => lcA P s k + (if (lsA (stP P (-4)) s (k + 1)).2.2 18 = 0 then 0 else 1)
theorem lc_is {P : wRow} {s : Nat} : ∀ n, (lsA (stP P (-4)) s n).2.2 14 = nI (lcA P s n)
  | 0 => rfl
  | n + 1 => by
    have i := lc_is (P := P) (s := s) n
    rw [lcA]
    rcases tk_18 (lost := bitA s n) (u := lsA (stP P (-4)) s n) with ⟨h1, h2⟩ | ⟨h1, h2⟩
    · have h1 : (lsA (stP P (-4)) s (n + 1)).2.2 18 = 0 := h1
      have h2 : (lsA (stP P (-4)) s (n + 1)).2.2 14 = (lsA (stP P (-4)) s n).2.2 14 := h2
      rw [if_pos h1, h2, i, Nat.add_zero]
    · have h1 : (lsA (stP P (-4)) s (n + 1)).2.2 18 = 1 := h1
      have h2 : (lsA (stP P (-4)) s (n + 1)).2.2 14 = (lsA (stP P (-4)) s n).2.2 14 + 1 := h2
      rw [if_neg (by rw [h1]; decide), h2, i, nI_1]
theorem lc_le {P : wRow} {s : Nat} : ∀ n, lcA P s n ≤ n
  | 0 => Nat.le_refl 0
  | n + 1 => by
    have := lc_le (P := P) (s := s) n
    rw [lcA]
    split <;> omega
theorem ls_wf {u : wU} {s : Nat} (hw : wf u.1) : ∀ n, wf (lsA u s n).1
  | 0 => hw
  | n + 1 => (tk_wf (ls_wf hw n)).1
theorem eq_lsA {u v : wU} {s : Nat} (hw : wf u.1) (h : eqU u v) : ∀ n, eqU (lsA u s n) (lsA v s n)
  | 0 => h
  | n + 1 => (eq_tkA (ls_wf hw n) (eq_lsA hw h n)).1
theorem ls_o {u : wU} {s k : Nat} (h4 : k ≠ 14) (h5 : k ≠ 15) (h6 : k ≠ 16) (h7 : k ≠ 17) (h8 : k ≠ 18) : ∀ n, (lsA u s n).2.2 k = u.2.2 k
  | 0 => rfl
  | n + 1 => (tk_o h4 h5 h6 h7 h8).trans (ls_o h4 h5 h6 h7 h8 n)
/-- what is summed -/
def quA (P : wRow) (v n : Nat) : Nat → Nat
  | 0 => 0
  | s + 1 => quA P v n s + (if lcA P s n = 0 then wyA v s n else 0)
def meA (P : wRow) (v n : Nat) : Nat → Nat
  | 0 => 0
  | s + 1 => meA P v n s + wyA v s n * lcA P s n
theorem p10 {n : Nat} (hn : n ≤ 8) : 10 ^ n ≤ 100000000 := Nat.pow_le_pow_right (n := 10) (by decide) hn
theorem p2 {n : Nat} (hn : n ≤ 8) : 2 ^ n ≤ 256 := Nat.pow_le_pow_right (n := 2) (by decide) hn
theorem qu_le {P : wRow} {v n : Nat} (hv : v ≤ 10) (hn : n ≤ 8) : ∀ s, quA P v n s ≤ 100000000 * s
  | 0 => Nat.le_refl 0
  | s + 1 => by
    have h1 := qu_le (P := P) hv hn s
    have h2 := Nat.le_trans (wy_le (s := s) hv n) (p10 hn)
    rw [quA]
    split <;> omega
theorem me_le {P : wRow} {v n : Nat} (hv : v ≤ 10) (hn : n ≤ 8) : ∀ s, meA P v n s ≤ 800000000 * s
  | 0 => Nat.le_refl 0
  | s + 1 => by
    have h1 := me_le (P := P) hv hn s
    have h2 := Nat.mul_le_mul (Nat.le_trans (wy_le (s := s) hv n) (p10 hn)) (Nat.le_trans (lc_le (P := P) (s := s) n) hn)
    rw [meA]
    omega
theorem s31 {k : Nat} (hk : k < 32) : ((nI k &&& 31).toBitVec.smod 32).toNat = k := co_dec (N := 32) (P := fun k => ((nI k &&& 31).toBitVec.smod 32).toNat = k) (by decide +kernel) hk
theorem bit_is {s k : Nat} (hs : s < 2 ^ 31) (hk : k < 32) : (nI s >>> (nI k &&& 31)) &&& 1 = nI (s / 2 ^ k % 2) := by
  have : s / 2 ^ k ≤ s := Nat.div_le_self _ _
  rw [pk_shrN hs _ k (s31 hk)]
  exact pk_andN (by omega) 1 rfl
theorem bit_one {s k : Nat} (hs : s < 2 ^ 31) (hk : k < 32) : ((nI s >>> (nI k &&& 31)) &&& 1 = 1) ↔ bitA s k = true := by
  rw [bit_is hs hk, il1, nI_eq (by omega) (by decide), bitA, decide_eq_true_iff]
theorem shl_one {n : Nat} (hn : n ≤ 8) : (1 : Int32) <<< (nI n &&& 31) = nI (2 ^ n) := by
  have := p2 hn
  have h := pk_shlN (n := 1) (nI n &&& 31) n (s31 (by omega)) (by omega)
  rw [Nat.one_mul] at h
  exact h
def aLuck (P : wRow) (v n w : Int32) : Int64 := if inB v 0 10 = true ∧ inB n 0 8 = true ∧ inB w 0 1 = true then lN (frA (quA P v.toNatClampNeg n.toNatClampNeg (2 ^ n.toNatClampNeg)) (10 ^ n.toNatClampNeg) w) else -1
def aMean (P : wRow) (v n w : Int32) : Int64 := if inB v 0 10 = true ∧ inB n 0 8 = true ∧ inB w 0 1 = true then lN (frA (meA P v.toNatClampNeg n.toNatClampNeg (2 ^ n.toNatClampNeg)) (10 ^ n.toNatClampNeg) w) else -1
section R
variable {G : wd_G} {Q : wd_P}
theorem l_R_odds1 {σ : wd_S} {v : Int32} {n : Nat} (hn : n ≤ 8) (h : ∀ τ : wd_T, τ 0 22 = lN 0 → τ 0 23 = lN 0 → τ 0 24 = lN (10 ^ n) → Run wR G M_R_findOdds 40 [some (.ref 0), some (.int v), some (.int (nI n)), some (.int (nI n)), none, none, none, none] [] σ τ Q) : ∀ (m i : Nat) (τ : wd_T), n = i + m → τ 0 22 = lN 0 → τ 0 23 = lN 0 → τ 0 24 = lN (10 ^ i) → Run wR G M_R_findOdds 17 [some (.ref 0), some (.int v), some (.int (nI n)), some (.int (nI i)), none, none, none, none] [] σ τ Q := by
  intro m
  induction m with
  | zero =>
    intro i τ hi h2 h3 h4
    have e : i = n := by omega
    subst e
    refine wd_go ok_R_findOdds [17, 40] 20 (fun R hR => ?_)
    conv => whnf
    try dsimp only
    refine br_t (nI_le (Nat.le_refl _) (by omega)) ?_
    conv => whnf
    try dsimp only
    exact hR (h τ h2 h3 h4)
  | succ m ih =>
    intro i τ hi h2 h3 h4
    refine wd_go ok_R_findOdds [17, 40] 20 (fun R hR => ?_)
    conv => whnf
    try dsimp only
    refine br_f (nI_ge (by omega) (by omega)) ?_
    conv => whnf
    try dsimp only
    refine hR ?_
    have := ih (i + 1) (wd_uc τ 0 (vp_updL (τ 0) 24 (τ 0 24 * 10))) (by omega) ?_ ?_ ?_
    · rw [nI_succ] at this
      exact this
    · rw [uc_s, pk_uLn (by decide)]
      exact h2
    · rw [uc_s, pk_uLn (by decide)]
      exact h3
    · rw [uc_s, pk_uLs, h4, Nat.pow_succ, ← lN_mul]
      rfl
theorem l_R_odds3 {σ : wd_S} {τ : wd_T} {v n s : Nat} {u : wU} (hw : wf u.1) (hv : v ≤ 10) (hn : n ≤ 8) (hs : s < 256) (h : ∀ l7, Run wR G M_R_findOdds 114 [some (.ref 0), some (.int (nI v)), some (.int (nI n)), some (.int (nI s)), some (.long (lN (wyA v s n))), none, some (.int (nI n)), l7] [] (mR σ (lsA u s n)) τ Q) : ∀ (m i : Nat) (l7 : Option Value), n = i + m → Run wR G M_R_findOdds 59 [some (.ref 0), some (.int (nI v)), some (.int (nI n)), some (.int (nI s)), some (.long (lN (wyA v s i))), none, some (.int (nI i)), l7] [] (mR σ (lsA u s i)) τ Q := by
  intro m
  induction m with
  | zero =>
    intro i l7 hi
    have e : i = n := by omega
    subst e
    refine wd_go ok_R_findOdds [59, 114] 20 (fun R hR => ?_)
    conv => whnf
    try dsimp only
    refine br_t (nI_le (Nat.le_refl _) (by omega)) ?_
    conv => whnf
    try dsimp only
    exact hR (h l7)
  | succ m ih =>
    intro i l7 hi
    refine wd_go ok_R_findOdds [59, 114] 40 (fun R hR => ?_)
    conv => whnf
    try dsimp only
    refine br_f (nI_ge (by omega) (by omega)) ?_
    conv => whnf
    try dsimp only
    have step := fun l7 => ih (i + 1) l7 (by omega)
    simp only [wyA, nI_succ] at step
    cases hb : bitA s i with
    | true =>
      refine nb_f ((bit_one (by omega) (by omega)).mpr hb) ?_
      conv => whnf
      try dsimp only
      refine br_f (by decide) ?_
      conv => whnf
      try dsimp only
      rw [nI_l (by omega), lN_mul]
      refine hR (k_R_findOdds_105 (Nat.le_of_ble_eq_true rfl) rfl (s_R_tickGoes (lost := true) (ls_wf hw i) ?_))
      refine wd_go ok_R_findOdds [59, 114] 20 (fun R hR => ?_)
      conv => whnf
      try dsimp only
      refine hR ?_
      have := step (some (.int 1))
      rw [hb, lsA, hb] at this
      exact this
    | false =>
      refine nb_t (fun z => by rw [bit_one (by omega) (by omega), hb] at z; cases z) ?_
      conv => whnf
      try dsimp only
      refine br_t rfl ?_
      conv => whnf
      try dsimp only
      rw [il10, pk_sub hv, nI_l (by omega), lN_mul]
      refine hR (k_R_findOdds_105 (Nat.le_of_ble_eq_true rfl) rfl (s_R_tickGoes (lost := false) (ls_wf hw i) ?_))
      refine wd_go ok_R_findOdds [59, 114] 20 (fun R hR => ?_)
      conv => whnf
      try dsimp only
      refine hR ?_
      have := step (some (.int 0))
      rw [hb, lsA, hb] at this
      exact this
theorem l_R_odds2 {σ0 : wd_S} {v n : Nat} (hw : wf (σ0 1)) (hv : v ≤ 10) (hn : n ≤ 8) (h : ∀ σ' (τ : wd_T), frR σ0 σ' → τ 0 22 = lN (quA (σ0 1) v n (2 ^ n)) → τ 0 23 = lN (meA (σ0 1) v n (2 ^ n)) → τ 0 24 = lN (10 ^ n) → Q none σ' τ) : ∀ (m s : Nat) (σ : wd_S) (τ : wd_T) (l4 l5 l6 l7 : Option Value), 2 ^ n = s + m → frR σ0 σ → τ 0 22 = lN (quA (σ0 1) v n s) → τ 0 23 = lN (meA (σ0 1) v n s) → τ 0 24 = lN (10 ^ n) → Run wR G M_R_findOdds 42 [some (.ref 0), some (.int (nI v)), some (.int (nI n)), some (.int (nI s)), l4, l5, l6, l7] [] σ τ Q := by
  have hp := p2 hn
  intro m
  induction m with
  | zero =>
    intro s σ τ l4 l5 l6 l7 hs hf h2 h3 h4
    have e : s = 2 ^ n := by omega
    refine wd_go ok_R_findOdds [42] 20 (fun R hR => ?_)
    conv => whnf
    try dsimp only
    rw [shl_one hn]
    refine br_t (nI_le (by omega) (by omega)) ?_
    conv => whnf
    try dsimp only
    rw [e] at h2 h3
    exact ⟨rfl, h σ τ hf h2 h3 h4⟩
  | succ m ih =>
    intro s σ τ l4 l5 l6 l7 hs hf h2 h3 h4
    have hw1 : wf (σ 1) := by rw [hf.e1]; exact hw
    have hl := lc_le (P := σ0 1) (s := s) n
    refine wd_go ok_R_findOdds [42] 20 (fun R hR => ?_)
    conv => whnf
    try dsimp only
    rw [shl_one hn]
    refine br_f (nI_ge (by omega) (by omega)) ?_
    conv => whnf
    try dsimp only
    refine fL_to ?_
    conv => whnf
    try dsimp only
    refine hR (k_R_findOdds_53 (Nat.le_of_ble_eq_true rfl) rfl (s_R_starts ?_))
    refine wd_go ok_R_findOdds [42, 59] 20 (fun R hR => ?_)
    conv => whnf
    try dsimp only
    refine fL_to ?_
    conv => whnf
    try dsimp only
    refine hR (l_R_odds3 (v := v) (s := s) (stU_wf hw1) hv hn (by omega) (fun l7 => ?_) n 0 l7 (by omega))
    have e14 : mR σ (lsA (stU σ) s n) 0 14 = nI (lcA (σ0 1) s n) := by
      rw [mR_0, (eq_lsA (stU_wf hw1) (stU_eq σ) n).2.2 14 (by decide) (by decide), hf.e1]
      exact lc_is n
    have fr : frR σ0 (mR σ (lsA (stU σ) s n)) := hf.tr (mR_fr (fun k hk => by
      rw [ls_o (by omega) (by omega) (by omega) (by omega) (by omega)]
      exact stU_o hk))
    refine wd_go ok_R_findOdds [42] 40 (fun R hR => ?_)
    conv => whnf
    try dsimp only
    rw [e14]
    have fin : ∀ (x : Int64) l7, x = lN (if lcA (σ0 1) s n = 0 then wyA v s n else 0) → Run wR G M_R_findOdds 42 [some (.ref 0), some (.int (nI v)), some (.int (nI n)), some (.int (nI s + 1)), some (.long (lN (wyA v s n))), none, some (.int (nI n)), l7] [] (mR σ (lsA (stU σ) s n)) (wd_uc (wd_uc τ 0 (vp_updL (τ 0) 22 (τ 0 22 + x))) 0
          (vp_updL (wd_uc τ 0 (vp_updL (τ 0) 22 (τ 0 22 + x)) 0) 23
            (wd_uc τ 0 (vp_updL (τ 0) 22 (τ 0 22 + x)) 0 23 + lN (wyA v s n) * (mR σ (lsA (stU σ) s n) 0 14).toInt64))) Q := by
      intro x l7 hx
      rw [← nI_succ]
      refine ih (s + 1) _ _ _ _ _ _ (by omega) fr ?_ ?_ ?_
      · rw [uc_s, pk_uLn (by decide), uc_s, pk_uLs, h2, hx, lN_add]
        rfl
      · rw [uc_s, pk_uLs, uc_s, pk_uLn (by decide), h3, e14, nI_l (by omega), lN_mul, lN_add]
        rfl
      · rw [uc_s, pk_uLn (by decide), uc_s, pk_uLn (by decide), h4]
    by_cases hz : lcA (σ0 1) s n = 0
    · refine nb_f (by rw [hz]; rfl) ?_
      conv => whnf
      try dsimp only
      refine fL_to ?_
      conv => whnf
      try dsimp only
      exact hR (fin (lN (wyA v s n)) l7 (by rw [if_pos hz]))
    · refine nb_t (nI_ne0 (by omega) (by omega)) ?_
      conv => whnf
      try dsimp only
      refine fL_to ?_
      conv => whnf
      try dsimp only
      exact hR (fin 0 l7 (by rw [if_neg hz]; rfl))
theorem s_R_findOdds {σ : wd_S} {τ : wd_T} {v n : Nat} (hw : wf (σ 1)) (hv : v ≤ 10) (hn : n ≤ 8) (h : ∀ σ' (τ : wd_T), frR σ σ' → τ 0 22 = lN (quA (σ 1) v n (2 ^ n)) → τ 0 23 = lN (meA (σ 1) v n (2 ^ n)) → τ 0 24 = lN (10 ^ n) → Q none σ' τ) : Run wR G M_R_findOdds 0 [some (.ref 0), some (.int (nI v)), some (.int (nI n)), none, none, none, none, none] [] σ τ Q := by
  refine wd_go ok_R_findOdds [17, 40] 20 (fun R hR => ?_)
  conv => whnf
  try dsimp only
  refine hR (l_R_odds1 hn (fun τ' h2 h3 h4 => ?_) n 0 _ (by omega) rfl rfl rfl)
  refine wd_go ok_R_findOdds [42] 20 (fun R hR => ?_)
  conv => whnf
  try dsimp only
  exact hR (l_R_odds2 hw hv hn h (2 ^ n) 0 σ τ' none none none none (by omega) frR.rf h2 h3 h4)
theorem s_R_luck {σ : wd_S} {τ : wd_T} {v n w : Int32} (hw : wf (σ 1)) (h : ∀ σ' τ', frR σ σ' → Q (some (.long (aLuck (σ 1) v n w))) σ' τ') : Run wR G M_R_luck 0 [some (.ref 0), some (.int v), some (.int n), some (.int w)] [] σ τ Q := by
  rw [aLuck] at h
  refine wd_go ok_R_luck [] 20 (fun R hR => ?_)
  conv => whnf
  try dsimp only
  refine hR (k_R_luck_6 (Nat.le_of_ble_eq_true rfl) (s_R_in2 (a := 0) (b := 10) rfl rfl ?_))
  cases hv : inB v 0 10 with
  | false =>
    refine wd_go ok_R_luck [] 20 (fun R hR => ?_)
    conv => whnf
    try dsimp only
    refine br_t rfl ?_
    conv => whnf
    try dsimp only
    rw [if_neg (fun z => by rw [hv] at z; cases z.1)] at h
    exact ⟨rfl, h σ τ frR.rf⟩
  | true =>
    refine wd_go ok_R_luck [] 20 (fun R hR => ?_)
    conv => whnf
    try dsimp only
    refine br_f (by decide) ?_
    conv => whnf
    try dsimp only
    refine hR (k_R_luck_18 (Nat.le_of_ble_eq_true rfl) (s_R_in2 (a := 0) (b := 8) rfl rfl ?_))
    cases hn : inB n 0 8 with
    | false =>
      refine wd_go ok_R_luck [] 20 (fun R hR => ?_)
      conv => whnf
      try dsimp only
      refine br_t rfl ?_
      conv => whnf
      try dsimp only
      rw [if_neg (fun z => by rw [hn] at z; cases z.2.1)] at h
      exact ⟨rfl, h σ τ frR.rf⟩
    | true =>
      refine wd_go ok_R_luck [] 20 (fun R hR => ?_)
      conv => whnf
      try dsimp only
      refine br_f (by decide) ?_
      conv => whnf
      try dsimp only
      refine hR (k_R_luck_25 (Nat.le_of_ble_eq_true rfl) (s_R_isPart ?_))
      cases hp : inB w 0 1 with
      | false =>
        refine wd_go ok_R_luck [] 20 (fun R hR => ?_)
        conv => whnf
        try dsimp only
        refine nb_f rfl ?_
        conv => whnf
        try dsimp only
        rw [if_neg (fun z => by rw [hp] at z; cases z.2.2)] at h
        exact ⟨rfl, h σ τ frR.rf⟩
      | true =>
        rw [if_pos ⟨hv, hn, hp⟩] at h
        obtain ⟨v, hvv, rfl⟩ := inN (N := 10) (by decide) hv
        obtain ⟨n, hnn, rfl⟩ := inN (N := 8) (by decide) hn
        rw [nI_clamp (by omega), nI_clamp (by omega)] at h
        have b1 := qu_le (P := σ 1) hvv hnn (2 ^ n)
        have b2 := p2 hnn
        have b3 := p10 hnn
        have b4 : 0 < 10 ^ n := Nat.pow_pos (by decide)
        refine wd_go ok_R_luck [] 20 (fun R hR => ?_)
        conv => whnf
        try dsimp only
        refine nb_t (by decide) ?_
        conv => whnf
        try dsimp only
        refine hR (k_R_luck_38 (Nat.le_of_ble_eq_true rfl) rfl (s_R_findOdds hw hvv hnn (fun σ' τ' hf h2 h3 h4 => ?_)))
        refine wd_go ok_R_luck [] 20 (fun R hR => ?_)
        conv => whnf
        try dsimp only
        rw [h2, h4]
        refine hR (k_R_luck_50 (Nat.le_of_ble_eq_true rfl) (s_R_lowest (by omega) (by omega) b4 ?_))
        refine wd_go ok_R_luck [] 20 (fun R hR => ?_)
        conv => whnf
        try dsimp only
        exact ⟨rfl, h σ' τ' hf⟩
theorem s_R_mean {σ : wd_S} {τ : wd_T} {v n w : Int32} (hw : wf (σ 1)) (h : ∀ σ' τ', frR σ σ' → Q (some (.long (aMean (σ 1) v n w))) σ' τ') : Run wR G M_R_mean 0 [some (.ref 0), some (.int v), some (.int n), some (.int w)] [] σ τ Q := by
  rw [aMean] at h
  refine wd_go ok_R_mean [] 20 (fun R hR => ?_)
  conv => whnf
  try dsimp only
  refine hR (k_R_mean_6 (Nat.le_of_ble_eq_true rfl) (s_R_in2 (a := 0) (b := 10) rfl rfl ?_))
  cases hv : inB v 0 10 with
  | false =>
    refine wd_go ok_R_mean [] 20 (fun R hR => ?_)
    conv => whnf
    try dsimp only
    refine br_t rfl ?_
    conv => whnf
    try dsimp only
    rw [if_neg (fun z => by rw [hv] at z; cases z.1)] at h
    exact ⟨rfl, h σ τ frR.rf⟩
  | true =>
    refine wd_go ok_R_mean [] 20 (fun R hR => ?_)
    conv => whnf
    try dsimp only
    refine br_f (by decide) ?_
    conv => whnf
    try dsimp only
    refine hR (k_R_mean_18 (Nat.le_of_ble_eq_true rfl) (s_R_in2 (a := 0) (b := 8) rfl rfl ?_))
    cases hn : inB n 0 8 with
    | false =>
      refine wd_go ok_R_mean [] 20 (fun R hR => ?_)
      conv => whnf
      try dsimp only
      refine br_t rfl ?_
      conv => whnf
      try dsimp only
      rw [if_neg (fun z => by rw [hn] at z; cases z.2.1)] at h
      exact ⟨rfl, h σ τ frR.rf⟩
    | true =>
      refine wd_go ok_R_mean [] 20 (fun R hR => ?_)
      conv => whnf
      try dsimp only
      refine br_f (by decide) ?_
      conv => whnf
      try dsimp only
      refine hR (k_R_mean_25 (Nat.le_of_ble_eq_true rfl) (s_R_isPart ?_))
      cases hp : inB w 0 1 with
      | false =>
        refine wd_go ok_R_mean [] 20 (fun R hR => ?_)
        conv => whnf
        try dsimp only
        refine nb_f rfl ?_
        conv => whnf
        try dsimp only
        rw [if_neg (fun z => by rw [hp] at z; cases z.2.2)] at h
        exact ⟨rfl, h σ τ frR.rf⟩
      | true =>
        rw [if_pos ⟨hv, hn, hp⟩] at h
        obtain ⟨v, hvv, rfl⟩ := inN (N := 10) (by decide) hv
        obtain ⟨n, hnn, rfl⟩ := inN (N := 8) (by decide) hn
        rw [nI_clamp (by omega), nI_clamp (by omega)] at h
        have b1 := me_le (P := σ 1) hvv hnn (2 ^ n)
        have b2 := p2 hnn
        have b3 := p10 hnn
        have b4 : 0 < 10 ^ n := Nat.pow_pos (by decide)
        refine wd_go ok_R_mean [] 20 (fun R hR => ?_)
        conv => whnf
        try dsimp only
        refine nb_t (by decide) ?_
        conv => whnf
        try dsimp only
        refine hR (k_R_mean_38 (Nat.le_of_ble_eq_true rfl) rfl (s_R_findOdds hw hvv hnn (fun σ' τ' hf h2 h3 h4 => ?_)))
        refine wd_go ok_R_mean [] 20 (fun R hR => ?_)
        conv => whnf
        try dsimp only
        rw [h3, h4]
        refine hR (k_R_mean_50 (Nat.le_of_ble_eq_true rfl) (s_R_lowest (by omega) (by omega) b4 ?_))
        refine wd_go ok_R_mean [] 20 (fun R hR => ?_)
        conv => whnf
        try dsimp only
        exact ⟨rfl, h σ' τ' hf⟩
end R
