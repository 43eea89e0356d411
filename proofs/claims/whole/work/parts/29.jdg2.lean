/-! JUDGING: kind, swap, sleep of the class -/
theorem cnt_cmp {u : wU} (h0 : u.2.2 14 = 0) {i j n m : Nat} (hi : i ≤ n) (hn : n < 2 ^ 31) (b : Int32) (h : i = n ∨ ¬ (tksA i u).2.2 14 < b) {S : Int32 × Int32} {c : Int32} (hb : S.2 = b) : jgS S c ((tksA i u).2.2 14) = jgS S c ((tksA n u).2.2 14) := by
  rcases h with rfl | h
  · rfl
  · have hl : (tksA i u).2.2 14 ≤ (tksA n u).2.2 14 := by
      rw [cnt_is h0, cnt_is h0]
      have h1 := cnt_le (u := u) n
      have h2 := cnt_mono (u := u) (k := i) (n - i)
      rw [Nat.add_sub_cancel' hi] at h2
      exact nI_le h2 (by omega)
    have h1 : b ≤ (tksA i u).2.2 14 := Int32.not_lt.mp h
    rw [jgS, jgS, if_neg (by rw [hb]; exact h), if_neg (by rw [hb]; exact Int32.not_lt.mpr (Int32.le_trans h1 hl))]
theorem nI_nm4 {j : Nat} (h : j < 2 ^ 31) : nI j ≠ -4 := fun e => by
  have := nI_pos' h
  rw [e] at this
  exact absurd this (by decide)
theorem jg_le (S : Int32 × Int32) (c m : Int32) : (jgS S c m).2 ≤ S.2 := by
  rw [jgS]
  split
  · rename_i h
    exact Int32.le_of_lt h
  · exact Int32.le_refl _
theorem sw_le (P : wRow) (n a : Nat) (S : Int32 × Int32) : ∀ m, (swI P n a S m).2 ≤ S.2
  | 0 => Int32.le_refl _
  | m + 1 => Int32.le_trans (jg_le _ _ _) (sw_le P n a S m)
/-- the class begins with plain, and one more than can be -/
def kdG (P : wRow) (d n : Nat) : Nat → Int32 × Int32
  | 0 => (0, nI n + 1)
  | k + 1 => jgS (kdG P d n k) (nI k) (kdC P d n k)
theorem kd_eq (P : wRow) {d n : Nat} (hn : n ≤ 200) : ∀ k, kdG P d n (k + 1) = kdF P d n (k + 1) ∧ ∃ j : Nat, j ≤ k ∧ (kdF P d n (k + 1)).1 = nI j
  | 0 => by
    have h1 := cnt_le (u := stP (upd P (4 * d) (nI 0)) (-4)) n
    have h2 : kdC P d n 0 = nI (cntA (stP (upd P (4 * d) (nI 0)) (-4)) n) := cnt_is (u := stP (upd P (4 * d) (nI 0)) (-4)) rfl n
    have h3 : kdC P d n 0 < nI n + 1 := by
      rw [h2, ← nI_succ]
      exact nI_lt (by omega) (by omega)
    have h4 : kdC P d n 0 < 1000000 := by
      rw [h2]
      exact nI_lt (b := 1000000) (by omega) (by decide)
    have e1 : kdG P d n (0 + 1) = (nI 0, kdC P d n 0) := if_pos h3
    have e2 : kdF P d n (0 + 1) = (nI 0, kdC P d n 0) := if_pos h4
    rw [e1, e2]
    exact ⟨rfl, 0, Nat.le_refl 0, rfl⟩
  | k + 1 => by
    obtain ⟨h1, j, hj, h2⟩ := kd_eq P hn k
    have e1 : kdG P d n (k + 1 + 1) = jgS (kdG P d n (k + 1)) (nI (k + 1)) (kdC P d n (k + 1)) := rfl
    have e2 : kdF P d n (k + 1 + 1) = jgS (kdF P d n (k + 1)) (nI (k + 1)) (kdC P d n (k + 1)) := rfl
    rw [e1, e2, h1]
    refine ⟨rfl, ?_⟩
    rw [jgS]
    split
    · exact ⟨k + 1, Nat.le_refl _, rfl⟩
    · exact ⟨j, by omega, h2⟩
section C
variable {G : wd_G} {τ : wd_T} {Q : wd_P} {P : wRow}
theorem l_D_kind {σ0 : wd_S} {d n : Nat} {w : Int32} (hr : relC σ0 10 P) (hw : wf P) (hd : d < dN P) (hn : n ≤ 200) (h : ∀ σ', frD σ0 σ' → Q (some (.int (jgA (kdF P d n 4) w))) σ' τ) : ∀ (m k : Nat) (σ : wd_S) (l7 : Option Value), 4 = k + m → frD σ0 σ → Run wC G M_D_kind 41 [some (.ref 0), some (.int (nI d)), some (.int (nI n)), some (.int w), some (.int (kdG P d n k).1), some (.int (kdG P d n k).2), some (.int (nI k)), l7] [] σ τ Q := by
  have hD4 := hw.1.2
  intro m
  induction m with
  | zero =>
    intro k σ l7 hk hf
    have e : k = 4 := by omega
    subst e
    obtain ⟨e1, j, hj, e2⟩ := kd_eq P (d := d) hn 3
    have h := h σ hf
    rw [jgA, if_neg (by rw [e2]; exact nI_nm4 (by omega)), ← e1] at h
    refine wd_go ok_D_kind [41] 20 (fun R hR => ?_)
    conv => whnf
    try dsimp only
    refine br_t (by decide) ?_
    conv => whnf
    try dsimp only
    by_cases hz : w = 0
    · rw [if_pos hz] at h
      refine nb_f hz ?_
      conv => whnf
      try dsimp only
      exact h
    · rw [if_neg hz] at h
      refine nb_t hz ?_
      conv => whnf
      try dsimp only
      exact h
  | succ m ih =>
    intro k σ l7 hk hf
    refine wd_go ok_D_kind [41] 20 (fun R hR => ?_)
    conv => whnf
    try dsimp only
    rw [il3]
    refine br_f (nI_nlt (by omega) (by decide)) ?_
    conv => whnf
    try dsimp only
    refine hR (k_D_kind_55 (Nat.le_of_ble_eq_true rfl) rfl (s_T_begin (hf.C hr) (wf_bd hw) (stP_is P) (fun σ1 r1 f1 => ?_)))
    refine wd_go ok_D_kind [41] 20 (fun R hR => ?_)
    conv => whnf
    try dsimp only
    refine ⟨vp_in_nI (by first | decide | omega) (by first | decide | omega), ?_⟩
    conv => whnf
    try dsimp only
    rw [nI_clamp (by omega)]
    have r2 := relT_knd (x := nI k) hw hd r1
    have hwu : wf (upd P (4 * d) (nI k)) := wf_knd (by omega) (by omega) hw
    refine hR (k_D_kind_79 (Nat.le_of_ble_eq_true rfl) rfl (s_T_below r2 hwu (by omega) (fun σ2 i hi r3 f2 hc => ?_)))
    have hf2 : frD σ0 σ2 := hf.tr ((f1.uc (by omega)).tr f2).D
    have q : jgS (kdG P d n k) (nI k) ((tksA i (stP (upd P (4 * d) (nI k)) (-4))).2.2 14) = kdG P d n (k + 1) := cnt_cmp (m := 0) (j := 0) rfl hi (by omega) _ hc rfl
    rw [jgS] at q
    refine wd_go ok_D_kind [41] 20 (fun R hR => ?_)
    conv => whnf
    try dsimp only
    by_cases hz : (tksA i (stP (upd P (4 * d) (nI k)) (-4))).2.2 14 < (kdG P d n k).2
    · rw [if_pos hz] at q
      refine br_f (Int32.not_le.mpr hz) ?_
      conv => whnf
      try dsimp only
      refine hR ?_
      have := ih (k + 1) σ2 (some (.int ((tksA i (stP (upd P (4 * d) (nI k)) (-4))).2.2 14))) (by omega) hf2
      rw [← q, nI_succ] at this
      exact this
    · rw [if_neg hz] at q
      refine br_t (Int32.not_lt.mp hz) ?_
      conv => whnf
      try dsimp only
      refine hR ?_
      have := ih (k + 1) σ2 (some (.int ((tksA i (stP (upd P (4 * d) (nI k)) (-4))).2.2 14))) (by omega) hf2
      rw [← q, nI_succ] at this
      exact this
theorem s_D_kind {σ : wd_S} {d n w : Int32} (hr : relC σ 10 P) (hw : wf P) (h : ∀ σ', frD σ σ' → Q (some (.int (aKind P d n w))) σ' τ) : Run wC G M_D_kind 0 [some (.ref 0), some (.int d), some (.int n), some (.int w), none, none, none, none] [] σ τ Q := by
  refine wd_go ok_D_kind [41] 20 (fun R hR => ?_)
  conv => whnf
  try dsimp only
  refine hR (k_D_kind_2 (Nat.le_of_ble_eq_true rfl) rfl (s_D_noDog hr ?_))
  cases hd : inB d 0 (P 16 - 1) with
  | false =>
    refine wd_go ok_D_kind [41] 20 (fun R hR => ?_)
    conv => whnf
    try dsimp only
    refine nb_t (by decide) ?_
    conv => whnf
    try dsimp only
    have h := h σ frD.rf
    rw [aKind, if_neg (fun z => by rw [hd] at z; cases z.1)] at h
    exact h
  | true =>
    refine wd_go ok_D_kind [41] 20 (fun R hR => ?_)
    conv => whnf
    try dsimp only
    refine nb_f rfl ?_
    conv => whnf
    try dsimp only
    refine hR (k_D_kind_13 (Nat.le_of_ble_eq_true rfl) (s_D_outside ?_))
    cases hn : inB n 0 200 with
    | false =>
      refine wd_go ok_D_kind [41] 20 (fun R hR => ?_)
      conv => whnf
      try dsimp only
      refine nb_t (by decide) ?_
      conv => whnf
      try dsimp only
      have h := h σ frD.rf
      rw [aKind, if_neg (fun z => by rw [hn] at z; cases z.2.1)] at h
      exact h
    | true =>
      refine wd_go ok_D_kind [41] 20 (fun R hR => ?_)
      conv => whnf
      try dsimp only
      refine nb_f rfl ?_
      conv => whnf
      try dsimp only
      refine hR (k_D_kind_22 (Nat.le_of_ble_eq_true rfl) (s_D_outside ?_))
      cases hp : inB w 0 1 with
      | false =>
        refine wd_go ok_D_kind [41] 20 (fun R hR => ?_)
        conv => whnf
        try dsimp only
        refine br_f (by decide) ?_
        conv => whnf
        try dsimp only
        have h := h σ frD.rf
        rw [aKind, if_neg (fun z => by rw [hp] at z; cases z.2.2)] at h
        exact h
      | true =>
        rw [aKind, if_pos ⟨hd, hn, hp⟩] at h
        rw [hw.1.1] at hd
        have hD4 := hw.1.2
        obtain ⟨d, hdd, rfl⟩ := inD (by omega) hd
        obtain ⟨n, hnn, rfl⟩ := inN (N := 200) (by decide) hn
        rw [nI_clamp (by omega), nI_clamp (by omega)] at h
        refine wd_go ok_D_kind [41] 20 (fun R hR => ?_)
        conv => whnf
        try dsimp only
        refine br_t rfl ?_
        conv => whnf
        try dsimp only
        exact hR (l_D_kind hr hw hdd hnn h 4 0 σ none (by omega) frD.rf)
theorem s_D_asItIs {σ : wd_S} {n : Nat} (hr : relC σ 10 P) (hw : wf P) (hn : n < 2 ^ 31) (h : ∀ σ', frD σ σ' → Q (some (.int (baC P n))) σ' τ) : Run wC G M_D_resetsAsItIs 0 [some (.ref 0), some (.int (nI n))] [] σ τ Q := by
  refine wd_go ok_D_resetsAsItIs [] 20 (fun R hR => ?_)
  conv => whnf
  try dsimp only
  refine hR (k_D_resetsAsItIs_8 (Nat.le_of_ble_eq_true rfl) rfl (s_T_begin hr (wf_bd hw) (stP_is P) (fun σ1 r1 f1 => ?_)))
  refine wd_go ok_D_resetsAsItIs [] 20 (fun R hR => ?_)
  conv => whnf
  try dsimp only
  refine hR (k_D_resetsAsItIs_16 (Nat.le_of_ble_eq_true rfl) rfl (s_T_walk r1 hw hn (fun σ2 r3 f2 => ?_)))
  refine wd_go ok_D_resetsAsItIs [] 20 (fun R hR => ?_)
  conv => whnf
  try dsimp only
  rw [r3.2.1]
  exact h σ2 (f1.tr f2).D
theorem l_D_sleep {σ0 : wd_S} {n : Nat} {w : Int32} (hr : relC σ0 10 P) (hw : wf P) (hn : n < 2 ^ 31) (h : ∀ σ', frD σ0 σ' → Q (some (.int (jgA (slF P n (dN P)) w))) σ' τ) : ∀ (m k : Nat) (σ : wd_S) (l6 : Option Value), dN P = k + m → frD σ0 σ → Run wC G M_D_sleep 35 [some (.ref 0), some (.int (nI n)), some (.int w), some (.int (slF P n k).1), some (.int (slF P n k).2), some (.int (nI k)), l6] [] σ τ Q := by
  have hD4 := hw.1.2
  intro m
  induction m with
  | zero =>
    intro k σ l6 hk hf
    have e : k = dN P := by omega
    subst e
    have h := h σ hf
    rw [jgA] at h
    refine wd_go ok_D_sleep [35] 20 (fun R hR => ?_)
    conv => whnf
    try dsimp only
    rw [(hf.C hr).1.1, hw.1.1]
    refine br_t (nI_le (Nat.le_refl _) (by omega)) ?_
    conv => whnf
    try dsimp only
    by_cases h1 : (slF P n (dN P)).1 = -4
    · rw [if_pos h1] at h
      refine br_t h1 ?_
      conv => whnf
      try dsimp only
      rw [h1]
      exact h
    · rw [if_neg h1] at h
      refine br_f h1 ?_
      conv => whnf
      try dsimp only
      by_cases hz : w = 0
      · rw [if_pos hz] at h
        refine nb_f hz ?_
        conv => whnf
        try dsimp only
        exact h
      · rw [if_neg hz] at h
        refine nb_t hz ?_
        conv => whnf
        try dsimp only
        exact h
  | succ m ih =>
    intro k σ l6 hk hf
    refine wd_go ok_D_sleep [35] 20 (fun R hR => ?_)
    conv => whnf
    try dsimp only
    rw [(hf.C hr).1.1, hw.1.1]
    refine br_f (nI_ge (by omega) (by omega)) ?_
    conv => whnf
    try dsimp only
    refine hR (k_D_sleep_55 (Nat.le_of_ble_eq_true rfl) rfl (s_T_begin (hf.C hr) (wf_bd hw) (stP_is P) (fun σ1 r1 f1 => ?_)))
    refine wd_go ok_D_sleep [35] 20 (fun R hR => ?_)
    conv => whnf
    try dsimp only
    have r2 : relT (wd_uc σ1 1 (upd (σ1 1) 7 (nI k))) (stP P (nI k)) := by
      obtain ⟨g1, g3, g4, g5, g6, g7, g2⟩ := r1
      exact ⟨relC_kept g1 (fun j hj => uc_n (by omega)), g3, g4, g5, g6, rfl, g2⟩
    refine hR (k_D_sleep_74 (Nat.le_of_ble_eq_true rfl) rfl (s_T_below r2 hw hn (fun σ2 i hi r3 f2 hc => ?_)))
    have hf2 : frD σ0 σ2 := hf.tr ((f1.uc (by omega)).tr f2).D
    have q : jgS (slF P n k) (nI k) ((tksA i (stP P (nI k))).2.2 14) = slF P n (k + 1) := cnt_cmp (m := 0) (j := 0) rfl hi hn _ hc rfl
    rw [jgS] at q
    refine wd_go ok_D_sleep [35] 20 (fun R hR => ?_)
    conv => whnf
    try dsimp only
    by_cases hz : (tksA i (stP P (nI k))).2.2 14 < (slF P n k).2
    · rw [if_pos hz] at q
      refine br_f (Int32.not_le.mpr hz) ?_
      conv => whnf
      try dsimp only
      refine hR ?_
      have := ih (k + 1) σ2 (some (.int ((tksA i (stP P (nI k))).2.2 14))) (by omega) hf2
      rw [← q, nI_succ] at this
      exact this
    · rw [if_neg hz] at q
      refine br_t (Int32.not_lt.mp hz) ?_
      conv => whnf
      try dsimp only
      refine hR ?_
      have := ih (k + 1) σ2 (some (.int ((tksA i (stP P (nI k))).2.2 14))) (by omega) hf2
      rw [← q, nI_succ] at this
      exact this
theorem h_D_sleep {σ : wd_S} {n w : Int32} (hr : relC σ 10 P) (hw : wf P) (h : ∀ σ', frD σ σ' → Q (some (.int (aSleep P n w))) σ' τ) (hk : ∀ (n : Nat) (σ' : wd_S), n ≤ 200 → frD σ σ' → (∀ σ', frD σ σ' → Q (some (.int (jgA (slF P n (dN P)) w))) σ' τ) → Run wC G M_D_sleep 35 ([some (.ref 0), some (.int (nI n)), some (.int w), some (.int (-4)), some (.int (baC P n)), some (.int (nI 0)), none] ) [] σ' τ Q) : Run wC G M_D_sleep 0 ([some (.ref 0), some (.int n), some (.int w), none, none, none, none] ) [] σ τ Q := by
  refine wd_go ok_D_sleep [35] 20 (fun R hR => ?_)
  conv => whnf
  try dsimp only
  refine hR (k_D_sleep_5 (Nat.le_of_ble_eq_true rfl) (s_D_outside ?_))
  cases hn : inB n 0 200 with
  | false =>
    refine wd_go ok_D_sleep [35] 20 (fun R hR => ?_)
    conv => whnf
    try dsimp only
    refine nb_t (by decide) ?_
    conv => whnf
    try dsimp only
    have h := h σ frD.rf
    rw [aSleep, if_neg (fun z => by rw [hn] at z; cases z.1)] at h
    exact h
  | true =>
    refine wd_go ok_D_sleep [35] 20 (fun R hR => ?_)
    conv => whnf
    try dsimp only
    refine nb_f rfl ?_
    conv => whnf
    try dsimp only
    refine hR (k_D_sleep_14 (Nat.le_of_ble_eq_true rfl) (s_D_outside ?_))
    cases hp : inB w 0 1 with
    | false =>
      refine wd_go ok_D_sleep [35] 20 (fun R hR => ?_)
      conv => whnf
      try dsimp only
      refine br_f (by decide) ?_
      conv => whnf
      try dsimp only
      have h := h σ frD.rf
      rw [aSleep, if_neg (fun z => by rw [hp] at z; cases z.2)] at h
      exact h
    | true =>
      rw [aSleep, if_pos ⟨hn, hp⟩] at h
      obtain ⟨n, hnn, rfl⟩ := inN (N := 200) (by decide) hn
      rw [nI_clamp (by omega)] at h
      refine wd_go ok_D_sleep [35] 20 (fun R hR => ?_)
      conv => whnf
      try dsimp only
      refine br_t rfl ?_
      conv => whnf
      try dsimp only
      refine hR (k_D_sleep_27 (Nat.le_of_ble_eq_true rfl) rfl (s_D_asItIs hr hw (by omega) (fun σ1 f1 => ?_)))
      refine wd_go ok_D_sleep [35] 20 (fun R hR => ?_)
      conv => whnf
      try dsimp only
      exact hR (hk n σ1 hnn f1 h)
theorem h_D_swap {σ : wd_S} {n w : Int32} (hr : relC σ 10 P) (hw : wf P) (h : ∀ σ', frD σ σ' → Q (some (.int (aSwap P n w))) σ' τ) (hk : ∀ (n : Nat) (σ' : wd_S), n ≤ 200 → frD σ σ' → (∀ σ', frD σ σ' → Q (some (.int (jgA (swO P n (sN P)) w))) σ' τ) → Run wC G M_D_swap 35 ([some (.ref 0), some (.int (nI n)), some (.int w), some (.int (-4)), some (.int (baC P n)), some (.int (nI 0)), none] ++ [none]) [] σ' τ Q) : Run wC G M_D_swap 0 ([some (.ref 0), some (.int n), some (.int w), none, none, none, none] ++ [none]) [] σ τ Q := by
  refine wd_go ok_D_swap [35] 20 (fun R hR => ?_)
  conv => whnf
  try dsimp only
  refine hR (k_D_swap_5 (Nat.le_of_ble_eq_true rfl) (s_D_outside ?_))
  cases hn : inB n 0 200 with
  | false =>
    refine wd_go ok_D_swap [35] 20 (fun R hR => ?_)
    conv => whnf
    try dsimp only
    refine nb_t (by decide) ?_
    conv => whnf
    try dsimp only
    have h := h σ frD.rf
    rw [aSwap, if_neg (fun z => by rw [hn] at z; cases z.1)] at h
    exact h
  | true =>
    refine wd_go ok_D_swap [35] 20 (fun R hR => ?_)
    conv => whnf
    try dsimp only
    refine nb_f rfl ?_
    conv => whnf
    try dsimp only
    refine hR (k_D_swap_14 (Nat.le_of_ble_eq_true rfl) (s_D_outside ?_))
    cases hp : inB w 0 1 with
    | false =>
      refine wd_go ok_D_swap [35] 20 (fun R hR => ?_)
      conv => whnf
      try dsimp only
      refine br_f (by decide) ?_
      conv => whnf
      try dsimp only
      have h := h σ frD.rf
      rw [aSwap, if_neg (fun z => by rw [hp] at z; cases z.2)] at h
      exact h
    | true =>
      rw [aSwap, if_pos ⟨hn, hp⟩] at h
      obtain ⟨n, hnn, rfl⟩ := inN (N := 200) (by decide) hn
      rw [nI_clamp (by omega)] at h
      refine wd_go ok_D_swap [35] 20 (fun R hR => ?_)
      conv => whnf
      try dsimp only
      refine br_t rfl ?_
      conv => whnf
      try dsimp only
      refine hR (k_D_swap_27 (Nat.le_of_ble_eq_true rfl) rfl (s_D_asItIs hr hw (by omega) (fun σ1 f1 => ?_)))
      refine wd_go ok_D_swap [35] 20 (fun R hR => ?_)
      conv => whnf
      try dsimp only
      exact hR (hk n σ1 hnn f1 h)
theorem s_D_sleep {σ : wd_S} {n w : Int32} (hr : relC σ 10 P) (hw : wf P) (h : ∀ σ', frD σ σ' → Q (some (.int (aSleep P n w))) σ' τ) : Run wC G M_D_sleep 0 [some (.ref 0), some (.int n), some (.int w), none, none, none, none] [] σ τ Q :=
  h_D_sleep hr hw h (fun n σ' hn hf h => l_D_sleep hr hw (by omega) h (dN P) 0 σ' none (by omega) hf)
theorem s_D_swapped {σ : wd_S} {n a b : Nat} {S : Int32 × Int32} {code : Int32} (hr : relC σ 10 P) (hw : wf P) (hn : n < 2 ^ 31) (ha : a < sN P) (hb : b < sN P) (hS : S.2 ≤ baC P n) (h : ∀ σ' x, frD σ σ' → jgS S code x = jgS S code (swC P n a b) → Q (some (.int x)) σ' τ) : Run wC G M_D_resetsSwapped 0 [some (.ref 0), some (.int (nI a)), some (.int (nI b)), some (.int S.2), some (.int (nI n))] [] σ τ Q := by
  have hs16 := hw.2.1.2
  have sa : σ 15 a = P (17 + a) := hr.2.2.1 a ha
  have sb : σ 15 b = P (17 + b) := hr.2.2.1 b hb
  refine wd_go ok_D_resetsSwapped [] 20 (fun R hR => ?_)
  conv => whnf
  try dsimp only
  refine ⟨vp_in_nI (by first | decide | omega) (by first | decide | omega), ?_⟩
  conv => whnf
  try dsimp only
  refine ⟨vp_in_nI (by first | decide | omega) (by first | decide | omega), ?_⟩
  conv => whnf
  try dsimp only
  rw [nI_clamp (by omega), nI_clamp (by omega), sa, sb]
  by_cases hz : P (17 + a) = P (17 + b)
  · refine nb_f hz ?_
    conv => whnf
    try dsimp only
    refine h σ _ frD.rf ?_
    have e : swP P a b = P := by
      rw [swP, ← hz, upd_self, hz, upd_self]
    have e2 : swC P n a b = baC P n := by
      rw [swC, e]
      rfl
    rw [e2, jgS, jgS, if_neg (fun z => Int32.lt_irrefl z), if_neg (Int32.not_lt.mpr hS)]
  · refine nb_t hz ?_
    conv => whnf
    try dsimp only
    refine hR (k_D_resetsSwapped_31 (Nat.le_of_ble_eq_true rfl) rfl (s_T_begin hr (wf_bd hw) (stP_is P) (fun σ1 r1 f1 => ?_)))
    have sa : σ1 15 a = P (17 + a) := by rw [f1 15 (by omega), sa]
    have sb : σ1 15 b = P (17 + b) := by rw [f1 15 (by omega), sb]
    refine wd_go ok_D_resetsSwapped [] 40 (fun R hR => ?_)
    conv => whnf
    try dsimp only
    refine ⟨vp_in_nI (by first | decide | omega) (by first | decide | omega), ?_⟩
    conv => whnf
    try dsimp only
    refine ⟨vp_in_nI (by first | decide | omega) (by first | decide | omega), ?_⟩
    conv => whnf
    try dsimp only
    refine ⟨vp_in_nI (by first | decide | omega) (by first | decide | omega), ?_⟩
    conv => whnf
    try dsimp only
    refine ⟨vp_in_nI (by first | decide | omega) (by first | decide | omega), ?_⟩
    conv => whnf
    try dsimp only
    rw [nI_clamp (by omega), nI_clamp (by omega), uc_n (c' := 15) (by decide), sa, sb]
    have hw1 : wf (upd P (17 + a) (P (17 + b))) := wf_sgn (by omega) hw
    have r2 := relT_sgn (i := b) (x := P (17 + a)) hw1 (by omega) (relT_sgn (i := a) (x := P (17 + b)) hw (by omega) r1)
    have hwu : wf (swP P a b) := wf_sgn (by omega) hw1
    refine hR (k_D_resetsSwapped_83 (Nat.le_of_ble_eq_true rfl) rfl (s_T_below r2 hwu hn (fun σ2 i hi r3 f2 hc => ?_)))
    refine wd_go ok_D_resetsSwapped [] 20 (fun R hR => ?_)
    conv => whnf
    try dsimp only
    refine h σ2 _ (((f1.uc (by omega)).uc (by omega)).tr f2).D ?_
    exact cnt_cmp (u := stP (swP P a b) (-4)) (m := 0) (j := 0) rfl hi hn _ hc rfl
theorem l_D_swapI {σ0 : wd_S} {n a : Nat} {w : Int32} {S : Int32 × Int32} (hr : relC σ0 10 P) (hw : wf P) (hn : n < 2 ^ 31) (ha : a < sN P) (hS : S.2 ≤ baC P n) (h : ∀ σ l7, frD σ0 σ → Run wC G M_D_swap 35 [some (.ref 0), some (.int (nI n)), some (.int w), some (.int (swI P n a S (sN P - (a + 1))).1), some (.int (swI P n a S (sN P - (a + 1))).2), some (.int (nI (a + 1))), some (.int (nI (sN P))), l7] [] σ τ Q) :
    ∀ (m k : Nat) (σ : wd_S) (l7 : Option Value), sN P = a + 1 + k + m → frD σ0 σ → Run wC G M_D_swap 53 [some (.ref 0), some (.int (nI n)), some (.int w), some (.int (swI P n a S k).1), some (.int (swI P n a S k).2), some (.int (nI a)), some (.int (nI (a + 1 + k))), l7] [] σ τ Q := by
  have hs16 := hw.2.1.2
  intro m
  induction m with
  | zero =>
    intro k σ l7 hk hf
    have e : a + 1 + k = sN P := by omega
    have e' : sN P - (a + 1) = k := by omega
    refine wd_go ok_D_swap [35, 53] 20 (fun R hR => ?_)
    conv => whnf
    try dsimp only
    rw [(hf.C hr).1.2.1, hw.2.1.1]
    refine br_t (nI_le (by omega) (by omega)) ?_
    conv => whnf
    try dsimp only
    refine fL_to ?_
    conv => whnf
    try dsimp only
    refine hR ?_
    have := h σ l7 hf
    rw [nI_succ, e'] at this
    rw [e]
    exact this
  | succ m ih =>
    intro k σ l7 hk hf
    refine wd_go ok_D_swap [35, 53] 20 (fun R hR => ?_)
    conv => whnf
    try dsimp only
    rw [(hf.C hr).1.2.1, hw.2.1.1]
    refine br_f (nI_ge (by omega) (by omega)) ?_
    conv => whnf
    try dsimp only
    refine hR (k_D_swap_73 (Nat.le_of_ble_eq_true rfl) rfl (s_D_swapped (S := swI P n a S k) (code := 100 * nI a + nI (a + 1 + k)) (hf.C hr) hw hn ha (by omega) (Int32.le_trans (sw_le P n a S k) hS) (fun σ2 x f2 q => ?_)))
    have q : jgS (swI P n a S k) (100 * nI a + nI (a + 1 + k)) x = swI P n a S (k + 1) := q
    have hf2 : frD σ0 σ2 := hf.tr f2
    rw [jgS] at q
    refine wd_go ok_D_swap [35, 53] 20 (fun R hR => ?_)
    conv => whnf
    try dsimp only
    by_cases hz : x < (swI P n a S k).2
    · rw [if_pos hz] at q
      refine br_f (Int32.not_le.mpr hz) ?_
      conv => whnf
      try dsimp only
      refine hR ?_
      have := ih (k + 1) σ2 (some (.int x)) (by omega) hf2
      rw [← q, ← Nat.add_assoc, nI_succ (n := a + 1 + k)] at this
      exact this
    · rw [if_neg hz] at q
      refine br_t (Int32.not_lt.mp hz) ?_
      conv => whnf
      try dsimp only
      refine hR ?_
      have := ih (k + 1) σ2 (some (.int x)) (by omega) hf2
      rw [← q, ← Nat.add_assoc, nI_succ (n := a + 1 + k)] at this
      exact this
theorem sw_leO (P : wRow) (n : Nat) : ∀ a, (swO P n a).2 ≤ baC P n
  | 0 => Int32.le_refl _
  | a + 1 => Int32.le_trans (sw_le P n a _ _) (sw_leO P n a)
theorem l_D_swap {σ0 : wd_S} {n : Nat} {w : Int32} (hr : relC σ0 10 P) (hw : wf P) (hn : n < 2 ^ 31) (h : ∀ σ', frD σ0 σ' → Q (some (.int (jgA (swO P n (sN P)) w))) σ' τ) : ∀ (m k : Nat) (σ : wd_S) (l6 l7 : Option Value), sN P = k + m → frD σ0 σ → Run wC G M_D_swap 35 [some (.ref 0), some (.int (nI n)), some (.int w), some (.int (swO P n k).1), some (.int (swO P n k).2), some (.int (nI k)), l6, l7] [] σ τ Q := by
  have hs16 := hw.2.1.2
  intro m
  induction m with
  | zero =>
    intro k σ l6 l7 hk hf
    have e : k = sN P := by omega
    subst e
    have h := h σ hf
    rw [jgA] at h
    refine wd_go ok_D_swap [35, 53] 20 (fun R hR => ?_)
    conv => whnf
    try dsimp only
    rw [(hf.C hr).1.2.1, hw.2.1.1]
    refine br_t (nI_le (Nat.le_refl _) (by omega)) ?_
    conv => whnf
    try dsimp only
    by_cases h1 : (swO P n (sN P)).1 = -4
    · rw [if_pos h1] at h
      refine br_t h1 ?_
      conv => whnf
      try dsimp only
      rw [h1]
      exact h
    · rw [if_neg h1] at h
      refine br_f h1 ?_
      conv => whnf
      try dsimp only
      by_cases hz : w = 0
      · rw [if_pos hz] at h
        refine nb_f hz ?_
        conv => whnf
        try dsimp only
        exact h
      · rw [if_neg hz] at h
        refine nb_t hz ?_
        conv => whnf
        try dsimp only
        exact h
  | succ m ih =>
    intro k σ l6 l7 hk hf
    refine wd_go ok_D_swap [35, 53] 20 (fun R hR => ?_)
    conv => whnf
    try dsimp only
    rw [(hf.C hr).1.2.1, hw.2.1.1]
    refine br_f (nI_ge (by omega) (by omega)) ?_
    conv => whnf
    try dsimp only
    rw [il1, nI_add]
    refine fL_to ?_
    conv => whnf
    try dsimp only
    refine hR (l_D_swapI (a := k) (S := swO P n k) hr hw hn (by omega) (sw_leO P n k) (fun σ' l7 hf' => ?_) m 0 σ _ (by omega) hf)
    exact ih (k + 1) σ' _ l7 (by omega) hf'
theorem s_D_swap {σ : wd_S} {n w : Int32} (hr : relC σ 10 P) (hw : wf P) (h : ∀ σ', frD σ σ' → Q (some (.int (aSwap P n w))) σ' τ) : Run wC G M_D_swap 0 [some (.ref 0), some (.int n), some (.int w), none, none, none, none, none] [] σ τ Q :=
  h_D_swap hr hw h (fun n σ' hn hf h => l_D_swap hr hw (by omega) h (sN P) 0 σ' none none (by omega) hf)
end C
