/-! ANSWERS: when, need, most -/
/-- RESETS counted -/
def cntA (u : wU) : Nat → Nat
  | 0 => 0
  | n + 1 => cntA u n + (if (tksA (n + 1) u).2.2 18 = 0 then 0 else 1)
theorem tik_18 {u : wU} {s : Int32} : ((tikA u s).2.2 18 = 0 ∧ (tikA u s).2.2 14 = u.2.2 14) ∨ ((tikA u s).2.2 18 = 1 ∧ (tikA u s).2.2 14 = u.2.2 14 + 1) := by
  rcases Nat.eq_zero_or_pos (mskA u s (dN u.1)) with h | h
  · rw [tik_0 h]
    dsimp only
    rw [upd_s, upd_n (by decide), dogsA_o (by decide) (by decide)]
    exact Or.inl ⟨rfl, rfl⟩
  · rw [tik_1 h]
    dsimp only
    rw [upd_s, upd_n (by decide), upd_s, dogsA_o (by decide) (by decide)]
    exact Or.inr ⟨rfl, rfl⟩
theorem tk_18 {lost : Bool} {u : wU} : ((tkA lost u).2.2 18 = 0 ∧ (tkA lost u).2.2 14 = u.2.2 14) ∨ ((tkA lost u).2.2 18 = 1 ∧ (tkA lost u).2.2 14 = u.2.2 14 + 1) := tik_18
theorem cnt_is {u : wU} (h : u.2.2 14 = 0) : ∀ n, (tksA n u).2.2 14 = nI (cntA u n)
  | 0 => h
  | n + 1 => by
    have i := cnt_is h n
    rw [cntA]
    rcases tk_18 (lost := false) (u := tksA n u) with ⟨h1, h2⟩ | ⟨h1, h2⟩
    · have h1 : (tksA (n + 1) u).2.2 18 = 0 := h1
      have h2 : (tksA (n + 1) u).2.2 14 = (tksA n u).2.2 14 := h2
      rw [if_pos h1, h2, i, Nat.add_zero]
    · have h1 : (tksA (n + 1) u).2.2 18 = 1 := h1
      have h2 : (tksA (n + 1) u).2.2 14 = (tksA n u).2.2 14 + 1 := h2
      rw [if_neg (by rw [h1]; decide), h2, i, nI_1]
theorem cnt_le {u : wU} : ∀ n, cntA u n ≤ n
  | 0 => Nat.le_refl 0
  | n + 1 => by
    have := cnt_le (u := u) n
    rw [cntA]
    split <;> omega
theorem cnt_mono {u : wU} {k : Nat} : ∀ m, cntA u k ≤ cntA u (k + m)
  | 0 => Nat.le_refl _
  | m + 1 => by
    have := cnt_mono (u := u) (k := k) m
    rw [← Nat.add_assoc, cntA]
    omega
def whF (P : wRow) : Nat → Nat → Int32
  | 0, _ => -4
  | m + 1, t => if (tksA (t + 1) (stP P (-4))).2.2 18 = 0 then whF P m (t + 1) else nI t
def bitV (P : wRow) (d n : Nat) (v : Nat) : Bool := decide (0 < (tksA n (stP (upd P (4 * d + 1) (nI v)) (-4))).2.1 d)
def ndF (P : wRow) (d n : Nat) : Nat → Nat → Int32
  | 0, _ => -4
  | m + 1, v => if bitV P d n v = true then ndF P d n m (v + 1) else nI v
def msF (P : wRow) (d n : Nat) : Nat → Int32
  | 0 => -4
  | v + 1 => if bitV P d n (v + 1) = true then nI (v + 1) else msF P d n v
def aNeed (P : wRow) (d n : Int32) : Int32 := if inB d 0 (P 16 - 1) = true ∧ inB n 0 200 = true then ndF P d.toNatClampNeg n.toNatClampNeg 20 1 else -1
def aMost (P : wRow) (d n : Int32) : Int32 := if inB d 0 (P 16 - 1) = true ∧ inB n 0 200 = true then msF P d.toNatClampNeg n.toNatClampNeg 20 else -1
theorem stU_mod {σ : wd_S} {j : Nat} {v : Int32} (hj : j < 61) : eqU (upd (stU σ).1 j v, (stU σ).2.1, (stU σ).2.2) (stP (upd (σ 1) j v) (-4)) := by
  obtain ⟨h1, h2, h3⟩ := stU_eq σ
  exact ⟨fun k hk => upd_eq (fun _ => h1 k hk) rfl, h2, h3⟩
section R
variable {G : wd_G} {τ : wd_T} {Q : wd_P}
theorem l_R_when {σ : wd_S} (hw : wf (σ 1)) {x : Int32} (h : ∀ σ', frR σ σ' → Q (some (.int x)) σ' τ) : ∀ (m t : Nat), 201 = t + m → whF (σ 1) m t = x → Run wR G M_R_when 6 [some (.ref 0), some (.int (nI t))] [] (mR σ (tksA t (stU σ))) τ Q := by
  intro m
  induction m with
  | zero =>
    intro t ht hx
    have e : t = 201 := by omega
    subst e
    refine wd_go ok_R_when [6] 20 (fun R hR => ?_)
    conv => whnf
    try dsimp only
    refine br_t (by decide) ?_
    conv => whnf
    try dsimp only
    rw [whF] at hx
    rw [hx]
    exact h _ (frR_tks (fun k hk => stU_o hk))
  | succ m ih =>
    intro t ht hx
    refine wd_go ok_R_when [6] 20 (fun R hR => ?_)
    conv => whnf
    try dsimp only
    rw [il200]
    refine br_f (nI_nlt (by omega) (by decide)) ?_
    conv => whnf
    try dsimp only
    refine hR (k_R_when_15 (Nat.le_of_ble_eq_true rfl) rfl (s_R_tickGoes (lost := false) (tks_wf (stU_wf hw) t).1 ?_))
    have e18 : (tkA false (tksA t (stU σ))).2.2 18 = (tksA (t + 1) (stP (σ 1) (-4))).2.2 18 := (eq_tksA (stU_wf hw) (stU_eq σ) (t + 1)).2 (by omega)
    rw [whF] at hx
    refine wd_go ok_R_when [6] 20 (fun R hR => ?_)
    conv => whnf
    try dsimp only
    have e0 : mR σ (tkA false (tksA t (stU σ))) 0 18 = (tksA (t + 1) (stP (σ 1) (-4))).2.2 18 := e18
    rw [e0]
    by_cases hz : (tksA (t + 1) (stP (σ 1) (-4))).2.2 18 = 0
    · rw [if_pos hz] at hx
      refine br_t hz ?_
      conv => whnf
      try dsimp only
      refine hR ?_
      have := ih (t + 1) (by omega) hx
      rw [nI_succ] at this
      exact this
    · rw [if_neg hz] at hx
      refine br_f hz ?_
      conv => whnf
      try dsimp only
      rw [hx]
      exact h _ (frR_tks (n := t + 1) (fun k hk => stU_o hk))
theorem s_R_when {σ : wd_S} (hw : wf (σ 1)) (h : ∀ σ', frR σ σ' → Q (some (.int (whF (σ 1) 201 0))) σ' τ) : Run wR G M_R_when 0 [some (.ref 0), none] [] σ τ Q := by
  refine wd_go ok_R_when [6] 20 (fun R hR => ?_)
  conv => whnf
  try dsimp only
  refine hR (k_R_when_1 (Nat.le_of_ble_eq_true rfl) rfl (s_R_starts ?_))
  refine wd_go ok_R_when [6] 20 (fun R hR => ?_)
  conv => whnf
  try dsimp only
  exact hR (l_R_when hw h 201 0 (by omega) rfl)
theorem s_R_bitesBy {σ : wd_S} {d v n : Nat} (hw : wf (σ 1)) (hd : d < 4) (hn : n < 2 ^ 31) (h : ∀ σ', frR σ σ' → Q (some (.int (bI (bitV (σ 1) d n v)))) σ' τ) : Run wR G M_R_bitesBy 0 [some (.ref 0), some (.int (nI d)), some (.int (nI v)), some (.int (nI n))] [] σ τ Q := by
  refine wd_go ok_R_bitesBy [] 20 (fun R hR => ?_)
  conv => whnf
  try dsimp only
  refine hR (k_R_bitesBy_1 (Nat.le_of_ble_eq_true rfl) rfl (s_R_starts ?_))
  refine wd_go ok_R_bitesBy [] 20 (fun R hR => ?_)
  conv => whnf
  try dsimp only
  refine hR (k_R_bitesBy_8 (Nat.le_of_ble_eq_true rfl) rfl (s_R_becomesOf (k := 1) hd (by decide) ?_))
  rw [mR_2, mR_w2]
  refine wd_go ok_R_bitesBy [] 20 (fun R hR => ?_)
  conv => whnf
  try dsimp only
  have hwu : wf (upd (stU σ).1 (4 * d + 1) (nI v)) := wf_lim hd (stU_wf hw)
  refine hR (k_R_bitesBy_13 (Nat.le_of_ble_eq_true rfl) rfl (s_R_ticksGo hwu hn ?_))
  have h := h (mR σ (tksA n (upd (stU σ).1 (4 * d + 1) (nI v), (stU σ).2.1, (stU σ).2.2))) (frR_tks (fun k hk => stU_o hk))
  have q := (eq_tksA hwu (stU_mod (σ := σ) (j := 4 * d + 1) (v := nI v) (by omega)) n).1.2.1 d hd
  refine wd_go ok_R_bitesBy [] 20 (fun R hR => ?_)
  conv => whnf
  try dsimp only
  refine ⟨vp_in_nI (by first | decide | omega) (by first | decide | omega), ?_⟩
  conv => whnf
  try dsimp only
  rw [mR_6, nI_clamp (by omega), q]
  by_cases hz : 0 < (tksA n (stP (upd (σ 1) (4 * d + 1) (nI v)) (-4))).2.1 d
  · refine br_f (Int32.not_le.mpr hz) ?_
    conv => whnf
    try dsimp only
    rw [bitV, decide_eq_true hz] at h
    exact ⟨Or.inr rfl, h⟩
  · refine br_t (Int32.not_lt.mp hz) ?_
    conv => whnf
    try dsimp only
    rw [bitV, decide_eq_false hz] at h
    exact ⟨Or.inl rfl, h⟩
theorem l_R_need {σ0 : wd_S} {d n : Nat} {x : Int32} (hw : wf (σ0 1)) (hd : d < 4) (hn : n < 2 ^ 31) (h : ∀ σ', frR σ0 σ' → Q (some (.int x)) σ' τ) : ∀ (m v : Nat) (σ : wd_S), 21 = v + m → ndF (σ0 1) d n m v = x → frR σ0 σ → Run wR G M_R_need 19 [some (.ref 0), some (.int (nI d)), some (.int (nI n)), some (.int (nI v))] [] σ τ Q := by
  intro m
  induction m with
  | zero =>
    intro v σ hv hx hf
    have e : v = 21 := by omega
    subst e
    refine wd_go ok_R_need [19] 20 (fun R hR => ?_)
    conv => whnf
    try dsimp only
    refine br_t (by decide) ?_
    conv => whnf
    try dsimp only
    rw [ndF] at hx
    rw [hx]
    exact h σ hf
  | succ m ih =>
    intro v σ hv hx hf
    have e1 : σ 1 = σ0 1 := hf.1 1 (by decide) (by decide) (by decide) (by decide) (by decide)
    refine wd_go ok_R_need [19] 20 (fun R hR => ?_)
    conv => whnf
    try dsimp only
    rw [il20]
    refine br_f (nI_nlt (by omega) (by decide)) ?_
    conv => whnf
    try dsimp only
    refine hR (k_R_need_29 (Nat.le_of_ble_eq_true rfl) rfl (s_R_bitesBy (by rw [e1]; exact hw) hd hn (fun σ' hf' => ?_)))
    rw [e1]
    rw [ndF] at hx
    cases hb : bitV (σ0 1) d n v with
    | true =>
      rw [if_pos hb] at hx
      refine wd_go ok_R_need [19] 20 (fun R hR => ?_)
      conv => whnf
      try dsimp only
      refine nb_t (by decide) ?_
      conv => whnf
      try dsimp only
      refine hR ?_
      have := ih (v + 1) σ' (by omega) hx (hf.tr hf')
      rw [nI_succ] at this
      exact this
    | false =>
      rw [if_neg (by rw [hb]; decide)] at hx
      refine wd_go ok_R_need [19] 20 (fun R hR => ?_)
      conv => whnf
      try dsimp only
      refine nb_f rfl ?_
      conv => whnf
      try dsimp only
      rw [hx]
      exact h σ' (hf.tr hf')
theorem s_R_need {σ : wd_S} {d n : Int32} (hw : wf (σ 1)) (h : ∀ σ', frR σ σ' → Q (some (.int (aNeed (σ 1) d n))) σ' τ) : Run wR G M_R_need 0 [some (.ref 0), some (.int d), some (.int n), none] [] σ τ Q := by
  refine wd_go ok_R_need [19] 20 (fun R hR => ?_)
  conv => whnf
  try dsimp only
  refine hR (k_R_need_2 (Nat.le_of_ble_eq_true rfl) rfl (s_R_isDog ?_))
  cases hd : inB d 0 (σ 1 16 - 1) with
  | false =>
    refine wd_go ok_R_need [19] 20 (fun R hR => ?_)
    conv => whnf
    try dsimp only
    refine br_t rfl ?_
    conv => whnf
    try dsimp only
    have h := h σ frR.rf
    rw [aNeed, if_neg (fun z => by rw [hd] at z; cases z.1)] at h
    exact h
  | true =>
    refine wd_go ok_R_need [19] 20 (fun R hR => ?_)
    conv => whnf
    try dsimp only
    refine br_f (by decide) ?_
    conv => whnf
    try dsimp only
    refine hR (k_R_need_9 (Nat.le_of_ble_eq_true rfl) (s_R_isFar ?_))
    cases hn : inB n 0 200 with
    | false =>
      refine wd_go ok_R_need [19] 20 (fun R hR => ?_)
      conv => whnf
      try dsimp only
      refine nb_f rfl ?_
      conv => whnf
      try dsimp only
      have h := h σ frR.rf
      rw [aNeed, if_neg (fun z => by rw [hn] at z; cases z.2)] at h
      exact h
    | true =>
      rw [aNeed, if_pos ⟨hd, hn⟩] at h
      rw [hw.1.1] at hd
      have hD4 := hw.1.2
      obtain ⟨d, hdd, rfl⟩ := inD (by omega) hd
      obtain ⟨n, hnn, rfl⟩ := inN (N := 200) (by decide) hn
      rw [nI_clamp (by omega), nI_clamp (by omega)] at h
      refine wd_go ok_R_need [19] 20 (fun R hR => ?_)
      conv => whnf
      try dsimp only
      refine nb_t (by decide) ?_
      conv => whnf
      try dsimp only
      exact hR (l_R_need hw (by omega) (by omega) h 20 1 σ (by omega) rfl frR.rf)
theorem l_R_most {σ0 : wd_S} {d n : Nat} {x : Int32} (hw : wf (σ0 1)) (hd : d < 4) (hn : n < 2 ^ 31) (h : ∀ σ', frR σ0 σ' → Q (some (.int x)) σ' τ) : ∀ (v : Nat) (σ : wd_S), v ≤ 20 → msF (σ0 1) d n v = x → frR σ0 σ → Run wR G M_R_most 20 [some (.ref 0), some (.int (nI d)), some (.int (nI n)), some (.int (nI v))] [] σ τ Q := by
  intro v
  induction v with
  | zero =>
    intro σ hv hx hf
    refine wd_go ok_R_most [20] 20 (fun R hR => ?_)
    conv => whnf
    try dsimp only
    refine br_t (by decide) ?_
    conv => whnf
    try dsimp only
    rw [msF] at hx
    rw [hx]
    exact h σ hf
  | succ v ih =>
    intro σ hv hx hf
    have e1 : σ 1 = σ0 1 := hf.1 1 (by decide) (by decide) (by decide) (by decide) (by decide)
    refine wd_go ok_R_most [20] 20 (fun R hR => ?_)
    conv => whnf
    try dsimp only
    refine br_f (nI_nle (by omega) (by omega)) ?_
    conv => whnf
    try dsimp only
    refine hR (k_R_most_28 (Nat.le_of_ble_eq_true rfl) rfl (s_R_bitesBy (by rw [e1]; exact hw) hd hn (fun σ' hf' => ?_)))
    rw [e1]
    rw [msF] at hx
    cases hb : bitV (σ0 1) d n (v + 1) with
    | true =>
      rw [if_pos hb] at hx
      refine wd_go ok_R_most [20] 20 (fun R hR => ?_)
      conv => whnf
      try dsimp only
      refine br_f (by decide) ?_
      conv => whnf
      try dsimp only
      rw [hx]
      exact h σ' (hf.tr hf')
    | false =>
      rw [if_neg (by rw [hb]; decide)] at hx
      refine wd_go ok_R_most [20] 20 (fun R hR => ?_)
      conv => whnf
      try dsimp only
      refine br_t rfl ?_
      conv => whnf
      try dsimp only
      refine hR ?_
      have := ih σ' (by omega) hx (hf.tr hf')
      rw [pk_m1]
      exact this
theorem s_R_most {σ : wd_S} {d n : Int32} (hw : wf (σ 1)) (h : ∀ σ', frR σ σ' → Q (some (.int (aMost (σ 1) d n))) σ' τ) : Run wR G M_R_most 0 [some (.ref 0), some (.int d), some (.int n), none] [] σ τ Q := by
  refine wd_go ok_R_most [20] 20 (fun R hR => ?_)
  conv => whnf
  try dsimp only
  refine hR (k_R_most_2 (Nat.le_of_ble_eq_true rfl) rfl (s_R_isDog ?_))
  cases hd : inB d 0 (σ 1 16 - 1) with
  | false =>
    refine wd_go ok_R_most [20] 20 (fun R hR => ?_)
    conv => whnf
    try dsimp only
    refine br_t rfl ?_
    conv => whnf
    try dsimp only
    have h := h σ frR.rf
    rw [aMost, if_neg (fun z => by rw [hd] at z; cases z.1)] at h
    exact h
  | true =>
    refine wd_go ok_R_most [20] 20 (fun R hR => ?_)
    conv => whnf
    try dsimp only
    refine br_f (by decide) ?_
    conv => whnf
    try dsimp only
    refine hR (k_R_most_9 (Nat.le_of_ble_eq_true rfl) (s_R_isFar ?_))
    cases hn : inB n 0 200 with
    | false =>
      refine wd_go ok_R_most [20] 20 (fun R hR => ?_)
      conv => whnf
      try dsimp only
      refine nb_f rfl ?_
      conv => whnf
      try dsimp only
      have h := h σ frR.rf
      rw [aMost, if_neg (fun z => by rw [hn] at z; cases z.2)] at h
      exact h
    | true =>
      rw [aMost, if_pos ⟨hd, hn⟩] at h
      rw [hw.1.1] at hd
      have hD4 := hw.1.2
      obtain ⟨d, hdd, rfl⟩ := inD (by omega) hd
      obtain ⟨n, hnn, rfl⟩ := inN (N := 200) (by decide) hn
      rw [nI_clamp (by omega), nI_clamp (by omega)] at h
      refine wd_go ok_R_most [20] 20 (fun R hR => ?_)
      conv => whnf
      try dsimp only
      refine nb_t (by decide) ?_
      conv => whnf
      try dsimp only
      exact hR (l_R_most hw (by omega) (by omega) h 20 σ (by omega) rfl frR.rf)
end R
