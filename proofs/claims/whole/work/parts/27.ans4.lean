/-! ANSWERS of the class: when, need, most -/
section C
variable {G : wd_G} {τ : wd_T} {Q : wd_P} {P : wRow}
theorem l_D_when {σ0 : wd_S} (hw : wf P) {x : Int32} (h : ∀ σ', frD σ0 σ' → Q (some (.int x)) σ' τ) : ∀ (m t : Nat) (σ : wd_S), 201 = t + m → whF P m t = x → relT σ (tksA t (stP P (-4))) → frD σ0 σ → Run wC G M_D_when 13 [some (.ref 0), some (.int (nI t))] [] σ τ Q := by
  intro m
  induction m with
  | zero =>
    intro t σ ht hx hr hf
    have e : t = 201 := by omega
    subst e
    refine wd_go ok_D_when [13] 20 (fun R hR => ?_)
    conv => whnf
    try dsimp only
    refine br_t (by decide) ?_
    conv => whnf
    try dsimp only
    rw [whF] at hx
    rw [hx]
    exact h σ hf
  | succ m ih =>
    intro t σ ht hx hr hf
    have hwi := (tks_wf (u := stP P (-4)) hw t).1
    refine wd_go ok_D_when [13] 20 (fun R hR => ?_)
    conv => whnf
    try dsimp only
    rw [il200]
    refine br_f (nI_nlt (by omega) (by decide)) ?_
    conv => whnf
    try dsimp only
    refine hR (k_D_when_31 (Nat.le_of_ble_eq_true rfl) rfl (s_next hr.1 hwi ?_))
    refine k_D_when_34 (st := []) (Nat.le_of_ble_eq_true rfl) rfl (s_T_step (relT_plc hwi hr) (plc_wf hwi).1 (fun σ' hr' hf' => ?_))
    rw [stp_tk] at hr' ⊢
    have hf2 : frD σ0 σ' := hf.tr ((frT.rf.uc (by omega)).tr hf').D
    rw [whF] at hx
    refine wd_go ok_D_when [13] 20 (fun R hR => ?_)
    conv => whnf
    try dsimp only
    by_cases hz : (tksA (t + 1) (stP P (-4))).2.2 18 = 0
    · rw [if_pos hz] at hx
      refine br_t hz ?_
      conv => whnf
      try dsimp only
      refine hR ?_
      have := ih (t + 1) σ' (by omega) hx hr' hf2
      rw [nI_succ] at this
      exact this
    · rw [if_neg hz] at hx
      refine br_f hz ?_
      conv => whnf
      try dsimp only
      rw [hx]
      exact h σ' hf2
theorem s_D_when {σ : wd_S} (hr : relC σ 10 P) (hw : wf P) (h : ∀ σ', frD σ σ' → Q (some (.int (whF P 201 0))) σ' τ) : Run wC G M_D_when 0 [some (.ref 0), none] [] σ τ Q := by
  refine wd_go ok_D_when [13] 20 (fun R hR => ?_)
  conv => whnf
  try dsimp only
  refine hR (k_D_when_8 (Nat.le_of_ble_eq_true rfl) rfl (s_T_begin hr (wf_bd hw) (stP_is P) (fun σ1 r1 f1 => ?_)))
  refine wd_go ok_D_when [13] 20 (fun R hR => ?_)
  conv => whnf
  try dsimp only
  exact hR (l_D_when hw h 201 0 σ1 (by omega) rfl r1 f1.D)
/-- one number of a trial's pack is another -/
theorem relC_lim {σ : wd_S} {b d : Nat} {n : wRow} {x : Int32} (hb : dN n ≤ 4 ∧ sN n ≤ 16 ∧ jN n ≤ 4 ∧ eN n ≤ 6) (hd : d < dN n) (h : relC σ b n) : relC (wd_uc σ (b + 2) (upd (σ (b + 2)) d x)) b (upd n (4 * d + 1) x) := by
  have hi : ∀ j, 16 ≤ j → upd n (4 * d + 1) x j = n j := fun j hj => upd_n (by omega)
  have d1 : dN (upd n (4 * d + 1) x) = dN n := by unfold dN; rw [hi 16 (by decide)]
  have d2 : sN (upd n (4 * d + 1) x) = sN n := by unfold sN; rw [hi 33 (by decide)]
  have d3 : jN (upd n (4 * d + 1) x) = jN n := by unfold jN; rw [hi 43 (by decide)]
  have d4 : eN (upd n (4 * d + 1) x) = eN n := by unfold eN; rw [hi 48 (by decide)]
  obtain ⟨h0, hdg, hs, hj, he⟩ := h
  refine ⟨?_, fun e hee => ?_, fun i hh => ?_, fun i hh => ?_, fun i hh => ?_⟩
  · rw [uc_n (by omega), hi 16 (by decide), hi 33 (by decide), hi 43 (by decide), hi 48 (by decide), hi 34 (by decide), hi 44 (by decide), hi 45 (by decide), hi 46 (by decide), hi 47 (by decide)]
    exact h0
  · rw [d1] at hee
    obtain ⟨g1, g2, g3, g4⟩ := hdg e hee
    rw [uc_n (c' := b + 1) (by omega), uc_n (c' := b + 3) (by omega), uc_n (c' := b + 4) (by omega), uc_s]
    rw [upd_n (j := 4 * e) (by omega), upd_n (j := 4 * e + 2) (by omega), upd_n (j := 4 * e + 3) (by omega)]
    by_cases hed : e = d
    · subst hed
      rw [upd_s, upd_s]
      exact ⟨g1, rfl, g3, g4⟩
    · rw [upd_n hed, upd_n (by omega)]
      exact ⟨g1, g2, g3, g4⟩
  · rw [d2] at hh
    rw [uc_n (by omega), hi _ (by omega)]
    exact hs i hh
  · rw [d3] at hh
    rw [uc_n (by omega), uc_n (by omega), hi _ (by omega), hi _ (by omega)]
    exact hj i hh
  · rw [d4] at hh
    rw [uc_n (by omega), uc_n (by omega), hi _ (by omega), hi _ (by omega)]
    exact he i hh
theorem relC_knd {σ : wd_S} {b d : Nat} {n : wRow} {x : Int32} (hb : dN n ≤ 4 ∧ sN n ≤ 16 ∧ jN n ≤ 4 ∧ eN n ≤ 6) (hd : d < dN n) (h : relC σ b n) : relC (wd_uc σ (b + 1) (upd (σ (b + 1)) d x)) b (upd n (4 * d) x) := by
  have hi : ∀ j, 16 ≤ j → upd n (4 * d) x j = n j := fun j hj => upd_n (by omega)
  have d1 : dN (upd n (4 * d) x) = dN n := by unfold dN; rw [hi 16 (by decide)]
  have d2 : sN (upd n (4 * d) x) = sN n := by unfold sN; rw [hi 33 (by decide)]
  have d3 : jN (upd n (4 * d) x) = jN n := by unfold jN; rw [hi 43 (by decide)]
  have d4 : eN (upd n (4 * d) x) = eN n := by unfold eN; rw [hi 48 (by decide)]
  obtain ⟨h0, hdg, hs, hj, he⟩ := h
  refine ⟨?_, fun e hee => ?_, fun i hh => ?_, fun i hh => ?_, fun i hh => ?_⟩
  · rw [uc_n (by omega), hi 16 (by decide), hi 33 (by decide), hi 43 (by decide), hi 48 (by decide), hi 34 (by decide), hi 44 (by decide), hi 45 (by decide), hi 46 (by decide), hi 47 (by decide)]
    exact h0
  · rw [d1] at hee
    obtain ⟨g1, g2, g3, g4⟩ := hdg e hee
    rw [uc_n (c' := b + 2) (by omega), uc_n (c' := b + 3) (by omega), uc_n (c' := b + 4) (by omega), uc_s]
    rw [upd_n (j := 4 * e + 1) (by omega), upd_n (j := 4 * e + 2) (by omega), upd_n (j := 4 * e + 3) (by omega)]
    by_cases hed : e = d
    · subst hed
      rw [upd_s, upd_s]
      exact ⟨rfl, g2, g3, g4⟩
    · rw [upd_n hed, upd_n (by omega)]
      exact ⟨g1, g2, g3, g4⟩
  · rw [d2] at hh
    rw [uc_n (by omega), hi _ (by omega)]
    exact hs i hh
  · rw [d3] at hh
    rw [uc_n (by omega), uc_n (by omega), hi _ (by omega), hi _ (by omega)]
    exact hj i hh
  · rw [d4] at hh
    rw [uc_n (by omega), uc_n (by omega), hi _ (by omega), hi _ (by omega)]
    exact he i hh
theorem relC_sgn {σ : wd_S} {b i : Nat} {n : wRow} {x : Int32} (hb : dN n ≤ 4 ∧ sN n ≤ 16 ∧ jN n ≤ 4 ∧ eN n ≤ 6) (hi16 : i < 16) (h : relC σ b n) : relC (wd_uc σ (b + 5) (upd (σ (b + 5)) i x)) b (upd n (17 + i) x) := by
  have hi : ∀ j, (j < 17 ∨ 33 ≤ j) → upd n (17 + i) x j = n j := fun j hj => upd_n (by omega)
  have d1 : dN (upd n (17 + i) x) = dN n := by unfold dN; rw [hi 16 (by decide)]
  have d2 : sN (upd n (17 + i) x) = sN n := by unfold sN; rw [hi 33 (by decide)]
  have d3 : jN (upd n (17 + i) x) = jN n := by unfold jN; rw [hi 43 (by decide)]
  have d4 : eN (upd n (17 + i) x) = eN n := by unfold eN; rw [hi 48 (by decide)]
  obtain ⟨h0, hdg, hs, hj, he⟩ := h
  refine ⟨?_, fun e hee => ?_, fun q hh => ?_, fun q hh => ?_, fun q hh => ?_⟩
  · rw [uc_n (by omega), hi 16 (by decide), hi 33 (by decide), hi 43 (by decide), hi 48 (by decide), hi 34 (by decide), hi 44 (by decide), hi 45 (by decide), hi 46 (by decide), hi 47 (by decide)]
    exact h0
  · rw [d1] at hee
    rw [uc_n (by omega), uc_n (by omega), uc_n (by omega), uc_n (by omega), hi _ (by omega), hi _ (by omega), hi _ (by omega), hi _ (by omega)]
    exact hdg e hee
  · rw [d2] at hh
    rw [uc_s]
    by_cases e : q = i
    · subst e
      rw [upd_s, upd_s]
    · rw [upd_n e, upd_n (by omega)]
      exact hs q hh
  · rw [d3] at hh
    rw [uc_n (by omega), uc_n (by omega), hi _ (by omega), hi _ (by omega)]
    exact hj q hh
  · rw [d4] at hh
    rw [uc_n (by omega), uc_n (by omega), hi _ (by omega), hi _ (by omega)]
    exact he q hh
theorem relT_lim {σ : wd_S} {d : Nat} {x : Int32} {sl : Int32} (hw : wf P) (hd : d < dN P) (h : relT σ (stP P sl)) : relT (wd_uc σ 22 (upd (σ 22) d x)) (stP (upd P (4 * d + 1) x) sl) := by
  obtain ⟨g1, g3, g4, g5, g6, g7, g2⟩ := h
  refine ⟨relC_lim (b := 20) (wf_bd hw) hd g1, g3, g4, g5, g6, g7, fun e he => g2 e ?_⟩
  have : dN (upd P (4 * d + 1) x) = dN P := dN_of (upd_n (by have := hw.1.2; omega))
  exact this ▸ he
theorem relT_knd {σ : wd_S} {d : Nat} {x : Int32} {sl : Int32} (hw : wf P) (hd : d < dN P) (h : relT σ (stP P sl)) : relT (wd_uc σ 21 (upd (σ 21) d x)) (stP (upd P (4 * d) x) sl) := by
  obtain ⟨g1, g3, g4, g5, g6, g7, g2⟩ := h
  refine ⟨relC_knd (b := 20) (wf_bd hw) hd g1, g3, g4, g5, g6, g7, fun e he => g2 e ?_⟩
  have : dN (upd P (4 * d) x) = dN P := dN_of (upd_n (by have := hw.1.2; omega))
  exact this ▸ he
theorem relT_sgn {σ : wd_S} {i : Nat} {x : Int32} {sl : Int32} (hw : wf P) (hi : i < 16) (h : relT σ (stP P sl)) : relT (wd_uc σ 25 (upd (σ 25) i x)) (stP (upd P (17 + i) x) sl) := by
  obtain ⟨g1, g3, g4, g5, g6, g7, g2⟩ := h
  refine ⟨relC_sgn (b := 20) (wf_bd hw) hi g1, g3, g4, g5, g6, g7, fun e he => g2 e ?_⟩
  have : dN (upd P (17 + i) x) = dN P := dN_of (upd_n (by omega))
  exact this ▸ he
theorem s_D_within {σ : wd_S} {d v n : Nat} (hr : relC σ 10 P) (hw : wf P) (hd : d < dN P) (hn : n < 2 ^ 31) (h : ∀ σ', frD σ σ' → Q (some (.int (bI (bitV P d n v)))) σ' τ) : Run wC G M_D_bitesWithin 0 [some (.ref 0), some (.int (nI d)), some (.int (nI v)), some (.int (nI n))] [] σ τ Q := by
  have hD4 := hw.1.2
  refine wd_go ok_D_bitesWithin [] 20 (fun R hR => ?_)
  conv => whnf
  try dsimp only
  refine hR (k_D_bitesWithin_8 (Nat.le_of_ble_eq_true rfl) rfl (s_T_begin hr (wf_bd hw) (stP_is P) (fun σ1 r1 f1 => ?_)))
  refine wd_go ok_D_bitesWithin [] 20 (fun R hR => ?_)
  conv => whnf
  try dsimp only
  refine ⟨vp_in_nI (by first | decide | omega) (by first | decide | omega), ?_⟩
  conv => whnf
  try dsimp only
  rw [nI_clamp (by omega)]
  have r2 := relT_lim (x := nI v) hw hd r1
  have hwu : wf (upd P (4 * d + 1) (nI v)) := wf_lim (by omega) hw
  refine hR (k_D_bitesWithin_29 (Nat.le_of_ble_eq_true rfl) rfl (s_T_walk r2 hwu hn (fun σ2 r3 f2 => ?_)))
  have h := h σ2 ((f1.uc (by omega)).tr f2).D
  have hd2 : d < dN (tksA n (stP (upd P (4 * d + 1) (nI v)) (-4))).1 := by
    rw [(tks_wf (u := stP (upd P (4 * d + 1) (nI v)) (-4)) hwu n).2.1]
    have : dN (upd P (4 * d + 1) (nI v)) = dN P := dN_of (upd_n (by omega))
    exact this.symm ▸ hd
  have q := r3.2.2.2.2.2.2 d hd2
  refine wd_go ok_D_bitesWithin [] 20 (fun R hR => ?_)
  conv => whnf
  try dsimp only
  refine ⟨vp_in_nI (by first | decide | omega) (by first | decide | omega), ?_⟩
  conv => whnf
  try dsimp only
  rw [nI_clamp (by omega), q]
  by_cases hz : 0 < (tksA n (stP (upd P (4 * d + 1) (nI v)) (-4))).2.1 d
  · refine br_f (Int32.not_le.mpr hz) ?_
    conv => whnf
    try dsimp only
    rw [bitV, decide_eq_true hz] at h
    exact ⟨Or.inr rfl, h⟩
  · refine br_t (Int32.not_lt.mp hz) ?_
    conv => whnf
    try dsimp only
    rw [bitV, decide_eq_false hz] at h
    exact ⟨Or.inl rfl, h⟩
theorem l_D_need {σ0 : wd_S} {d n : Nat} {x : Int32} (hr : relC σ0 10 P) (hw : wf P) (hd : d < dN P) (hn : n < 2 ^ 31) (h : ∀ σ', frD σ0 σ' → Q (some (.int x)) σ' τ) : ∀ (m v : Nat) (σ : wd_S), 21 = v + m → ndF P d n m v = x → frD σ0 σ → Run wC G M_D_need 23 [some (.ref 0), some (.int (nI d)), some (.int (nI n)), some (.int (nI v))] [] σ τ Q := by
  intro m
  induction m with
  | zero =>
    intro v σ hv hx hf
    have e : v = 21 := by omega
    subst e
    refine wd_go ok_D_need [23] 20 (fun R hR => ?_)
    conv => whnf
    try dsimp only
    refine br_t (by decide) ?_
    conv => whnf
    try dsimp only
    rw [ndF] at hx
    rw [hx]
    exact h σ hf
  | succ m ih =>
    intro v σ hv hx hf
    refine wd_go ok_D_need [23] 20 (fun R hR => ?_)
    conv => whnf
    try dsimp only
    rw [il20]
    refine br_f (nI_nlt (by omega) (by decide)) ?_
    conv => whnf
    try dsimp only
    refine hR (k_D_need_33 (Nat.le_of_ble_eq_true rfl) rfl (s_D_within (hf.C hr) hw hd hn (fun σ' hf' => ?_)))
    rw [ndF] at hx
    cases hb : bitV P d n v with
    | true =>
      rw [if_pos hb] at hx
      refine wd_go ok_D_need [23] 20 (fun R hR => ?_)
      conv => whnf
      try dsimp only
      refine nb_t (by decide) ?_
      conv => whnf
      try dsimp only
      refine hR ?_
      have := ih (v + 1) σ' (by omega) hx (hf.tr hf')
      rw [nI_succ] at this
      exact this
    | false =>
      rw [if_neg (by rw [hb]; decide)] at hx
      refine wd_go ok_D_need [23] 20 (fun R hR => ?_)
      conv => whnf
      try dsimp only
      refine nb_f rfl ?_
      conv => whnf
      try dsimp only
      rw [hx]
      exact h σ' (hf.tr hf')
theorem s_D_need {σ : wd_S} {d n : Int32} (hr : relC σ 10 P) (hw : wf P) (h : ∀ σ', frD σ σ' → Q (some (.int (aNeed P d n))) σ' τ) : Run wC G M_D_need 0 [some (.ref 0), some (.int d), some (.int n), none] [] σ τ Q := by
  refine wd_go ok_D_need [23] 20 (fun R hR => ?_)
  conv => whnf
  try dsimp only
  refine hR (k_D_need_2 (Nat.le_of_ble_eq_true rfl) rfl (s_D_noDog hr ?_))
  cases hd : inB d 0 (P 16 - 1) with
  | false =>
    refine wd_go ok_D_need [23] 20 (fun R hR => ?_)
    conv => whnf
    try dsimp only
    refine nb_t (by decide) ?_
    conv => whnf
    try dsimp only
    have h := h σ frD.rf
    rw [aNeed, if_neg (fun z => by rw [hd] at z; cases z.1)] at h
    exact h
  | true =>
    refine wd_go ok_D_need [23] 20 (fun R hR => ?_)
    conv => whnf
    try dsimp only
    refine nb_f rfl ?_
    conv => whnf
    try dsimp only
    refine hR (k_D_need_13 (Nat.le_of_ble_eq_true rfl) (s_D_outside ?_))
    cases hn : inB n 0 200 with
    | false =>
      refine wd_go ok_D_need [23] 20 (fun R hR => ?_)
      conv => whnf
      try dsimp only
      refine br_f (by decide) ?_
      conv => whnf
      try dsimp only
      have h := h σ frD.rf
      rw [aNeed, if_neg (fun z => by rw [hn] at z; cases z.2)] at h
      exact h
    | true =>
      rw [aNeed, if_pos ⟨hd, hn⟩] at h
      rw [hw.1.1] at hd
      have hD4 := hw.1.2
      obtain ⟨d, hdd, rfl⟩ := inD (by omega) hd
      obtain ⟨n, hnn, rfl⟩ := inN (N := 200) (by decide) hn
      rw [nI_clamp (by omega), nI_clamp (by omega)] at h
      refine wd_go ok_D_need [23] 20 (fun R hR => ?_)
      conv => whnf
      try dsimp only
      refine br_t rfl ?_
      conv => whnf
      try dsimp only
      exact hR (l_D_need hr hw hdd (by omega) h 20 1 σ (by omega) rfl frD.rf)
theorem l_D_most {σ0 : wd_S} {d n : Nat} {x : Int32} (hr : relC σ0 10 P) (hw : wf P) (hd : d < dN P) (hn : n < 2 ^ 31) (h : ∀ σ', frD σ0 σ' → Q (some (.int x)) σ' τ) : ∀ (v : Nat) (σ : wd_S), v ≤ 20 → msF P d n v = x → frD σ0 σ → Run wC G M_D_most 24 [some (.ref 0), some (.int (nI d)), some (.int (nI n)), some (.int (nI v))] [] σ τ Q := by
  intro v
  induction v with
  | zero =>
    intro σ hv hx hf
    refine wd_go ok_D_most [24] 20 (fun R hR => ?_)
    conv => whnf
    try dsimp only
    refine br_t (by decide) ?_
    conv => whnf
    try dsimp only
    rw [msF] at hx
    rw [hx]
    exact h σ hf
  | succ v ih =>
    intro σ hv hx hf
    refine wd_go ok_D_most [24] 20 (fun R hR => ?_)
    conv => whnf
    try dsimp only
    rw [il1]
    refine br_f (nI_nlt (by omega) (by omega)) ?_
    conv => whnf
    try dsimp only
    refine hR (k_D_most_33 (Nat.le_of_ble_eq_true rfl) rfl (s_D_within (hf.C hr) hw hd hn (fun σ' hf' => ?_)))
    rw [msF] at hx
    cases hb : bitV P d n (v + 1) with
    | true =>
      rw [if_pos hb] at hx
      refine wd_go ok_D_most [24] 20 (fun R hR => ?_)
      conv => whnf
      try dsimp only
      refine br_f (by decide) ?_
      conv => whnf
      try dsimp only
      rw [hx]
      exact h σ' (hf.tr hf')
    | false =>
      rw [if_neg (by rw [hb]; decide)] at hx
      refine wd_go ok_D_most [24] 20 (fun R hR => ?_)
      conv => whnf
      try dsimp only
      refine br_t rfl ?_
      conv => whnf
      try dsimp only
      refine hR ?_
      have := ih σ' (by omega) hx (hf.tr hf')
      rw [pk_m1]
      exact this
theorem s_D_most {σ : wd_S} {d n : Int32} (hr : relC σ 10 P) (hw : wf P) (h : ∀ σ', frD σ σ' → Q (some (.int (aMost P d n))) σ' τ) : Run wC G M_D_most 0 [some (.ref 0), some (.int d), some (.int n), none] [] σ τ Q := by
  refine wd_go ok_D_most [24] 20 (fun R hR => ?_)
  conv => whnf
  try dsimp only
  refine hR (k_D_most_2 (Nat.le_of_ble_eq_true rfl) rfl (s_D_noDog hr ?_))
  cases hd : inB d 0 (P 16 - 1) with
  | false =>
    refine wd_go ok_D_most [24] 20 (fun R hR => ?_)
    conv => whnf
    try dsimp only
    refine nb_t (by decide) ?_
    conv => whnf
    try dsimp only
    have h := h σ frD.rf
    rw [aMost, if_neg (fun z => by rw [hd] at z; cases z.1)] at h
    exact h
  | true =>
    refine wd_go ok_D_most [24] 20 (fun R hR => ?_)
    conv => whnf
    try dsimp only
    refine nb_f rfl ?_
    conv => whnf
    try dsimp only
    refine hR (k_D_most_13 (Nat.le_of_ble_eq_true rfl) (s_D_outside ?_))
    cases hn : inB n 0 200 with
    | false =>
      refine wd_go ok_D_most [24] 20 (fun R hR => ?_)
      conv => whnf
      try dsimp only
      refine br_f (by decide) ?_
      conv => whnf
      try dsimp only
      have h := h σ frD.rf
      rw [aMost, if_neg (fun z => by rw [hn] at z; cases z.2)] at h
      exact h
    | true =>
      rw [aMost, if_pos ⟨hd, hn⟩] at h
      rw [hw.1.1] at hd
      have hD4 := hw.1.2
      obtain ⟨d, hdd, rfl⟩ := inD (by omega) hd
      obtain ⟨n, hnn, rfl⟩ := inN (N := 200) (by decide) hn
      rw [nI_clamp (by omega), nI_clamp (by omega)] at h
      refine wd_go ok_D_most [24] 20 (fun R hR => ?_)
      conv => whnf
      try dsimp only
      refine br_t rfl ?_
      conv => whnf
      try dsimp only
      exact hR (l_D_most hr hw hdd (by omega) h 20 σ (by omega) rfl frD.rf)
end C
