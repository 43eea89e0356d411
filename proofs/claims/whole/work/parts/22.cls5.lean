/-! THE CLASS: walks, copies, a trial's start -/
theorem relC_cong {σ : wd_S} {b : Nat} {n m : wRow} (hb : dN n ≤ 4 ∧ sN n ≤ 16 ∧ jN n ≤ 4 ∧ eN n ≤ 6) (hm : ∀ j, j < 61 → m j = n j) (h : relC σ b n) : relC σ b m := by
  have d1 : dN m = dN n := by unfold dN; rw [hm 16 (by decide)]
  have d2 : sN m = sN n := by unfold sN; rw [hm 33 (by decide)]
  have d3 : jN m = jN n := by unfold jN; rw [hm 43 (by decide)]
  have d4 : eN m = eN n := by unfold eN; rw [hm 48 (by decide)]
  obtain ⟨h0, hdg, hs, hj, he⟩ := h
  refine ⟨?_, fun e hee => ?_, fun i hh => ?_, fun i hh => ?_, fun i hh => ?_⟩
  · rw [hm 16 (by decide), hm 33 (by decide), hm 43 (by decide), hm 48 (by decide), hm 34 (by decide), hm 44 (by decide), hm 45 (by decide), hm 46 (by decide), hm 47 (by decide)]
    exact h0
  · rw [d1] at hee
    rw [hm _ (by omega), hm _ (by omega), hm _ (by omega), hm _ (by omega)]
    exact hdg e hee
  · rw [d2] at hh
    rw [hm _ (by omega)]
    exact hs i hh
  · rw [d3] at hh
    rw [hm _ (by omega), hm _ (by omega)]
    exact hj i hh
  · rw [d4] at hh
    rw [hm _ (by omega), hm _ (by omega)]
    exact he i hh
/-- a trial's start, over a pack P -/
def isSt (P : wRow) (u : wU) : Prop := (∀ j, j < 61 → u.1 j = P j) ∧ (∀ d, d < 4 → u.2.1 d = 0) ∧ u.2.2 13 = -4 ∧ u.2.2 14 = 0 ∧ u.2.2 15 = 0 ∧ u.2.2 16 = 0 ∧ u.2.2 17 = 0
theorem stU_is (σ : wd_S) : isSt (σ 1) (stU σ) := ⟨fun j hj => fil_lt hj, fun d hd => fil_lt (f := fun _ => 0) hd, rfl, rfl, rfl, rfl, rfl⟩
section C
variable {G : wd_G} {τ : wd_T} {Q : wd_P}
theorem relT_plc {σ : wd_S} {u : wU} (hw : wf u.1) (hr : relT σ u) : relT (wd_uc σ 20 (upd (σ 20) 13 (plcA u.1 34))) (plcA u.1, u.2.1, u.2.2) := by
  obtain ⟨g1, g3, g4, g5, g6, g7, g2⟩ := hr
  have k := relC_13 (wf_bd hw) g1 (plcA u.1 34)
  rw [plc_34] at k
  refine ⟨k, g3, g4, g5, g6, g7, fun d hd => g2 d ?_⟩
  rw [(plc_wf hw).2.1] at hd
  exact hd
theorem l_T_walk {u : wU} {N : Nat} {σ0 : wd_S} (hw : wf u.1) (hN : N < 2 ^ 31) (h : ∀ σ', relT σ' (tksA N u) → frT σ0 σ' → Q none σ' τ) : ∀ (m i : Nat) (σ : wd_S), N = i + m → relT σ (tksA i u) → frT σ0 σ → Run wC G M_T_walk 2 [some (.ref 1), some (.int (nI N)), some (.int (nI i))] [] σ τ Q := by
  intro m
  induction m with
  | zero =>
    intro i σ hi hr hf
    have e : i = N := by omega
    subst e
    refine wd_go ok_T_walk [2] 20 (fun R hR => ?_)
    conv => whnf
    try dsimp only
    refine br_t (nI_le (Nat.le_refl i) hN) ?_
    conv => whnf
    try dsimp only
    exact ⟨rfl, h σ hr hf⟩
  | succ m ih =>
    intro i σ hi hr hf
    have hwi := (tks_wf hw i).1
    refine wd_go ok_T_walk [2] 20 (fun R hR => ?_)
    conv => whnf
    try dsimp only
    refine br_f (nI_ge (by omega) hN) ?_
    conv => whnf
    try dsimp only
    refine hR (k_T_walk_12 (Nat.le_of_ble_eq_true rfl) rfl (s_next hr.1 hwi ?_))
    refine k_T_walk_15 (st := []) (Nat.le_of_ble_eq_true rfl) rfl (s_T_step (relT_plc hwi hr) (plc_wf hwi).1 (fun σ' hr' hf' => ?_))
    refine wd_go ok_T_walk [2] 20 (fun R hR => ?_)
    conv => whnf
    try dsimp only
    refine hR ?_
    rw [stp_tk] at hr'
    have := ih (i + 1) σ' (by omega) hr' (hf.tr ((frT.rf.uc (by omega)).tr hf'))
    rw [nI_succ] at this
    exact this
theorem s_T_walk {u : wU} {N : Nat} {σ : wd_S} (hr : relT σ u) (hw : wf u.1) (hN : N < 2 ^ 31) (h : ∀ σ', relT σ' (tksA N u) → frT σ σ' → Q none σ' τ) : Run wC G M_T_walk 0 [some (.ref 1), some (.int (nI N)), none] [] σ τ Q := by
  refine wd_go ok_T_walk [2] 20 (fun R hR => ?_)
  conv => whnf
  try dsimp only
  exact hR (l_T_walk hw hN h N 0 σ (by omega) hr frT.rf)
theorem l_T_below {u : wU} {N : Nat} {b : Int32} {σ0 : wd_S} (hw : wf u.1) (hN : N < 2 ^ 31) (h : ∀ σ' k, k ≤ N → relT σ' (tksA k u) → frT σ0 σ' → (k = N ∨ ¬ (tksA k u).2.2 14 < b) → Q (some (.int ((tksA k u).2.2 14))) σ' τ) : ∀ (m i : Nat) (σ : wd_S), N = i + m → relT σ (tksA i u) → frT σ0 σ → Run wC G M_T_resetsBelow 2 [some (.ref 1), some (.int b), some (.int (nI N)), some (.int (nI i))] [] σ τ Q := by
  intro m
  induction m with
  | zero =>
    intro i σ hi hr hf
    have e : i = N := by omega
    subst e
    refine wd_go ok_T_resetsBelow [2] 20 (fun R hR => ?_)
    conv => whnf
    try dsimp only
    refine br_t (nI_le (Nat.le_refl i) hN) ?_
    conv => whnf
    try dsimp only
    rw [hr.2.1]
    exact h σ i (Nat.le_refl i) hr hf (Or.inl rfl)
  | succ m ih =>
    intro i σ hi hr hf
    have hwi := (tks_wf hw i).1
    refine wd_go ok_T_resetsBelow [2] 20 (fun R hR => ?_)
    conv => whnf
    try dsimp only
    refine br_f (nI_ge (by omega) hN) ?_
    conv => whnf
    try dsimp only
    rw [hr.2.1]
    refine ⟨fun hb => ?_, fun hb => ?_⟩
    · conv => whnf
      try dsimp only
      rw [hr.2.1]
      exact h σ i (by omega) hr hf (Or.inr (Int32.not_lt.mpr hb))
    · conv => whnf
      try dsimp only
      refine hR (k_T_resetsBelow_20 (Nat.le_of_ble_eq_true rfl) rfl (s_next hr.1 hwi ?_))
      refine k_T_resetsBelow_23 (st := []) (Nat.le_of_ble_eq_true rfl) rfl (s_T_step (relT_plc hwi hr) (plc_wf hwi).1 (fun σ' hr' hf' => ?_))
      refine wd_go ok_T_resetsBelow [2] 20 (fun R hR => ?_)
      conv => whnf
      try dsimp only
      refine hR ?_
      rw [stp_tk] at hr'
      have := ih (i + 1) σ' (by omega) hr' (hf.tr ((frT.rf.uc (by omega)).tr hf'))
      rw [nI_succ] at this
      exact this
theorem s_T_below {u : wU} {N : Nat} {b : Int32} {σ : wd_S} (hr : relT σ u) (hw : wf u.1) (hN : N < 2 ^ 31) (h : ∀ σ' k, k ≤ N → relT σ' (tksA k u) → frT σ σ' → (k = N ∨ ¬ (tksA k u).2.2 14 < b) → Q (some (.int ((tksA k u).2.2 14))) σ' τ) : Run wC G M_T_resetsBelow 0 [some (.ref 1), some (.int b), some (.int (nI N)), none] [] σ τ Q := by
  refine wd_go ok_T_resetsBelow [2] 20 (fun R hR => ?_)
  conv => whnf
  try dsimp only
  exact hR (l_T_below hw hN h N 0 σ (by omega) hr frT.rf)
theorem s_copy_20_10 {σ : wd_S} (h : ∀ σ', (∀ n, (dN n ≤ 4 ∧ sN n ≤ 16 ∧ jN n ≤ 4 ∧ eN n ≤ 6) → relC σ 10 n → relC σ' 20 n) → (∀ c, (c < 20 ∨ 30 ≤ c) → σ' c = σ c) → Q none σ' τ) : Run wC G M_P_copyOf 0 [some (.ref 20), some (.ref 10)] [] σ τ Q := by
  refine wd_go ok_P_copyOf [] 200 (fun R hR => ?_)
  conv => whnf
  try dsimp only
  refine ⟨Nat.le_of_ble_eq_true rfl, by decide, by decide, by decide, by decide, by decide, ?_⟩
  conv => whnf
  try dsimp only
  refine ⟨Nat.le_of_ble_eq_true rfl, by decide, by decide, by decide, by decide, by decide, ?_⟩
  conv => whnf
  try dsimp only
  refine ⟨Nat.le_of_ble_eq_true rfl, by decide, by decide, by decide, by decide, by decide, ?_⟩
  conv => whnf
  try dsimp only
  refine ⟨Nat.le_of_ble_eq_true rfl, by decide, by decide, by decide, by decide, by decide, ?_⟩
  conv => whnf
  try dsimp only
  refine ⟨Nat.le_of_ble_eq_true rfl, by decide, by decide, by decide, by decide, by decide, ?_⟩
  conv => whnf
  try dsimp only
  refine ⟨Nat.le_of_ble_eq_true rfl, by decide, by decide, by decide, by decide, by decide, ?_⟩
  conv => whnf
  try dsimp only
  refine ⟨Nat.le_of_ble_eq_true rfl, by decide, by decide, by decide, by decide, by decide, ?_⟩
  conv => whnf
  try dsimp only
  refine ⟨Nat.le_of_ble_eq_true rfl, by decide, by decide, by decide, by decide, by decide, ?_⟩
  conv => whnf
  try dsimp only
  refine ⟨Nat.le_of_ble_eq_true rfl, by decide, by decide, by decide, by decide, by decide, ?_⟩
  conv => whnf
  try dsimp only
  refine ⟨rfl, h _ (fun n hb hr => ?_) (fun c hc => ?_)⟩
  · obtain ⟨h0, hdg, hs, hj, he⟩ := hr
    have ci : ∀ {f g : wRow} {k L : Nat}, k < L → va_cpy f g 0 0 L k = f k := fun {f g k L} hk => by
      rw [pk_cpy_in (Nat.zero_le k) (by omega)]
      congr 1
      omega
    refine ⟨h0, fun e hee => ?_, fun i hh => ?_, fun i hh => ?_, fun i hh => ?_⟩
    · have := hdg e hee
      refine ⟨?_, ?_, ?_, ?_⟩
      · show va_cpy (σ 11) (σ 21) 0 0 4 e = _
        rw [ci (by omega)]; exact this.1
      · show va_cpy (σ 12) (σ 22) 0 0 4 e = _
        rw [ci (by omega)]; exact this.2.1
      · show va_cpy (σ 13) (σ 23) 0 0 4 e = _
        rw [ci (by omega)]; exact this.2.2.1
      · show va_cpy (σ 14) (σ 24) 0 0 4 e = _
        rw [ci (by omega)]; exact this.2.2.2
    · show va_cpy (σ 15) (σ 25) 0 0 16 i = _
      rw [ci (by omega)]; exact hs i hh
    · refine ⟨?_, ?_⟩
      · show va_cpy (σ 16) (σ 26) 0 0 4 i = _
        rw [ci (by omega)]; exact (hj i hh).1
      · show va_cpy (σ 17) (σ 27) 0 0 4 i = _
        rw [ci (by omega)]; exact (hj i hh).2
    · refine ⟨?_, ?_⟩
      · show va_cpy (σ 18) (σ 28) 0 0 6 i = _
        rw [ci (by omega)]; exact (he i hh).1
      · show va_cpy (σ 19) (σ 29) 0 0 6 i = _
        rw [ci (by omega)]; exact (he i hh).2
  · iterate 18 rw [uc_n (by omega)]
theorem s_copy_10_20 {σ : wd_S} (h : ∀ σ', (∀ n, (dN n ≤ 4 ∧ sN n ≤ 16 ∧ jN n ≤ 4 ∧ eN n ≤ 6) → relC σ 20 n → relC σ' 10 n) → (∀ c, (c < 10 ∨ 20 ≤ c) → σ' c = σ c) → Q none σ' τ) : Run wC G M_P_copyOf 0 [some (.ref 10), some (.ref 20)] [] σ τ Q := by
  refine wd_go ok_P_copyOf [] 200 (fun R hR => ?_)
  conv => whnf
  try dsimp only
  refine ⟨Nat.le_of_ble_eq_true rfl, by decide, by decide, by decide, by decide, by decide, ?_⟩
  conv => whnf
  try dsimp only
  refine ⟨Nat.le_of_ble_eq_true rfl, by decide, by decide, by decide, by decide, by decide, ?_⟩
  conv => whnf
  try dsimp only
  refine ⟨Nat.le_of_ble_eq_true rfl, by decide, by decide, by decide, by decide, by decide, ?_⟩
  conv => whnf
  try dsimp only
  refine ⟨Nat.le_of_ble_eq_true rfl, by decide, by decide, by decide, by decide, by decide, ?_⟩
  conv => whnf
  try dsimp only
  refine ⟨Nat.le_of_ble_eq_true rfl, by decide, by decide, by decide, by decide, by decide, ?_⟩
  conv => whnf
  try dsimp only
  refine ⟨Nat.le_of_ble_eq_true rfl, by decide, by decide, by decide, by decide, by decide, ?_⟩
  conv => whnf
  try dsimp only
  refine ⟨Nat.le_of_ble_eq_true rfl, by decide, by decide, by decide, by decide, by decide, ?_⟩
  conv => whnf
  try dsimp only
  refine ⟨Nat.le_of_ble_eq_true rfl, by decide, by decide, by decide, by decide, by decide, ?_⟩
  conv => whnf
  try dsimp only
  refine ⟨Nat.le_of_ble_eq_true rfl, by decide, by decide, by decide, by decide, by decide, ?_⟩
  conv => whnf
  try dsimp only
  refine ⟨rfl, h _ (fun n hb hr => ?_) (fun c hc => ?_)⟩
  · obtain ⟨h0, hdg, hs, hj, he⟩ := hr
    have ci : ∀ {f g : wRow} {k L : Nat}, k < L → va_cpy f g 0 0 L k = f k := fun {f g k L} hk => by
      rw [pk_cpy_in (Nat.zero_le k) (by omega)]
      congr 1
      omega
    refine ⟨h0, fun e hee => ?_, fun i hh => ?_, fun i hh => ?_, fun i hh => ?_⟩
    · have := hdg e hee
      refine ⟨?_, ?_, ?_, ?_⟩
      · show va_cpy (σ 21) (σ 11) 0 0 4 e = _
        rw [ci (by omega)]; exact this.1
      · show va_cpy (σ 22) (σ 12) 0 0 4 e = _
        rw [ci (by omega)]; exact this.2.1
      · show va_cpy (σ 23) (σ 13) 0 0 4 e = _
        rw [ci (by omega)]; exact this.2.2.1
      · show va_cpy (σ 24) (σ 14) 0 0 4 e = _
        rw [ci (by omega)]; exact this.2.2.2
    · show va_cpy (σ 25) (σ 15) 0 0 16 i = _
      rw [ci (by omega)]; exact hs i hh
    · refine ⟨?_, ?_⟩
      · show va_cpy (σ 26) (σ 16) 0 0 4 i = _
        rw [ci (by omega)]; exact (hj i hh).1
      · show va_cpy (σ 27) (σ 17) 0 0 4 i = _
        rw [ci (by omega)]; exact (hj i hh).2
    · refine ⟨?_, ?_⟩
      · show va_cpy (σ 28) (σ 18) 0 0 6 i = _
        rw [ci (by omega)]; exact (he i hh).1
      · show va_cpy (σ 29) (σ 19) 0 0 6 i = _
        rw [ci (by omega)]; exact (he i hh).2
  · iterate 18 rw [uc_n (by omega)]
theorem s_copy_10_30 {σ : wd_S} (h : ∀ σ', (∀ n, (dN n ≤ 4 ∧ sN n ≤ 16 ∧ jN n ≤ 4 ∧ eN n ≤ 6) → relC σ 30 n → relC σ' 10 n) → (∀ c, (c < 10 ∨ 20 ≤ c) → σ' c = σ c) → Q none σ' τ) : Run wC G M_P_copyOf 0 [some (.ref 10), some (.ref 30)] [] σ τ Q := by
  refine wd_go ok_P_copyOf [] 200 (fun R hR => ?_)
  conv => whnf
  try dsimp only
  refine ⟨Nat.le_of_ble_eq_true rfl, by decide, by decide, by decide, by decide, by decide, ?_⟩
  conv => whnf
  try dsimp only
  refine ⟨Nat.le_of_ble_eq_true rfl, by decide, by decide, by decide, by decide, by decide, ?_⟩
  conv => whnf
  try dsimp only
  refine ⟨Nat.le_of_ble_eq_true rfl, by decide, by decide, by decide, by decide, by decide, ?_⟩
  conv => whnf
  try dsimp only
  refine ⟨Nat.le_of_ble_eq_true rfl, by decide, by decide, by decide, by decide, by decide, ?_⟩
  conv => whnf
  try dsimp only
  refine ⟨Nat.le_of_ble_eq_true rfl, by decide, by decide, by decide, by decide, by decide, ?_⟩
  conv => whnf
  try dsimp only
  refine ⟨Nat.le_of_ble_eq_true rfl, by decide, by decide, by decide, by decide, by decide, ?_⟩
  conv => whnf
  try dsimp only
  refine ⟨Nat.le_of_ble_eq_true rfl, by decide, by decide, by decide, by decide, by decide, ?_⟩
  conv => whnf
  try dsimp only
  refine ⟨Nat.le_of_ble_eq_true rfl, by decide, by decide, by decide, by decide, by decide, ?_⟩
  conv => whnf
  try dsimp only
  refine ⟨Nat.le_of_ble_eq_true rfl, by decide, by decide, by decide, by decide, by decide, ?_⟩
  conv => whnf
  try dsimp only
  refine ⟨rfl, h _ (fun n hb hr => ?_) (fun c hc => ?_)⟩
  · obtain ⟨h0, hdg, hs, hj, he⟩ := hr
    have ci : ∀ {f g : wRow} {k L : Nat}, k < L → va_cpy f g 0 0 L k = f k := fun {f g k L} hk => by
      rw [pk_cpy_in (Nat.zero_le k) (by omega)]
      congr 1
      omega
    refine ⟨h0, fun e hee => ?_, fun i hh => ?_, fun i hh => ?_, fun i hh => ?_⟩
    · have := hdg e hee
      refine ⟨?_, ?_, ?_, ?_⟩
      · show va_cpy (σ 31) (σ 11) 0 0 4 e = _
        rw [ci (by omega)]; exact this.1
      · show va_cpy (σ 32) (σ 12) 0 0 4 e = _
        rw [ci (by omega)]; exact this.2.1
      · show va_cpy (σ 33) (σ 13) 0 0 4 e = _
        rw [ci (by omega)]; exact this.2.2.1
      · show va_cpy (σ 34) (σ 14) 0 0 4 e = _
        rw [ci (by omega)]; exact this.2.2.2
    · show va_cpy (σ 35) (σ 15) 0 0 16 i = _
      rw [ci (by omega)]; exact hs i hh
    · refine ⟨?_, ?_⟩
      · show va_cpy (σ 36) (σ 16) 0 0 4 i = _
        rw [ci (by omega)]; exact (hj i hh).1
      · show va_cpy (σ 37) (σ 17) 0 0 4 i = _
        rw [ci (by omega)]; exact (hj i hh).2
    · refine ⟨?_, ?_⟩
      · show va_cpy (σ 38) (σ 18) 0 0 6 i = _
        rw [ci (by omega)]; exact (he i hh).1
      · show va_cpy (σ 39) (σ 19) 0 0 6 i = _
        rw [ci (by omega)]; exact (he i hh).2
  · iterate 18 rw [uc_n (by omega)]
theorem s_copy_40_10 {σ : wd_S} (h : ∀ σ', (∀ n, (dN n ≤ 4 ∧ sN n ≤ 16 ∧ jN n ≤ 4 ∧ eN n ≤ 6) → relC σ 10 n → relC σ' 40 n) → (∀ c, (c < 40 ∨ 50 ≤ c) → σ' c = σ c) → Q none σ' τ) : Run wC G M_P_copyOf 0 [some (.ref 40), some (.ref 10)] [] σ τ Q := by
  refine wd_go ok_P_copyOf [] 200 (fun R hR => ?_)
  conv => whnf
  try dsimp only
  refine ⟨Nat.le_of_ble_eq_true rfl, by decide, by decide, by decide, by decide, by decide, ?_⟩
  conv => whnf
  try dsimp only
  refine ⟨Nat.le_of_ble_eq_true rfl, by decide, by decide, by decide, by decide, by decide, ?_⟩
  conv => whnf
  try dsimp only
  refine ⟨Nat.le_of_ble_eq_true rfl, by decide, by decide, by decide, by decide, by decide, ?_⟩
  conv => whnf
  try dsimp only
  refine ⟨Nat.le_of_ble_eq_true rfl, by decide, by decide, by decide, by decide, by decide, ?_⟩
  conv => whnf
  try dsimp only
  refine ⟨Nat.le_of_ble_eq_true rfl, by decide, by decide, by decide, by decide, by decide, ?_⟩
  conv => whnf
  try dsimp only
  refine ⟨Nat.le_of_ble_eq_true rfl, by decide, by decide, by decide, by decide, by decide, ?_⟩
  conv => whnf
  try dsimp only
  refine ⟨Nat.le_of_ble_eq_true rfl, by decide, by decide, by decide, by decide, by decide, ?_⟩
  conv => whnf
  try dsimp only
  refine ⟨Nat.le_of_ble_eq_true rfl, by decide, by decide, by decide, by decide, by decide, ?_⟩
  conv => whnf
  try dsimp only
  refine ⟨Nat.le_of_ble_eq_true rfl, by decide, by decide, by decide, by decide, by decide, ?_⟩
  conv => whnf
  try dsimp only
  refine ⟨rfl, h _ (fun n hb hr => ?_) (fun c hc => ?_)⟩
  · obtain ⟨h0, hdg, hs, hj, he⟩ := hr
    have ci : ∀ {f g : wRow} {k L : Nat}, k < L → va_cpy f g 0 0 L k = f k := fun {f g k L} hk => by
      rw [pk_cpy_in (Nat.zero_le k) (by omega)]
      congr 1
      omega
    refine ⟨h0, fun e hee => ?_, fun i hh => ?_, fun i hh => ?_, fun i hh => ?_⟩
    · have := hdg e hee
      refine ⟨?_, ?_, ?_, ?_⟩
      · show va_cpy (σ 11) (σ 41) 0 0 4 e = _
        rw [ci (by omega)]; exact this.1
      · show va_cpy (σ 12) (σ 42) 0 0 4 e = _
        rw [ci (by omega)]; exact this.2.1
      · show va_cpy (σ 13) (σ 43) 0 0 4 e = _
        rw [ci (by omega)]; exact this.2.2.1
      · show va_cpy (σ 14) (σ 44) 0 0 4 e = _
        rw [ci (by omega)]; exact this.2.2.2
    · show va_cpy (σ 15) (σ 45) 0 0 16 i = _
      rw [ci (by omega)]; exact hs i hh
    · refine ⟨?_, ?_⟩
      · show va_cpy (σ 16) (σ 46) 0 0 4 i = _
        rw [ci (by omega)]; exact (hj i hh).1
      · show va_cpy (σ 17) (σ 47) 0 0 4 i = _
        rw [ci (by omega)]; exact (hj i hh).2
    · refine ⟨?_, ?_⟩
      · show va_cpy (σ 18) (σ 48) 0 0 6 i = _
        rw [ci (by omega)]; exact (he i hh).1
      · show va_cpy (σ 19) (σ 49) 0 0 6 i = _
        rw [ci (by omega)]; exact (he i hh).2
  · iterate 18 rw [uc_n (by omega)]
theorem s_copy_50_10 {σ : wd_S} (h : ∀ σ', (∀ n, (dN n ≤ 4 ∧ sN n ≤ 16 ∧ jN n ≤ 4 ∧ eN n ≤ 6) → relC σ 10 n → relC σ' 50 n) → (∀ c, (c < 50 ∨ 60 ≤ c) → σ' c = σ c) → Q none σ' τ) : Run wC G M_P_copyOf 0 [some (.ref 50), some (.ref 10)] [] σ τ Q := by
  refine wd_go ok_P_copyOf [] 200 (fun R hR => ?_)
  conv => whnf
  try dsimp only
  refine ⟨Nat.le_of_ble_eq_true rfl, by decide, by decide, by decide, by decide, by decide, ?_⟩
  conv => whnf
  try dsimp only
  refine ⟨Nat.le_of_ble_eq_true rfl, by decide, by decide, by decide, by decide, by decide, ?_⟩
  conv => whnf
  try dsimp only
  refine ⟨Nat.le_of_ble_eq_true rfl, by decide, by decide, by decide, by decide, by decide, ?_⟩
  conv => whnf
  try dsimp only
  refine ⟨Nat.le_of_ble_eq_true rfl, by decide, by decide, by decide, by decide, by decide, ?_⟩
  conv => whnf
  try dsimp only
  refine ⟨Nat.le_of_ble_eq_true rfl, by decide, by decide, by decide, by decide, by decide, ?_⟩
  conv => whnf
  try dsimp only
  refine ⟨Nat.le_of_ble_eq_true rfl, by decide, by decide, by decide, by decide, by decide, ?_⟩
  conv => whnf
  try dsimp only
  refine ⟨Nat.le_of_ble_eq_true rfl, by decide, by decide, by decide, by decide, by decide, ?_⟩
  conv => whnf
  try dsimp only
  refine ⟨Nat.le_of_ble_eq_true rfl, by decide, by decide, by decide, by decide, by decide, ?_⟩
  conv => whnf
  try dsimp only
  refine ⟨Nat.le_of_ble_eq_true rfl, by decide, by decide, by decide, by decide, by decide, ?_⟩
  conv => whnf
  try dsimp only
  refine ⟨rfl, h _ (fun n hb hr => ?_) (fun c hc => ?_)⟩
  · obtain ⟨h0, hdg, hs, hj, he⟩ := hr
    have ci : ∀ {f g : wRow} {k L : Nat}, k < L → va_cpy f g 0 0 L k = f k := fun {f g k L} hk => by
      rw [pk_cpy_in (Nat.zero_le k) (by omega)]
      congr 1
      omega
    refine ⟨h0, fun e hee => ?_, fun i hh => ?_, fun i hh => ?_, fun i hh => ?_⟩
    · have := hdg e hee
      refine ⟨?_, ?_, ?_, ?_⟩
      · show va_cpy (σ 11) (σ 51) 0 0 4 e = _
        rw [ci (by omega)]; exact this.1
      · show va_cpy (σ 12) (σ 52) 0 0 4 e = _
        rw [ci (by omega)]; exact this.2.1
      · show va_cpy (σ 13) (σ 53) 0 0 4 e = _
        rw [ci (by omega)]; exact this.2.2.1
      · show va_cpy (σ 14) (σ 54) 0 0 4 e = _
        rw [ci (by omega)]; exact this.2.2.2
    · show va_cpy (σ 15) (σ 55) 0 0 16 i = _
      rw [ci (by omega)]; exact hs i hh
    · refine ⟨?_, ?_⟩
      · show va_cpy (σ 16) (σ 56) 0 0 4 i = _
        rw [ci (by omega)]; exact (hj i hh).1
      · show va_cpy (σ 17) (σ 57) 0 0 4 i = _
        rw [ci (by omega)]; exact (hj i hh).2
    · refine ⟨?_, ?_⟩
      · show va_cpy (σ 18) (σ 58) 0 0 6 i = _
        rw [ci (by omega)]; exact (he i hh).1
      · show va_cpy (σ 19) (σ 59) 0 0 6 i = _
        rw [ci (by omega)]; exact (he i hh).2
  · iterate 18 rw [uc_n (by omega)]
theorem s_copy_10_40 {σ : wd_S} (h : ∀ σ', (∀ n, (dN n ≤ 4 ∧ sN n ≤ 16 ∧ jN n ≤ 4 ∧ eN n ≤ 6) → relC σ 40 n → relC σ' 10 n) → (∀ c, (c < 10 ∨ 20 ≤ c) → σ' c = σ c) → Q none σ' τ) : Run wC G M_P_copyOf 0 [some (.ref 10), some (.ref 40)] [] σ τ Q := by
  refine wd_go ok_P_copyOf [] 200 (fun R hR => ?_)
  conv => whnf
  try dsimp only
  refine ⟨Nat.le_of_ble_eq_true rfl, by decide, by decide, by decide, by decide, by decide, ?_⟩
  conv => whnf
  try dsimp only
  refine ⟨Nat.le_of_ble_eq_true rfl, by decide, by decide, by decide, by decide, by decide, ?_⟩
  conv => whnf
  try dsimp only
  refine ⟨Nat.le_of_ble_eq_true rfl, by decide, by decide, by decide, by decide, by decide, ?_⟩
  conv => whnf
  try dsimp only
  refine ⟨Nat.le_of_ble_eq_true rfl, by decide, by decide, by decide, by decide, by decide, ?_⟩
  conv => whnf
  try dsimp only
  refine ⟨Nat.le_of_ble_eq_true rfl, by decide, by decide, by decide, by decide, by decide, ?_⟩
  conv => whnf
  try dsimp only
  refine ⟨Nat.le_of_ble_eq_true rfl, by decide, by decide, by decide, by decide, by decide, ?_⟩
  conv => whnf
  try dsimp only
  refine ⟨Nat.le_of_ble_eq_true rfl, by decide, by decide, by decide, by decide, by decide, ?_⟩
  conv => whnf
  try dsimp only
  refine ⟨Nat.le_of_ble_eq_true rfl, by decide, by decide, by decide, by decide, by decide, ?_⟩
  conv => whnf
  try dsimp only
  refine ⟨Nat.le_of_ble_eq_true rfl, by decide, by decide, by decide, by decide, by decide, ?_⟩
  conv => whnf
  try dsimp only
  refine ⟨rfl, h _ (fun n hb hr => ?_) (fun c hc => ?_)⟩
  · obtain ⟨h0, hdg, hs, hj, he⟩ := hr
    have ci : ∀ {f g : wRow} {k L : Nat}, k < L → va_cpy f g 0 0 L k = f k := fun {f g k L} hk => by
      rw [pk_cpy_in (Nat.zero_le k) (by omega)]
      congr 1
      omega
    refine ⟨h0, fun e hee => ?_, fun i hh => ?_, fun i hh => ?_, fun i hh => ?_⟩
    · have := hdg e hee
      refine ⟨?_, ?_, ?_, ?_⟩
      · show va_cpy (σ 41) (σ 11) 0 0 4 e = _
        rw [ci (by omega)]; exact this.1
      · show va_cpy (σ 42) (σ 12) 0 0 4 e = _
        rw [ci (by omega)]; exact this.2.1
      · show va_cpy (σ 43) (σ 13) 0 0 4 e = _
        rw [ci (by omega)]; exact this.2.2.1
      · show va_cpy (σ 44) (σ 14) 0 0 4 e = _
        rw [ci (by omega)]; exact this.2.2.2
    · show va_cpy (σ 45) (σ 15) 0 0 16 i = _
      rw [ci (by omega)]; exact hs i hh
    · refine ⟨?_, ?_⟩
      · show va_cpy (σ 46) (σ 16) 0 0 4 i = _
        rw [ci (by omega)]; exact (hj i hh).1
      · show va_cpy (σ 47) (σ 17) 0 0 4 i = _
        rw [ci (by omega)]; exact (hj i hh).2
    · refine ⟨?_, ?_⟩
      · show va_cpy (σ 48) (σ 18) 0 0 6 i = _
        rw [ci (by omega)]; exact (he i hh).1
      · show va_cpy (σ 49) (σ 19) 0 0 6 i = _
        rw [ci (by omega)]; exact (he i hh).2
  · iterate 18 rw [uc_n (by omega)]
theorem s_copy_10_50 {σ : wd_S} (h : ∀ σ', (∀ n, (dN n ≤ 4 ∧ sN n ≤ 16 ∧ jN n ≤ 4 ∧ eN n ≤ 6) → relC σ 50 n → relC σ' 10 n) → (∀ c, (c < 10 ∨ 20 ≤ c) → σ' c = σ c) → Q none σ' τ) : Run wC G M_P_copyOf 0 [some (.ref 10), some (.ref 50)] [] σ τ Q := by
  refine wd_go ok_P_copyOf [] 200 (fun R hR => ?_)
  conv => whnf
  try dsimp only
  refine ⟨Nat.le_of_ble_eq_true rfl, by decide, by decide, by decide, by decide, by decide, ?_⟩
  conv => whnf
  try dsimp only
  refine ⟨Nat.le_of_ble_eq_true rfl, by decide, by decide, by decide, by decide, by decide, ?_⟩
  conv => whnf
  try dsimp only
  refine ⟨Nat.le_of_ble_eq_true rfl, by decide, by decide, by decide, by decide, by decide, ?_⟩
  conv => whnf
  try dsimp only
  refine ⟨Nat.le_of_ble_eq_true rfl, by decide, by decide, by decide, by decide, by decide, ?_⟩
  conv => whnf
  try dsimp only
  refine ⟨Nat.le_of_ble_eq_true rfl, by decide, by decide, by decide, by decide, by decide, ?_⟩
  conv => whnf
  try dsimp only
  refine ⟨Nat.le_of_ble_eq_true rfl, by decide, by decide, by decide, by decide, by decide, ?_⟩
  conv => whnf
  try dsimp only
  refine ⟨Nat.le_of_ble_eq_true rfl, by decide, by decide, by decide, by decide, by decide, ?_⟩
  conv => whnf
  try dsimp only
  refine ⟨Nat.le_of_ble_eq_true rfl, by decide, by decide, by decide, by decide, by decide, ?_⟩
  conv => whnf
  try dsimp only
  refine ⟨Nat.le_of_ble_eq_true rfl, by decide, by decide, by decide, by decide, by decide, ?_⟩
  conv => whnf
  try dsimp only
  refine ⟨rfl, h _ (fun n hb hr => ?_) (fun c hc => ?_)⟩
  · obtain ⟨h0, hdg, hs, hj, he⟩ := hr
    have ci : ∀ {f g : wRow} {k L : Nat}, k < L → va_cpy f g 0 0 L k = f k := fun {f g k L} hk => by
      rw [pk_cpy_in (Nat.zero_le k) (by omega)]
      congr 1
      omega
    refine ⟨h0, fun e hee => ?_, fun i hh => ?_, fun i hh => ?_, fun i hh => ?_⟩
    · have := hdg e hee
      refine ⟨?_, ?_, ?_, ?_⟩
      · show va_cpy (σ 51) (σ 11) 0 0 4 e = _
        rw [ci (by omega)]; exact this.1
      · show va_cpy (σ 52) (σ 12) 0 0 4 e = _
        rw [ci (by omega)]; exact this.2.1
      · show va_cpy (σ 53) (σ 13) 0 0 4 e = _
        rw [ci (by omega)]; exact this.2.2.1
      · show va_cpy (σ 54) (σ 14) 0 0 4 e = _
        rw [ci (by omega)]; exact this.2.2.2
    · show va_cpy (σ 55) (σ 15) 0 0 16 i = _
      rw [ci (by omega)]; exact hs i hh
    · refine ⟨?_, ?_⟩
      · show va_cpy (σ 56) (σ 16) 0 0 4 i = _
        rw [ci (by omega)]; exact (hj i hh).1
      · show va_cpy (σ 57) (σ 17) 0 0 4 i = _
        rw [ci (by omega)]; exact (hj i hh).2
    · refine ⟨?_, ?_⟩
      · show va_cpy (σ 58) (σ 18) 0 0 6 i = _
        rw [ci (by omega)]; exact (he i hh).1
      · show va_cpy (σ 59) (σ 19) 0 0 6 i = _
        rw [ci (by omega)]; exact (he i hh).2
  · iterate 18 rw [uc_n (by omega)]
theorem s_T_begin {P : wRow} {u : wU} {σ : wd_S} (hr : relC σ 10 P) (hb : dN P ≤ 4 ∧ sN P ≤ 16 ∧ jN P ≤ 4 ∧ eN P ≤ 6) (hu : isSt P u) (h : ∀ σ', relT σ' u → frT σ σ' → Q none σ' τ) : Run wC G M_T_begin 0 [some (.ref 1), some (.ref 10)] [] σ τ Q := by
  refine wd_go ok_T_begin [] 20 (fun R hR => ?_)
  conv => whnf
  try dsimp only
  refine hR (k_T_begin_5 (Nat.le_of_ble_eq_true rfl) rfl (s_copy_20_10 (fun σ1 h1 h2 => ?_)))
  refine wd_go ok_T_begin [] 20 (fun R hR => ?_)
  conv => whnf
  try dsimp only
  refine hR (k_T_begin_13 (Nat.le_of_ble_eq_true rfl) (s_fill_2 ?_))
  refine wd_go ok_T_begin [] 40 (fun R hR => ?_)
  conv => whnf
  try dsimp only
  obtain ⟨g1, g2, g3, g4, g5, g6, g7⟩ := hu
  refine ⟨rfl, h _ ⟨?_, ?_, ?_, ?_, ?_, ?_, ?_⟩ ?_⟩
  · have := relC_cong hb g1 (h1 P hb hr)
    refine relC_kept this (fun j hj => ?_)
    iterate 6 rw [uc_n (by omega)]
  · rw [g4]; rfl
  · rw [g5]; rfl
  · rw [g6]; rfl
  · rw [g7]; rfl
  · rw [g3]; rfl
  · intro d hd
    have hd4 : d < 4 := by
      have : dN u.1 = dN P := dN_of (g1 16 (by decide))
      omega
    rw [g2 d hd4]
    show fil (fun _ => 0) (σ1 2) 4 d = 0
    exact fil_lt hd4
  · intro c hc
    iterate 6 rw [uc_n (by omega)]
    exact h2 c (by omega)
end C
