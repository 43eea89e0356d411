/-! THE REFERENCE: ticks; a start, a settling; what a number in its bounds is -/
theorem inD {x : Int32} {N : Nat} (hN : N < 2 ^ 30) (h : inB x 0 (nI N - 1) = true) : ∃ j : Nat, j < N ∧ x = nI j := by
  have h := of_decide_eq_true h
  have h0 : ¬ x < 0 := Int32.not_lt.mpr h.1
  obtain ⟨j, hj, rfl⟩ := nI_of h0
  refine ⟨j, ?_, rfl⟩
  have h2 := Int32.le_iff_toInt_le.mp h.2
  rw [nI_toInt hj, il1, pk_sub_toInt hN (by decide)] at h2
  omega
theorem inN {x : Int32} {N : Nat} (hN : N < 2 ^ 30) (h : inB x 0 (nI N) = true) : ∃ j : Nat, j ≤ N ∧ x = nI j := by
  have h := of_decide_eq_true h
  have h0 : ¬ x < 0 := Int32.not_lt.mpr h.1
  obtain ⟨j, hj, rfl⟩ := nI_of h0
  refine ⟨j, ?_, rfl⟩
  exact (nI_leI hj (by omega)).mp h.2
theorem inM {x : Int32} {M N : Nat} (hM : M ≤ N) (hN : N < 2 ^ 30) (h : inB x (nI M) (nI N) = true) : ∃ j : Nat, M ≤ j ∧ j ≤ N ∧ x = nI j := by
  have h := of_decide_eq_true h
  have h0 : ¬ x < 0 := by
    intro z
    have h1 := Int32.le_iff_toInt_le.mp h.1
    have h2 := Int32.lt_iff_toInt_lt.mp z
    rw [nI_toInt (by omega)] at h1
    have h3 : (0 : Int32).toInt = 0 := rfl
    omega
  obtain ⟨j, hj, rfl⟩ := nI_of h0
  exact ⟨j, (nI_leI (by omega) hj).mp h.1, (nI_leI hj (by omega)).mp h.2, rfl⟩
theorem inB_nI {j N : Nat} (h : j ≤ N) (hN : N < 2 ^ 31) : inB (nI j) 0 (nI N) = true := decide_eq_true ⟨nI_pos' (by omega), nI_le h hN⟩
/-- the first i of f, the others of g -/
def fil (f g : wRow) (i : Nat) : wRow := fun k => if k < i then f k else g k
theorem fil_0 (f g : wRow) : fil f g 0 = g := by
  funext k
  simp [fil]
theorem fil_s (f g : wRow) (i : Nat) : upd (fil f g i) i (f i) = fil f g (i + 1) := by
  funext k
  simp only [upd, fil]
  by_cases h : k = i
  · subst h
    rw [if_pos rfl, if_pos (by omega)]
  · rw [if_neg h]
    by_cases h2 : k < i
    · rw [if_pos h2, if_pos (by omega)]
    · rw [if_neg h2, if_neg (by omega)]
theorem fil_lt {f g : wRow} {i k : Nat} (h : k < i) : fil f g i k = f k := if_pos h
theorem wf_cong {n m : wRow} (h : ∀ j, j < 61 → m j = n j) (hw : wf n) : wf m := by
  have d1 : dN m = dN n := by unfold dN; rw [h 16 (by decide)]
  have d2 : sN m = sN n := by unfold sN; rw [h 33 (by decide)]
  have d3 : jN m = jN n := by unfold jN; rw [h 43 (by decide)]
  have d4 : eN m = eN n := by unfold eN; rw [h 48 (by decide)]
  have d5 : pN m = pN n := by unfold pN; rw [h 34 (by decide)]
  obtain ⟨h1, h2, h3, h4, h5, h6, h7, h8⟩ := hw
  unfold wf
  rw [d1, d2, d3, d4, d5, h 16 (by decide), h 33 (by decide), h 43 (by decide), h 48 (by decide), h 34 (by decide), h 45 (by decide)]
  refine ⟨h1, h2, h3, h4, h5, h6, fun d hd => ?_, fun i hi => ?_⟩
  · rw [h (4 * d) (by omega), h (4 * d + 3) (by omega)]
    exact h7 d hd
  · rw [h (49 + 2 * i) (by omega)]
    exact h8 i hi
/-- the rows of a trial that begins: nobody sleeps, nothing is counted -/
def stU (σ : wd_S) : wU := (fil (σ 1) (σ 2) 61, fil (fun _ => 0) (σ 6) 4, upd (upd (upd (upd (upd (σ 0) 13 (-4)) 14 0) 15 0) 16 0) 17 0)
theorem stU_wf {σ : wd_S} (hw : wf (σ 1)) : wf (stU σ).1 := wf_cong (fun j hj => fil_lt hj) hw
theorem tik_o {u : wU} {s : Int32} {k : Nat} (h4 : k ≠ 14) (h6 : k ≠ 16) (h7 : k ≠ 17) (h8 : k ≠ 18) : (tikA u s).2.2 k = u.2.2 k := by
  rcases Nat.eq_zero_or_pos (mskA u s (dN u.1)) with h | h
  · rw [tik_0 h]
    dsimp only
    rw [upd_n h8]
    exact dogsA_o h6 h7 _
  · rw [tik_1 h]
    dsimp only
    rw [upd_n h4, upd_n h8]
    exact dogsA_o h6 h7 _
theorem tk_o {lost : Bool} {u : wU} {k : Nat} (h4 : k ≠ 14) (h5 : k ≠ 15) (h6 : k ≠ 16) (h7 : k ≠ 17) (h8 : k ≠ 18) : (tkA lost u).2.2 k = u.2.2 k := by
  rw [tkA, tik_o h4 h6 h7 h8]
  exact upd_n h5
theorem tks_o {u : wU} {k : Nat} (h4 : k ≠ 14) (h5 : k ≠ 15) (h6 : k ≠ 16) (h7 : k ≠ 17) (h8 : k ≠ 18) : ∀ n, (tksA n u).2.2 k = u.2.2 k
  | 0 => rfl
  | n + 1 => by
    rw [tksA, tk_o h4 h5 h6 h7 h8]
    exact tks_o h4 h5 h6 h7 h8 n
section R
variable {G : wd_G} {s : wd_S} {τ : wd_T} {Q : wd_P}
theorem s_R_tickGoes {lost : Bool} {u : wU} (hw : wf u.1) (h : Q none (mR s (tkA lost u)) τ) : Run wR G M_R_tickGoes 0 [some (.ref 0), some (.int (bI lost)), none, none] [] (mR s u) τ Q := by
  have hp := plc_wf hw
  have fin : ∀ sg x, sg = cond lost 0 (sgnA u.1) → Run wR G M_R_tickGoes 82 [some (.ref 0), some (.int (bI lost)), some (.int sg), x] [] (mR s (plcA u.1, u.2.1, upd u.2.2 15 (u.2.2 15 + bI (isStk u.1)))) τ Q := by
    intro sg x hs
    refine wd_go ok_R_tickGoes [] 20 (fun R hR => ?_)
    conv => whnf
    try dsimp only
    refine hR (k_R_tickGoes_84 (Nat.le_of_ble_eq_true rfl) rfl (s_R_dogsGo hp.1 ?_))
    refine wd_go ok_R_tickGoes [] 20 (fun R hR => ?_)
    conv => whnf
    try dsimp only
    rw [hs]
    exact ⟨rfl, h⟩
  refine wd_go ok_R_tickGoes [] 20 (fun R hR => ?_)
  conv => whnf
  try dsimp only
  refine hR (k_R_tickGoes_3 (Nat.le_of_ble_eq_true rfl) rfl (s_R_isStuck hw ?_))
  refine wd_go ok_R_tickGoes [] 20 (fun R hR => ?_)
  conv => whnf
  try dsimp only
  refine hR (k_R_tickGoes_13 (Nat.le_of_ble_eq_true rfl) (s_R_flag (bI_bit _) ?_))
  refine wd_go ok_R_tickGoes [57, 82] 20 (fun R hR => ?_)
  conv => whnf
  try dsimp only
  rw [mR_w0, mR_0]
  have e2 : mR s u 2 = u.1 := rfl
  rw [e2]
  cases hst : isStk u.1 with
  | true =>
    refine nb_t (show ¬ bI true = 0 by decide) ?_
    conv => whnf
    try dsimp only
    have e : sgnA u.1 = 0 := by rw [sgnA, if_pos (Or.inl hst)]
    have e3 : plcA u.1 = u.1 := by rw [plcA, if_pos (Or.inl hst)]
    have := fin 0 (some (.int (bI true))) (by rw [e]; cases lost <;> rfl)
    rw [e3, hst] at this
    exact hR this
  | false =>
    refine nb_f rfl ?_
    conv => whnf
    try dsimp only
    refine ⟨vp_in_nI (by first | decide | omega) (by first | decide | omega), ?_⟩
    conv => whnf
    try dsimp only
    rw [cl33, mR_2, hw.2.1.1]
    rcases Nat.eq_zero_or_pos (sN u.1) with h0 | h0
    · rw [h0]
      refine br_t (by decide) ?_
      conv => whnf
      try dsimp only
      have e : sgnA u.1 = 0 := by rw [sgnA, if_pos (Or.inr h0)]
      have e3 : plcA u.1 = u.1 := by rw [plcA, if_pos (Or.inr h0)]
      have := fin 0 (some (.int (bI false))) (by rw [e]; cases lost <;> rfl)
      rw [e3, hst] at this
      exact hR this
    · refine br_f (nI_nle h0 (by have := hw.2.1.2; omega)) ?_
      conv => whnf
      try dsimp only
      have hS := hw.2.1.2
      have hP := hw.2.2.2.2.1
      have hn0 : ¬ (isStk u.1 = true ∨ sN u.1 = 0) := fun z => by
        rcases z with z | z
        · rw [hst] at z; cases z
        · omega
      have e3 : plcA u.1 = upd u.1 34 (if pN u.1 + 1 < sN u.1 then nI (pN u.1 + 1) else 0) := by rw [plcA, if_neg hn0]
      have e4 : sgnA u.1 = u.1 (17 + pN u.1) := by rw [sgnA, if_neg hn0]
      have go : ∀ sg, sg = cond lost 0 (sgnA u.1) → Run wR G M_R_tickGoes 57 [some (.ref 0), some (.int (bI lost)), some (.int 0), some (.int (bI false))] [.int sg] (mR s (u.1, u.2.1, upd u.2.2 15 (u.2.2 15 + bI false))) τ Q := by
        intro sg hs
        refine wd_go ok_R_tickGoes [82] 40 (fun R hR => ?_)
        conv => whnf
        try dsimp only
        refine ⟨vp_in_nI (by first | decide | omega) (by first | decide | omega), ?_⟩
        conv => whnf
        try dsimp only
        refine ⟨vp_in_nI (by first | decide | omega) (by first | decide | omega), ?_⟩
        conv => whnf
        try dsimp only
        rw [cl33, cl34, mR_2, hP.1, hw.2.1.1]
        refine ⟨nI_ne0 h0 (by omega), ?_⟩
        conv => whnf
        try dsimp only
        refine ⟨vp_in_nI (by first | decide | omega) (by first | decide | omega), ?_⟩
        conv => whnf
        try dsimp only
        refine hR ?_
        rw [mR_w2, cl34, nI_1, pk_rem (by omega) h0 (by omega)]
        have em : nI ((pN u.1 + 1) % sN u.1) = if pN u.1 + 1 < sN u.1 then nI (pN u.1 + 1) else 0 := by
          by_cases hl : pN u.1 + 1 < sN u.1
          · rw [if_pos hl, Nat.mod_eq_of_lt hl]
          · have : pN u.1 + 1 = sN u.1 := by omega
            rw [if_neg hl, this, Nat.mod_self]
            rfl
        rw [em]
        have := fin sg (some (.int (bI false))) hs
        rw [e3, hst] at this
        exact this
      cases lost with
      | true =>
        refine br_f (by decide) ?_
        conv => whnf
        try dsimp only
        exact hR (go 0 rfl)
      | false =>
        refine br_t rfl ?_
        conv => whnf
        try dsimp only
        refine ⟨vp_in_nI (by first | decide | omega) (by first | decide | omega), ?_⟩
        conv => whnf
        try dsimp only
        rw [cl34, mR_2, hP.1, il17, nI_add]
        refine ⟨vp_in_nI (by first | decide | omega) (by first | decide | omega), ?_⟩
        conv => whnf
        try dsimp only
        rw [nI_clamp (by omega)]
        refine hR (go _ ?_)
        exact e4.symm
theorem l_R_ticksGo {u : wU} (hw : wf u.1) {N : Nat} (hN : N < 2 ^ 31) (h : Q none (mR s (tksA N u)) τ) : ∀ (m i : Nat), N = i + m → Run wR G M_R_ticksGo 2 [some (.ref 0), some (.int (nI N)), some (.int (nI i))] [] (mR s (tksA i u)) τ Q := by
  intro m
  induction m with
  | zero =>
    intro i hi
    have e : i = N := by omega
    subst e
    refine wd_go ok_R_ticksGo [2] 20 (fun R hR => ?_)
    conv => whnf
    try dsimp only
    refine br_t (nI_le (Nat.le_refl i) hN) ?_
    conv => whnf
    try dsimp only
    exact ⟨rfl, h⟩
  | succ m ih =>
    intro i hi
    refine wd_go ok_R_ticksGo [2] 20 (fun R hR => ?_)
    conv => whnf
    try dsimp only
    refine br_f (nI_ge (by omega) hN) ?_
    conv => whnf
    try dsimp only
    refine hR (k_R_ticksGo_9 (Nat.le_of_ble_eq_true rfl) rfl (s_R_tickGoes (lost := false) (tks_wf hw i).1 ?_))
    refine wd_go ok_R_ticksGo [2] 20 (fun R hR => ?_)
    conv => whnf
    try dsimp only
    refine hR ?_
    have := ih (i + 1) (by omega)
    rw [nI_succ] at this
    exact this
theorem s_R_ticksGo {u : wU} (hw : wf u.1) {N : Nat} (hN : N < 2 ^ 31) (h : Q none (mR s (tksA N u)) τ) : Run wR G M_R_ticksGo 0 [some (.ref 0), some (.int (nI N)), none] [] (mR s u) τ Q := by
  refine wd_go ok_R_ticksGo [2] 20 (fun R hR => ?_)
  conv => whnf
  try dsimp only
  exact hR (l_R_ticksGo hw hN h N 0 (by omega))
theorem s_R_resetsIn {u : wU} (hw : wf u.1) {N : Nat} (hN : N < 2 ^ 31) (h : Q (some (.int ((tksA N u).2.2 14))) (mR s (tksA N u)) τ) : Run wR G M_R_resetsIn 0 [some (.ref 0), some (.int (nI N))] [] (mR s u) τ Q := by
  refine wd_go ok_R_resetsIn [] 20 (fun R hR => ?_)
  conv => whnf
  try dsimp only
  refine hR (k_R_resetsIn_2 (Nat.le_of_ble_eq_true rfl) rfl (s_R_ticksGo hw hN ?_))
  refine wd_go ok_R_resetsIn [] 20 (fun R hR => ?_)
  conv => whnf
  try dsimp only
  exact h
theorem l_R_starts1 {σ : wd_S} (h : Run wR G M_R_starts 26 [some (.ref 0), some (.int (nI 61))] [] (wd_uc σ 2 (fil (σ 1) (σ 2) 61)) τ Q) : ∀ (m i : Nat), 61 = i + m → Run wR G M_R_starts 2 [some (.ref 0), some (.int (nI i))] [] (wd_uc σ 2 (fil (σ 1) (σ 2) i)) τ Q := by
  intro m
  induction m with
  | zero =>
    intro i hi
    have e : i = 61 := by omega
    subst e
    refine wd_go ok_R_starts [2, 26] 20 (fun R hR => ?_)
    conv => whnf
    try dsimp only
    refine br_t (by decide) ?_
    conv => whnf
    try dsimp only
    exact hR h
  | succ m ih =>
    intro i hi
    refine wd_go ok_R_starts [2, 26] 20 (fun R hR => ?_)
    conv => whnf
    try dsimp only
    rw [il61]
    refine br_f (nI_ge (by omega) (by decide)) ?_
    conv => whnf
    try dsimp only
    refine ⟨vp_in_nI (by first | decide | omega) (by first | decide | omega), ?_⟩
    conv => whnf
    try dsimp only
    refine ⟨vp_in_nI (by first | decide | omega) (by first | decide | omega), ?_⟩
    conv => whnf
    try dsimp only
    refine hR ?_
    rw [nI_clamp (by omega), uc_uc, uc_s, uc_n (show (1 : Nat) ≠ 2 by decide), fil_s]
    have := ih (i + 1) (by omega)
    rw [nI_succ] at this
    exact this
theorem l_R_starts2 {σ : wd_S} (h : Run wR G M_R_starts 46 [some (.ref 0), some (.int (nI 4))] [] (wd_uc σ 6 (fil (fun _ => 0) (σ 6) 4)) τ Q) : ∀ (m i : Nat), 4 = i + m → Run wR G M_R_starts 28 [some (.ref 0), some (.int (nI i))] [] (wd_uc σ 6 (fil (fun _ => 0) (σ 6) i)) τ Q := by
  intro m
  induction m with
  | zero =>
    intro i hi
    have e : i = 4 := by omega
    subst e
    refine wd_go ok_R_starts [28, 46] 20 (fun R hR => ?_)
    conv => whnf
    try dsimp only
    refine br_t (by decide) ?_
    conv => whnf
    try dsimp only
    exact hR h
  | succ m ih =>
    intro i hi
    refine wd_go ok_R_starts [28, 46] 20 (fun R hR => ?_)
    conv => whnf
    try dsimp only
    rw [il4]
    refine br_f (nI_ge (by omega) (by decide)) ?_
    conv => whnf
    try dsimp only
    refine ⟨vp_in_nI (by first | decide | omega) (by first | decide | omega), ?_⟩
    conv => whnf
    try dsimp only
    refine hR ?_
    rw [nI_clamp (by omega), uc_uc, uc_s]
    have e : upd (fil (fun _ => 0) (σ 6) i) i 0 = fil (fun _ => 0) (σ 6) (i + 1) := fil_s (fun _ => 0) (σ 6) i
    rw [e]
    have := ih (i + 1) (by omega)
    rw [nI_succ] at this
    exact this
theorem s_R_starts {σ : wd_S} (h : Q none (mR σ (stU σ)) τ) : Run wR G M_R_starts 0 [some (.ref 0), none] [] σ τ Q := by
  refine wd_go ok_R_starts [2] 20 (fun R hR => ?_)
  conv => whnf
  try dsimp only
  refine hR ?_
  have k1 := l_R_starts1 (G := G) (τ := τ) (Q := Q) (σ := σ) ?_ 61 0 (by omega)
  · rw [fil_0, uc_self] at k1
    exact k1
  · refine wd_go ok_R_starts [28] 20 (fun R hR => ?_)
    conv => whnf
    try dsimp only
    refine hR ?_
    have k2 := l_R_starts2 (G := G) (τ := τ) (Q := Q) (σ := wd_uc σ 2 (fil (σ 1) (σ 2) 61)) ?_ 4 0 (by omega)
    · rw [fil_0, uc_self] at k2
      exact k2
    · refine wd_go ok_R_starts [] 40 (fun R hR => ?_)
      conv => whnf
      try dsimp only
      refine ⟨rfl, ?_⟩
      simp only [uc_uc, uc_s]
      exact h
theorem l_R_settles {σ : wd_S} (h : Q none (wd_uc σ 1 (fil (σ 2) (σ 1) 61)) τ) : ∀ (m i : Nat), 61 = i + m → Run wR G M_R_settles 2 [some (.ref 0), some (.int (nI i))] [] (wd_uc σ 1 (fil (σ 2) (σ 1) i)) τ Q := by
  intro m
  induction m with
  | zero =>
    intro i hi
    have e : i = 61 := by omega
    subst e
    refine wd_go ok_R_settles [2] 20 (fun R hR => ?_)
    conv => whnf
    try dsimp only
    refine br_t (by decide) ?_
    conv => whnf
    try dsimp only
    exact ⟨rfl, h⟩
  | succ m ih =>
    intro i hi
    refine wd_go ok_R_settles [2] 20 (fun R hR => ?_)
    conv => whnf
    try dsimp only
    rw [il61]
    refine br_f (nI_ge (by omega) (by decide)) ?_
    conv => whnf
    try dsimp only
    refine ⟨vp_in_nI (by first | decide | omega) (by first | decide | omega), ?_⟩
    conv => whnf
    try dsimp only
    refine ⟨vp_in_nI (by first | decide | omega) (by first | decide | omega), ?_⟩
    conv => whnf
    try dsimp only
    refine hR ?_
    rw [nI_clamp (by omega), uc_uc, uc_s, uc_n (show (2 : Nat) ≠ 1 by decide), fil_s]
    have := ih (i + 1) (by omega)
    rw [nI_succ] at this
    exact this
theorem s_R_settles {σ : wd_S} (h : Q none (wd_uc σ 1 (fil (σ 2) (σ 1) 61)) τ) : Run wR G M_R_settles 0 [some (.ref 0), none] [] σ τ Q := by
  refine wd_go ok_R_settles [2] 20 (fun R hR => ?_)
  conv => whnf
  try dsimp only
  refine hR ?_
  have k1 := l_R_settles (G := G) (τ := τ) (Q := Q) (σ := σ) h 61 0 (by omega)
  rw [fil_0, uc_self] at k1
  exact k1
end R
