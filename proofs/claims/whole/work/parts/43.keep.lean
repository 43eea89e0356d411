/-! COUNT, KEEP, BACK: both -/
def lmA (n : wRow) : Nat → Int32
  | 0 => 0
  | d + 1 => lmA n d + n (4 * d + 1)
def sgA (n : wRow) : Nat → Int32
  | 0 => 0
  | i + 1 => sgA n i + n (17 + i)
def aCount (P K : wRow) (L ln sz w : Int32) : Int32 := if w = nI 0 then P 48 else if w = nI 1 then K 0 + K 1 else if w = nI 2 then L else if w = nI 3 then (if ln = -4 then -4 else sz) else if w = nI 4 then lmA P (dN P) else if w = nI 5 then sgA P (sN P) else -1
theorem cpy_s (f : wRow) (s d i : Nat) : upd (va_cpy f f s d i) (d + i) (f (s + i)) = va_cpy f f s d (i + 1) := by
  funext j
  by_cases e : j = d + i
  · subst e
    rw [upd_s, pk_cpy_in (by omega) (by omega), Nat.add_sub_cancel_left]
  · rw [upd_n e]
    by_cases h : d ≤ j ∧ j < d + i
    · rw [pk_cpy_in h.1 h.2, pk_cpy_in h.1 (by omega)]
    · rw [pk_cpy_out (by omega), pk_cpy_out (by omega)]
theorem cpy_0 (f : wRow) (s d : Nat) : va_cpy f f s d 0 = f := by
  funext j
  exact pk_cpy_out (by omega)
section R
variable {G : wd_G} {τ : wd_T} {Q : wd_P} {σ : wd_S}
theorem l_R_count1 {w : Int32} (hw : wf (σ 1)) (h : Run wR G M_R_count 39 [some (.ref 0), some (.int w), some (.int (lmA (σ 1) (dN (σ 1)))), some (.int 0), some (.int (nI (dN (σ 1))))] [] σ τ Q) : ∀ (m k : Nat), dN (σ 1) = k + m → Run wR G M_R_count 7 [some (.ref 0), some (.int w), some (.int (lmA (σ 1) k)), some (.int 0), some (.int (nI k))] [] σ τ Q := by
  have hD4 := hw.1.2
  have e16 : σ 1 (Int32.toNatClampNeg 16) = nI (dN (σ 1)) := hw.1.1
  intro m
  induction m with
  | zero =>
    intro k hk
    have e : k = dN (σ 1) := by omega
    refine wd_go ok_R_count [7, 39] 20 (fun R hR => ?_)
    conv => whnf
    try dsimp only
    refine ⟨vp_in_nI (by first | decide | omega) (by first | decide | omega), ?_⟩
    conv => whnf
    try dsimp only
    rw [e16]
    refine br_t (nI_le (by omega) (by omega)) ?_
    conv => whnf
    try dsimp only
    rw [e]
    exact hR h
  | succ m ih =>
    intro k hk
    refine wd_go ok_R_count [7, 39] 20 (fun R hR => ?_)
    conv => whnf
    try dsimp only
    refine ⟨vp_in_nI (by first | decide | omega) (by first | decide | omega), ?_⟩
    conv => whnf
    try dsimp only
    rw [e16]
    refine br_f (nI_ge (by omega) (by omega)) ?_
    conv => whnf
    try dsimp only
    rw [il1, ix4]
    refine ⟨vp_in_nI (by first | decide | omega) (by first | decide | omega), ?_⟩
    conv => whnf
    try dsimp only
    rw [nI_clamp (by omega)]
    refine hR ?_
    have := ih (k + 1) (by omega)
    rw [lmA, nI_succ] at this
    exact this
theorem l_R_count2 {w : Int32} {x : Int32} (hw : wf (σ 1)) (h : Run wR G M_R_count 73 [some (.ref 0), some (.int w), some (.int x), some (.int (sgA (σ 1) (sN (σ 1)))), some (.int (nI (sN (σ 1))))] [] σ τ Q) : ∀ (m k : Nat), sN (σ 1) = k + m → Run wR G M_R_count 42 [some (.ref 0), some (.int w), some (.int x), some (.int (sgA (σ 1) k)), some (.int (nI k))] [] σ τ Q := by
  have hS := hw.2.1.2
  have e33 : σ 1 (Int32.toNatClampNeg 33) = nI (sN (σ 1)) := hw.2.1.1
  intro m
  induction m with
  | zero =>
    intro k hk
    have e : k = sN (σ 1) := by omega
    refine wd_go ok_R_count [42, 73] 20 (fun R hR => ?_)
    conv => whnf
    try dsimp only
    refine ⟨vp_in_nI (by first | decide | omega) (by first | decide | omega), ?_⟩
    conv => whnf
    try dsimp only
    rw [e33]
    refine br_t (nI_le (by omega) (by omega)) ?_
    conv => whnf
    try dsimp only
    rw [e]
    exact hR h
  | succ m ih =>
    intro k hk
    refine wd_go ok_R_count [42, 73] 20 (fun R hR => ?_)
    conv => whnf
    try dsimp only
    refine ⟨vp_in_nI (by first | decide | omega) (by first | decide | omega), ?_⟩
    conv => whnf
    try dsimp only
    rw [e33]
    refine br_f (nI_ge (by omega) (by omega)) ?_
    conv => whnf
    try dsimp only
    rw [il17, nI_add]
    refine ⟨vp_in_nI (by first | decide | omega) (by first | decide | omega), ?_⟩
    conv => whnf
    try dsimp only
    rw [nI_clamp (by omega)]
    refine hR ?_
    have := ih (k + 1) (by omega)
    rw [sgA, nI_succ] at this
    exact this
theorem s_R_count {w : Int32} (hw : wf (σ 1)) (h3 : ∀ k, k < 2 → wd_bit (σ 3 k)) (h : Q (some (.int (aCount (σ 1) (σ 3) (σ 0 6) (σ 9 0) (σ 10 0) w))) σ τ) : Run wR G M_R_count 0 [some (.ref 0), some (.int w), none, none, none] [] σ τ Q := by
  refine wd_go ok_R_count [7, 39] 20 (fun R hR => ?_)
  conv => whnf
  try dsimp only
  refine hR (l_R_count1 hw ?_ (dN (σ 1)) 0 (by omega))
  refine wd_go ok_R_count [42, 73] 20 (fun R hR => ?_)
  conv => whnf
  try dsimp only
  refine hR (l_R_count2 hw ?_ (sN (σ 1)) 0 (by omega))
  refine wd_go ok_R_count [] 20 (fun R hR => ?_)
  conv => whnf
  try dsimp only
  refine ⟨fun e => ?_, fun e0 => ?_⟩
  · subst e
    conv => whnf
    try dsimp only
    refine ⟨vp_in_nI (by first | decide | omega) (by first | decide | omega), ?_⟩
    conv => whnf
    try dsimp only
    exact h
  refine ⟨fun e => ?_, fun e1 => ?_⟩
  · subst e
    conv => whnf
    try dsimp only
    refine ⟨vp_in_nI (by first | decide | omega) (by first | decide | omega), ?_⟩
    conv => whnf
    try dsimp only
    refine hR (k_R_count_126 (Nat.le_of_ble_eq_true rfl) (s_R_flag (h3 0 (by decide)) ?_))
    refine wd_go ok_R_count [] 20 (fun R hR => ?_)
    conv => whnf
    try dsimp only
    refine ⟨vp_in_nI (by first | decide | omega) (by first | decide | omega), ?_⟩
    conv => whnf
    try dsimp only
    refine hR (k_R_count_135 (Nat.le_of_ble_eq_true rfl) (s_R_flag (h3 1 (by decide)) ?_))
    refine wd_go ok_R_count [] 20 (fun R hR => ?_)
    conv => whnf
    try dsimp only
    exact h
  refine ⟨fun e => ?_, fun e2 => ?_⟩
  · subst e
    conv => whnf
    try dsimp only
    exact h
  refine ⟨fun e => ?_, fun e3 => ?_⟩
  · subst e
    have h : Q (some (.int (if σ 9 0 = -4 then -4 else σ 10 0))) σ τ := h
    conv => whnf
    try dsimp only
    refine ⟨vp_in_nI (by first | decide | omega) (by first | decide | omega), ?_⟩
    conv => whnf
    try dsimp only
    by_cases hz : σ 9 0 = -4
    · rw [if_pos hz] at h
      refine nb_f hz ?_
      conv => whnf
      try dsimp only
      exact h
    · rw [if_neg hz] at h
      refine nb_t hz ?_
      conv => whnf
      try dsimp only
      refine ⟨vp_in_nI (by first | decide | omega) (by first | decide | omega), ?_⟩
      conv => whnf
      try dsimp only
      exact h
  refine ⟨fun e => ?_, fun e4 => ?_⟩
  · subst e
    conv => whnf
    try dsimp only
    exact h
  refine ⟨fun e => ?_, fun e5 => ?_⟩
  · subst e
    conv => whnf
    try dsimp only
    exact h
  conv => whnf
  try dsimp only
  have e : ∀ a b c d f, aCount a b c d f w = -1 := by intros; simp only [aCount, e0, e1, e2, e3, e4, e5, if_false]
  rw [e] at h
  exact h
theorem l_R_copies {d s : Nat} (hd : d + 61 ≤ 183) (hs : s + 61 ≤ 183) (hds : d + 61 ≤ s ∨ s + 61 ≤ d) (h : Q none (wd_uc σ 1 (va_cpy (σ 1) (σ 1) s d 61)) τ) : ∀ (m i : Nat), 61 = i + m → Run wR G M_R_copies 2 [some (.ref 0), some (.int (nI d)), some (.int (nI s)), some (.int (nI i))] [] (wd_uc σ 1 (va_cpy (σ 1) (σ 1) s d i)) τ Q := by
  intro m
  induction m with
  | zero =>
    intro i hi
    have e : i = 61 := by omega
    subst e
    refine wd_go ok_R_copies [2] 20 (fun R hR => ?_)
    conv => whnf
    try dsimp only
    refine br_t (by decide) ?_
    conv => whnf
    try dsimp only
    exact ⟨rfl, h⟩
  | succ m ih =>
    intro i hi
    refine wd_go ok_R_copies [2] 20 (fun R hR => ?_)
    conv => whnf
    try dsimp only
    rw [il61]
    refine br_f (nI_ge (by omega) (by decide)) ?_
    conv => whnf
    try dsimp only
    rw [nI_add]
    refine ⟨vp_in_nI (by first | decide | omega) (by first | decide | omega), ?_⟩
    conv => whnf
    try dsimp only
    rw [nI_add]
    refine ⟨vp_in_nI (by first | decide | omega) (by first | decide | omega), ?_⟩
    conv => whnf
    try dsimp only
    rw [nI_clamp (by omega), nI_clamp (by omega), uc_s, uc_uc, pk_cpy_out (by omega), cpy_s]
    refine hR ?_
    have := ih (i + 1) (by omega)
    rw [nI_succ] at this
    exact this
theorem s_R_copies {d s : Nat} (hd : d + 61 ≤ 183) (hs : s + 61 ≤ 183) (hds : d + 61 ≤ s ∨ s + 61 ≤ d) (h : Q none (wd_uc σ 1 (va_cpy (σ 1) (σ 1) s d 61)) τ) : Run wR G M_R_copies 0 [some (.ref 0), some (.int (nI d)), some (.int (nI s)), none] [] σ τ Q := by
  refine wd_go ok_R_copies [2] 20 (fun R hR => ?_)
  conv => whnf
  try dsimp only
  have := l_R_copies (G := G) hd hs hds h 61 0 (by omega)
  rw [cpy_0, uc_self] at this
  exact hR this
theorem s_R_keep {k : Int32} (h3 : ∀ k, k < 2 → wd_bit (σ 3 k)) (h : Q (some (.int (if inB k 0 1 = true then σ 3 k.toNatClampNeg else -1))) (if inB k 0 1 = true then wd_uc (wd_uc σ 3 (upd (σ 3) k.toNatClampNeg 1)) 1 (va_cpy (σ 1) (σ 1) 0 (61 * (k.toNatClampNeg + 1)) 61) else σ) τ) : Run wR G M_R_keep 0 [some (.ref 0), some (.int k), none] [] σ τ Q := by
  refine wd_go ok_R_keep [] 20 (fun R hR => ?_)
  conv => whnf
  try dsimp only
  refine hR (k_R_keep_4 (Nat.le_of_ble_eq_true rfl) (s_R_in2 (a := 0) (b := 1) rfl rfl ?_))
  cases hv : inB k 0 1 with
  | false =>
    refine wd_go ok_R_keep [] 20 (fun R hR => ?_)
    conv => whnf
    try dsimp only
    refine nb_f rfl ?_
    conv => whnf
    try dsimp only
    rw [hv, if_neg (by decide), if_neg (by decide)] at h
    exact h
  | true =>
    rw [hv, if_pos rfl, if_pos rfl] at h
    obtain ⟨k, hk, rfl⟩ := inN (N := 1) (by decide) hv
    rw [nI_clamp (by omega)] at h
    refine wd_go ok_R_keep [] 20 (fun R hR => ?_)
    conv => whnf
    try dsimp only
    refine nb_t (by decide) ?_
    conv => whnf
    try dsimp only
    refine ⟨vp_in_nI (by first | decide | omega) (by first | decide | omega), ?_⟩
    conv => whnf
    try dsimp only
    rw [nI_clamp (by omega)]
    refine hR (k_R_keep_18 (Nat.le_of_ble_eq_true rfl) (s_R_flag (h3 k (by omega)) ?_))
    refine wd_go ok_R_keep [] 20 (fun R hR => ?_)
    conv => whnf
    try dsimp only
    refine ⟨vp_in_nI (by first | decide | omega) (by first | decide | omega), ?_⟩
    conv => whnf
    try dsimp only
    rw [nI_clamp (by omega), il61, show vp_nar FieldType.boolean 1 = 1 from rfl, show nI k + 1 = nI (k + 1) from nI_1 k, pk_mul]
    refine hR (k_R_keep_37 (Nat.le_of_ble_eq_true rfl) rfl (s_R_copies (d := 61 * (k + 1)) (s := 0) (by omega) (by omega) (by omega) ?_))
    refine wd_go ok_R_keep [] 20 (fun R hR => ?_)
    conv => whnf
    try dsimp only
    rw [uc_n (c' := 1) (c := 3) (by decide)]
    exact h
theorem s_R_back {k : Int32} (h3 : ∀ k, k < 2 → wd_bit (σ 3 k)) (h : Q (some (.int (if inB k 0 1 = true then (if σ 3 k.toNatClampNeg = 0 then -2 else σ 1 (61 * (k.toNatClampNeg + 1) + 44)) else -1))) (if inB k 0 1 = true ∧ ¬ σ 3 k.toNatClampNeg = 0 then wd_uc σ 1 (va_cpy (σ 1) (σ 1) (61 * (k.toNatClampNeg + 1)) 0 61) else σ) τ) : Run wR G M_R_back 0 [some (.ref 0), some (.int k)] [] σ τ Q := by
  refine wd_go ok_R_back [] 20 (fun R hR => ?_)
  conv => whnf
  try dsimp only
  refine hR (k_R_back_4 (Nat.le_of_ble_eq_true rfl) (s_R_in2 (a := 0) (b := 1) rfl rfl ?_))
  cases hv : inB k 0 1 with
  | false =>
    refine wd_go ok_R_back [] 20 (fun R hR => ?_)
    conv => whnf
    try dsimp only
    refine nb_f rfl ?_
    conv => whnf
    try dsimp only
    rw [hv, if_neg (by decide), if_neg (fun z => by cases z.1)] at h
    exact h
  | true =>
    rw [hv, if_pos rfl] at h
    obtain ⟨k, hk, rfl⟩ := inN (N := 1) (by decide) hv
    rw [nI_clamp (by omega)] at h
    refine wd_go ok_R_back [] 20 (fun R hR => ?_)
    conv => whnf
    try dsimp only
    refine nb_t (by decide) ?_
    conv => whnf
    try dsimp only
    refine ⟨vp_in_nI (by first | decide | omega) (by first | decide | omega), ?_⟩
    conv => whnf
    try dsimp only
    rw [nI_clamp (by omega)]
    by_cases hz : σ 3 k = 0
    · rw [if_pos hz, if_neg (fun z => z.2 hz)] at h
      refine nb_f hz ?_
      conv => whnf
      try dsimp only
      exact h
    · rw [if_neg hz, if_pos ⟨rfl, hz⟩] at h
      refine nb_t hz ?_
      conv => whnf
      try dsimp only
      rw [il61, il1, nI_add, pk_mul]
      refine hR (k_R_back_32 (Nat.le_of_ble_eq_true rfl) rfl (s_R_copies (d := 0) (by omega) (by omega) (by omega) ?_))
      refine wd_go ok_R_back [] 20 (fun R hR => ?_)
      conv => whnf
      try dsimp only
      refine ⟨vp_in_nI (by first | decide | omega) (by first | decide | omega), ?_⟩
      conv => whnf
      try dsimp only
      rw [cl44, uc_s, pk_cpy_in (by omega) (by omega)]
      exact h
end R
section C
variable {G : wd_G} {τ : wd_T} {Q : wd_P} {σ : wd_S} {P : wRow}
theorem l_P_limits (hr : relC σ 10 P) (hw : wf P) (h : Q (some (.int (lmA P (dN P)))) σ τ) : ∀ (m k : Nat), dN P = k + m → Run wC G M_P_limitsSummed 4 [some (.ref 10), some (.int (lmA P k)), some (.int (nI k))] [] σ τ Q := by
  have hD4 := hw.1.2
  intro m
  induction m with
  | zero =>
    intro k hk
    have e : k = dN P := by omega
    subst e
    refine wd_go ok_P_limitsSummed [4] 20 (fun R hR => ?_)
    conv => whnf
    try dsimp only
    rw [hr.1.1, hw.1.1]
    refine br_t (nI_le (Nat.le_refl _) (by omega)) ?_
    conv => whnf
    try dsimp only
    exact h
  | succ m ih =>
    intro k hk
    refine wd_go ok_P_limitsSummed [4] 20 (fun R hR => ?_)
    conv => whnf
    try dsimp only
    rw [hr.1.1, hw.1.1]
    refine br_f (nI_ge (by omega) (by omega)) ?_
    conv => whnf
    try dsimp only
    refine ⟨vp_in_nI (by first | decide | omega) (by first | decide | omega), ?_⟩
    conv => whnf
    try dsimp only
    rw [nI_clamp (by omega), (hr.2.1 k (by omega)).2.1]
    refine hR ?_
    have := ih (k + 1) (by omega)
    rw [lmA, nI_succ] at this
    exact this
theorem l_P_signs (hr : relC σ 10 P) (hw : wf P) (h : Q (some (.int (sgA P (sN P)))) σ τ) : ∀ (m k : Nat), sN P = k + m → Run wC G M_P_signsSummed 4 [some (.ref 10), some (.int (sgA P k)), some (.int (nI k))] [] σ τ Q := by
  have hD4 := hw.2.1.2
  intro m
  induction m with
  | zero =>
    intro k hk
    have e : k = sN P := by omega
    subst e
    refine wd_go ok_P_signsSummed [4] 20 (fun R hR => ?_)
    conv => whnf
    try dsimp only
    rw [hr.1.2.1, hw.2.1.1]
    refine br_t (nI_le (Nat.le_refl _) (by omega)) ?_
    conv => whnf
    try dsimp only
    exact h
  | succ m ih =>
    intro k hk
    refine wd_go ok_P_signsSummed [4] 20 (fun R hR => ?_)
    conv => whnf
    try dsimp only
    rw [hr.1.2.1, hw.2.1.1]
    refine br_f (nI_ge (by omega) (by omega)) ?_
    conv => whnf
    try dsimp only
    refine ⟨vp_in_nI (by first | decide | omega) (by first | decide | omega), ?_⟩
    conv => whnf
    try dsimp only
    rw [nI_clamp (by omega), hr.2.2.1 k (by omega)]
    refine hR ?_
    have := ih (k + 1) (by omega)
    rw [sgA, nI_succ] at this
    exact this
theorem s_D_count {w : Int32} (hr : relC σ 10 P) (hw : wf P) (h3 : ∀ k, k < 2 → wd_bit (σ 65 k)) (h : Q (some (.int (aCount P (σ 65) (σ 4 2) (σ 8 0) (σ 9 0) w))) σ τ) : Run wC G M_D_count 0 [some (.ref 0), some (.int w)] [] σ τ Q := by
  refine wd_go ok_D_count [] 20 (fun R hR => ?_)
  conv => whnf
  try dsimp only
  refine ⟨fun e => ?_, fun e0 => ?_⟩
  · subst e
    conv => whnf
    try dsimp only
    rw [hr.1.2.2.2.1]
    exact h
  refine ⟨fun e => ?_, fun e1 => ?_⟩
  · subst e
    have h : Q (some (.int (σ 65 0 + σ 65 1))) σ τ := h
    conv => whnf
    try dsimp only
    refine ⟨vp_in_nI (by first | decide | omega) (by first | decide | omega), ?_⟩
    conv => whnf
    try dsimp only
    rcases h3 0 (by decide) with k0 | k0
    · refine br_t k0 ?_
      conv => whnf
      try dsimp only
      refine ⟨vp_in_nI (by first | decide | omega) (by first | decide | omega), ?_⟩
      conv => whnf
      try dsimp only
      rcases h3 1 (by decide) with k1 | k1
      · refine br_t k1 ?_
        conv => whnf
        try dsimp only
        rw [k0, k1] at h
        exact h
      · refine br_f (fun z => by rw [show σ 65 (Int32.toNatClampNeg 1) = σ 65 1 from rfl, k1] at z; exact absurd z (by decide)) ?_
        conv => whnf
        try dsimp only
        rw [k0, k1] at h
        exact h
    · refine br_f (fun z => by rw [show σ 65 (Int32.toNatClampNeg 0) = σ 65 0 from rfl, k0] at z; exact absurd z (by decide)) ?_
      conv => whnf
      try dsimp only
      refine ⟨vp_in_nI (by first | decide | omega) (by first | decide | omega), ?_⟩
      conv => whnf
      try dsimp only
      rcases h3 1 (by decide) with k1 | k1
      · refine br_t k1 ?_
        conv => whnf
        try dsimp only
        rw [k0, k1] at h
        exact h
      · refine br_f (fun z => by rw [show σ 65 (Int32.toNatClampNeg 1) = σ 65 1 from rfl, k1] at z; exact absurd z (by decide)) ?_
        conv => whnf
        try dsimp only
        rw [k0, k1] at h
        exact h
  refine ⟨fun e => ?_, fun e2 => ?_⟩
  · subst e
    conv => whnf
    try dsimp only
    exact h
  refine ⟨fun e => ?_, fun e3 => ?_⟩
  · subst e
    have h : Q (some (.int (if σ 8 0 = -4 then -4 else σ 9 0))) σ τ := h
    conv => whnf
    try dsimp only
    refine ⟨vp_in_nI (by first | decide | omega) (by first | decide | omega), ?_⟩
    conv => whnf
    try dsimp only
    by_cases hz : σ 8 0 = -4
    · rw [if_pos hz] at h
      refine nb_f hz ?_
      conv => whnf
      try dsimp only
      exact h
    · rw [if_neg hz] at h
      refine nb_t hz ?_
      conv => whnf
      try dsimp only
      refine ⟨vp_in_nI (by first | decide | omega) (by first | decide | omega), ?_⟩
      conv => whnf
      try dsimp only
      exact h
  refine ⟨fun e => ?_, fun e4 => ?_⟩
  · subst e
    conv => whnf
    try dsimp only
    refine hR (k_D_count_119 (Nat.le_of_ble_eq_true rfl) rfl ?_)
    refine wd_go ok_P_limitsSummed [4] 20 (fun R hR => ?_)
    conv => whnf
    try dsimp only
    refine hR (l_P_limits hr hw ?_ (dN P) 0 (by omega))
    refine wd_go ok_D_count [] 20 (fun R hR => ?_)
    conv => whnf
    try dsimp only
    exact h
  refine ⟨fun e => ?_, fun e5 => ?_⟩
  · subst e
    conv => whnf
    try dsimp only
    refine hR (k_D_count_127 (Nat.le_of_ble_eq_true rfl) rfl ?_)
    refine wd_go ok_P_signsSummed [4] 20 (fun R hR => ?_)
    conv => whnf
    try dsimp only
    refine hR (l_P_signs hr hw ?_ (sN P) 0 (by omega))
    refine wd_go ok_D_count [] 20 (fun R hR => ?_)
    conv => whnf
    try dsimp only
    exact h
  conv => whnf
  try dsimp only
  have e : ∀ a b c d f, aCount a b c d f w = -1 := by intros; simp only [aCount, e0, e1, e2, e3, e4, e5, if_false]
  rw [e] at h
  exact h
theorem s_D_keep {k : Int32} (h3 : ∀ k, k < 2 → wd_bit (σ 65 k)) (h : ∀ σ', (if inB k 0 1 = true then (∀ n, (dN n ≤ 4 ∧ sN n ≤ 16 ∧ jN n ≤ 4 ∧ eN n ≤ 6) → relC σ 10 n → relC σ' (40 + 10 * k.toNatClampNeg) n) ∧ σ' 65 = upd (σ 65) k.toNatClampNeg 1 ∧ ∀ c, ¬ c = 65 → (c < 40 + 10 * k.toNatClampNeg ∨ 50 + 10 * k.toNatClampNeg ≤ c) → σ' c = σ c else σ' = σ) → Q (some (.int (if inB k 0 1 = true then σ 65 k.toNatClampNeg else -1))) σ' τ) : Run wC G M_D_keep 0 [some (.ref 0), some (.int k), none] [] σ τ Q := by
  refine wd_go ok_D_keep [] 20 (fun R hR => ?_)
  conv => whnf
  try dsimp only
  refine hR (k_D_keep_3 (Nat.le_of_ble_eq_true rfl) (s_D_outside ?_))
  cases hv : inB k 0 1 with
  | false =>
    refine wd_go ok_D_keep [] 20 (fun R hR => ?_)
    conv => whnf
    try dsimp only
    refine br_f (by decide) ?_
    conv => whnf
    try dsimp only
    rw [hv] at h
    exact h σ rfl
  | true =>
    simp only [hv, if_true] at h
    obtain ⟨k, hk, rfl⟩ := inN (N := 1) (by decide) hv
    rw [nI_clamp (by omega)] at h
    have fin : ∀ x, x = σ 65 k → Run wC G M_D_keep 25 [some (.ref 0), some (.int (nI k)), none] [.int x] σ τ Q := by
      intro x hx
      rw [← hx] at h
      match k, hk with
      | 0, _ =>
        refine wd_go ok_D_keep [] 20 (fun R hR => ?_)
        conv => whnf
        try dsimp only
        refine ⟨vp_in_nI (by first | decide | omega) (by first | decide | omega), ?_⟩
        conv => whnf
        try dsimp only
        refine ⟨fun _ => ?_, ⟨fun e => absurd e (by decide), trivial⟩⟩
        conv => whnf
        try dsimp only
        refine hR (k_D_keep_36 (Nat.le_of_ble_eq_true rfl) rfl (s_copy_40_10 (fun σ1 h1 h2 => ?_)))
        refine wd_go ok_D_keep [] 20 (fun R hR => ?_)
        conv => whnf
        try dsimp only
        refine ⟨vp_in_nI (by first | decide | omega) (by first | decide | omega), ?_⟩
        conv => whnf
        try dsimp only
        refine h _ ⟨fun n hb hr => relC_kept (h1 n hb hr) (fun j hj => uc_n (by omega)), ?_, fun c h65 hc => ?_⟩
        · rw [uc_s, h2 65 (by omega)]
          rfl
        · rw [uc_n h65]
          exact h2 c (by omega)
      | 1, _ =>
        refine wd_go ok_D_keep [] 20 (fun R hR => ?_)
        conv => whnf
        try dsimp only
        refine ⟨vp_in_nI (by first | decide | omega) (by first | decide | omega), ?_⟩
        conv => whnf
        try dsimp only
        refine ⟨fun e => absurd e (by decide), ⟨fun _ => ?_, trivial⟩⟩
        conv => whnf
        try dsimp only
        refine hR (k_D_keep_36 (Nat.le_of_ble_eq_true rfl) rfl (s_copy_50_10 (fun σ1 h1 h2 => ?_)))
        refine wd_go ok_D_keep [] 20 (fun R hR => ?_)
        conv => whnf
        try dsimp only
        refine ⟨vp_in_nI (by first | decide | omega) (by first | decide | omega), ?_⟩
        conv => whnf
        try dsimp only
        refine h _ ⟨fun n hb hr => relC_kept (h1 n hb hr) (fun j hj => uc_n (by omega)), ?_, fun c h65 hc => ?_⟩
        · rw [uc_s, h2 65 (by omega)]
          rfl
        · rw [uc_n h65]
          exact h2 c (by omega)
    refine wd_go ok_D_keep [25] 20 (fun R hR => ?_)
    conv => whnf
    try dsimp only
    refine br_t rfl ?_
    conv => whnf
    try dsimp only
    refine ⟨vp_in_nI (by first | decide | omega) (by first | decide | omega), ?_⟩
    conv => whnf
    try dsimp only
    rw [nI_clamp (by omega)]
    rcases h3 k (by omega) with e | e
    · refine br_t e ?_
      conv => whnf
      try dsimp only
      exact hR (fin 0 e.symm)
    · refine br_f (fun z => by rw [e] at z; exact absurd z (by decide)) ?_
      conv => whnf
      try dsimp only
      exact hR (fin 1 e.symm)
theorem s_D_back {k : Int32} (h : ∀ σ', (if inB k 0 1 = true ∧ ¬ σ 65 k.toNatClampNeg = 0 then (∀ n, (dN n ≤ 4 ∧ sN n ≤ 16 ∧ jN n ≤ 4 ∧ eN n ≤ 6) → relC σ (40 + 10 * k.toNatClampNeg) n → relC σ' 10 n) ∧ ∀ c, (c < 10 ∨ 20 ≤ c) → σ' c = σ c else σ' = σ) → Q (some (.int (if inB k 0 1 = true then (if σ 65 k.toNatClampNeg = 0 then -2 else σ' 10 14) else -1))) σ' τ) : Run wC G M_D_back 0 [some (.ref 0), some (.int k)] [] σ τ Q := by
  refine wd_go ok_D_back [] 20 (fun R hR => ?_)
  conv => whnf
  try dsimp only
  refine hR (k_D_back_3 (Nat.le_of_ble_eq_true rfl) (s_D_outside ?_))
  cases hv : inB k 0 1 with
  | false =>
    refine wd_go ok_D_back [] 20 (fun R hR => ?_)
    conv => whnf
    try dsimp only
    refine br_f (by decide) ?_
    conv => whnf
    try dsimp only
    rw [hv] at h
    exact h σ (by rw [if_neg (fun z => by cases z.1)])
  | true =>
    simp only [hv, if_true, true_and] at h
    obtain ⟨k, hk, rfl⟩ := inN (N := 1) (by decide) hv
    rw [nI_clamp (by omega)] at h
    refine wd_go ok_D_back [] 20 (fun R hR => ?_)
    conv => whnf
    try dsimp only
    refine br_t rfl ?_
    conv => whnf
    try dsimp only
    refine ⟨vp_in_nI (by first | decide | omega) (by first | decide | omega), ?_⟩
    conv => whnf
    try dsimp only
    rw [nI_clamp (by omega)]
    by_cases hz : σ 65 k = 0
    · simp only [hz, not_true, if_false, if_true] at h
      refine nb_f hz ?_
      conv => whnf
      try dsimp only
      exact h σ rfl
    · simp only [hz, not_false_iff, if_false, if_true] at h
      refine nb_t hz ?_
      match k, hk with
      | 0, _ =>
        conv => whnf
        try dsimp only
        refine ⟨vp_in_nI (by first | decide | omega) (by first | decide | omega), ?_⟩
        conv => whnf
        try dsimp only
        refine ⟨fun _ => ?_, ⟨fun e => absurd e (by decide), trivial⟩⟩
        conv => whnf
        try dsimp only
        refine hR (k_D_back_33 (Nat.le_of_ble_eq_true rfl) rfl (s_copy_10_40 (fun σ1 h1 h2 => ?_)))
        refine wd_go ok_D_back [] 20 (fun R hR => ?_)
        conv => whnf
        try dsimp only
        exact h _ ⟨h1, fun c hc => h2 c (by omega)⟩
      | 1, _ =>
        conv => whnf
        try dsimp only
        refine ⟨vp_in_nI (by first | decide | omega) (by first | decide | omega), ?_⟩
        conv => whnf
        try dsimp only
        refine ⟨fun e => absurd e (by decide), ⟨fun _ => ?_, trivial⟩⟩
        conv => whnf
        try dsimp only
        refine hR (k_D_back_33 (Nat.le_of_ble_eq_true rfl) rfl (s_copy_10_50 (fun σ1 h1 h2 => ?_)))
        refine wd_go ok_D_back [] 20 (fun R hR => ?_)
        conv => whnf
        try dsimp only
        exact h _ ⟨h1, fun c hc => h2 c (by omega)⟩
end C
