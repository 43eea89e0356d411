/-! CHANGES of the reference: alter, set, add, cut, stick, clear, see, forget, bone, ticks -/
def frS (σ σ' : wd_S) : Prop := (∀ c, c ≠ 0 → c ≠ 1 → c ≠ 2 → c ≠ 6 → c ≠ 7 → c ≠ 8 → c ≠ 12 → σ' c = σ c) ∧ (∀ k, (k < 13 ∨ 25 ≤ k) → σ' 0 k = σ 0 k) ∧ ∀ j, 61 ≤ j → σ' 1 j = σ 1 j
/-- after a call the row of now is X, and nothing else that counts has changed -/
def stR (σ : wd_S) (X : wRow) (σ' : wd_S) : Prop := frS σ σ' ∧ ∀ j, j < 61 → σ' 1 j = X j
theorem stR.rf {σ : wd_S} : stR σ (σ 1) σ := ⟨⟨fun _ _ _ _ _ _ _ _ => rfl, fun _ _ => rfl, fun _ _ => rfl⟩, fun _ _ => rfl⟩
theorem frR.st {σ σ' : wd_S} (h : frR σ σ') : stR σ (σ 1) σ' := ⟨⟨fun c h0 _ h2 h6 h7 h8 _ => h.1 c h0 h2 h6 h7 h8, h.2, fun j _ => by rw [h.e1]⟩, fun j _ => by rw [h.e1]⟩
theorem stR.uc {σ : wd_S} {X : wRow} (h : ∀ j, 61 ≤ j → X j = σ 1 j) : stR σ X (wd_uc σ 1 X) := ⟨⟨fun c _ h1 _ _ _ _ _ => uc_n h1, fun _ _ => rfl, h⟩, fun _ _ => rfl⟩
theorem frR.uc1 {σ s : wd_S} {X : wRow} (h : frR σ s) (hX : ∀ j, 61 ≤ j → X j = σ 1 j) : stR σ X (wd_uc s 1 X) := ⟨⟨fun c h0 h1 h2 h6 h7 h8 _ => (uc_n h1).trans (h.1 c h0 h2 h6 h7 h8), fun k hk => (show wd_uc s 1 X 0 k = s 0 k from rfl).trans (h.2 k hk), hX⟩, fun _ _ => rfl⟩
theorem upd_61 {f g : wRow} {k : Nat} {x : Int32} (hk : k < 61) (h : ∀ j, 61 ≤ j → f j = g j) : ∀ j, 61 ≤ j → upd f k x j = g j := fun j hj => (upd_n (by omega)).trans (h j hj)
def cAlter (P : wRow) (d w v : Int32) : Int32 × wRow := if inB d 0 (P 16 - 1) = true ∧ ((w = 0 ∧ inB v 0 3 = true) ∨ (w = 1 ∧ inB v 1 20 = true)) then (P (4 * d.toNatClampNeg + w.toNatClampNeg), upd P (4 * d.toNatClampNeg + w.toNatClampNeg) v) else (-1, P)
def cSet (P : wRow) (i v : Int32) : Int32 × wRow := if inB i 0 (P 33 - 1) = true ∧ inB v 0 15 = true then (P (17 + i.toNatClampNeg), upd P (17 + i.toNatClampNeg) v) else (-1, P)
def cAdd (P : wRow) (v : Int32) : Int32 × wRow := if inB v 0 15 = true then (if P 33 = 16 then (-3, P) else (P 33 + 1, upd (upd P (17 + sN P) v) 33 (P 33 + 1))) else (-1, P)
def cCut (P : wRow) (n : Int32) : Int32 × wRow := if inB n 0 (P 33) = true then (P 33, upd (upd P 34 (if P 34 < n then P 34 else 0)) 33 n) else (-1, P)
def cStick (P : wRow) (t n : Int32) : Int32 × wRow := if inB t 0 99 = true ∧ inB n 1 40 = true then (if P 43 = 4 then (-3, P) else (P 43 + 1, upd (upd (upd P (35 + 2 * jN P) t) (36 + 2 * jN P) n) 43 (P 43 + 1))) else (-1, P)
def cSee (P : wRow) (t n : Int32) : Int32 × wRow := if inB t 0 40 = true ∧ inB n 0 1 = true then (if P 48 = 6 then (-3, P) else (P 48 + 1, upd (upd (upd P (49 + 2 * eN P) t) (50 + 2 * eN P) n) 48 (P 48 + 1))) else (-1, P)
def cClear (P : wRow) (n : Int32) : Int32 × wRow := if inB n 0 (P 43) = true then (P 43, upd P 43 n) else (-1, P)
def cForget (P : wRow) (n : Int32) : Int32 × wRow := if inB n 0 (P 48) = true then (P 48, upd P 48 n) else (-1, P)
def cBone (P : wRow) (d : Int32) : Int32 × wRow := if inB d 0 (P 16 - 1) = true then (bI (rwX P d.toNatClampNeg true), if rwX P d.toNatClampNeg true = true then rstN (rwD P d.toNatClampNeg true) d (P 44) else rwD P d.toNatClampNeg true) else (-1, P)
def cTicks (P : wRow) (n : Int32) : Int32 × wRow := if inB n 0 100 = true then (if P 44 + n ≤ 9999 then ((tksA n.toNatClampNeg (stP P (-4))).2.2 14, (tksA n.toNatClampNeg (stP P (-4))).1) else (-3, P)) else (-1, P)
section R
variable {G : wd_G} {τ : wd_T} {Q : wd_P} {σ : wd_S}
theorem s_R_set {i v : Int32} (hw : wf (σ 1)) (h : ∀ σ', stR σ (cSet (σ 1) i v).2 σ' → Q (some (.int (cSet (σ 1) i v).1)) σ' τ) : Run wR G M_R_set 0 [some (.ref 0), some (.int i), some (.int v)] [] σ τ Q := by
  have hs16 := hw.2.1.2
  refine wd_go ok_R_set [] 20 (fun R hR => ?_)
  conv => whnf
  try dsimp only
  refine hR (k_R_set_2 (Nat.le_of_ble_eq_true rfl) rfl (s_R_isSign ?_))
  cases hi : inB i 0 (σ 1 33 - 1) with
  | false =>
    refine wd_go ok_R_set [] 20 (fun R hR => ?_)
    conv => whnf
    try dsimp only
    refine br_t rfl ?_
    conv => whnf
    try dsimp only
    rw [cSet, if_neg (fun z => by rw [hi] at z; cases z.1)] at h
    exact h σ stR.rf
  | true =>
    refine wd_go ok_R_set [] 20 (fun R hR => ?_)
    conv => whnf
    try dsimp only
    refine br_f (by decide) ?_
    conv => whnf
    try dsimp only
    refine hR (k_R_set_14 (Nat.le_of_ble_eq_true rfl) (s_R_in2 (a := 0) (b := 15) rfl rfl ?_))
    cases hv : inB v 0 15 with
    | false =>
      refine wd_go ok_R_set [] 20 (fun R hR => ?_)
      conv => whnf
      try dsimp only
      refine br_t rfl ?_
      conv => whnf
      try dsimp only
      rw [cSet, if_neg (fun z => by rw [hv] at z; cases z.2)] at h
      exact h σ stR.rf
    | true =>
      rw [cSet, if_pos ⟨hi, hv⟩] at h
      rw [hw.2.1.1] at hi
      obtain ⟨i, hii, rfl⟩ := inD (by omega) hi
      rw [nI_clamp (by omega)] at h
      refine wd_go ok_R_set [] 20 (fun R hR => ?_)
      conv => whnf
      try dsimp only
      refine br_f (by decide) ?_
      conv => whnf
      try dsimp only
      rw [il17, nI_add]
      refine hR (k_R_set_26 (Nat.le_of_ble_eq_true rfl) rfl (s_R_becomes (by omega) ?_))
      refine wd_go ok_R_set [] 20 (fun R hR => ?_)
      conv => whnf
      try dsimp only
      exact h _ (stR.uc (upd_61 (by omega) (fun _ _ => rfl)))
theorem s_R_add {v : Int32} (hw : wf (σ 1)) (h : ∀ σ', stR σ (cAdd (σ 1) v).2 σ' → Q (some (.int (cAdd (σ 1) v).1)) σ' τ) : Run wR G M_R_add 0 [some (.ref 0), some (.int v)] [] σ τ Q := by
  have hs := hw.2.1.1
  have hs16 := hw.2.1.2
  refine wd_go ok_R_add [] 20 (fun R hR => ?_)
  conv => whnf
  try dsimp only
  refine hR (k_R_add_6 (Nat.le_of_ble_eq_true rfl) (s_R_in2 (a := 0) (b := 15) rfl rfl ?_))
  rw [cAdd] at h
  cases hv : inB v 0 15 with
  | false =>
    refine wd_go ok_R_add [] 20 (fun R hR => ?_)
    conv => whnf
    try dsimp only
    refine nb_f rfl ?_
    conv => whnf
    try dsimp only
    rw [if_neg (by rw [hv]; decide)] at h
    exact h σ stR.rf
  | true =>
    rw [if_pos hv] at h
    refine wd_go ok_R_add [] 40 (fun R hR => ?_)
    conv => whnf
    try dsimp only
    refine nb_t (by decide) ?_
    conv => whnf
    try dsimp only
    refine ⟨vp_in_nI (by first | decide | omega) (by first | decide | omega), ?_⟩
    conv => whnf
    try dsimp only
    by_cases hz : σ 1 33 = 16
    · rw [if_pos hz] at h
      refine nb_f hz ?_
      conv => whnf
      try dsimp only
      exact h σ stR.rf
    · rw [if_neg hz] at h
      have hlt : sN (σ 1) < 16 := by
        refine Nat.lt_of_le_of_ne hs16 (fun e => hz ?_)
        rw [hs, e]
        rfl
      refine nb_t hz ?_
      conv => whnf
      try dsimp only
      refine ⟨vp_in_nI (by first | decide | omega) (by first | decide | omega), ?_⟩
      conv => whnf
      try dsimp only
      rw [cl33, hs, il17, nI_add]
      refine ⟨vp_in_nI (by first | decide | omega) (by first | decide | omega), ?_⟩
      conv => whnf
      try dsimp only
      refine ⟨vp_in_nI (by first | decide | omega) (by first | decide | omega), ?_⟩
      conv => whnf
      try dsimp only
      refine ⟨vp_in_nI (by first | decide | omega) (by first | decide | omega), ?_⟩
      conv => whnf
      try dsimp only
      rw [nI_clamp (by omega), cl33, uc_s, uc_uc, uc_s, upd_s, upd_n (by omega)]
      refine ⟨vp_in_nI (by first | decide | omega) (by first | decide | omega), ?_⟩
      conv => whnf
      try dsimp only
      exact h _ (stR.uc (upd_61 (by omega) (upd_61 (by omega) (fun _ _ => rfl))))
theorem s_R_cut {n : Int32} (hw : wf (σ 1)) (h : ∀ σ', stR σ (cCut (σ 1) n).2 σ' → Q (some (.int (cCut (σ 1) n).1)) σ' τ) : Run wR G M_R_cut 0 [some (.ref 0), some (.int n)] [] σ τ Q := by
  rw [cCut] at h
  refine wd_go ok_R_cut [] 20 (fun R hR => ?_)
  conv => whnf
  try dsimp only
  refine ⟨vp_in_nI (by first | decide | omega) (by first | decide | omega), ?_⟩
  conv => whnf
  try dsimp only
  refine hR (k_R_cut_11 (Nat.le_of_ble_eq_true rfl) (s_R_in2 (a := 0) (b := σ 1 33) rfl rfl ?_))
  cases hv : inB n 0 (σ 1 33) with
  | false =>
    refine wd_go ok_R_cut [] 20 (fun R hR => ?_)
    conv => whnf
    try dsimp only
    refine nb_f rfl ?_
    conv => whnf
    try dsimp only
    rw [if_neg (by rw [hv]; decide)] at h
    exact h σ stR.rf
  | true =>
    rw [if_pos hv] at h
    refine wd_go ok_R_cut [] 40 (fun R hR => ?_)
    conv => whnf
    try dsimp only
    refine nb_t (by decide) ?_
    conv => whnf
    try dsimp only
    refine ⟨vp_in_nI (by first | decide | omega) (by first | decide | omega), ?_⟩
    conv => whnf
    try dsimp only
    by_cases hz : σ 1 34 < n
    · rw [if_pos hz] at h
      refine br_f (Int32.not_le.mpr hz) ?_
      conv => whnf
      try dsimp only
      refine ⟨vp_in_nI (by first | decide | omega) (by first | decide | omega), ?_⟩
      conv => whnf
      try dsimp only
      refine ⟨vp_in_nI (by first | decide | omega) (by first | decide | omega), ?_⟩
      conv => whnf
      try dsimp only
      refine hR (k_R_cut_52 (Nat.le_of_ble_eq_true rfl) rfl (s_R_becomes (k := 33) (by decide) ?_))
      refine wd_go ok_R_cut [] 20 (fun R hR => ?_)
      conv => whnf
      try dsimp only
      rw [cl34, uc_s, uc_uc, upd_n (j := 33) (by decide)]
      exact h _ (stR.uc (upd_61 (by omega) (upd_61 (by omega) (fun _ _ => rfl))))
    · rw [if_neg hz] at h
      refine br_t (Int32.not_lt.mp hz) ?_
      conv => whnf
      try dsimp only
      refine ⟨vp_in_nI (by first | decide | omega) (by first | decide | omega), ?_⟩
      conv => whnf
      try dsimp only
      refine hR (k_R_cut_52 (Nat.le_of_ble_eq_true rfl) rfl (s_R_becomes (k := 33) (by decide) ?_))
      refine wd_go ok_R_cut [] 20 (fun R hR => ?_)
      conv => whnf
      try dsimp only
      rw [cl34, uc_s, uc_uc, upd_n (j := 33) (by decide)]
      exact h _ (stR.uc (upd_61 (by omega) (upd_61 (by omega) (fun _ _ => rfl))))
theorem s_R_clear {n : Int32} (h : ∀ σ', stR σ (cClear (σ 1) n).2 σ' → Q (some (.int (cClear (σ 1) n).1)) σ' τ) : Run wR G M_R_clear 0 [some (.ref 0), some (.int n)] [] σ τ Q := by
  rw [cClear] at h
  refine wd_go ok_R_clear [] 20 (fun R hR => ?_)
  conv => whnf
  try dsimp only
  refine ⟨vp_in_nI (by first | decide | omega) (by first | decide | omega), ?_⟩
  conv => whnf
  try dsimp only
  refine hR (k_R_clear_11 (Nat.le_of_ble_eq_true rfl) (s_R_in2 (a := 0) (b := σ 1 43) rfl rfl ?_))
  cases hv : inB n 0 (σ 1 43) with
  | false =>
    refine wd_go ok_R_clear [] 20 (fun R hR => ?_)
    conv => whnf
    try dsimp only
    refine br_t rfl ?_
    conv => whnf
    try dsimp only
    rw [if_neg (by rw [hv]; decide)] at h
    exact h σ stR.rf
  | true =>
    rw [if_pos hv] at h
    refine wd_go ok_R_clear [] 40 (fun R hR => ?_)
    conv => whnf
    try dsimp only
    refine br_f (by decide) ?_
    conv => whnf
    try dsimp only
    refine hR (k_R_clear_21 (Nat.le_of_ble_eq_true rfl) rfl (s_R_becomes (k := 43) (by decide) ?_))
    refine wd_go ok_R_clear [] 20 (fun R hR => ?_)
    conv => whnf
    try dsimp only
    exact h _ (stR.uc (upd_61 (by omega) (fun _ _ => rfl)))
theorem s_R_forget {n : Int32} (h : ∀ σ', stR σ (cForget (σ 1) n).2 σ' → Q (some (.int (cForget (σ 1) n).1)) σ' τ) : Run wR G M_R_forget 0 [some (.ref 0), some (.int n)] [] σ τ Q := by
  rw [cForget] at h
  refine wd_go ok_R_forget [] 20 (fun R hR => ?_)
  conv => whnf
  try dsimp only
  refine ⟨vp_in_nI (by first | decide | omega) (by first | decide | omega), ?_⟩
  conv => whnf
  try dsimp only
  refine hR (k_R_forget_11 (Nat.le_of_ble_eq_true rfl) (s_R_in2 (a := 0) (b := σ 1 48) rfl rfl ?_))
  cases hv : inB n 0 (σ 1 48) with
  | false =>
    refine wd_go ok_R_forget [] 20 (fun R hR => ?_)
    conv => whnf
    try dsimp only
    refine br_t rfl ?_
    conv => whnf
    try dsimp only
    rw [if_neg (by rw [hv]; decide)] at h
    exact h σ stR.rf
  | true =>
    rw [if_pos hv] at h
    refine wd_go ok_R_forget [] 40 (fun R hR => ?_)
    conv => whnf
    try dsimp only
    refine br_f (by decide) ?_
    conv => whnf
    try dsimp only
    refine hR (k_R_forget_21 (Nat.le_of_ble_eq_true rfl) rfl (s_R_becomes (k := 48) (by decide) ?_))
    refine wd_go ok_R_forget [] 20 (fun R hR => ?_)
    conv => whnf
    try dsimp only
    exact h _ (stR.uc (upd_61 (by omega) (fun _ _ => rfl)))
theorem s_R_stick {t n : Int32} (hw : wf (σ 1)) (h : ∀ σ', stR σ (cStick (σ 1) t n).2 σ' → Q (some (.int (cStick (σ 1) t n).1)) σ' τ) : Run wR G M_R_stick 0 [some (.ref 0), some (.int t), some (.int n)] [] σ τ Q := by
  have hs := hw.2.2.1.1
  have hs4 := hw.2.2.1.2
  rw [cStick] at h
  refine wd_go ok_R_stick [] 20 (fun R hR => ?_)
  conv => whnf
  try dsimp only
  refine hR (k_R_stick_6 (Nat.le_of_ble_eq_true rfl) (s_R_in2 (a := 0) (b := 99) rfl rfl ?_))
  cases hv : inB t 0 99 with
  | false =>
    refine wd_go ok_R_stick [] 20 (fun R hR => ?_)
    conv => whnf
    try dsimp only
    refine br_t rfl ?_
    conv => whnf
    try dsimp only
    rw [if_neg (fun z => by rw [hv] at z; cases z.1)] at h
    exact h σ stR.rf
  | true =>
    refine wd_go ok_R_stick [] 20 (fun R hR => ?_)
    conv => whnf
    try dsimp only
    refine br_f (by decide) ?_
    conv => whnf
    try dsimp only
    refine hR (k_R_stick_18 (Nat.le_of_ble_eq_true rfl) (s_R_in2 (a := 1) (b := 40) rfl rfl ?_))
    cases hv2 : inB n 1 40 with
    | false =>
      refine wd_go ok_R_stick [] 20 (fun R hR => ?_)
      conv => whnf
      try dsimp only
      refine nb_f rfl ?_
      conv => whnf
      try dsimp only
      rw [if_neg (fun z => by rw [hv2] at z; cases z.2)] at h
      exact h σ stR.rf
    | true =>
      rw [if_pos ⟨hv, hv2⟩] at h
      refine wd_go ok_R_stick [] 80 (fun R hR => ?_)
      conv => whnf
      try dsimp only
      refine nb_t (by decide) ?_
      conv => whnf
      try dsimp only
      refine ⟨vp_in_nI (by first | decide | omega) (by first | decide | omega), ?_⟩
      conv => whnf
      try dsimp only
      by_cases hz : σ 1 43 = 4
      · rw [if_pos hz] at h
        refine nb_f hz ?_
        conv => whnf
        try dsimp only
        exact h σ stR.rf
      · rw [if_neg hz] at h
        have hlt : jN (σ 1) < 4 := by
          refine Nat.lt_of_le_of_ne hs4 (fun e => hz ?_)
          rw [hs, e]
          rfl
        refine nb_t hz ?_
        conv => whnf
        try dsimp only
        have e43 : σ 1 (Int32.toNatClampNeg 43) = nI (jN (σ 1)) := hs
        refine ⟨vp_in_nI (by first | decide | omega) (by first | decide | omega), ?_⟩
        conv => whnf
        try dsimp only
        rw [e43, il35, il2, pk_mul, nI_add]
        refine ⟨vp_in_nI (by first | decide | omega) (by first | decide | omega), ?_⟩
        conv => whnf
        try dsimp only
        refine ⟨vp_in_nI (by first | decide | omega) (by first | decide | omega), ?_⟩
        conv => whnf
        try dsimp only
        rw [nI_clamp (by omega), uc_s, cl43, upd_n (by omega), hs, il35, il2, pk_mul, nI_add, il1, nI_add]
        refine ⟨vp_in_nI (by first | decide | omega) (by first | decide | omega), ?_⟩
        conv => whnf
        try dsimp only
        refine ⟨vp_in_nI (by first | decide | omega) (by first | decide | omega), ?_⟩
        conv => whnf
        try dsimp only
        refine ⟨vp_in_nI (by first | decide | omega) (by first | decide | omega), ?_⟩
        conv => whnf
        try dsimp only
        refine ⟨vp_in_nI (by first | decide | omega) (by first | decide | omega), ?_⟩
        conv => whnf
        try dsimp only
        rw [nI_clamp (by omega)]
        simp only [uc_s, uc_uc, cl43, upd_s]
        rw [upd_n (j := 43) (k := 35 + 2 * jN (σ 1) + 1) (by omega), upd_n (j := 43) (k := 35 + 2 * jN (σ 1)) (by omega), show 35 + 2 * jN (σ 1) + 1 = 36 + 2 * jN (σ 1) by omega]
        exact h _ (stR.uc (upd_61 (by omega) (upd_61 (by omega) (upd_61 (by omega) (fun _ _ => rfl)))))
theorem s_R_see {t n : Int32} (hw : wf (σ 1)) (h : ∀ σ', stR σ (cSee (σ 1) t n).2 σ' → Q (some (.int (cSee (σ 1) t n).1)) σ' τ) : Run wR G M_R_see 0 [some (.ref 0), some (.int t), some (.int n), none] [] σ τ Q := by
  have hs := hw.2.2.2.1.1
  have hs4 := hw.2.2.2.1.2
  rw [cSee] at h
  refine wd_go ok_R_see [] 20 (fun R hR => ?_)
  conv => whnf
  try dsimp only
  refine hR (k_R_see_6 (Nat.le_of_ble_eq_true rfl) (s_R_in2 (a := 0) (b := 40) rfl rfl ?_))
  cases hv : inB t 0 40 with
  | false =>
    refine wd_go ok_R_see [] 20 (fun R hR => ?_)
    conv => whnf
    try dsimp only
    refine br_t rfl ?_
    conv => whnf
    try dsimp only
    rw [if_neg (fun z => by rw [hv] at z; cases z.1)] at h
    exact h σ stR.rf
  | true =>
    refine wd_go ok_R_see [] 20 (fun R hR => ?_)
    conv => whnf
    try dsimp only
    refine br_f (by decide) ?_
    conv => whnf
    try dsimp only
    refine hR (k_R_see_16 (Nat.le_of_ble_eq_true rfl) (s_R_in2 (a := 0) (b := 1) rfl rfl ?_))
    cases hv2 : inB n 0 1 with
    | false =>
      refine wd_go ok_R_see [] 20 (fun R hR => ?_)
      conv => whnf
      try dsimp only
      refine nb_f rfl ?_
      conv => whnf
      try dsimp only
      rw [if_neg (fun z => by rw [hv2] at z; cases z.2)] at h
      exact h σ stR.rf
    | true =>
      rw [if_pos ⟨hv, hv2⟩] at h
      refine wd_go ok_R_see [] 80 (fun R hR => ?_)
      conv => whnf
      try dsimp only
      refine nb_t (by decide) ?_
      conv => whnf
      try dsimp only
      refine ⟨vp_in_nI (by first | decide | omega) (by first | decide | omega), ?_⟩
      conv => whnf
      try dsimp only
      by_cases hz : σ 1 48 = 6
      · rw [if_pos hz] at h
        refine nb_f hz ?_
        conv => whnf
        try dsimp only
        exact h σ stR.rf
      · rw [if_neg hz] at h
        have hlt : eN (σ 1) < 6 := by
          refine Nat.lt_of_le_of_ne hs4 (fun e => hz ?_)
          rw [hs, e]
          rfl
        refine nb_t hz ?_
        conv => whnf
        try dsimp only
        have e48 : σ 1 (Int32.toNatClampNeg 48) = nI (eN (σ 1)) := hs
        refine ⟨vp_in_nI (by first | decide | omega) (by first | decide | omega), ?_⟩
        conv => whnf
        try dsimp only
        rw [e48, il49, il2, pk_mul, nI_add]
        refine ⟨vp_in_nI (by first | decide | omega) (by first | decide | omega), ?_⟩
        conv => whnf
        try dsimp only
        rw [nI_clamp (by omega), il1, nI_add]
        refine ⟨vp_in_nI (by first | decide | omega) (by first | decide | omega), ?_⟩
        conv => whnf
        try dsimp only
        refine ⟨vp_in_nI (by first | decide | omega) (by first | decide | omega), ?_⟩
        conv => whnf
        try dsimp only
        refine ⟨vp_in_nI (by first | decide | omega) (by first | decide | omega), ?_⟩
        conv => whnf
        try dsimp only
        refine ⟨vp_in_nI (by first | decide | omega) (by first | decide | omega), ?_⟩
        conv => whnf
        try dsimp only
        rw [nI_clamp (by omega)]
        simp only [uc_s, uc_uc, cl48, upd_s]
        rw [upd_n (j := 48) (k := 49 + 2 * eN (σ 1) + 1) (by omega), upd_n (j := 48) (k := 49 + 2 * eN (σ 1)) (by omega), show 49 + 2 * eN (σ 1) + 1 = 50 + 2 * eN (σ 1) by omega]
        exact h _ (stR.uc (upd_61 (by omega) (upd_61 (by omega) (upd_61 (by omega) (fun _ _ => rfl)))))
theorem s_R_alter {d w v : Int32} (hw : wf (σ 1)) (h : ∀ σ', stR σ (cAlter (σ 1) d w v).2 σ' → Q (some (.int (cAlter (σ 1) d w v).1)) σ' τ) : Run wR G M_R_alter 0 [some (.ref 0), some (.int d), some (.int w), some (.int v), none] [] σ τ Q := by
  rw [cAlter] at h
  have hD4 := hw.1.2
  have fin : ∀ b : Bool, (b = true ↔ ((w = 0 ∧ inB v 0 3 = true) ∨ (w = 1 ∧ inB v 1 20 = true))) → Run wR G M_R_alter 38 [some (.ref 0), some (.int d), some (.int w), some (.int v), none] [.int (bI b)] σ τ Q := by
    intro b hb
    refine wd_go ok_R_alter [] 20 (fun R hR => ?_)
    conv => whnf
    try dsimp only
    refine hR (k_R_alter_42 (Nat.le_of_ble_eq_true rfl) rfl (s_R_isDog ?_))
    cases hd : inB d 0 (σ 1 16 - 1) with
    | false =>
      refine wd_go ok_R_alter [] 20 (fun R hR => ?_)
      conv => whnf
      try dsimp only
      refine br_t rfl ?_
      conv => whnf
      try dsimp only
      rw [if_neg (fun z => by rw [hd] at z; cases z.1)] at h
      exact h σ stR.rf
    | true =>
      refine wd_go ok_R_alter [] 20 (fun R hR => ?_)
      conv => whnf
      try dsimp only
      refine br_f (by decide) ?_
      conv => whnf
      try dsimp only
      cases b with
      | false =>
        refine br_t rfl ?_
        conv => whnf
        try dsimp only
        rw [if_neg (fun z => by have := hb.mpr z.2; cases this)] at h
        exact h σ stR.rf
      | true =>
        have hc := hb.mp rfl
        rw [if_pos ⟨hd, hc⟩] at h
        rw [hw.1.1] at hd
        obtain ⟨d, hdd, rfl⟩ := inD (by omega) hd
        have hw2 : ∃ k : Nat, k < 2 ∧ w = nI k := by
          rcases hc with ⟨rfl, _⟩ | ⟨rfl, _⟩
          · exact ⟨0, by decide, rfl⟩
          · exact ⟨1, by decide, rfl⟩
        obtain ⟨k, hk, rfl⟩ := hw2
        rw [nI_clamp (by omega), nI_clamp (by omega)] at h
        refine br_f (by decide) ?_
        conv => whnf
        try dsimp only
        rw [ix4]
        refine hR (k_R_alter_60 (Nat.le_of_ble_eq_true rfl) rfl (s_R_becomes (by omega) ?_))
        refine wd_go ok_R_alter [] 20 (fun R hR => ?_)
        conv => whnf
        try dsimp only
        exact h _ (stR.uc (upd_61 (by omega) (fun _ _ => rfl)))
  refine wd_go ok_R_alter [38] 20 (fun R hR => ?_)
  conv => whnf
  try dsimp only
  by_cases h0 : w = 0
  · refine nb_f h0 ?_
    conv => whnf
    try dsimp only
    refine hR (k_R_alter_10 (Nat.le_of_ble_eq_true rfl) (s_R_in2 (a := 0) (b := 3) rfl rfl ?_))
    refine wd_go ok_R_alter [38] 20 (fun R hR => ?_)
    conv => whnf
    try dsimp only
    refine hR (fin _ ⟨fun z => Or.inl ⟨h0, z⟩, fun z => ?_⟩)
    rcases z with z | z
    · exact z.2
    · exact absurd (h0.symm.trans z.1) (by decide)
  · refine nb_t h0 ?_
    conv => whnf
    try dsimp only
    by_cases h1 : w = 1
    · refine nb_f h1 ?_
      conv => whnf
      try dsimp only
      refine hR (k_R_alter_27 (Nat.le_of_ble_eq_true rfl) (s_R_in2 (a := 1) (b := 20) rfl rfl ?_))
      cases hv : inB v 1 20 with
      | false =>
        refine wd_go ok_R_alter [38] 20 (fun R hR => ?_)
        conv => whnf
        try dsimp only
        refine br_t rfl ?_
        conv => whnf
        try dsimp only
        refine hR (fin false ⟨fun z => (by cases z), fun z => ?_⟩)
        rcases z with z | z
        · exact absurd z.1 h0
        · rw [hv] at z
          exact z.2
      | true =>
        refine wd_go ok_R_alter [38] 20 (fun R hR => ?_)
        conv => whnf
        try dsimp only
        refine br_f (by decide) ?_
        conv => whnf
        try dsimp only
        exact hR (fin true ⟨fun _ => Or.inr ⟨h1, hv⟩, fun _ => rfl⟩)
    · refine nb_t h1 ?_
      conv => whnf
      try dsimp only
      refine hR (fin false ⟨fun z => (by cases z), fun z => ?_⟩)
      rcases z with z | z
      · exact absurd z.1 h0
      · exact absurd z.1 h1
theorem stR_set {s : wd_S} {X : wRow} (f : frR σ s) (hX : ∀ j, j < 61 → s 2 j = X j) : stR σ X (wd_uc s 1 (fil (s 2) (s 1) 61)) := by
  refine ⟨⟨fun c h0 h1 h2 h6 h7 h8 _ => ?_, fun k hk => ?_, fun j hj => ?_⟩, fun j hj => ?_⟩
  · rw [uc_n h1]
    exact f.1 c h0 h2 h6 h7 h8
  · rw [uc_n (by decide)]
    exact f.2 k hk
  · rw [uc_s, fil, if_neg (by omega), f.e1]
  · rw [uc_s, fil_lt hj]
    exact hX j hj
theorem eq_rwD {n m : wRow} {d : Nat} {j : Nat} (h : ∀ j, j < 61 → n j = m j) (hd : d < 4) (hj : j < 61) : rwD n d true j = rwD m d true j := by
  have q := eq_rw h hd true
  rw [rwD, rwD, q.2.1, q.2.2.1]
  exact upd_eq (fun _ => upd_eq (fun _ => h j hj) rfl) rfl
theorem s_R_bone {d : Int32} (hw : wf (σ 1)) (h : ∀ σ', stR σ (cBone (σ 1) d).2 σ' → Q (some (.int (cBone (σ 1) d).1)) σ' τ) : Run wR G M_R_bone 0 [some (.ref 0), some (.int d), none] [] σ τ Q := by
  rw [cBone] at h
  have hD4 := hw.1.2
  refine wd_go ok_R_bone [] 20 (fun R hR => ?_)
  conv => whnf
  try dsimp only
  refine hR (k_R_bone_2 (Nat.le_of_ble_eq_true rfl) rfl (s_R_isDog ?_))
  cases hd : inB d 0 (σ 1 16 - 1) with
  | false =>
    refine wd_go ok_R_bone [] 20 (fun R hR => ?_)
    conv => whnf
    try dsimp only
    refine nb_f rfl ?_
    conv => whnf
    try dsimp only
    rw [if_neg (by rw [hd]; decide)] at h
    exact h σ stR.rf
  | true =>
    rw [if_pos hd] at h
    rw [hw.1.1] at hd
    obtain ⟨d, hdd, rfl⟩ := inD (by omega) hd
    rw [nI_clamp (by omega)] at h
    refine wd_go ok_R_bone [] 20 (fun R hR => ?_)
    conv => whnf
    try dsimp only
    refine nb_t (by decide) ?_
    conv => whnf
    try dsimp only
    refine hR (k_R_bone_11 (Nat.le_of_ble_eq_true rfl) rfl (s_R_starts ?_))
    refine wd_go ok_R_bone [] 20 (fun R hR => ?_)
    conv => whnf
    try dsimp only
    have hU : ∀ j, j < 61 → (stU σ).1 j = σ 1 j := fun j hj => fil_lt hj
    have q := eq_rw hU (show d < 4 by omega) true
    refine hR (k_R_bone_16 (Nat.le_of_ble_eq_true rfl) rfl (s_R_bitesFed (by omega) ?_))
    rw [mR_2, mR_w2, q.1]
    have fs : ∀ X b, frR σ (mR σ (X, (stU σ).2.1, upd (stU σ).2.2 14 b)) := fun X b => mR_fr (fun k hk => (upd_n (by omega)).trans (stU_o hk))
    cases hx : rwX (σ 1) d true with
    | false =>
      refine wd_go ok_R_bone [] 20 (fun R hR => ?_)
      conv => whnf
      try dsimp only
      refine br_t rfl ?_
      conv => whnf
      try dsimp only
      refine hR (k_R_bone_37 (Nat.le_of_ble_eq_true rfl) rfl (s_R_settles ?_))
      refine wd_go ok_R_bone [] 20 (fun R hR => ?_)
      conv => whnf
      try dsimp only
      refine hR (k_R_bone_41 (Nat.le_of_ble_eq_true rfl) (s_R_flag (Or.inl rfl) ?_))
      refine wd_go ok_R_bone [] 20 (fun R hR => ?_)
      conv => whnf
      try dsimp only
      rw [hx, if_neg (by decide)] at h
      exact h _ (stR_set (mR_fr (fun k hk => stU_o hk)) (fun j hj => eq_rwD hU (by omega) hj))
    | true =>
      have hUD : ∀ j, j < 61 → rwD (stU σ).1 d true j = rwD (σ 1) d true j := fun j hj => eq_rwD hU (by omega) hj
      have hd16 : rwD (stU σ).1 d true 16 = σ 1 16 := by
        rw [hUD 16 (by decide), rwD, upd_n (by omega), upd_n (by omega)]
      refine wd_go ok_R_bone [] 20 (fun R hR => ?_)
      conv => whnf
      try dsimp only
      refine br_f (by decide) ?_
      conv => whnf
      try dsimp only
      refine ⟨vp_in_nI (by first | decide | omega) (by first | decide | omega), ?_⟩
      conv => whnf
      try dsimp only
      refine hR (k_R_bone_33 (Nat.le_of_ble_eq_true rfl) rfl (s_R_resets ?_ ?_))
      · rw [mR_2]
        have := dN_of (n := σ 1) hd16
        rw [this]
        exact ⟨hd16.trans hw.1.1, hD4⟩
      rw [mR_2, mR_0, mR_w0, mR_w2]
      refine wd_go ok_R_bone [] 20 (fun R hR => ?_)
      conv => whnf
      try dsimp only
      refine hR (k_R_bone_37 (Nat.le_of_ble_eq_true rfl) rfl (s_R_settles ?_))
      refine wd_go ok_R_bone [] 20 (fun R hR => ?_)
      conv => whnf
      try dsimp only
      refine hR (k_R_bone_41 (Nat.le_of_ble_eq_true rfl) (s_R_flag (Or.inr rfl) ?_))
      refine wd_go ok_R_bone [] 20 (fun R hR => ?_)
      conv => whnf
      try dsimp only
      rw [hx, if_pos rfl] at h
      refine h _ (stR_set (fs _ _) (fun j hj => eq_rstN hUD rfl ?_ j hj))
      rw [cl44, hUD 44 (by decide), rwD, upd_n (by omega), upd_n (by omega)]
theorem s_R_ticks {n : Int32} (hw : wf (σ 1)) (h : ∀ σ', stR σ (cTicks (σ 1) n).2 σ' → Q (some (.int (cTicks (σ 1) n).1)) σ' τ) : Run wR G M_R_ticks 0 [some (.ref 0), some (.int n)] [] σ τ Q := by
  rw [cTicks] at h
  refine wd_go ok_R_ticks [] 20 (fun R hR => ?_)
  conv => whnf
  try dsimp only
  refine hR (k_R_ticks_6 (Nat.le_of_ble_eq_true rfl) (s_R_in2 (a := 0) (b := 100) rfl rfl ?_))
  cases hn : inB n 0 100 with
  | false =>
    refine wd_go ok_R_ticks [] 20 (fun R hR => ?_)
    conv => whnf
    try dsimp only
    refine nb_f rfl ?_
    conv => whnf
    try dsimp only
    rw [if_neg (by rw [hn]; decide)] at h
    exact h σ stR.rf
  | true =>
    rw [if_pos hn] at h
    obtain ⟨n, hnn, rfl⟩ := inN (N := 100) (by decide) hn
    rw [nI_clamp (by omega)] at h
    refine wd_go ok_R_ticks [] 30 (fun R hR => ?_)
    conv => whnf
    try dsimp only
    refine nb_t (by decide) ?_
    conv => whnf
    try dsimp only
    refine ⟨vp_in_nI (by first | decide | omega) (by first | decide | omega), ?_⟩
    conv => whnf
    try dsimp only
    by_cases hz : σ 1 44 + nI n ≤ 9999
    · rw [if_pos hz] at h
      refine br_t hz ?_
      conv => whnf
      try dsimp only
      refine hR (k_R_ticks_33 (Nat.le_of_ble_eq_true rfl) rfl (s_R_starts ?_))
      refine wd_go ok_R_ticks [] 20 (fun R hR => ?_)
      conv => whnf
      try dsimp only
      refine hR (k_R_ticks_38 (Nat.le_of_ble_eq_true rfl) rfl (s_R_ticksGo (stU_wf hw) (by omega) ?_))
      refine wd_go ok_R_ticks [] 20 (fun R hR => ?_)
      conv => whnf
      try dsimp only
      refine hR (k_R_ticks_42 (Nat.le_of_ble_eq_true rfl) rfl (s_R_settles ?_))
      refine wd_go ok_R_ticks [] 20 (fun R hR => ?_)
      conv => whnf
      try dsimp only
      have q := (eq_tksA (stU_wf hw) (stU_eq σ) n).1
      have f := frR_tks (σ := σ) (n := n) (u := stU σ) (fun k hk => stU_o hk)
      rw [uc_n (by decide), mR_0, q.2.2 14 (by decide) (by decide)]
      exact h _ (stR_set f q.1)
    · rw [if_neg hz] at h
      refine br_f hz ?_
      conv => whnf
      try dsimp only
      exact h σ stR.rf
end R
